/-! ===== decode rows and trees: 28.model1 ===== -/
section G28
variable {E : Ev} {σ : Sg} {rc rs : Nat} {Q : NO → Sg → Prop}
theorem dX12_add_0 : decode cX12_add 0 = .ok (.aload_n 0, 1) := by decide +kernel
theorem dX12_add_1 : decode cX12_add 1 = .ok (.iconst 0, 1) := by decide +kernel
theorem dX12_add_2 : decode cX12_add 2 = .ok (.putfield 99, 3) := by decide +kernel
theorem dX12_add_5 : decode cX12_add 5 = .ok (.aload_n 0, 1) := by decide +kernel
theorem dX12_add_6 : decode cX12_add 6 = .ok (.invokevirtual 174, 3) := by decide +kernel
theorem dX12_add_9 : decode cX12_add 9 = .ok (.bipush 8, 2) := by decide +kernel
theorem dX12_add_11 : decode cX12_add 11 = .ok (.newarray .int, 2) := by decide +kernel
theorem dX12_add_13 : decode cX12_add 13 = .ok (.dup, 1) := by decide +kernel
theorem dX12_add_14 : decode cX12_add 14 = .ok (.iconst 0, 1) := by decide +kernel
theorem dX12_add_15 : decode cX12_add 15 = .ok (.iload_n 1, 1) := by decide +kernel
theorem dX12_add_16 : decode cX12_add 16 = .ok (.iastore, 1) := by decide +kernel
theorem dX12_add_17 : decode cX12_add 17 = .ok (.dup, 1) := by decide +kernel
theorem dX12_add_18 : decode cX12_add 18 = .ok (.iconst 1, 1) := by decide +kernel
theorem dX12_add_19 : decode cX12_add 19 = .ok (.iload_n 2, 1) := by decide +kernel
theorem dX12_add_20 : decode cX12_add 20 = .ok (.iastore, 1) := by decide +kernel
theorem dX12_add_21 : decode cX12_add 21 = .ok (.dup, 1) := by decide +kernel
theorem dX12_add_22 : decode cX12_add 22 = .ok (.iconst 2, 1) := by decide +kernel
theorem dX12_add_23 : decode cX12_add 23 = .ok (.iload_n 3, 1) := by decide +kernel
theorem dX12_add_24 : decode cX12_add 24 = .ok (.iastore, 1) := by decide +kernel
theorem dX12_add_25 : decode cX12_add 25 = .ok (.dup, 1) := by decide +kernel
theorem dX12_add_26 : decode cX12_add 26 = .ok (.iconst 3, 1) := by decide +kernel
theorem dX12_add_27 : decode cX12_add 27 = .ok (.iload 4, 2) := by decide +kernel
theorem dX12_add_29 : decode cX12_add 29 = .ok (.iastore, 1) := by decide +kernel
theorem dX12_add_30 : decode cX12_add 30 = .ok (.dup, 1) := by decide +kernel
theorem dX12_add_31 : decode cX12_add 31 = .ok (.iconst 4, 1) := by decide +kernel
theorem dX12_add_32 : decode cX12_add 32 = .ok (.iload 5, 2) := by decide +kernel
theorem dX12_add_34 : decode cX12_add 34 = .ok (.iastore, 1) := by decide +kernel
theorem dX12_add_35 : decode cX12_add 35 = .ok (.dup, 1) := by decide +kernel
theorem dX12_add_36 : decode cX12_add 36 = .ok (.iconst 5, 1) := by decide +kernel
theorem dX12_add_37 : decode cX12_add 37 = .ok (.iload 6, 2) := by decide +kernel
theorem dX12_add_39 : decode cX12_add 39 = .ok (.iastore, 1) := by decide +kernel
theorem dX12_add_40 : decode cX12_add 40 = .ok (.dup, 1) := by decide +kernel
theorem dX12_add_41 : decode cX12_add 41 = .ok (.bipush 6, 2) := by decide +kernel
theorem dX12_add_43 : decode cX12_add 43 = .ok (.iload 7, 2) := by decide +kernel
theorem dX12_add_45 : decode cX12_add 45 = .ok (.iastore, 1) := by decide +kernel
theorem dX12_add_46 : decode cX12_add 46 = .ok (.dup, 1) := by decide +kernel
theorem dX12_add_47 : decode cX12_add 47 = .ok (.bipush 7, 2) := by decide +kernel
theorem dX12_add_49 : decode cX12_add 49 = .ok (.iload 8, 2) := by decide +kernel
theorem dX12_add_51 : decode cX12_add 51 = .ok (.iastore, 1) := by decide +kernel
theorem dX12_add_52 : decode cX12_add 52 = .ok (.astore 9, 2) := by decide +kernel
theorem dX12_add_54 : decode cX12_add 54 = .ok (.iconst 1, 1) := by decide +kernel
theorem dX12_add_55 : decode cX12_add 55 = .ok (.istore 10, 2) := by decide +kernel
theorem dX12_add_57 : decode cX12_add 57 = .ok (.aload_n 0, 1) := by decide +kernel
theorem dX12_add_58 : decode cX12_add 58 = .ok (.iconst 0, 1) := by decide +kernel
theorem dX12_add_59 : decode cX12_add 59 = .ok (.iconst 1, 1) := by decide +kernel
theorem dX12_add_60 : decode cX12_add 60 = .ok (.invokevirtual 186, 3) := by decide +kernel
theorem dX12_add_63 : decode cX12_add 63 = .ok (.iconst 0, 1) := by decide +kernel
theorem dX12_add_64 : decode cX12_add 64 = .ok (.istore 11, 2) := by decide +kernel
theorem dX12_add_66 : decode cX12_add 66 = .ok (.iconst 0, 1) := by decide +kernel
theorem dX12_add_67 : decode cX12_add 67 = .ok (.istore 12, 2) := by decide +kernel
theorem dX12_add_69 : decode cX12_add 69 = .ok (.iconst 0, 1) := by decide +kernel
theorem dX12_add_70 : decode cX12_add 70 = .ok (.istore 13, 2) := by decide +kernel
theorem dX12_add_72 : decode cX12_add 72 = .ok (.iload 13, 2) := by decide +kernel
theorem dX12_add_74 : decode cX12_add 74 = .ok (.bipush 8, 2) := by decide +kernel
theorem dX12_add_76 : decode cX12_add 76 = .ok (.if_icmp .ge 25, 3) := by decide +kernel
theorem dX12_add_79 : decode cX12_add 79 = .ok (.iload 10, 2) := by decide +kernel
theorem dX12_add_81 : decode cX12_add 81 = .ok (.aload 9, 2) := by decide +kernel
theorem dX12_add_83 : decode cX12_add 83 = .ok (.iload 13, 2) := by decide +kernel
theorem dX12_add_85 : decode cX12_add 85 = .ok (.iaload, 1) := by decide +kernel
theorem dX12_add_86 : decode cX12_add 86 = .ok (.bipush (-4), 2) := by decide +kernel
theorem dX12_add_88 : decode cX12_add 88 = .ok (.iconst 4, 1) := by decide +kernel
theorem dX12_add_89 : decode cX12_add 89 = .ok (.invokestatic 141, 3) := by decide +kernel
theorem dX12_add_92 : decode cX12_add 92 = .ok (.iand, 1) := by decide +kernel
theorem dX12_add_93 : decode cX12_add 93 = .ok (.istore 10, 2) := by decide +kernel
theorem dX12_add_95 : decode cX12_add 95 = .ok (.iinc 13 1, 3) := by decide +kernel
theorem dX12_add_98 : decode cX12_add 98 = .ok (.goto (-26), 3) := by decide +kernel
theorem dX12_add_101 : decode cX12_add 101 = .ok (.iconst 0, 1) := by decide +kernel
theorem dX12_add_102 : decode cX12_add 102 = .ok (.istore 13, 2) := by decide +kernel
theorem dX12_add_104 : decode cX12_add 104 = .ok (.iload 13, 2) := by decide +kernel
theorem dX12_add_106 : decode cX12_add 106 = .ok (.iconst 4, 1) := by decide +kernel
theorem dX12_add_107 : decode cX12_add 107 = .ok (.if_icmp .ge 84, 3) := by decide +kernel
theorem dX12_add_110 : decode cX12_add 110 = .ok (.iload 10, 2) := by decide +kernel
theorem dX12_add_112 : decode cX12_add 112 = .ok (.ifCond .eq 79, 3) := by decide +kernel
theorem dX12_add_115 : decode cX12_add 115 = .ok (.iload 11, 2) := by decide +kernel
theorem dX12_add_117 : decode cX12_add 117 = .ok (.aload 9, 2) := by decide +kernel
theorem dX12_add_119 : decode cX12_add 119 = .ok (.iconst 2, 1) := by decide +kernel
theorem dX12_add_120 : decode cX12_add 120 = .ok (.iload 13, 2) := by decide +kernel
theorem dX12_add_122 : decode cX12_add 122 = .ok (.imul, 1) := by decide +kernel
theorem dX12_add_123 : decode cX12_add 123 = .ok (.iaload, 1) := by decide +kernel
theorem dX12_add_124 : decode cX12_add 124 = .ok (.aload 9, 2) := by decide +kernel
theorem dX12_add_126 : decode cX12_add 126 = .ok (.iconst 2, 1) := by decide +kernel
theorem dX12_add_127 : decode cX12_add 127 = .ok (.iload 13, 2) := by decide +kernel
theorem dX12_add_129 : decode cX12_add 129 = .ok (.imul, 1) := by decide +kernel
theorem dX12_add_130 : decode cX12_add 130 = .ok (.iaload, 1) := by decide +kernel
theorem dX12_add_131 : decode cX12_add 131 = .ok (.imul, 1) := by decide +kernel
theorem dX12_add_132 : decode cX12_add 132 = .ok (.aload_n 0, 1) := by decide +kernel
theorem dX12_add_133 : decode cX12_add 133 = .ok (.iconst 0, 1) := by decide +kernel
theorem dX12_add_134 : decode cX12_add 134 = .ok (.invokevirtual 195, 3) := by decide +kernel
theorem dX12_add_137 : decode cX12_add 137 = .ok (.aload 9, 2) := by decide +kernel
theorem dX12_add_139 : decode cX12_add 139 = .ok (.iconst 2, 1) := by decide +kernel
theorem dX12_add_140 : decode cX12_add 140 = .ok (.iload 13, 2) := by decide +kernel
theorem dX12_add_142 : decode cX12_add 142 = .ok (.imul, 1) := by decide +kernel
theorem dX12_add_143 : decode cX12_add 143 = .ok (.iconst 1, 1) := by decide +kernel
theorem dX12_add_144 : decode cX12_add 144 = .ok (.iadd, 1) := by decide +kernel
theorem dX12_add_145 : decode cX12_add 145 = .ok (.iaload, 1) := by decide +kernel
theorem dX12_add_146 : decode cX12_add 146 = .ok (.imul, 1) := by decide +kernel
theorem dX12_add_147 : decode cX12_add 147 = .ok (.aload 9, 2) := by decide +kernel
theorem dX12_add_149 : decode cX12_add 149 = .ok (.iconst 2, 1) := by decide +kernel
theorem dX12_add_150 : decode cX12_add 150 = .ok (.iload 13, 2) := by decide +kernel
theorem dX12_add_152 : decode cX12_add 152 = .ok (.imul, 1) := by decide +kernel
theorem dX12_add_153 : decode cX12_add 153 = .ok (.iconst 1, 1) := by decide +kernel
theorem dX12_add_154 : decode cX12_add 154 = .ok (.iadd, 1) := by decide +kernel
theorem dX12_add_155 : decode cX12_add 155 = .ok (.iaload, 1) := by decide +kernel
theorem dX12_add_156 : decode cX12_add 156 = .ok (.imul, 1) := by decide +kernel
theorem dX12_add_157 : decode cX12_add 157 = .ok (.iadd, 1) := by decide +kernel
theorem dX12_add_158 : decode cX12_add 158 = .ok (.iadd, 1) := by decide +kernel
theorem dX12_add_159 : decode cX12_add 159 = .ok (.istore 11, 2) := by decide +kernel
theorem dX12_add_161 : decode cX12_add 161 = .ok (.iload 12, 2) := by decide +kernel
theorem dX12_add_163 : decode cX12_add 163 = .ok (.iconst 2, 1) := by decide +kernel
theorem dX12_add_164 : decode cX12_add 164 = .ok (.aload 9, 2) := by decide +kernel
theorem dX12_add_166 : decode cX12_add 166 = .ok (.iconst 2, 1) := by decide +kernel
theorem dX12_add_167 : decode cX12_add 167 = .ok (.iload 13, 2) := by decide +kernel
theorem dX12_add_169 : decode cX12_add 169 = .ok (.imul, 1) := by decide +kernel
theorem dX12_add_170 : decode cX12_add 170 = .ok (.iaload, 1) := by decide +kernel
theorem dX12_add_171 : decode cX12_add 171 = .ok (.imul, 1) := by decide +kernel
theorem dX12_add_172 : decode cX12_add 172 = .ok (.aload 9, 2) := by decide +kernel
theorem dX12_add_174 : decode cX12_add 174 = .ok (.iconst 2, 1) := by decide +kernel
theorem dX12_add_175 : decode cX12_add 175 = .ok (.iload 13, 2) := by decide +kernel
theorem dX12_add_177 : decode cX12_add 177 = .ok (.imul, 1) := by decide +kernel
theorem dX12_add_178 : decode cX12_add 178 = .ok (.iconst 1, 1) := by decide +kernel
theorem dX12_add_179 : decode cX12_add 179 = .ok (.iadd, 1) := by decide +kernel
theorem dX12_add_180 : decode cX12_add 180 = .ok (.iaload, 1) := by decide +kernel
theorem dX12_add_181 : decode cX12_add 181 = .ok (.imul, 1) := by decide +kernel
theorem dX12_add_182 : decode cX12_add 182 = .ok (.iadd, 1) := by decide +kernel
theorem dX12_add_183 : decode cX12_add 183 = .ok (.istore 12, 2) := by decide +kernel
theorem dX12_add_185 : decode cX12_add 185 = .ok (.iinc 13 1, 3) := by decide +kernel
theorem dX12_add_188 : decode cX12_add 188 = .ok (.goto (-84), 3) := by decide +kernel
theorem dX12_add_191 : decode cX12_add 191 = .ok (.aload_n 0, 1) := by decide +kernel
theorem dX12_add_192 : decode cX12_add 192 = .ok (.iload 10, 2) := by decide +kernel
theorem dX12_add_194 : decode cX12_add 194 = .ok (.ifCond .eq 15, 3) := by decide +kernel
theorem dX12_add_197 : decode cX12_add 197 = .ok (.iload 11, 2) := by decide +kernel
theorem dX12_add_199 : decode cX12_add 199 = .ok (.bipush 16, 2) := by decide +kernel
theorem dX12_add_201 : decode cX12_add 201 = .ok (.if_icmp .ne 8, 3) := by decide +kernel
theorem dX12_add_204 : decode cX12_add 204 = .ok (.iload 12, 2) := by decide +kernel
theorem dX12_add_206 : decode cX12_add 206 = .ok (.ifCond .eq 7, 3) := by decide +kernel
theorem dX12_add_209 : decode cX12_add 209 = .ok (.iconst 1, 1) := by decide +kernel
theorem dX12_add_210 : decode cX12_add 210 = .ok (.goto 4, 3) := by decide +kernel
theorem dX12_add_213 : decode cX12_add 213 = .ok (.iconst 0, 1) := by decide +kernel
theorem dX12_add_214 : decode cX12_add 214 = .ok (.iconst 1, 1) := by decide +kernel
theorem dX12_add_215 : decode cX12_add 215 = .ok (.iconst 1, 1) := by decide +kernel
theorem dX12_add_216 : decode cX12_add 216 = .ok (.invokevirtual 177, 3) := by decide +kernel
theorem dX12_add_219 : decode cX12_add 219 = .ok (.ifCond .ne 29, 3) := by decide +kernel
theorem dX12_add_222 : decode cX12_add 222 = .ok (.aload_n 0, 1) := by decide +kernel
theorem dX12_add_223 : decode cX12_add 223 = .ok (.aload_n 0, 1) := by decide +kernel
theorem dX12_add_224 : decode cX12_add 224 = .ok (.getfield 22, 3) := by decide +kernel
theorem dX12_add_227 : decode cX12_add 227 = .ok (.iconst 0, 1) := by decide +kernel
theorem dX12_add_228 : decode cX12_add 228 = .ok (.aaload, 1) := by decide +kernel
theorem dX12_add_229 : decode cX12_add 229 = .ok (.iconst 1, 1) := by decide +kernel
theorem dX12_add_230 : decode cX12_add 230 = .ok (.iaload, 1) := by decide +kernel
theorem dX12_add_231 : decode cX12_add 231 = .ok (.iconst 4, 1) := by decide +kernel
theorem dX12_add_232 : decode cX12_add 232 = .ok (.if_icmp .ne 7, 3) := by decide +kernel
theorem dX12_add_235 : decode cX12_add 235 = .ok (.iconst 1, 1) := by decide +kernel
theorem dX12_add_236 : decode cX12_add 236 = .ok (.goto 4, 3) := by decide +kernel
theorem dX12_add_239 : decode cX12_add 239 = .ok (.iconst 0, 1) := by decide +kernel
theorem dX12_add_240 : decode cX12_add 240 = .ok (.iconst 2, 1) := by decide +kernel
theorem dX12_add_241 : decode cX12_add 241 = .ok (.iconst 2, 1) := by decide +kernel
theorem dX12_add_242 : decode cX12_add 242 = .ok (.invokevirtual 177, 3) := by decide +kernel
theorem dX12_add_245 : decode cX12_add 245 = .ok (.ifCond .eq 5, 3) := by decide +kernel
theorem dX12_add_248 : decode cX12_add 248 = .ok (.iconst 0, 1) := by decide +kernel
theorem dX12_add_249 : decode cX12_add 249 = .ok (.ireturn, 1) := by decide +kernel
theorem dX12_add_250 : decode cX12_add 250 = .ok (.iconst 0, 1) := by decide +kernel
theorem dX12_add_251 : decode cX12_add 251 = .ok (.istore 13, 2) := by decide +kernel
theorem dX12_add_253 : decode cX12_add 253 = .ok (.iload 13, 2) := by decide +kernel
theorem dX12_add_255 : decode cX12_add 255 = .ok (.bipush 8, 2) := by decide +kernel
theorem dX12_add_257 : decode cX12_add 257 = .ok (.if_icmp .ge 37, 3) := by decide +kernel
theorem dX12_add_260 : decode cX12_add 260 = .ok (.aload_n 0, 1) := by decide +kernel
theorem dX12_add_261 : decode cX12_add 261 = .ok (.getfield 22, 3) := by decide +kernel
theorem dX12_add_264 : decode cX12_add 264 = .ok (.iconst 1, 1) := by decide +kernel
theorem dX12_add_265 : decode cX12_add 265 = .ok (.aaload, 1) := by decide +kernel
theorem dX12_add_266 : decode cX12_add 266 = .ok (.iconst 2, 1) := by decide +kernel
theorem dX12_add_267 : decode cX12_add 267 = .ok (.bipush 8, 2) := by decide +kernel
theorem dX12_add_269 : decode cX12_add 269 = .ok (.aload_n 0, 1) := by decide +kernel
theorem dX12_add_270 : decode cX12_add 270 = .ok (.getfield 22, 3) := by decide +kernel
theorem dX12_add_273 : decode cX12_add 273 = .ok (.iconst 1, 1) := by decide +kernel
theorem dX12_add_274 : decode cX12_add 274 = .ok (.aaload, 1) := by decide +kernel
theorem dX12_add_275 : decode cX12_add 275 = .ok (.iconst 1, 1) := by decide +kernel
theorem dX12_add_276 : decode cX12_add 276 = .ok (.iaload, 1) := by decide +kernel
theorem dX12_add_277 : decode cX12_add 277 = .ok (.imul, 1) := by decide +kernel
theorem dX12_add_278 : decode cX12_add 278 = .ok (.iadd, 1) := by decide +kernel
theorem dX12_add_279 : decode cX12_add 279 = .ok (.iload 13, 2) := by decide +kernel
theorem dX12_add_281 : decode cX12_add 281 = .ok (.iadd, 1) := by decide +kernel
theorem dX12_add_282 : decode cX12_add 282 = .ok (.aload 9, 2) := by decide +kernel
theorem dX12_add_284 : decode cX12_add 284 = .ok (.iload 13, 2) := by decide +kernel
theorem dX12_add_286 : decode cX12_add 286 = .ok (.iaload, 1) := by decide +kernel
theorem dX12_add_287 : decode cX12_add 287 = .ok (.iastore, 1) := by decide +kernel
theorem dX12_add_288 : decode cX12_add 288 = .ok (.iinc 13 1, 3) := by decide +kernel
theorem dX12_add_291 : decode cX12_add 291 = .ok (.goto (-38), 3) := by decide +kernel
theorem dX12_add_294 : decode cX12_add 294 = .ok (.aload_n 0, 1) := by decide +kernel
theorem dX12_add_295 : decode cX12_add 295 = .ok (.getfield 22, 3) := by decide +kernel
theorem dX12_add_298 : decode cX12_add 298 = .ok (.iconst 1, 1) := by decide +kernel
theorem dX12_add_299 : decode cX12_add 299 = .ok (.aaload, 1) := by decide +kernel
theorem dX12_add_300 : decode cX12_add 300 = .ok (.iconst 1, 1) := by decide +kernel
theorem dX12_add_301 : decode cX12_add 301 = .ok (.dup2, 1) := by decide +kernel
theorem dX12_add_302 : decode cX12_add 302 = .ok (.iaload, 1) := by decide +kernel
theorem dX12_add_303 : decode cX12_add 303 = .ok (.iconst 1, 1) := by decide +kernel
theorem dX12_add_304 : decode cX12_add 304 = .ok (.iadd, 1) := by decide +kernel
theorem dX12_add_305 : decode cX12_add 305 = .ok (.iastore, 1) := by decide +kernel
theorem dX12_add_306 : decode cX12_add 306 = .ok (.aload_n 0, 1) := by decide +kernel
theorem dX12_add_307 : decode cX12_add 307 = .ok (.aload_n 0, 1) := by decide +kernel
theorem dX12_add_308 : decode cX12_add 308 = .ok (.iconst 1, 1) := by decide +kernel
theorem dX12_add_309 : decode cX12_add 309 = .ok (.invokevirtual 92, 3) := by decide +kernel
theorem dX12_add_312 : decode cX12_add 312 = .ok (.ifCond .ne 7, 3) := by decide +kernel
theorem dX12_add_315 : decode cX12_add 315 = .ok (.iconst 1, 1) := by decide +kernel
theorem dX12_add_316 : decode cX12_add 316 = .ok (.goto 4, 3) := by decide +kernel
theorem dX12_add_319 : decode cX12_add 319 = .ok (.iconst 0, 1) := by decide +kernel
theorem dX12_add_320 : decode cX12_add 320 = .ok (.iconst 2, 1) := by decide +kernel
theorem dX12_add_321 : decode cX12_add 321 = .ok (.iconst 2, 1) := by decide +kernel
theorem dX12_add_322 : decode cX12_add 322 = .ok (.invokevirtual 177, 3) := by decide +kernel
theorem dX12_add_325 : decode cX12_add 325 = .ok (.ifCond .eq 5, 3) := by decide +kernel
theorem dX12_add_328 : decode cX12_add 328 = .ok (.iconst 0, 1) := by decide +kernel
theorem dX12_add_329 : decode cX12_add 329 = .ok (.ireturn, 1) := by decide +kernel
theorem dX12_add_330 : decode cX12_add 330 = .ok (.aload_n 0, 1) := by decide +kernel
theorem dX12_add_331 : decode cX12_add 331 = .ok (.invokevirtual 302, 3) := by decide +kernel
theorem dX12_add_334 : decode cX12_add 334 = .ok (.aload_n 0, 1) := by decide +kernel
theorem dX12_add_335 : decode cX12_add 335 = .ok (.iconst 1, 1) := by decide +kernel
theorem dX12_add_336 : decode cX12_add 336 = .ok (.iconst 0, 1) := by decide +kernel
theorem dX12_add_337 : decode cX12_add 337 = .ok (.invokevirtual 186, 3) := by decide +kernel
theorem dX12_add_340 : decode cX12_add 340 = .ok (.aload_n 0, 1) := by decide +kernel
theorem dX12_add_341 : decode cX12_add 341 = .ok (.invokevirtual 96, 3) := by decide +kernel
theorem dX12_add_344 : decode cX12_add 344 = .ok (.aload_n 0, 1) := by decide +kernel
theorem dX12_add_345 : decode cX12_add 345 = .ok (.getfield 192, 3) := by decide +kernel
theorem dX12_add_348 : decode cX12_add 348 = .ok (.ireturn, 1) := by decide +kernel
theorem B_X12_add_0 {g : Sg} {c t : Nat} (hL : Lay LM g c t σ) {x1 : Int} {x2 : Int} {x3 : Int} {x4 : Int} {x5 : Int} {x6 : Int} {x7 : Int} {x8 : Int} (h : ∀ τ1 : Sg, τ1 = sI σ 172 0 0 → (Lay LM g c t τ1 → CC E mX12_nothingWhy [vr 172] τ1 (KV (fun τ3 => Lay LM g c t τ3 ∧ 1 ≤ rc ∧ 8 ≤ rs ∧ ∀ (b4 : Nat) (τ5 : Sg), b4 = gz τ3 → τ5 = nw τ3 (20, 8) → okB 20 τ5 b4 0 ∧ (16 ≤ b4 ∧ gz g ≤ b4) ∧ ∀ τ8 : Sg, τ8 = sI τ5 b4 0 x1 → okB 20 τ8 b4 1 ∧ ∀ τ10 : Sg, τ10 = sI τ8 b4 1 x2 → okB 20 τ10 b4 2 ∧ ∀ τ12 : Sg, τ12 = sI τ10 b4 2 x3 → okB 20 τ12 b4 3 ∧ ∀ τ14 : Sg, τ14 = sI τ12 b4 3 x4 → okB 20 τ14 b4 4 ∧ ∀ τ16 : Sg, τ16 = sI τ14 b4 4 x5 → okB 20 τ16 b4 5 ∧ ∀ τ18 : Sg, τ18 = sI τ16 b4 5 x6 → okB 20 τ18 b4 6 ∧ ∀ τ20 : Sg, τ20 = sI τ18 b4 6 x7 → okB 20 τ20 b4 7 ∧ ∀ τ22 : Sg, τ22 = sI τ20 b4 7 x8 → (Lay LM g c t τ22 → CC E mX12_copies [vr 172, vi 0, vi 1] τ22 (KV (fun τ24 => Lay LM g c t τ24 ∧ (Lay LM g c t τ24 → GG E mX12_add 72 [some (vr 172), none, none, none, none, none, none, none, none, some (vr b4), some (vi 1), some (vi 0), some (vi 0), some (vi 0)] [] τ24 (rc - 1) (rs - 8) Q)) (fun _ _ => False)))) (fun _ _ => False)))) : GG E mX12_add 0 [some (vr 172), some (vi x1), some (vi x2), some (vi x3), some (vi x4), some (vi x5), some (vi x6), some (vi x7), some (vi x8), none, none, none, none, none] [] σ rc rs Q := by
  refine r_aload_n (pc := 0) dX12_add_0 rfl rfl ?_
  refine r_iconst (pc := 1) dX12_add_1 (inRk rfl) ?_
  refine r_putI (pc := 2) dX12_add_2 (k9 := 0) CL_12 (by decide) (by decide) w_1415 rfl rfl (fun h9 => absurd h9 (by decide +kernel)) (okO_of (N := 42) (hL.sh (i := 0) rfl (by decide) (by decide)) (by decide)) ?_
  refine nmS (fun τ1 e1 => ?_)
  replace h := h τ1 e1
  have hL := hL.wI e1 (by decide) (.inl (by decide))
  refine r_aload_n (pc := 5) dX12_add_5 rfl rfl ?_
  refine c_VV0N (M := mX12_add) (pc := 6) (As := []) dX12_add_6 K_X12_nothingWhy w_1555 ⟨by decide, by decide⟩ (Nat.le_of_ble_eq_true rfl) rfl rfl (ci := 12) rfl rfl (by decide) (okO_of (N := 42) (hL.sh (i := 0) rfl (by decide) (by decide)) (by decide)) (h hL) (fun τ3 h8 => ?_) rfl
  replace hL := h8.1
  replace h := h8.2
  refine r_bipush (pc := 9) dX12_add_9 (by decide) ?_
  refine r_newarray (pc := 11) dX12_add_11 (cc := 20) rfl (by decide) (by decide) w_175 (by decide) (by decide) h.1 h.2.1 ?_
  replace h := h.2.2
  change GG _ _ _ _ (vr _ :: _) (nw _ (20, 8)) (_ - 1) (_ - 8) _
  refine nmR (fun b4 e8 => ?_)
  refine nmS (fun τ5 e9 => ?_)
  replace h := h b4 τ5 e8 e9
  have hL := hL.nw9 e9
  refine r_dup (pc := 13) dX12_add_13 (fun _ h9 => nomatch h9) ?_
  refine r_iconst (pc := 14) dX12_add_14 (inRk rfl) ?_
  refine r_iload_n (pc := 15) dX12_add_15 rfl rfl ?_
  obtain ⟨o6, h⟩ := h
  obtain ⟨o7, h⟩ := h
  refine r_iastore (pc := 16) dX12_add_16 o6 ?_
  refine nmS (fun τ8 e8 => ?_)
  replace h := h τ8 e8
  have hL := hL.wI e8 o7.1 (.inr o7.2)
  refine r_dup (pc := 17) dX12_add_17 (fun _ h9 => nomatch h9) ?_
  refine r_iconst (pc := 18) dX12_add_18 (inRk rfl) ?_
  refine r_iload_n (pc := 19) dX12_add_19 rfl rfl ?_
  obtain ⟨o9, h⟩ := h
  refine r_iastore (pc := 20) dX12_add_20 o9 ?_
  refine nmS (fun τ10 e10 => ?_)
  replace h := h τ10 e10
  have hL := hL.wI e10 o7.1 (.inr o7.2)
  refine r_dup (pc := 21) dX12_add_21 (fun _ h9 => nomatch h9) ?_
  refine r_iconst (pc := 22) dX12_add_22 (inRk rfl) ?_
  refine r_iload_n (pc := 23) dX12_add_23 rfl rfl ?_
  obtain ⟨o11, h⟩ := h
  refine r_iastore (pc := 24) dX12_add_24 o11 ?_
  refine nmS (fun τ12 e12 => ?_)
  replace h := h τ12 e12
  have hL := hL.wI e12 o7.1 (.inr o7.2)
  refine r_dup (pc := 25) dX12_add_25 (fun _ h9 => nomatch h9) ?_
  refine r_iconst (pc := 26) dX12_add_26 (inRk rfl) ?_
  refine r_iload (pc := 27) dX12_add_27 rfl ?_
  obtain ⟨o13, h⟩ := h
  refine r_iastore (pc := 29) dX12_add_29 o13 ?_
  refine nmS (fun τ14 e14 => ?_)
  replace h := h τ14 e14
  have hL := hL.wI e14 o7.1 (.inr o7.2)
  refine r_dup (pc := 30) dX12_add_30 (fun _ h9 => nomatch h9) ?_
  refine r_iconst (pc := 31) dX12_add_31 (inRk rfl) ?_
  refine r_iload (pc := 32) dX12_add_32 rfl ?_
  obtain ⟨o15, h⟩ := h
  refine r_iastore (pc := 34) dX12_add_34 o15 ?_
  refine nmS (fun τ16 e16 => ?_)
  replace h := h τ16 e16
  have hL := hL.wI e16 o7.1 (.inr o7.2)
  refine r_dup (pc := 35) dX12_add_35 (fun _ h9 => nomatch h9) ?_
  refine r_iconst (pc := 36) dX12_add_36 (inRk rfl) ?_
  refine r_iload (pc := 37) dX12_add_37 rfl ?_
  obtain ⟨o17, h⟩ := h
  refine r_iastore (pc := 39) dX12_add_39 o17 ?_
  refine nmS (fun τ18 e18 => ?_)
  replace h := h τ18 e18
  have hL := hL.wI e18 o7.1 (.inr o7.2)
  refine r_dup (pc := 40) dX12_add_40 (fun _ h9 => nomatch h9) ?_
  refine r_bipush (pc := 41) dX12_add_41 (by decide) ?_
  refine r_iload (pc := 43) dX12_add_43 rfl ?_
  obtain ⟨o19, h⟩ := h
  refine r_iastore (pc := 45) dX12_add_45 o19 ?_
  refine nmS (fun τ20 e20 => ?_)
  replace h := h τ20 e20
  have hL := hL.wI e20 o7.1 (.inr o7.2)
  refine r_dup (pc := 46) dX12_add_46 (fun _ h9 => nomatch h9) ?_
  refine r_bipush (pc := 47) dX12_add_47 (by decide) ?_
  refine r_iload (pc := 49) dX12_add_49 rfl ?_
  obtain ⟨o21, h⟩ := h
  refine r_iastore (pc := 51) dX12_add_51 o21 ?_
  refine nmS (fun τ22 e22 => ?_)
  replace h := h τ22 e22
  have hL := hL.wI e22 o7.1 (.inr o7.2)
  refine r_astore (pc := 52) dX12_add_52 (by decide) (l2 := [some (vr 172), some (vi x1), some (vi x2), some (vi x3), some (vi x4), some (vi x5), some (vi x6), some (vi x7), some (vi x8), some (vr b4), none, none, none, none]) rfl ?_
  refine r_iconst (pc := 54) dX12_add_54 (inRk rfl) ?_
  refine r_istore (pc := 55) dX12_add_55 (by decide) (l2 := [some (vr 172), some (vi x1), some (vi x2), some (vi x3), some (vi x4), some (vi x5), some (vi x6), some (vi x7), some (vi x8), some (vr b4), some (vi 1), none, none, none]) rfl ?_
  refine r_aload_n (pc := 57) dX12_add_57 rfl rfl ?_
  refine r_iconst (pc := 58) dX12_add_58 (inRk rfl) ?_
  refine r_iconst (pc := 59) dX12_add_59 (inRk rfl) ?_
  refine c_VV0N (M := mX12_add) (pc := 60) (As := [vi 0, vi 1]) dX12_add_60 K_X12_copies w_1616 ⟨by decide, by decide⟩ (Nat.le_of_ble_eq_true rfl) rfl rfl (ci := 12) rfl rfl (by decide) (okO_of (N := 42) (hL.sh (i := 0) rfl (by decide) (by decide)) (by decide)) (h hL) (fun τ24 h8 => ?_) rfl
  replace hL := h8.1
  replace h := h8.2
  refine r_iconst (pc := 63) dX12_add_63 (inRk rfl) ?_
  refine r_istore (pc := 64) dX12_add_64 (by decide) (l2 := [some (vr 172), some (vi x1), some (vi x2), some (vi x3), some (vi x4), some (vi x5), some (vi x6), some (vi x7), some (vi x8), some (vr b4), some (vi 1), some (vi 0), none, none]) rfl ?_
  refine r_iconst (pc := 66) dX12_add_66 (inRk rfl) ?_
  refine r_istore (pc := 67) dX12_add_67 (by decide) (l2 := [some (vr 172), some (vi x1), some (vi x2), some (vi x3), some (vi x4), some (vi x5), some (vi x6), some (vi x7), some (vi x8), some (vr b4), some (vi 1), some (vi 0), some (vi 0), none]) rfl ?_
  refine r_iconst (pc := 69) dX12_add_69 (inRk rfl) ?_
  refine r_istore (pc := 70) dX12_add_70 (by decide) (l2 := [some (vr 172), some (vi x1), some (vi x2), some (vi x3), some (vi x4), some (vi x5), some (vi x6), some (vi x7), some (vi x8), some (vr b4), some (vi 1), some (vi 0), some (vi 0), some (vi 0)]) rfl ?_
  exact GG.msk [true, false, false, false, false, false, false, false, false, true, true, true, true, true] (h hL)
theorem B_X12_add_72 {g : Sg} {c t : Nat} (hL : Lay LM g c t σ) {a9 : Nat} {x10 : Int} {x11 : Int} {x12 : Int} {x13 : Int} (h : ((8 ≤ x13 → (Lay LM g c t σ → GG E mX12_add 104 [some (vr 172), none, none, none, none, none, none, none, none, some (vr a9), some (vi x10), some (vi x11), some (vi x12), some (vi 0)] [] σ rc rs Q)) ∧ (¬ (8 ≤ x13) → okA 20 σ a9 x13 ∧ (Lay LM g c t σ → CC E mX12_in [vi (gI σ a9 x13.toNat), vi (-4), vi 4] σ (KI (fun r2 τ3 => Lay LM g c t τ3 ∧ (inR r2 → inR (x13 + 1) ∧ (Lay LM g c t τ3 → GG E mX12_add 72 [some (vr 172), none, none, none, none, none, none, none, none, some (vr a9), some (vi (b_iandq x10 r2)), some (vi x11), some (vi x12), some (vi (x13 + 1))] [] τ3 rc rs Q))) (fun _ _ => False)))))) : GG E mX12_add 72 [some (vr 172), none, none, none, none, none, none, none, none, some (vr a9), some (vi x10), some (vi x11), some (vi x12), some (vi x13)] [] σ rc rs Q := by
  refine r_iload (pc := 72) dX12_add_72 rfl ?_
  refine r_bipush (pc := 74) dX12_add_74 (by decide) ?_
  refine r_icmp_ge (pc := 76) (tgt := 101) dX12_add_76 (by decide) (fun c9 => ?_) (fun c9 => ?_)
  · replace h := h.1 c9
    refine r_iconst (pc := 101) dX12_add_101 (inRk rfl) ?_
    refine r_istore (pc := 102) dX12_add_102 (by decide) (l2 := [some (vr 172), none, none, none, none, none, none, none, none, some (vr a9), some (vi x10), some (vi x11), some (vi x12), some (vi 0)]) rfl ?_
    exact (h hL)
  · replace h := h.2 c9
    refine r_iload (pc := 79) dX12_add_79 rfl ?_
    refine r_aload (pc := 81) dX12_add_81 rfl ?_
    refine r_iload (pc := 83) dX12_add_83 rfl ?_
    obtain ⟨o1, h⟩ := h
    refine r_iaload (pc := 85) dX12_add_85 o1 ?_
    refine r_bipush (pc := 86) dX12_add_86 (by decide) ?_
    refine r_iconst (pc := 88) dX12_add_88 (inRk rfl) ?_
    refine c_SI0N (M := mX12_add) (pc := 89) (As := [vi (gI σ a9 x13.toNat), vi (-4), vi 4]) dX12_add_89 K_X12_in w_1559 ⟨by decide, by decide⟩ (Nat.le_of_ble_eq_true rfl) rfl rfl (h hL) (fun r2 τ3 h8 hr9 => ?_) rfl
    replace hL := h8.1
    replace h := h8.2 hr9
    refine r_iand (pc := 92) dX12_add_92 ?_
    refine r_istore (pc := 93) dX12_add_93 (by decide) (l2 := [some (vr 172), none, none, none, none, none, none, none, none, some (vr a9), some (vi (b_iandq x10 r2)), some (vi x11), some (vi x12), some (vi x13)]) rfl ?_
    obtain ⟨o4, h⟩ := h
    refine r_iinc (pc := 95) dX12_add_95 rfl (by decide) o4 (l2 := [some (vr 172), none, none, none, none, none, none, none, none, some (vr a9), some (vi (b_iandq x10 r2)), some (vi x11), some (vi x12), some (vi (x13 + 1))]) rfl ?_
    refine r_goto (pc := 98) (tgt := 72) dX12_add_98 (by decide) ?_
    exact (h hL)
theorem B_X12_add_104 {g : Sg} {c t : Nat} (hL : Lay LM g c t σ) {a9 : Nat} {x10 : Int} {x11 : Int} {x12 : Int} {x13 : Int} (h : ((4 ≤ x13 → ((x10 = 0 → (Lay LM g c t σ → CC E mX12_bad [vr 172, vi 1, vi 1, vi 1] σ (KI (fun r1 τ2 => Lay LM g c t τ2 ∧ (inR r1 → ((r1 ≠ 0 → (Lay LM g c t τ2 → GG E mX12_add 248 [none, none, none, none, none, none, none, none, none, none, none, none, none, none] [] τ2 rc rs Q)) ∧ (r1 = 0 → (Lay LM g c t τ2 → GG E mX12_add 222 [some (vr 172), none, none, none, none, none, none, none, none, some (vr a9), none, none, none, none] [] τ2 rc rs Q))))) (fun _ _ => False)))) ∧ (¬ (x10 = 0) → ((x11 ≠ 16 → (Lay LM g c t σ → CC E mX12_bad [vr 172, vi 1, vi 1, vi 1] σ (KI (fun r3 τ4 => Lay LM g c t τ4 ∧ (inR r3 → ((r3 ≠ 0 → (Lay LM g c t τ4 → GG E mX12_add 248 [none, none, none, none, none, none, none, none, none, none, none, none, none, none] [] τ4 rc rs Q)) ∧ (r3 = 0 → (Lay LM g c t τ4 → GG E mX12_add 222 [some (vr 172), none, none, none, none, none, none, none, none, some (vr a9), none, none, none, none] [] τ4 rc rs Q))))) (fun _ _ => False)))) ∧ (x11 = 16 → ((x12 = 0 → (Lay LM g c t σ → CC E mX12_bad [vr 172, vi 0, vi 1, vi 1] σ (KI (fun r5 τ6 => Lay LM g c t τ6 ∧ (inR r5 → ((r5 ≠ 0 → (Lay LM g c t τ6 → GG E mX12_add 248 [none, none, none, none, none, none, none, none, none, none, none, none, none, none] [] τ6 rc rs Q)) ∧ (r5 = 0 → (Lay LM g c t τ6 → GG E mX12_add 222 [some (vr 172), none, none, none, none, none, none, none, none, some (vr a9), none, none, none, none] [] τ6 rc rs Q))))) (fun _ _ => False)))) ∧ (¬ (x12 = 0) → (Lay LM g c t σ → CC E mX12_bad [vr 172, vi 1, vi 1, vi 1] σ (KI (fun r7 τ8 => Lay LM g c t τ8 ∧ (inR r7 → ((r7 ≠ 0 → (Lay LM g c t τ8 → GG E mX12_add 248 [none, none, none, none, none, none, none, none, none, none, none, none, none, none] [] τ8 rc rs Q)) ∧ (r7 = 0 → (Lay LM g c t τ8 → GG E mX12_add 222 [some (vr 172), none, none, none, none, none, none, none, none, some (vr a9), none, none, none, none] [] τ8 rc rs Q))))) (fun _ _ => False)))))))))) ∧ (¬ (4 ≤ x13) → ((x10 = 0 → ((x10 = 0 → (Lay LM g c t σ → CC E mX12_bad [vr 172, vi 1, vi 1, vi 1] σ (KI (fun r9 τ10 => Lay LM g c t τ10 ∧ (inR r9 → ((r9 ≠ 0 → (Lay LM g c t τ10 → GG E mX12_add 248 [none, none, none, none, none, none, none, none, none, none, none, none, none, none] [] τ10 rc rs Q)) ∧ (r9 = 0 → (Lay LM g c t τ10 → GG E mX12_add 222 [some (vr 172), none, none, none, none, none, none, none, none, some (vr a9), none, none, none, none] [] τ10 rc rs Q))))) (fun _ _ => False)))) ∧ (¬ (x10 = 0) → ((x11 ≠ 16 → (Lay LM g c t σ → CC E mX12_bad [vr 172, vi 1, vi 1, vi 1] σ (KI (fun r11 τ12 => Lay LM g c t τ12 ∧ (inR r11 → ((r11 ≠ 0 → (Lay LM g c t τ12 → GG E mX12_add 248 [none, none, none, none, none, none, none, none, none, none, none, none, none, none] [] τ12 rc rs Q)) ∧ (r11 = 0 → (Lay LM g c t τ12 → GG E mX12_add 222 [some (vr 172), none, none, none, none, none, none, none, none, some (vr a9), none, none, none, none] [] τ12 rc rs Q))))) (fun _ _ => False)))) ∧ (x11 = 16 → ((x12 = 0 → (Lay LM g c t σ → CC E mX12_bad [vr 172, vi 0, vi 1, vi 1] σ (KI (fun r13 τ14 => Lay LM g c t τ14 ∧ (inR r13 → ((r13 ≠ 0 → (Lay LM g c t τ14 → GG E mX12_add 248 [none, none, none, none, none, none, none, none, none, none, none, none, none, none] [] τ14 rc rs Q)) ∧ (r13 = 0 → (Lay LM g c t τ14 → GG E mX12_add 222 [some (vr 172), none, none, none, none, none, none, none, none, some (vr a9), none, none, none, none] [] τ14 rc rs Q))))) (fun _ _ => False)))) ∧ (¬ (x12 = 0) → (Lay LM g c t σ → CC E mX12_bad [vr 172, vi 1, vi 1, vi 1] σ (KI (fun r15 τ16 => Lay LM g c t τ16 ∧ (inR r15 → ((r15 ≠ 0 → (Lay LM g c t τ16 → GG E mX12_add 248 [none, none, none, none, none, none, none, none, none, none, none, none, none, none] [] τ16 rc rs Q)) ∧ (r15 = 0 → (Lay LM g c t τ16 → GG E mX12_add 222 [some (vr 172), none, none, none, none, none, none, none, none, some (vr a9), none, none, none, none] [] τ16 rc rs Q))))) (fun _ _ => False)))))))))) ∧ (¬ (x10 = 0) → inR (2 * x13) ∧ okA 20 σ a9 (2 * x13) ∧ inR ((gI σ a9 (2 * x13).toNat) * (gI σ a9 (2 * x13).toNat)) ∧ ∀ v20 : Int, v20 = (gI σ a9 (2 * x13).toNat) * (gI σ a9 (2 * x13).toNat) → (Lay LM g c t σ → CC E mX12_root [vr 172, vi 0] σ (KI (fun r21 τ22 => Lay LM g c t τ22 ∧ (inR r21 → inR ((2 * x13) + 1) ∧ okA 20 τ22 a9 ((2 * x13) + 1) ∧ inR (r21 * (gI τ22 a9 ((2 * x13) + 1).toNat)) ∧ inR ((r21 * (gI τ22 a9 ((2 * x13) + 1).toNat)) * (gI τ22 a9 ((2 * x13) + 1).toNat)) ∧ ∀ v27 : Int, v27 = (r21 * (gI τ22 a9 ((2 * x13) + 1).toNat)) * (gI τ22 a9 ((2 * x13) + 1).toNat) → inR (v20 + v27) ∧ inR (x11 + (v20 + v27)) ∧ okA 20 τ22 a9 (2 * x13) ∧ inR (2 * (gI τ22 a9 (2 * x13).toNat)) ∧ inR ((2 * (gI τ22 a9 (2 * x13).toNat)) * (gI τ22 a9 ((2 * x13) + 1).toNat)) ∧ ∀ v33 : Int, v33 = (2 * (gI τ22 a9 (2 * x13).toNat)) * (gI τ22 a9 ((2 * x13) + 1).toNat) → inR (x12 + v33) ∧ inR (x13 + 1) ∧ (Lay LM g c t τ22 → GG E mX12_add 104 [some (vr 172), none, none, none, none, none, none, none, none, some (vr a9), some (vi x10), some (vi (x11 + (v20 + v27))), some (vi (x12 + v33)), some (vi (x13 + 1))] [] τ22 rc rs Q))) (fun _ _ => False)))))))) : GG E mX12_add 104 [some (vr 172), none, none, none, none, none, none, none, none, some (vr a9), some (vi x10), some (vi x11), some (vi x12), some (vi x13)] [] σ rc rs Q := by
  refine r_iload (pc := 104) dX12_add_104 rfl ?_
  refine r_iconst (pc := 106) dX12_add_106 (inRk rfl) ?_
  refine r_icmp_ge (pc := 107) (tgt := 191) dX12_add_107 (by decide) (fun c9 => ?_) (fun c9 => ?_)
  · replace h := h.1 c9
    refine r_aload_n (pc := 191) dX12_add_191 rfl rfl ?_
    refine r_iload (pc := 192) dX12_add_192 rfl ?_
    refine r_if_eq (pc := 194) (tgt := 209) dX12_add_194 (by decide) (fun c9 => ?_) (fun c9 => ?_)
    · replace h := h.1 c9
      refine r_iconst (pc := 209) dX12_add_209 (inRk rfl) ?_
      refine r_goto (pc := 210) (tgt := 214) dX12_add_210 (by decide) ?_
      refine r_iconst (pc := 214) dX12_add_214 (inRk rfl) ?_
      refine r_iconst (pc := 215) dX12_add_215 (inRk rfl) ?_
      refine c_VI0N (M := mX12_add) (pc := 216) (As := [vi 1, vi 1, vi 1]) dX12_add_216 K_X12_bad w_1562 ⟨by decide, by decide⟩ (Nat.le_of_ble_eq_true rfl) rfl rfl (ci := 12) rfl rfl (by decide) (okO_of (N := 42) (hL.sh (i := 0) rfl (by decide) (by decide)) (by decide)) (h hL) (fun r1 τ2 h8 hr9 => ?_) rfl
      replace hL := h8.1
      replace h := h8.2 hr9
      refine r_if_ne (pc := 219) (tgt := 248) dX12_add_219 (by decide) (fun c9 => ?_) (fun c9 => ?_)
      · replace h := h.1 c9
        exact GG.msk [false, false, false, false, false, false, false, false, false, false, false, false, false, false] (h hL)
      · replace h := h.2 c9
        exact GG.msk [true, false, false, false, false, false, false, false, false, true, false, false, false, false] (h hL)
    · replace h := h.2 c9
      refine r_iload (pc := 197) dX12_add_197 rfl ?_
      refine r_bipush (pc := 199) dX12_add_199 (by decide) ?_
      refine r_icmp_ne (pc := 201) (tgt := 209) dX12_add_201 (by decide) (fun c9 => ?_) (fun c9 => ?_)
      · replace h := h.1 c9
        refine r_iconst (pc := 209) dX12_add_209 (inRk rfl) ?_
        refine r_goto (pc := 210) (tgt := 214) dX12_add_210 (by decide) ?_
        refine r_iconst (pc := 214) dX12_add_214 (inRk rfl) ?_
        refine r_iconst (pc := 215) dX12_add_215 (inRk rfl) ?_
        refine c_VI0N (M := mX12_add) (pc := 216) (As := [vi 1, vi 1, vi 1]) dX12_add_216 K_X12_bad w_1562 ⟨by decide, by decide⟩ (Nat.le_of_ble_eq_true rfl) rfl rfl (ci := 12) rfl rfl (by decide) (okO_of (N := 42) (hL.sh (i := 0) rfl (by decide) (by decide)) (by decide)) (h hL) (fun r3 τ4 h8 hr9 => ?_) rfl
        replace hL := h8.1
        replace h := h8.2 hr9
        refine r_if_ne (pc := 219) (tgt := 248) dX12_add_219 (by decide) (fun c9 => ?_) (fun c9 => ?_)
        · replace h := h.1 c9
          exact GG.msk [false, false, false, false, false, false, false, false, false, false, false, false, false, false] (h hL)
        · replace h := h.2 c9
          exact GG.msk [true, false, false, false, false, false, false, false, false, true, false, false, false, false] (h hL)
      · replace h := h.2 c9
        refine r_iload (pc := 204) dX12_add_204 rfl ?_
        refine r_if_eq (pc := 206) (tgt := 213) dX12_add_206 (by decide) (fun c9 => ?_) (fun c9 => ?_)
        · replace h := h.1 c9
          refine r_iconst (pc := 213) dX12_add_213 (inRk rfl) ?_
          refine r_iconst (pc := 214) dX12_add_214 (inRk rfl) ?_
          refine r_iconst (pc := 215) dX12_add_215 (inRk rfl) ?_
          refine c_VI0N (M := mX12_add) (pc := 216) (As := [vi 0, vi 1, vi 1]) dX12_add_216 K_X12_bad w_1562 ⟨by decide, by decide⟩ (Nat.le_of_ble_eq_true rfl) rfl rfl (ci := 12) rfl rfl (by decide) (okO_of (N := 42) (hL.sh (i := 0) rfl (by decide) (by decide)) (by decide)) (h hL) (fun r5 τ6 h8 hr9 => ?_) rfl
          replace hL := h8.1
          replace h := h8.2 hr9
          refine r_if_ne (pc := 219) (tgt := 248) dX12_add_219 (by decide) (fun c9 => ?_) (fun c9 => ?_)
          · replace h := h.1 c9
            exact GG.msk [false, false, false, false, false, false, false, false, false, false, false, false, false, false] (h hL)
          · replace h := h.2 c9
            exact GG.msk [true, false, false, false, false, false, false, false, false, true, false, false, false, false] (h hL)
        · replace h := h.2 c9
          refine r_iconst (pc := 209) dX12_add_209 (inRk rfl) ?_
          refine r_goto (pc := 210) (tgt := 214) dX12_add_210 (by decide) ?_
          refine r_iconst (pc := 214) dX12_add_214 (inRk rfl) ?_
          refine r_iconst (pc := 215) dX12_add_215 (inRk rfl) ?_
          refine c_VI0N (M := mX12_add) (pc := 216) (As := [vi 1, vi 1, vi 1]) dX12_add_216 K_X12_bad w_1562 ⟨by decide, by decide⟩ (Nat.le_of_ble_eq_true rfl) rfl rfl (ci := 12) rfl rfl (by decide) (okO_of (N := 42) (hL.sh (i := 0) rfl (by decide) (by decide)) (by decide)) (h hL) (fun r7 τ8 h8 hr9 => ?_) rfl
          replace hL := h8.1
          replace h := h8.2 hr9
          refine r_if_ne (pc := 219) (tgt := 248) dX12_add_219 (by decide) (fun c9 => ?_) (fun c9 => ?_)
          · replace h := h.1 c9
            exact GG.msk [false, false, false, false, false, false, false, false, false, false, false, false, false, false] (h hL)
          · replace h := h.2 c9
            exact GG.msk [true, false, false, false, false, false, false, false, false, true, false, false, false, false] (h hL)
  · replace h := h.2 c9
    refine r_iload (pc := 110) dX12_add_110 rfl ?_
    refine r_if_eq (pc := 112) (tgt := 191) dX12_add_112 (by decide) (fun c9 => ?_) (fun c9 => ?_)
    · replace h := h.1 c9
      refine r_aload_n (pc := 191) dX12_add_191 rfl rfl ?_
      refine r_iload (pc := 192) dX12_add_192 rfl ?_
      refine r_if_eq (pc := 194) (tgt := 209) dX12_add_194 (by decide) (fun c9 => ?_) (fun c9 => ?_)
      · replace h := h.1 c9
        refine r_iconst (pc := 209) dX12_add_209 (inRk rfl) ?_
        refine r_goto (pc := 210) (tgt := 214) dX12_add_210 (by decide) ?_
        refine r_iconst (pc := 214) dX12_add_214 (inRk rfl) ?_
        refine r_iconst (pc := 215) dX12_add_215 (inRk rfl) ?_
        refine c_VI0N (M := mX12_add) (pc := 216) (As := [vi 1, vi 1, vi 1]) dX12_add_216 K_X12_bad w_1562 ⟨by decide, by decide⟩ (Nat.le_of_ble_eq_true rfl) rfl rfl (ci := 12) rfl rfl (by decide) (okO_of (N := 42) (hL.sh (i := 0) rfl (by decide) (by decide)) (by decide)) (h hL) (fun r9 τ10 h8 hr9 => ?_) rfl
        replace hL := h8.1
        replace h := h8.2 hr9
        refine r_if_ne (pc := 219) (tgt := 248) dX12_add_219 (by decide) (fun c9 => ?_) (fun c9 => ?_)
        · replace h := h.1 c9
          exact GG.msk [false, false, false, false, false, false, false, false, false, false, false, false, false, false] (h hL)
        · replace h := h.2 c9
          exact GG.msk [true, false, false, false, false, false, false, false, false, true, false, false, false, false] (h hL)
      · replace h := h.2 c9
        refine r_iload (pc := 197) dX12_add_197 rfl ?_
        refine r_bipush (pc := 199) dX12_add_199 (by decide) ?_
        refine r_icmp_ne (pc := 201) (tgt := 209) dX12_add_201 (by decide) (fun c9 => ?_) (fun c9 => ?_)
        · replace h := h.1 c9
          refine r_iconst (pc := 209) dX12_add_209 (inRk rfl) ?_
          refine r_goto (pc := 210) (tgt := 214) dX12_add_210 (by decide) ?_
          refine r_iconst (pc := 214) dX12_add_214 (inRk rfl) ?_
          refine r_iconst (pc := 215) dX12_add_215 (inRk rfl) ?_
          refine c_VI0N (M := mX12_add) (pc := 216) (As := [vi 1, vi 1, vi 1]) dX12_add_216 K_X12_bad w_1562 ⟨by decide, by decide⟩ (Nat.le_of_ble_eq_true rfl) rfl rfl (ci := 12) rfl rfl (by decide) (okO_of (N := 42) (hL.sh (i := 0) rfl (by decide) (by decide)) (by decide)) (h hL) (fun r11 τ12 h8 hr9 => ?_) rfl
          replace hL := h8.1
          replace h := h8.2 hr9
          refine r_if_ne (pc := 219) (tgt := 248) dX12_add_219 (by decide) (fun c9 => ?_) (fun c9 => ?_)
          · replace h := h.1 c9
            exact GG.msk [false, false, false, false, false, false, false, false, false, false, false, false, false, false] (h hL)
          · replace h := h.2 c9
            exact GG.msk [true, false, false, false, false, false, false, false, false, true, false, false, false, false] (h hL)
        · replace h := h.2 c9
          refine r_iload (pc := 204) dX12_add_204 rfl ?_
          refine r_if_eq (pc := 206) (tgt := 213) dX12_add_206 (by decide) (fun c9 => ?_) (fun c9 => ?_)
          · replace h := h.1 c9
            refine r_iconst (pc := 213) dX12_add_213 (inRk rfl) ?_
            refine r_iconst (pc := 214) dX12_add_214 (inRk rfl) ?_
            refine r_iconst (pc := 215) dX12_add_215 (inRk rfl) ?_
            refine c_VI0N (M := mX12_add) (pc := 216) (As := [vi 0, vi 1, vi 1]) dX12_add_216 K_X12_bad w_1562 ⟨by decide, by decide⟩ (Nat.le_of_ble_eq_true rfl) rfl rfl (ci := 12) rfl rfl (by decide) (okO_of (N := 42) (hL.sh (i := 0) rfl (by decide) (by decide)) (by decide)) (h hL) (fun r13 τ14 h8 hr9 => ?_) rfl
            replace hL := h8.1
            replace h := h8.2 hr9
            refine r_if_ne (pc := 219) (tgt := 248) dX12_add_219 (by decide) (fun c9 => ?_) (fun c9 => ?_)
            · replace h := h.1 c9
              exact GG.msk [false, false, false, false, false, false, false, false, false, false, false, false, false, false] (h hL)
            · replace h := h.2 c9
              exact GG.msk [true, false, false, false, false, false, false, false, false, true, false, false, false, false] (h hL)
          · replace h := h.2 c9
            refine r_iconst (pc := 209) dX12_add_209 (inRk rfl) ?_
            refine r_goto (pc := 210) (tgt := 214) dX12_add_210 (by decide) ?_
            refine r_iconst (pc := 214) dX12_add_214 (inRk rfl) ?_
            refine r_iconst (pc := 215) dX12_add_215 (inRk rfl) ?_
            refine c_VI0N (M := mX12_add) (pc := 216) (As := [vi 1, vi 1, vi 1]) dX12_add_216 K_X12_bad w_1562 ⟨by decide, by decide⟩ (Nat.le_of_ble_eq_true rfl) rfl rfl (ci := 12) rfl rfl (by decide) (okO_of (N := 42) (hL.sh (i := 0) rfl (by decide) (by decide)) (by decide)) (h hL) (fun r15 τ16 h8 hr9 => ?_) rfl
            replace hL := h8.1
            replace h := h8.2 hr9
            refine r_if_ne (pc := 219) (tgt := 248) dX12_add_219 (by decide) (fun c9 => ?_) (fun c9 => ?_)
            · replace h := h.1 c9
              exact GG.msk [false, false, false, false, false, false, false, false, false, false, false, false, false, false] (h hL)
            · replace h := h.2 c9
              exact GG.msk [true, false, false, false, false, false, false, false, false, true, false, false, false, false] (h hL)
    · replace h := h.2 c9
      refine r_iload (pc := 115) dX12_add_115 rfl ?_
      refine r_aload (pc := 117) dX12_add_117 rfl ?_
      refine r_iconst (pc := 119) dX12_add_119 (inRk rfl) ?_
      refine r_iload (pc := 120) dX12_add_120 rfl ?_
      obtain ⟨o17, h⟩ := h
      refine r_imul (pc := 122) dX12_add_122 o17 ?_
      obtain ⟨o18, h⟩ := h
      refine r_iaload (pc := 123) dX12_add_123 o18 ?_
      refine r_aload (pc := 124) dX12_add_124 rfl ?_
      refine r_iconst (pc := 126) dX12_add_126 (inRk rfl) ?_
      refine r_iload (pc := 127) dX12_add_127 rfl ?_
      refine r_imul (pc := 129) dX12_add_129 o17 ?_
      refine r_iaload (pc := 130) dX12_add_130 o18 ?_
      obtain ⟨o19, h⟩ := h
      refine r_imul (pc := 131) dX12_add_131 o19 ?_
      refine nmI (fun v20 e9 => ?_)
      replace h := h v20 e9
      refine r_aload_n (pc := 132) dX12_add_132 rfl rfl ?_
      refine r_iconst (pc := 133) dX12_add_133 (inRk rfl) ?_
      refine c_VI0N (M := mX12_add) (pc := 134) (As := [vi 0]) dX12_add_134 K_X12_root w_1377 ⟨by decide, by decide⟩ (Nat.le_of_ble_eq_true rfl) rfl rfl (ci := 12) rfl rfl (by decide) (okO_of (N := 42) (hL.sh (i := 0) rfl (by decide) (by decide)) (by decide)) (h hL) (fun r21 τ22 h8 hr9 => ?_) rfl
      replace hL := h8.1
      replace h := h8.2 hr9
      refine r_aload (pc := 137) dX12_add_137 rfl ?_
      refine r_iconst (pc := 139) dX12_add_139 (inRk rfl) ?_
      refine r_iload (pc := 140) dX12_add_140 rfl ?_
      refine r_imul (pc := 142) dX12_add_142 o17 ?_
      refine r_iconst (pc := 143) dX12_add_143 (inRk rfl) ?_
      obtain ⟨o23, h⟩ := h
      refine r_iadd (pc := 144) dX12_add_144 o23 ?_
      obtain ⟨o24, h⟩ := h
      refine r_iaload (pc := 145) dX12_add_145 o24 ?_
      obtain ⟨o25, h⟩ := h
      refine r_imul (pc := 146) dX12_add_146 o25 ?_
      refine r_aload (pc := 147) dX12_add_147 rfl ?_
      refine r_iconst (pc := 149) dX12_add_149 (inRk rfl) ?_
      refine r_iload (pc := 150) dX12_add_150 rfl ?_
      refine r_imul (pc := 152) dX12_add_152 o17 ?_
      refine r_iconst (pc := 153) dX12_add_153 (inRk rfl) ?_
      refine r_iadd (pc := 154) dX12_add_154 o23 ?_
      refine r_iaload (pc := 155) dX12_add_155 o24 ?_
      obtain ⟨o26, h⟩ := h
      refine r_imul (pc := 156) dX12_add_156 o26 ?_
      refine nmI (fun v27 e9 => ?_)
      replace h := h v27 e9
      obtain ⟨o28, h⟩ := h
      refine r_iadd (pc := 157) dX12_add_157 o28 ?_
      obtain ⟨o29, h⟩ := h
      refine r_iadd (pc := 158) dX12_add_158 o29 ?_
      refine r_istore (pc := 159) dX12_add_159 (by decide) (l2 := [some (vr 172), none, none, none, none, none, none, none, none, some (vr a9), some (vi x10), some (vi (x11 + (v20 + v27))), some (vi x12), some (vi x13)]) rfl ?_
      refine r_iload (pc := 161) dX12_add_161 rfl ?_
      refine r_iconst (pc := 163) dX12_add_163 (inRk rfl) ?_
      refine r_aload (pc := 164) dX12_add_164 rfl ?_
      refine r_iconst (pc := 166) dX12_add_166 (inRk rfl) ?_
      refine r_iload (pc := 167) dX12_add_167 rfl ?_
      refine r_imul (pc := 169) dX12_add_169 o17 ?_
      obtain ⟨o30, h⟩ := h
      refine r_iaload (pc := 170) dX12_add_170 o30 ?_
      obtain ⟨o31, h⟩ := h
      refine r_imul (pc := 171) dX12_add_171 o31 ?_
      refine r_aload (pc := 172) dX12_add_172 rfl ?_
      refine r_iconst (pc := 174) dX12_add_174 (inRk rfl) ?_
      refine r_iload (pc := 175) dX12_add_175 rfl ?_
      refine r_imul (pc := 177) dX12_add_177 o17 ?_
      refine r_iconst (pc := 178) dX12_add_178 (inRk rfl) ?_
      refine r_iadd (pc := 179) dX12_add_179 o23 ?_
      refine r_iaload (pc := 180) dX12_add_180 o24 ?_
      obtain ⟨o32, h⟩ := h
      refine r_imul (pc := 181) dX12_add_181 o32 ?_
      refine nmI (fun v33 e9 => ?_)
      replace h := h v33 e9
      obtain ⟨o34, h⟩ := h
      refine r_iadd (pc := 182) dX12_add_182 o34 ?_
      refine r_istore (pc := 183) dX12_add_183 (by decide) (l2 := [some (vr 172), none, none, none, none, none, none, none, none, some (vr a9), some (vi x10), some (vi (x11 + (v20 + v27))), some (vi (x12 + v33)), some (vi x13)]) rfl ?_
      obtain ⟨o35, h⟩ := h
      refine r_iinc (pc := 185) dX12_add_185 rfl (by decide) o35 (l2 := [some (vr 172), none, none, none, none, none, none, none, none, some (vr a9), some (vi x10), some (vi (x11 + (v20 + v27))), some (vi (x12 + v33)), some (vi (x13 + 1))]) rfl ?_
      refine r_goto (pc := 188) (tgt := 104) dX12_add_188 (by decide) ?_
      exact (h hL)
theorem B_X12_add_222 {g : Sg} {c t : Nat} (hL : Lay LM g c t σ) {a9 : Nat} (h : (((gI σ 176 1) ≠ 4 → (Lay LM g c t σ → CC E mX12_bad [vr 172, vi 0, vi 2, vi 2] σ (KI (fun r1 τ2 => Lay LM g c t τ2 ∧ (inR r1 → ((r1 = 0 → (Lay LM g c t τ2 → GG E mX12_add 253 [some (vr 172), none, none, none, none, none, none, none, none, some (vr a9), none, none, none, some (vi 0)] [] τ2 rc rs Q)) ∧ (¬ (r1 = 0) → (Lay LM g c t τ2 → GG E mX12_add 248 [none, none, none, none, none, none, none, none, none, none, none, none, none, none] [] τ2 rc rs Q))))) (fun _ _ => False)))) ∧ ((gI σ 176 1) = 4 → (Lay LM g c t σ → CC E mX12_bad [vr 172, vi 1, vi 2, vi 2] σ (KI (fun r3 τ4 => Lay LM g c t τ4 ∧ (inR r3 → ((r3 = 0 → (Lay LM g c t τ4 → GG E mX12_add 253 [some (vr 172), none, none, none, none, none, none, none, none, some (vr a9), none, none, none, some (vi 0)] [] τ4 rc rs Q)) ∧ (¬ (r3 = 0) → (Lay LM g c t τ4 → GG E mX12_add 248 [none, none, none, none, none, none, none, none, none, none, none, none, none, none] [] τ4 rc rs Q))))) (fun _ _ => False)))))) : GG E mX12_add 222 [some (vr 172), none, none, none, none, none, none, none, none, some (vr a9), none, none, none, none] [] σ rc rs Q := by
  refine r_aload_n (pc := 222) dX12_add_222 rfl rfl ?_
  refine r_aload_n (pc := 223) dX12_add_223 rfl rfl ?_
  refine r_getR (pc := 224) dX12_add_224 (k9 := 9) CL_12 (by decide) (by decide) w_1424 rfl (okO_of (N := 42) (hL.sh (i := 0) rfl (by decide) (by decide)) (by decide)) ?_
  refine eqR (y := 175) (hL.rf (i := 2) rfl) ?_
  refine r_iconst (pc := 227) dX12_add_227 (inRk rfl) ?_
  refine r_aaload (pc := 228) dX12_add_228 (okB_of (c := 24) (n := 10) (hL.sh (i := 3) rfl (by decide) (by decide)) (by decide) (by decide)) ?_
  refine eqR (y := 176) (hL.rx (i := 0) rfl (by decide)) ?_
  refine r_iconst (pc := 229) dX12_add_229 (inRk rfl) ?_
  refine r_iaload (pc := 230) dX12_add_230 (okA_of (c := 20) (n := 34) (hL.sh (i := 4) rfl (by decide) (by decide)) (by decide) (by decide)) ?_
  refine r_iconst (pc := 231) dX12_add_231 (inRk rfl) ?_
  refine r_icmp_ne (pc := 232) (tgt := 239) dX12_add_232 (by decide) (fun c9 => ?_) (fun c9 => ?_)
  · replace h := h.1 c9
    refine r_iconst (pc := 239) dX12_add_239 (inRk rfl) ?_
    refine r_iconst (pc := 240) dX12_add_240 (inRk rfl) ?_
    refine r_iconst (pc := 241) dX12_add_241 (inRk rfl) ?_
    refine c_VI0N (M := mX12_add) (pc := 242) (As := [vi 0, vi 2, vi 2]) dX12_add_242 K_X12_bad w_1562 ⟨by decide, by decide⟩ (Nat.le_of_ble_eq_true rfl) rfl rfl (ci := 12) rfl rfl (by decide) (okO_of (N := 42) (hL.sh (i := 0) rfl (by decide) (by decide)) (by decide)) (h hL) (fun r1 τ2 h8 hr9 => ?_) rfl
    replace hL := h8.1
    replace h := h8.2 hr9
    refine r_if_eq (pc := 245) (tgt := 250) dX12_add_245 (by decide) (fun c9 => ?_) (fun c9 => ?_)
    · replace h := h.1 c9
      refine r_iconst (pc := 250) dX12_add_250 (inRk rfl) ?_
      refine r_istore (pc := 251) dX12_add_251 (by decide) (l2 := [some (vr 172), none, none, none, none, none, none, none, none, some (vr a9), none, none, none, some (vi 0)]) rfl ?_
      exact (h hL)
    · replace h := h.2 c9
      exact GG.msk [false, false, false, false, false, false, false, false, false, false, false, false, false, false] (h hL)
  · replace h := h.2 c9
    refine r_iconst (pc := 235) dX12_add_235 (inRk rfl) ?_
    refine r_goto (pc := 236) (tgt := 240) dX12_add_236 (by decide) ?_
    refine r_iconst (pc := 240) dX12_add_240 (inRk rfl) ?_
    refine r_iconst (pc := 241) dX12_add_241 (inRk rfl) ?_
    refine c_VI0N (M := mX12_add) (pc := 242) (As := [vi 1, vi 2, vi 2]) dX12_add_242 K_X12_bad w_1562 ⟨by decide, by decide⟩ (Nat.le_of_ble_eq_true rfl) rfl rfl (ci := 12) rfl rfl (by decide) (okO_of (N := 42) (hL.sh (i := 0) rfl (by decide) (by decide)) (by decide)) (h hL) (fun r3 τ4 h8 hr9 => ?_) rfl
    replace hL := h8.1
    replace h := h8.2 hr9
    refine r_if_eq (pc := 245) (tgt := 250) dX12_add_245 (by decide) (fun c9 => ?_) (fun c9 => ?_)
    · replace h := h.1 c9
      refine r_iconst (pc := 250) dX12_add_250 (inRk rfl) ?_
      refine r_istore (pc := 251) dX12_add_251 (by decide) (l2 := [some (vr 172), none, none, none, none, none, none, none, none, some (vr a9), none, none, none, some (vi 0)]) rfl ?_
      exact (h hL)
    · replace h := h.2 c9
      exact GG.msk [false, false, false, false, false, false, false, false, false, false, false, false, false, false] (h hL)
theorem B_X12_add_248 {g : Sg} {c t : Nat} (hL : Lay LM g c t σ)  (h : (Lay LM g c t σ → Q (.inl (some (vi 0))) σ)) : GG E mX12_add 248 [none, none, none, none, none, none, none, none, none, none, none, none, none, none] [] σ rc rs Q := by
  refine r_iconst (pc := 248) dX12_add_248 (inRk rfl) ?_
  exact r_ireturn (pc := 249) (ty := .int) dX12_add_249 (by decide +kernel) rfl (nar_i _) (h hL)
theorem B_X12_add_253 {g : Sg} {c t : Nat} (hL : Lay LM g c t σ) {a9 : Nat} {x13 : Int} (h : ((8 ≤ x13 → inR ((gI σ 177 1) + 1) ∧ ∀ τ2 : Sg, τ2 = sI σ 177 1 ((gI σ 177 1) + 1) → (Lay LM g c t τ2 → CC E mX12_closes [vr 172, vi 1] τ2 (KI (fun r3 τ4 => Lay LM g c t τ4 ∧ (inR r3 → ((r3 ≠ 0 → (Lay LM g c t τ4 → CC E mX12_bad [vr 172, vi 0, vi 2, vi 2] τ4 (KI (fun r5 τ6 => Lay LM g c t τ6 ∧ (inR r5 → ((r5 = 0 → (Lay LM g c t τ6 → CC E mX12_remembers [vr 172] τ6 (KV (fun τ8 => Lay LM g c t τ8 ∧ (Lay LM g c t τ8 → CC E mX12_copies [vr 172, vi 1, vi 0] τ8 (KV (fun τ10 => Lay LM g c t τ10 ∧ (Lay LM g c t τ10 → CC E mX12_keepsGroup [vr 172] τ10 (KV (fun τ12 => Lay LM g c t τ12 ∧ (Lay LM g c t τ12 → Q (.inl (some (vi (gI τ12 172 15)))) τ12)) (fun _ _ => False)))) (fun _ _ => False)))) (fun _ _ => False)))) ∧ (¬ (r5 = 0) → (Lay LM g c t τ6 → Q (.inl (some (vi 0))) τ6))))) (fun _ _ => False)))) ∧ (r3 = 0 → (Lay LM g c t τ4 → CC E mX12_bad [vr 172, vi 1, vi 2, vi 2] τ4 (KI (fun r13 τ14 => Lay LM g c t τ14 ∧ (inR r13 → ((r13 = 0 → (Lay LM g c t τ14 → CC E mX12_remembers [vr 172] τ14 (KV (fun τ16 => Lay LM g c t τ16 ∧ (Lay LM g c t τ16 → CC E mX12_copies [vr 172, vi 1, vi 0] τ16 (KV (fun τ18 => Lay LM g c t τ18 ∧ (Lay LM g c t τ18 → CC E mX12_keepsGroup [vr 172] τ18 (KV (fun τ20 => Lay LM g c t τ20 ∧ (Lay LM g c t τ20 → Q (.inl (some (vi (gI τ20 172 15)))) τ20)) (fun _ _ => False)))) (fun _ _ => False)))) (fun _ _ => False)))) ∧ (¬ (r13 = 0) → (Lay LM g c t τ14 → Q (.inl (some (vi 0))) τ14))))) (fun _ _ => False))))))) (fun _ _ => False)))) ∧ (¬ (8 ≤ x13) → inR (8 * (gI σ 177 1)) ∧ inR (2 + (8 * (gI σ 177 1))) ∧ inR ((2 + (8 * (gI σ 177 1))) + x13) ∧ okA 20 σ a9 x13 ∧ (0 ≤ ((2 + (8 * (gI σ 177 1))) + x13) ∧ ((2 + (8 * (gI σ 177 1))) + x13) < 34) ∧ ∀ τ26 : Sg, τ26 = sI σ 177 ((2 + (8 * (gI σ 177 1))) + x13).toNat (gI σ a9 x13.toNat) → inR (x13 + 1) ∧ (Lay LM g c t τ26 → GG E mX12_add 253 [some (vr 172), none, none, none, none, none, none, none, none, some (vr a9), none, none, none, some (vi (x13 + 1))] [] τ26 rc rs Q)))) : GG E mX12_add 253 [some (vr 172), none, none, none, none, none, none, none, none, some (vr a9), none, none, none, some (vi x13)] [] σ rc rs Q := by
  refine r_iload (pc := 253) dX12_add_253 rfl ?_
  refine r_bipush (pc := 255) dX12_add_255 (by decide) ?_
  refine r_icmp_ge (pc := 257) (tgt := 294) dX12_add_257 (by decide) (fun c9 => ?_) (fun c9 => ?_)
  · replace h := h.1 c9
    refine r_aload_n (pc := 294) dX12_add_294 rfl rfl ?_
    refine r_getR (pc := 295) dX12_add_295 (k9 := 9) CL_12 (by decide) (by decide) w_1424 rfl (okO_of (N := 42) (hL.sh (i := 0) rfl (by decide) (by decide)) (by decide)) ?_
    refine eqR (y := 175) (hL.rf (i := 2) rfl) ?_
    refine r_iconst (pc := 298) dX12_add_298 (inRk rfl) ?_
    refine r_aaload (pc := 299) dX12_add_299 (okB_of (c := 24) (n := 10) (hL.sh (i := 3) rfl (by decide) (by decide)) (by decide) (by decide)) ?_
    refine eqR (y := 177) (hL.rx (i := 0) rfl (by decide)) ?_
    refine r_iconst (pc := 300) dX12_add_300 (inRk rfl) ?_
    refine r_dup2_11 (pc := 301) dX12_add_301 (fun _ h9 => nomatch h9) (fun _ h9 => nomatch h9) ?_
    refine r_iaload (pc := 302) dX12_add_302 (okA_of (c := 20) (n := 34) (hL.sh (i := 4) rfl (by decide) (by decide)) (by decide) (by decide)) ?_
    refine r_iconst (pc := 303) dX12_add_303 (inRk rfl) ?_
    obtain ⟨o1, h⟩ := h
    refine r_iadd (pc := 304) dX12_add_304 o1 ?_
    refine r_iastore (pc := 305) dX12_add_305 (okB_of (c := 20) (n := 34) (hL.sh (i := 4) rfl (by decide) (by decide)) (by decide) (by decide)) ?_
    refine nmS (fun τ2 e2 => ?_)
    replace h := h τ2 e2
    have hL := hL.wI e2 (by decide) (.inl (by decide))
    refine r_aload_n (pc := 306) dX12_add_306 rfl rfl ?_
    refine r_aload_n (pc := 307) dX12_add_307 rfl rfl ?_
    refine r_iconst (pc := 308) dX12_add_308 (inRk rfl) ?_
    refine c_VI0N (M := mX12_add) (pc := 309) (As := [vi 1]) dX12_add_309 K_X12_closes w_1373 ⟨by decide, by decide⟩ (Nat.le_of_ble_eq_true rfl) rfl rfl (ci := 12) rfl rfl (by decide) (okO_of (N := 42) (hL.sh (i := 0) rfl (by decide) (by decide)) (by decide)) (h hL) (fun r3 τ4 h8 hr9 => ?_) rfl
    replace hL := h8.1
    replace h := h8.2 hr9
    refine r_if_ne (pc := 312) (tgt := 319) dX12_add_312 (by decide) (fun c9 => ?_) (fun c9 => ?_)
    · replace h := h.1 c9
      refine r_iconst (pc := 319) dX12_add_319 (inRk rfl) ?_
      refine r_iconst (pc := 320) dX12_add_320 (inRk rfl) ?_
      refine r_iconst (pc := 321) dX12_add_321 (inRk rfl) ?_
      refine c_VI0N (M := mX12_add) (pc := 322) (As := [vi 0, vi 2, vi 2]) dX12_add_322 K_X12_bad w_1562 ⟨by decide, by decide⟩ (Nat.le_of_ble_eq_true rfl) rfl rfl (ci := 12) rfl rfl (by decide) (okO_of (N := 42) (hL.sh (i := 0) rfl (by decide) (by decide)) (by decide)) (h hL) (fun r5 τ6 h8 hr9 => ?_) rfl
      replace hL := h8.1
      replace h := h8.2 hr9
      refine r_if_eq (pc := 325) (tgt := 330) dX12_add_325 (by decide) (fun c9 => ?_) (fun c9 => ?_)
      · replace h := h.1 c9
        refine r_aload_n (pc := 330) dX12_add_330 rfl rfl ?_
        refine c_VV0N (M := mX12_add) (pc := 331) (As := []) dX12_add_331 K_X12_remembers w_1628 ⟨by decide, by decide⟩ (Nat.le_of_ble_eq_true rfl) rfl rfl (ci := 12) rfl rfl (by decide) (okO_of (N := 42) (hL.sh (i := 0) rfl (by decide) (by decide)) (by decide)) (h hL) (fun τ8 h8 => ?_) rfl
        replace hL := h8.1
        replace h := h8.2
        refine r_aload_n (pc := 334) dX12_add_334 rfl rfl ?_
        refine r_iconst (pc := 335) dX12_add_335 (inRk rfl) ?_
        refine r_iconst (pc := 336) dX12_add_336 (inRk rfl) ?_
        refine c_VV0N (M := mX12_add) (pc := 337) (As := [vi 1, vi 0]) dX12_add_337 K_X12_copies w_1616 ⟨by decide, by decide⟩ (Nat.le_of_ble_eq_true rfl) rfl rfl (ci := 12) rfl rfl (by decide) (okO_of (N := 42) (hL.sh (i := 0) rfl (by decide) (by decide)) (by decide)) (h hL) (fun τ10 h8 => ?_) rfl
        replace hL := h8.1
        replace h := h8.2
        refine r_aload_n (pc := 340) dX12_add_340 rfl rfl ?_
        refine c_VV0N (M := mX12_add) (pc := 341) (As := []) dX12_add_341 K_X12_keepsGroup w_1401 ⟨by decide, by decide⟩ (Nat.le_of_ble_eq_true rfl) rfl rfl (ci := 12) rfl rfl (by decide) (okO_of (N := 42) (hL.sh (i := 0) rfl (by decide) (by decide)) (by decide)) (h hL) (fun τ12 h8 => ?_) rfl
        replace hL := h8.1
        replace h := h8.2
        refine r_aload_n (pc := 344) dX12_add_344 rfl rfl ?_
        refine r_getI (pc := 345) dX12_add_345 (k9 := 15) CL_12 (by decide) (by decide) w_1430 rfl (okO_of (N := 42) (hL.sh (i := 0) rfl (by decide) (by decide)) (by decide)) (fun _ => ?_)
        exact r_ireturn (pc := 348) (ty := .int) dX12_add_348 (by decide +kernel) rfl (nar_i _) (h hL)
      · replace h := h.2 c9
        refine r_iconst (pc := 328) dX12_add_328 (inRk rfl) ?_
        exact r_ireturn (pc := 329) (ty := .int) dX12_add_329 (by decide +kernel) rfl (nar_i _) (h hL)
    · replace h := h.2 c9
      refine r_iconst (pc := 315) dX12_add_315 (inRk rfl) ?_
      refine r_goto (pc := 316) (tgt := 320) dX12_add_316 (by decide) ?_
      refine r_iconst (pc := 320) dX12_add_320 (inRk rfl) ?_
      refine r_iconst (pc := 321) dX12_add_321 (inRk rfl) ?_
      refine c_VI0N (M := mX12_add) (pc := 322) (As := [vi 1, vi 2, vi 2]) dX12_add_322 K_X12_bad w_1562 ⟨by decide, by decide⟩ (Nat.le_of_ble_eq_true rfl) rfl rfl (ci := 12) rfl rfl (by decide) (okO_of (N := 42) (hL.sh (i := 0) rfl (by decide) (by decide)) (by decide)) (h hL) (fun r13 τ14 h8 hr9 => ?_) rfl
      replace hL := h8.1
      replace h := h8.2 hr9
      refine r_if_eq (pc := 325) (tgt := 330) dX12_add_325 (by decide) (fun c9 => ?_) (fun c9 => ?_)
      · replace h := h.1 c9
        refine r_aload_n (pc := 330) dX12_add_330 rfl rfl ?_
        refine c_VV0N (M := mX12_add) (pc := 331) (As := []) dX12_add_331 K_X12_remembers w_1628 ⟨by decide, by decide⟩ (Nat.le_of_ble_eq_true rfl) rfl rfl (ci := 12) rfl rfl (by decide) (okO_of (N := 42) (hL.sh (i := 0) rfl (by decide) (by decide)) (by decide)) (h hL) (fun τ16 h8 => ?_) rfl
        replace hL := h8.1
        replace h := h8.2
        refine r_aload_n (pc := 334) dX12_add_334 rfl rfl ?_
        refine r_iconst (pc := 335) dX12_add_335 (inRk rfl) ?_
        refine r_iconst (pc := 336) dX12_add_336 (inRk rfl) ?_
        refine c_VV0N (M := mX12_add) (pc := 337) (As := [vi 1, vi 0]) dX12_add_337 K_X12_copies w_1616 ⟨by decide, by decide⟩ (Nat.le_of_ble_eq_true rfl) rfl rfl (ci := 12) rfl rfl (by decide) (okO_of (N := 42) (hL.sh (i := 0) rfl (by decide) (by decide)) (by decide)) (h hL) (fun τ18 h8 => ?_) rfl
        replace hL := h8.1
        replace h := h8.2
        refine r_aload_n (pc := 340) dX12_add_340 rfl rfl ?_
        refine c_VV0N (M := mX12_add) (pc := 341) (As := []) dX12_add_341 K_X12_keepsGroup w_1401 ⟨by decide, by decide⟩ (Nat.le_of_ble_eq_true rfl) rfl rfl (ci := 12) rfl rfl (by decide) (okO_of (N := 42) (hL.sh (i := 0) rfl (by decide) (by decide)) (by decide)) (h hL) (fun τ20 h8 => ?_) rfl
        replace hL := h8.1
        replace h := h8.2
        refine r_aload_n (pc := 344) dX12_add_344 rfl rfl ?_
        refine r_getI (pc := 345) dX12_add_345 (k9 := 15) CL_12 (by decide) (by decide) w_1430 rfl (okO_of (N := 42) (hL.sh (i := 0) rfl (by decide) (by decide)) (by decide)) (fun _ => ?_)
        exact r_ireturn (pc := 348) (ty := .int) dX12_add_348 (by decide +kernel) rfl (nar_i _) (h hL)
      · replace h := h.2 c9
        refine r_iconst (pc := 328) dX12_add_328 (inRk rfl) ?_
        exact r_ireturn (pc := 329) (ty := .int) dX12_add_329 (by decide +kernel) rfl (nar_i _) (h hL)
  · replace h := h.2 c9
    refine r_aload_n (pc := 260) dX12_add_260 rfl rfl ?_
    refine r_getR (pc := 261) dX12_add_261 (k9 := 9) CL_12 (by decide) (by decide) w_1424 rfl (okO_of (N := 42) (hL.sh (i := 0) rfl (by decide) (by decide)) (by decide)) ?_
    refine eqR (y := 175) (hL.rf (i := 2) rfl) ?_
    refine r_iconst (pc := 264) dX12_add_264 (inRk rfl) ?_
    refine r_aaload (pc := 265) dX12_add_265 (okB_of (c := 24) (n := 10) (hL.sh (i := 3) rfl (by decide) (by decide)) (by decide) (by decide)) ?_
    refine eqR (y := 177) (hL.rx (i := 0) rfl (by decide)) ?_
    refine r_iconst (pc := 266) dX12_add_266 (inRk rfl) ?_
    refine r_bipush (pc := 267) dX12_add_267 (by decide) ?_
    refine r_aload_n (pc := 269) dX12_add_269 rfl rfl ?_
    refine r_getR (pc := 270) dX12_add_270 (k9 := 9) CL_12 (by decide) (by decide) w_1424 rfl (okO_of (N := 42) (hL.sh (i := 0) rfl (by decide) (by decide)) (by decide)) ?_
    refine eqR (y := 175) (hL.rf (i := 2) rfl) ?_
    refine r_iconst (pc := 273) dX12_add_273 (inRk rfl) ?_
    refine r_aaload (pc := 274) dX12_add_274 (okB_of (c := 24) (n := 10) (hL.sh (i := 3) rfl (by decide) (by decide)) (by decide) (by decide)) ?_
    refine eqR (y := 177) (hL.rx (i := 0) rfl (by decide)) ?_
    refine r_iconst (pc := 275) dX12_add_275 (inRk rfl) ?_
    refine r_iaload (pc := 276) dX12_add_276 (okA_of (c := 20) (n := 34) (hL.sh (i := 4) rfl (by decide) (by decide)) (by decide) (by decide)) ?_
    obtain ⟨o21, h⟩ := h
    refine r_imul (pc := 277) dX12_add_277 o21 ?_
    obtain ⟨o22, h⟩ := h
    refine r_iadd (pc := 278) dX12_add_278 o22 ?_
    refine r_iload (pc := 279) dX12_add_279 rfl ?_
    obtain ⟨o23, h⟩ := h
    refine r_iadd (pc := 281) dX12_add_281 o23 ?_
    refine r_aload (pc := 282) dX12_add_282 rfl ?_
    refine r_iload (pc := 284) dX12_add_284 rfl ?_
    obtain ⟨o24, h⟩ := h
    refine r_iaload (pc := 286) dX12_add_286 o24 ?_
    obtain ⟨o25, h⟩ := h
    refine r_iastore (pc := 287) dX12_add_287 (okB_of (c := 20) (n := 34) (hL.sh (i := 4) rfl (by decide) (by decide)) (by decide) o25) ?_
    refine nmS (fun τ26 e26 => ?_)
    replace h := h τ26 e26
    have hL := hL.wI e26 (by decide) (.inl (by decide))
    obtain ⟨o27, h⟩ := h
    refine r_iinc (pc := 288) dX12_add_288 rfl (by decide) o27 (l2 := [some (vr 172), none, none, none, none, none, none, none, none, some (vr a9), none, none, none, some (vi (x13 + 1))]) rfl ?_
    refine r_goto (pc := 291) (tgt := 253) dX12_add_291 (by decide) ?_
    exact (h hL)
theorem C_X12_add {a0 : Nat} {x1 : Int} {x2 : Int} {x3 : Int} {x4 : Int} {x5 : Int} {x6 : Int} {x7 : Int} {x8 : Int} (h : GG E mX12_add 0 [some (vr a0), some (vi x1), some (vi x2), some (vi x3), some (vi x4), some (vi x5), some (vi x6), some (vi x7), some (vi x8), none, none, none, none, none] [] σ 1 8 Q) : CC E mX12_add [vr a0, vi x1, vi x2, vi x3, vi x4, vi x5, vi x6, vi x7, vi x8] σ Q := CC.of (by decide +kernel) rfl (by decide +kernel) (fun h9 => nomatch h9) (Nat.le_of_ble_eq_true rfl) h
theorem dX12_areAlike_0 : decode cX12_areAlike 0 = .ok (.iconst 0, 1) := by decide +kernel
theorem dX12_areAlike_1 : decode cX12_areAlike 1 = .ok (.istore_n 2, 1) := by decide +kernel
theorem dX12_areAlike_2 : decode cX12_areAlike 2 = .ok (.iload_n 2, 1) := by decide +kernel
theorem dX12_areAlike_3 : decode cX12_areAlike 3 = .ok (.bipush 8, 2) := by decide +kernel
theorem dX12_areAlike_5 : decode cX12_areAlike 5 = .ok (.if_icmp .ge 20, 3) := by decide +kernel
theorem dX12_areAlike_8 : decode cX12_areAlike 8 = .ok (.aload_n 0, 1) := by decide +kernel
theorem dX12_areAlike_9 : decode cX12_areAlike 9 = .ok (.iload_n 2, 1) := by decide +kernel
theorem dX12_areAlike_10 : decode cX12_areAlike 10 = .ok (.iaload, 1) := by decide +kernel
theorem dX12_areAlike_11 : decode cX12_areAlike 11 = .ok (.aload_n 1, 1) := by decide +kernel
theorem dX12_areAlike_12 : decode cX12_areAlike 12 = .ok (.iload_n 2, 1) := by decide +kernel
theorem dX12_areAlike_13 : decode cX12_areAlike 13 = .ok (.iaload, 1) := by decide +kernel
theorem dX12_areAlike_14 : decode cX12_areAlike 14 = .ok (.if_icmp .eq 5, 3) := by decide +kernel
theorem dX12_areAlike_17 : decode cX12_areAlike 17 = .ok (.iconst 0, 1) := by decide +kernel
theorem dX12_areAlike_18 : decode cX12_areAlike 18 = .ok (.ireturn, 1) := by decide +kernel
theorem dX12_areAlike_19 : decode cX12_areAlike 19 = .ok (.iinc 2 1, 3) := by decide +kernel
theorem dX12_areAlike_22 : decode cX12_areAlike 22 = .ok (.goto (-20), 3) := by decide +kernel
theorem dX12_areAlike_25 : decode cX12_areAlike 25 = .ok (.iconst 1, 1) := by decide +kernel
theorem dX12_areAlike_26 : decode cX12_areAlike 26 = .ok (.ireturn, 1) := by decide +kernel
theorem B_X12_areAlike_0 {a0 : Nat} {a1 : Nat} (h : GG E mX12_areAlike 2 [some (vr a0), some (vr a1), some (vi 0)] [] σ rc rs Q) : GG E mX12_areAlike 0 [some (vr a0), some (vr a1), none] [] σ rc rs Q := by
  refine r_iconst (pc := 0) dX12_areAlike_0 (inRk rfl) ?_
  refine r_istore_n (pc := 1) dX12_areAlike_1 rfl (by decide) (l2 := [some (vr a0), some (vr a1), some (vi 0)]) rfl ?_
  exact h
theorem B_X12_areAlike_2 {a0 : Nat} {a1 : Nat} {x2 : Int} (h : ((8 ≤ x2 → Q (.inl (some (vi 1))) σ) ∧ (¬ (8 ≤ x2) → okA 20 σ a0 x2 ∧ okA 20 σ a1 x2 ∧ (((gI σ a0 x2.toNat) = (gI σ a1 x2.toNat) → inR (x2 + 1) ∧ GG E mX12_areAlike 2 [some (vr a0), some (vr a1), some (vi (x2 + 1))] [] σ rc rs Q) ∧ (¬ ((gI σ a0 x2.toNat) = (gI σ a1 x2.toNat)) → Q (.inl (some (vi 0))) σ))))) : GG E mX12_areAlike 2 [some (vr a0), some (vr a1), some (vi x2)] [] σ rc rs Q := by
  refine r_iload_n (pc := 2) dX12_areAlike_2 rfl rfl ?_
  refine r_bipush (pc := 3) dX12_areAlike_3 (by decide) ?_
  refine r_icmp_ge (pc := 5) (tgt := 25) dX12_areAlike_5 (by decide) (fun c9 => ?_) (fun c9 => ?_)
  · replace h := h.1 c9
    refine r_iconst (pc := 25) dX12_areAlike_25 (inRk rfl) ?_
    exact r_ireturn (pc := 26) (ty := .boolean) dX12_areAlike_26 (by decide +kernel) rfl (nar_bool (by decide)) h
  · replace h := h.2 c9
    refine r_aload_n (pc := 8) dX12_areAlike_8 rfl rfl ?_
    refine r_iload_n (pc := 9) dX12_areAlike_9 rfl rfl ?_
    obtain ⟨o1, h⟩ := h
    refine r_iaload (pc := 10) dX12_areAlike_10 o1 ?_
    refine r_aload_n (pc := 11) dX12_areAlike_11 rfl rfl ?_
    refine r_iload_n (pc := 12) dX12_areAlike_12 rfl rfl ?_
    obtain ⟨o2, h⟩ := h
    refine r_iaload (pc := 13) dX12_areAlike_13 o2 ?_
    refine r_icmp_eq (pc := 14) (tgt := 19) dX12_areAlike_14 (by decide) (fun c9 => ?_) (fun c9 => ?_)
    · replace h := h.1 c9
      obtain ⟨o3, h⟩ := h
      refine r_iinc (pc := 19) dX12_areAlike_19 rfl (by decide) o3 (l2 := [some (vr a0), some (vr a1), some (vi (x2 + 1))]) rfl ?_
      refine r_goto (pc := 22) (tgt := 2) dX12_areAlike_22 (by decide) ?_
      exact h
    · replace h := h.2 c9
      refine r_iconst (pc := 17) dX12_areAlike_17 (inRk rfl) ?_
      exact r_ireturn (pc := 18) (ty := .boolean) dX12_areAlike_18 (by decide +kernel) rfl (nar_bool (by decide)) h
theorem C_X12_areAlike {a0 : Nat} {a1 : Nat} (h : GG E mX12_areAlike 0 [some (vr a0), some (vr a1), none] [] σ 0 0 Q) : CC E mX12_areAlike [vr a0, vr a1] σ Q := CC.of (by decide +kernel) rfl (by decide +kernel) (fun h9 => nomatch h9) (Nat.le_of_ble_eq_true rfl) h
theorem dX12_areParallel_0 : decode cX12_areParallel 0 = .ok (.aload_n 0, 1) := by decide +kernel
theorem dX12_areParallel_1 : decode cX12_areParallel 1 = .ok (.iconst 0, 1) := by decide +kernel
theorem dX12_areParallel_2 : decode cX12_areParallel 2 = .ok (.invokevirtual 195, 3) := by decide +kernel
theorem dX12_areParallel_5 : decode cX12_areParallel 5 = .ok (.istore_n 3, 1) := by decide +kernel
theorem dX12_areParallel_6 : decode cX12_areParallel 6 = .ok (.iconst 1, 1) := by decide +kernel
theorem dX12_areParallel_7 : decode cX12_areParallel 7 = .ok (.istore 4, 2) := by decide +kernel
theorem dX12_areParallel_9 : decode cX12_areParallel 9 = .ok (.iload 4, 2) := by decide +kernel
theorem dX12_areParallel_11 : decode cX12_areParallel 11 = .ok (.iconst 4, 1) := by decide +kernel
theorem dX12_areParallel_12 : decode cX12_areParallel 12 = .ok (.if_icmp .ge 193, 3) := by decide +kernel
theorem dX12_areParallel_15 : decode cX12_areParallel 15 = .ok (.iconst 1, 1) := by decide +kernel
theorem dX12_areParallel_16 : decode cX12_areParallel 16 = .ok (.istore 5, 2) := by decide +kernel
theorem dX12_areParallel_18 : decode cX12_areParallel 18 = .ok (.iload 5, 2) := by decide +kernel
theorem dX12_areParallel_20 : decode cX12_areParallel 20 = .ok (.iload 4, 2) := by decide +kernel
theorem dX12_areParallel_22 : decode cX12_areParallel 22 = .ok (.if_icmp .ge 177, 3) := by decide +kernel
theorem dX12_areParallel_25 : decode cX12_areParallel 25 = .ok (.aload_n 0, 1) := by decide +kernel
theorem dX12_areParallel_26 : decode cX12_areParallel 26 = .ok (.getfield 34, 3) := by decide +kernel
theorem dX12_areParallel_29 : decode cX12_areParallel 29 = .ok (.iload_n 1, 1) := by decide +kernel
theorem dX12_areParallel_30 : decode cX12_areParallel 30 = .ok (.aaload, 1) := by decide +kernel
theorem dX12_areParallel_31 : decode cX12_areParallel 31 = .ok (.iconst 2, 1) := by decide +kernel
theorem dX12_areParallel_32 : decode cX12_areParallel 32 = .ok (.iload 4, 2) := by decide +kernel
theorem dX12_areParallel_34 : decode cX12_areParallel 34 = .ok (.imul, 1) := by decide +kernel
theorem dX12_areParallel_35 : decode cX12_areParallel 35 = .ok (.iaload, 1) := by decide +kernel
theorem dX12_areParallel_36 : decode cX12_areParallel 36 = .ok (.istore 6, 2) := by decide +kernel
theorem dX12_areParallel_38 : decode cX12_areParallel 38 = .ok (.aload_n 0, 1) := by decide +kernel
theorem dX12_areParallel_39 : decode cX12_areParallel 39 = .ok (.getfield 34, 3) := by decide +kernel
theorem dX12_areParallel_42 : decode cX12_areParallel 42 = .ok (.iload_n 1, 1) := by decide +kernel
theorem dX12_areParallel_43 : decode cX12_areParallel 43 = .ok (.aaload, 1) := by decide +kernel
theorem dX12_areParallel_44 : decode cX12_areParallel 44 = .ok (.iconst 2, 1) := by decide +kernel
theorem dX12_areParallel_45 : decode cX12_areParallel 45 = .ok (.iload 4, 2) := by decide +kernel
theorem dX12_areParallel_47 : decode cX12_areParallel 47 = .ok (.imul, 1) := by decide +kernel
theorem dX12_areParallel_48 : decode cX12_areParallel 48 = .ok (.iconst 1, 1) := by decide +kernel
theorem dX12_areParallel_49 : decode cX12_areParallel 49 = .ok (.iadd, 1) := by decide +kernel
theorem dX12_areParallel_50 : decode cX12_areParallel 50 = .ok (.iaload, 1) := by decide +kernel
theorem dX12_areParallel_51 : decode cX12_areParallel 51 = .ok (.istore 7, 2) := by decide +kernel
theorem dX12_areParallel_53 : decode cX12_areParallel 53 = .ok (.aload_n 0, 1) := by decide +kernel
theorem dX12_areParallel_54 : decode cX12_areParallel 54 = .ok (.getfield 34, 3) := by decide +kernel
theorem dX12_areParallel_57 : decode cX12_areParallel 57 = .ok (.iload_n 2, 1) := by decide +kernel
theorem dX12_areParallel_58 : decode cX12_areParallel 58 = .ok (.aaload, 1) := by decide +kernel
theorem dX12_areParallel_59 : decode cX12_areParallel 59 = .ok (.iconst 2, 1) := by decide +kernel
theorem dX12_areParallel_60 : decode cX12_areParallel 60 = .ok (.iload 5, 2) := by decide +kernel
theorem dX12_areParallel_62 : decode cX12_areParallel 62 = .ok (.imul, 1) := by decide +kernel
theorem dX12_areParallel_63 : decode cX12_areParallel 63 = .ok (.iaload, 1) := by decide +kernel
theorem dX12_areParallel_64 : decode cX12_areParallel 64 = .ok (.istore 8, 2) := by decide +kernel
theorem dX12_areParallel_66 : decode cX12_areParallel 66 = .ok (.aload_n 0, 1) := by decide +kernel
theorem dX12_areParallel_67 : decode cX12_areParallel 67 = .ok (.getfield 34, 3) := by decide +kernel
theorem dX12_areParallel_70 : decode cX12_areParallel 70 = .ok (.iload_n 2, 1) := by decide +kernel
theorem dX12_areParallel_71 : decode cX12_areParallel 71 = .ok (.aaload, 1) := by decide +kernel
theorem dX12_areParallel_72 : decode cX12_areParallel 72 = .ok (.iconst 2, 1) := by decide +kernel
theorem dX12_areParallel_73 : decode cX12_areParallel 73 = .ok (.iload 5, 2) := by decide +kernel
theorem dX12_areParallel_75 : decode cX12_areParallel 75 = .ok (.imul, 1) := by decide +kernel
theorem dX12_areParallel_76 : decode cX12_areParallel 76 = .ok (.iconst 1, 1) := by decide +kernel
theorem dX12_areParallel_77 : decode cX12_areParallel 77 = .ok (.iadd, 1) := by decide +kernel
theorem dX12_areParallel_78 : decode cX12_areParallel 78 = .ok (.iaload, 1) := by decide +kernel
theorem dX12_areParallel_79 : decode cX12_areParallel 79 = .ok (.istore 9, 2) := by decide +kernel
theorem dX12_areParallel_81 : decode cX12_areParallel 81 = .ok (.aload_n 0, 1) := by decide +kernel
theorem dX12_areParallel_82 : decode cX12_areParallel 82 = .ok (.getfield 34, 3) := by decide +kernel
theorem dX12_areParallel_85 : decode cX12_areParallel 85 = .ok (.iload_n 1, 1) := by decide +kernel
theorem dX12_areParallel_86 : decode cX12_areParallel 86 = .ok (.aaload, 1) := by decide +kernel
theorem dX12_areParallel_87 : decode cX12_areParallel 87 = .ok (.iconst 2, 1) := by decide +kernel
theorem dX12_areParallel_88 : decode cX12_areParallel 88 = .ok (.iload 5, 2) := by decide +kernel
theorem dX12_areParallel_90 : decode cX12_areParallel 90 = .ok (.imul, 1) := by decide +kernel
theorem dX12_areParallel_91 : decode cX12_areParallel 91 = .ok (.iaload, 1) := by decide +kernel
theorem dX12_areParallel_92 : decode cX12_areParallel 92 = .ok (.istore 10, 2) := by decide +kernel
theorem dX12_areParallel_94 : decode cX12_areParallel 94 = .ok (.aload_n 0, 1) := by decide +kernel
theorem dX12_areParallel_95 : decode cX12_areParallel 95 = .ok (.getfield 34, 3) := by decide +kernel
theorem dX12_areParallel_98 : decode cX12_areParallel 98 = .ok (.iload_n 1, 1) := by decide +kernel
theorem dX12_areParallel_99 : decode cX12_areParallel 99 = .ok (.aaload, 1) := by decide +kernel
theorem dX12_areParallel_100 : decode cX12_areParallel 100 = .ok (.iconst 2, 1) := by decide +kernel
theorem dX12_areParallel_101 : decode cX12_areParallel 101 = .ok (.iload 5, 2) := by decide +kernel
theorem dX12_areParallel_103 : decode cX12_areParallel 103 = .ok (.imul, 1) := by decide +kernel
theorem dX12_areParallel_104 : decode cX12_areParallel 104 = .ok (.iconst 1, 1) := by decide +kernel
theorem dX12_areParallel_105 : decode cX12_areParallel 105 = .ok (.iadd, 1) := by decide +kernel
theorem dX12_areParallel_106 : decode cX12_areParallel 106 = .ok (.iaload, 1) := by decide +kernel
theorem dX12_areParallel_107 : decode cX12_areParallel 107 = .ok (.istore 11, 2) := by decide +kernel
theorem dX12_areParallel_109 : decode cX12_areParallel 109 = .ok (.aload_n 0, 1) := by decide +kernel
theorem dX12_areParallel_110 : decode cX12_areParallel 110 = .ok (.getfield 34, 3) := by decide +kernel
theorem dX12_areParallel_113 : decode cX12_areParallel 113 = .ok (.iload_n 2, 1) := by decide +kernel
theorem dX12_areParallel_114 : decode cX12_areParallel 114 = .ok (.aaload, 1) := by decide +kernel
theorem dX12_areParallel_115 : decode cX12_areParallel 115 = .ok (.iconst 2, 1) := by decide +kernel
theorem dX12_areParallel_116 : decode cX12_areParallel 116 = .ok (.iload 4, 2) := by decide +kernel
theorem dX12_areParallel_118 : decode cX12_areParallel 118 = .ok (.imul, 1) := by decide +kernel
theorem dX12_areParallel_119 : decode cX12_areParallel 119 = .ok (.iaload, 1) := by decide +kernel
theorem dX12_areParallel_120 : decode cX12_areParallel 120 = .ok (.istore 12, 2) := by decide +kernel
theorem dX12_areParallel_122 : decode cX12_areParallel 122 = .ok (.aload_n 0, 1) := by decide +kernel
theorem dX12_areParallel_123 : decode cX12_areParallel 123 = .ok (.getfield 34, 3) := by decide +kernel
theorem dX12_areParallel_126 : decode cX12_areParallel 126 = .ok (.iload_n 2, 1) := by decide +kernel
theorem dX12_areParallel_127 : decode cX12_areParallel 127 = .ok (.aaload, 1) := by decide +kernel
theorem dX12_areParallel_128 : decode cX12_areParallel 128 = .ok (.iconst 2, 1) := by decide +kernel
theorem dX12_areParallel_129 : decode cX12_areParallel 129 = .ok (.iload 4, 2) := by decide +kernel
theorem dX12_areParallel_131 : decode cX12_areParallel 131 = .ok (.imul, 1) := by decide +kernel
theorem dX12_areParallel_132 : decode cX12_areParallel 132 = .ok (.iconst 1, 1) := by decide +kernel
theorem dX12_areParallel_133 : decode cX12_areParallel 133 = .ok (.iadd, 1) := by decide +kernel
theorem dX12_areParallel_134 : decode cX12_areParallel 134 = .ok (.iaload, 1) := by decide +kernel
theorem dX12_areParallel_135 : decode cX12_areParallel 135 = .ok (.istore 13, 2) := by decide +kernel
theorem dX12_areParallel_137 : decode cX12_areParallel 137 = .ok (.iload 6, 2) := by decide +kernel
theorem dX12_areParallel_139 : decode cX12_areParallel 139 = .ok (.iload 8, 2) := by decide +kernel
theorem dX12_areParallel_141 : decode cX12_areParallel 141 = .ok (.imul, 1) := by decide +kernel
theorem dX12_areParallel_142 : decode cX12_areParallel 142 = .ok (.iload_n 3, 1) := by decide +kernel
theorem dX12_areParallel_143 : decode cX12_areParallel 143 = .ok (.iload 7, 2) := by decide +kernel
theorem dX12_areParallel_145 : decode cX12_areParallel 145 = .ok (.imul, 1) := by decide +kernel
theorem dX12_areParallel_146 : decode cX12_areParallel 146 = .ok (.iload 9, 2) := by decide +kernel
theorem dX12_areParallel_148 : decode cX12_areParallel 148 = .ok (.imul, 1) := by decide +kernel
theorem dX12_areParallel_149 : decode cX12_areParallel 149 = .ok (.iadd, 1) := by decide +kernel
theorem dX12_areParallel_150 : decode cX12_areParallel 150 = .ok (.iload 10, 2) := by decide +kernel
theorem dX12_areParallel_152 : decode cX12_areParallel 152 = .ok (.iload 12, 2) := by decide +kernel
theorem dX12_areParallel_154 : decode cX12_areParallel 154 = .ok (.imul, 1) := by decide +kernel
theorem dX12_areParallel_155 : decode cX12_areParallel 155 = .ok (.iload_n 3, 1) := by decide +kernel
theorem dX12_areParallel_156 : decode cX12_areParallel 156 = .ok (.iload 11, 2) := by decide +kernel
theorem dX12_areParallel_158 : decode cX12_areParallel 158 = .ok (.imul, 1) := by decide +kernel
theorem dX12_areParallel_159 : decode cX12_areParallel 159 = .ok (.iload 13, 2) := by decide +kernel
theorem dX12_areParallel_161 : decode cX12_areParallel 161 = .ok (.imul, 1) := by decide +kernel
theorem dX12_areParallel_162 : decode cX12_areParallel 162 = .ok (.iadd, 1) := by decide +kernel
theorem dX12_areParallel_163 : decode cX12_areParallel 163 = .ok (.if_icmp .ne 28, 3) := by decide +kernel
theorem dX12_areParallel_166 : decode cX12_areParallel 166 = .ok (.iload 6, 2) := by decide +kernel
theorem dX12_areParallel_168 : decode cX12_areParallel 168 = .ok (.iload 9, 2) := by decide +kernel
theorem dX12_areParallel_170 : decode cX12_areParallel 170 = .ok (.imul, 1) := by decide +kernel
theorem dX12_areParallel_171 : decode cX12_areParallel 171 = .ok (.iload 7, 2) := by decide +kernel
theorem dX12_areParallel_173 : decode cX12_areParallel 173 = .ok (.iload 8, 2) := by decide +kernel
theorem dX12_areParallel_175 : decode cX12_areParallel 175 = .ok (.imul, 1) := by decide +kernel
theorem dX12_areParallel_176 : decode cX12_areParallel 176 = .ok (.iadd, 1) := by decide +kernel
theorem dX12_areParallel_177 : decode cX12_areParallel 177 = .ok (.iload 10, 2) := by decide +kernel
theorem dX12_areParallel_179 : decode cX12_areParallel 179 = .ok (.iload 13, 2) := by decide +kernel
theorem dX12_areParallel_181 : decode cX12_areParallel 181 = .ok (.imul, 1) := by decide +kernel
theorem dX12_areParallel_182 : decode cX12_areParallel 182 = .ok (.iload 11, 2) := by decide +kernel
theorem dX12_areParallel_184 : decode cX12_areParallel 184 = .ok (.iload 12, 2) := by decide +kernel
theorem dX12_areParallel_186 : decode cX12_areParallel 186 = .ok (.imul, 1) := by decide +kernel
theorem dX12_areParallel_187 : decode cX12_areParallel 187 = .ok (.iadd, 1) := by decide +kernel
theorem dX12_areParallel_188 : decode cX12_areParallel 188 = .ok (.if_icmp .eq 5, 3) := by decide +kernel
theorem dX12_areParallel_191 : decode cX12_areParallel 191 = .ok (.iconst 0, 1) := by decide +kernel
theorem dX12_areParallel_192 : decode cX12_areParallel 192 = .ok (.ireturn, 1) := by decide +kernel
theorem dX12_areParallel_193 : decode cX12_areParallel 193 = .ok (.iinc 5 1, 3) := by decide +kernel
theorem dX12_areParallel_196 : decode cX12_areParallel 196 = .ok (.goto (-178), 3) := by decide +kernel
theorem dX12_areParallel_199 : decode cX12_areParallel 199 = .ok (.iinc 4 1, 3) := by decide +kernel
theorem dX12_areParallel_202 : decode cX12_areParallel 202 = .ok (.goto (-193), 3) := by decide +kernel
theorem dX12_areParallel_205 : decode cX12_areParallel 205 = .ok (.iconst 1, 1) := by decide +kernel
theorem dX12_areParallel_206 : decode cX12_areParallel 206 = .ok (.ireturn, 1) := by decide +kernel
theorem B_X12_areParallel_0 {g : Sg} {c t : Nat} (hL : Lay LM g c t σ) {x1 : Int} {x2 : Int} (h : (Lay LM g c t σ → CC E mX12_root [vr 172, vi 0] σ (KI (fun r1 τ2 => Lay LM g c t τ2 ∧ (inR r1 → (Lay LM g c t τ2 → GG E mX12_areParallel 9 [some (vr 172), some (vi x1), some (vi x2), some (vi r1), some (vi 1), none, none, none, none, none, none, none, none, none] [] τ2 rc rs Q))) (fun _ _ => False)))) : GG E mX12_areParallel 0 [some (vr 172), some (vi x1), some (vi x2), none, none, none, none, none, none, none, none, none, none, none] [] σ rc rs Q := by
  refine r_aload_n (pc := 0) dX12_areParallel_0 rfl rfl ?_
  refine r_iconst (pc := 1) dX12_areParallel_1 (inRk rfl) ?_
  refine c_VI0N (M := mX12_areParallel) (pc := 2) (As := [vi 0]) dX12_areParallel_2 K_X12_root w_1377 ⟨by decide, by decide⟩ (Nat.le_of_ble_eq_true rfl) rfl rfl (ci := 12) rfl rfl (by decide) (okO_of (N := 42) (hL.sh (i := 0) rfl (by decide) (by decide)) (by decide)) (h hL) (fun r1 τ2 h8 hr9 => ?_) rfl
  replace hL := h8.1
  replace h := h8.2 hr9
  refine r_istore_n (pc := 5) dX12_areParallel_5 rfl (by decide) (l2 := [some (vr 172), some (vi x1), some (vi x2), some (vi r1), none, none, none, none, none, none, none, none, none, none]) rfl ?_
  refine r_iconst (pc := 6) dX12_areParallel_6 (inRk rfl) ?_
  refine r_istore (pc := 7) dX12_areParallel_7 (by decide) (l2 := [some (vr 172), some (vi x1), some (vi x2), some (vi r1), some (vi 1), none, none, none, none, none, none, none, none, none]) rfl ?_
  exact (h hL)
theorem B_X12_areParallel_9 {g : Sg} {c t : Nat} (hL : Lay LM g c t σ) {x1 : Int} {x2 : Int} {x3 : Int} {x4 : Int} (h : ((4 ≤ x4 → (Lay LM g c t σ → Q (.inl (some (vi 1))) σ)) ∧ (¬ (4 ≤ x4) → (Lay LM g c t σ → GG E mX12_areParallel 18 [some (vr 172), some (vi x1), some (vi x2), some (vi x3), some (vi x4), some (vi 1), none, none, none, none, none, none, none, none] [] σ rc rs Q)))) : GG E mX12_areParallel 9 [some (vr 172), some (vi x1), some (vi x2), some (vi x3), some (vi x4), none, none, none, none, none, none, none, none, none] [] σ rc rs Q := by
  refine r_iload (pc := 9) dX12_areParallel_9 rfl ?_
  refine r_iconst (pc := 11) dX12_areParallel_11 (inRk rfl) ?_
  refine r_icmp_ge (pc := 12) (tgt := 205) dX12_areParallel_12 (by decide) (fun c9 => ?_) (fun c9 => ?_)
  · replace h := h.1 c9
    refine r_iconst (pc := 205) dX12_areParallel_205 (inRk rfl) ?_
    exact r_ireturn (pc := 206) (ty := .boolean) dX12_areParallel_206 (by decide +kernel) rfl (nar_bool (by decide)) (h hL)
  · replace h := h.2 c9
    refine r_iconst (pc := 15) dX12_areParallel_15 (inRk rfl) ?_
    refine r_istore (pc := 16) dX12_areParallel_16 (by decide) (l2 := [some (vr 172), some (vi x1), some (vi x2), some (vi x3), some (vi x4), some (vi 1), none, none, none, none, none, none, none, none]) rfl ?_
    exact (h hL)
theorem B_X12_areParallel_18 {g : Sg} {c t : Nat} (hL : Lay LM g c t σ) {x1 : Int} {x2 : Int} {x3 : Int} {x4 : Int} {x5 : Int} (h : ((x4 ≤ x5 → inR (x4 + 1) ∧ (Lay LM g c t σ → GG E mX12_areParallel 9 [some (vr 172), some (vi x1), some (vi x2), some (vi x3), some (vi (x4 + 1)), none, none, none, none, none, none, none, none, none] [] σ rc rs Q)) ∧ (¬ (x4 ≤ x5) → (0 ≤ x1 ∧ x1 < 120) ∧ inR (2 * x4) ∧ (0 ≤ (2 * x4) ∧ (2 * x4) < 8) ∧ inR ((2 * x4) + 1) ∧ (0 ≤ ((2 * x4) + 1) ∧ ((2 * x4) + 1) < 8) ∧ (0 ≤ x2 ∧ x2 < 120) ∧ inR (2 * x5) ∧ (0 ≤ (2 * x5) ∧ (2 * x5) < 8) ∧ inR ((2 * x5) + 1) ∧ (0 ≤ ((2 * x5) + 1) ∧ ((2 * x5) + 1) < 8) ∧ inR ((gI σ (310 + x1.toNat) (2 * x4).toNat) * (gI σ (310 + x2.toNat) (2 * x5).toNat)) ∧ ∀ v21 : Int, v21 = (gI σ (310 + x1.toNat) (2 * x4).toNat) * (gI σ (310 + x2.toNat) (2 * x5).toNat) → inR (x3 * (gI σ (310 + x1.toNat) ((2 * x4) + 1).toNat)) ∧ ∀ v23 : Int, v23 = x3 * (gI σ (310 + x1.toNat) ((2 * x4) + 1).toNat) → inR (v23 * (gI σ (310 + x2.toNat) ((2 * x5) + 1).toNat)) ∧ ∀ v25 : Int, v25 = v23 * (gI σ (310 + x2.toNat) ((2 * x5) + 1).toNat) → inR (v21 + v25) ∧ inR ((gI σ (310 + x1.toNat) (2 * x5).toNat) * (gI σ (310 + x2.toNat) (2 * x4).toNat)) ∧ ∀ v28 : Int, v28 = (gI σ (310 + x1.toNat) (2 * x5).toNat) * (gI σ (310 + x2.toNat) (2 * x4).toNat) → inR (x3 * (gI σ (310 + x1.toNat) ((2 * x5) + 1).toNat)) ∧ ∀ v30 : Int, v30 = x3 * (gI σ (310 + x1.toNat) ((2 * x5) + 1).toNat) → inR (v30 * (gI σ (310 + x2.toNat) ((2 * x4) + 1).toNat)) ∧ ∀ v32 : Int, v32 = v30 * (gI σ (310 + x2.toNat) ((2 * x4) + 1).toNat) → inR (v28 + v32) ∧ (((v21 + v25) ≠ (v28 + v32) → (Lay LM g c t σ → Q (.inl (some (vi 0))) σ)) ∧ ((v21 + v25) = (v28 + v32) → inR ((gI σ (310 + x1.toNat) (2 * x4).toNat) * (gI σ (310 + x2.toNat) ((2 * x5) + 1).toNat)) ∧ ∀ v35 : Int, v35 = (gI σ (310 + x1.toNat) (2 * x4).toNat) * (gI σ (310 + x2.toNat) ((2 * x5) + 1).toNat) → inR ((gI σ (310 + x1.toNat) ((2 * x4) + 1).toNat) * (gI σ (310 + x2.toNat) (2 * x5).toNat)) ∧ ∀ v37 : Int, v37 = (gI σ (310 + x1.toNat) ((2 * x4) + 1).toNat) * (gI σ (310 + x2.toNat) (2 * x5).toNat) → inR (v35 + v37) ∧ inR ((gI σ (310 + x1.toNat) (2 * x5).toNat) * (gI σ (310 + x2.toNat) ((2 * x4) + 1).toNat)) ∧ ∀ v40 : Int, v40 = (gI σ (310 + x1.toNat) (2 * x5).toNat) * (gI σ (310 + x2.toNat) ((2 * x4) + 1).toNat) → inR ((gI σ (310 + x1.toNat) ((2 * x5) + 1).toNat) * (gI σ (310 + x2.toNat) (2 * x4).toNat)) ∧ ∀ v42 : Int, v42 = (gI σ (310 + x1.toNat) ((2 * x5) + 1).toNat) * (gI σ (310 + x2.toNat) (2 * x4).toNat) → inR (v40 + v42) ∧ (((v35 + v37) = (v40 + v42) → inR (x5 + 1) ∧ (Lay LM g c t σ → GG E mX12_areParallel 18 [some (vr 172), some (vi x1), some (vi x2), some (vi x3), some (vi x4), some (vi (x5 + 1)), none, none, none, none, none, none, none, none] [] σ rc rs Q)) ∧ (¬ ((v35 + v37) = (v40 + v42)) → (Lay LM g c t σ → Q (.inl (some (vi 0))) σ)))))))) : GG E mX12_areParallel 18 [some (vr 172), some (vi x1), some (vi x2), some (vi x3), some (vi x4), some (vi x5), none, none, none, none, none, none, none, none] [] σ rc rs Q := by
  refine r_iload (pc := 18) dX12_areParallel_18 rfl ?_
  refine r_iload (pc := 20) dX12_areParallel_20 rfl ?_
  refine r_icmp_ge (pc := 22) (tgt := 199) dX12_areParallel_22 (by decide) (fun c9 => ?_) (fun c9 => ?_)
  · replace h := h.1 c9
    obtain ⟨o1, h⟩ := h
    refine r_iinc (pc := 199) dX12_areParallel_199 rfl (by decide) o1 (l2 := [some (vr 172), some (vi x1), some (vi x2), some (vi x3), some (vi (x4 + 1)), some (vi x5), none, none, none, none, none, none, none, none]) rfl ?_
    refine r_goto (pc := 202) (tgt := 9) dX12_areParallel_202 (by decide) ?_
    exact GG.msk [true, true, true, true, true, false, false, false, false, false, false, false, false, false] (h hL)
  · replace h := h.2 c9
    refine r_aload_n (pc := 25) dX12_areParallel_25 rfl rfl ?_
    refine r_getR (pc := 26) dX12_areParallel_26 (k9 := 20) CL_12 (by decide) (by decide) w_1435 rfl (okO_of (N := 42) (hL.sh (i := 0) rfl (by decide) (by decide)) (by decide)) ?_
    refine eqR (y := 309) (hL.rf (i := 6) rfl) ?_
    refine r_iload_n (pc := 29) dX12_areParallel_29 rfl rfl ?_
    obtain ⟨o2, h⟩ := h
    refine r_aaload (pc := 30) dX12_areParallel_30 (okB_of (c := 24) (n := 120) (hL.sh (i := 9) rfl (by decide) (by decide)) (by decide) o2) ?_
    have q3 : 310 ≤ 310 + x1.toNat ∧ 310 + x1.toNat < 430 := ⟨Nat.le_add_right _ _, rowB o2 (by decide)⟩
    refine eqR (y := 310 + x1.toNat) (hL.rx (i := 2) rfl (rowC o2 (by decide))) ?_
    refine r_iconst (pc := 31) dX12_areParallel_31 (inRk rfl) ?_
    refine r_iload (pc := 32) dX12_areParallel_32 rfl ?_
    obtain ⟨o4, h⟩ := h
    refine r_imul (pc := 34) dX12_areParallel_34 o4 ?_
    obtain ⟨o5, h⟩ := h
    refine r_iaload (pc := 35) dX12_areParallel_35 (okA_of (c := 20) (n := 8) (hL.sh (i := 10) rfl q3.1 q3.2) (Nat.le_trans (by decide) q3.1) o5) ?_
    refine r_istore (pc := 36) dX12_areParallel_36 (by decide) (l2 := [some (vr 172), some (vi x1), some (vi x2), some (vi x3), some (vi x4), some (vi x5), some (vi (gI σ (310 + x1.toNat) (2 * x4).toNat)), none, none, none, none, none, none, none]) rfl ?_
    refine r_aload_n (pc := 38) dX12_areParallel_38 rfl rfl ?_
    refine r_getR (pc := 39) dX12_areParallel_39 (k9 := 20) CL_12 (by decide) (by decide) w_1435 rfl (okO_of (N := 42) (hL.sh (i := 0) rfl (by decide) (by decide)) (by decide)) ?_
    refine eqR (y := 309) (hL.rf (i := 6) rfl) ?_
    refine r_iload_n (pc := 42) dX12_areParallel_42 rfl rfl ?_
    refine r_aaload (pc := 43) dX12_areParallel_43 (okB_of (c := 24) (n := 120) (hL.sh (i := 9) rfl (by decide) (by decide)) (by decide) o2) ?_
    have q6 : 310 ≤ 310 + x1.toNat ∧ 310 + x1.toNat < 430 := ⟨Nat.le_add_right _ _, rowB o2 (by decide)⟩
    refine eqR (y := 310 + x1.toNat) (hL.rx (i := 2) rfl (rowC o2 (by decide))) ?_
    refine r_iconst (pc := 44) dX12_areParallel_44 (inRk rfl) ?_
    refine r_iload (pc := 45) dX12_areParallel_45 rfl ?_
    refine r_imul (pc := 47) dX12_areParallel_47 o4 ?_
    refine r_iconst (pc := 48) dX12_areParallel_48 (inRk rfl) ?_
    obtain ⟨o7, h⟩ := h
    refine r_iadd (pc := 49) dX12_areParallel_49 o7 ?_
    obtain ⟨o8, h⟩ := h
    refine r_iaload (pc := 50) dX12_areParallel_50 (okA_of (c := 20) (n := 8) (hL.sh (i := 10) rfl q6.1 q6.2) (Nat.le_trans (by decide) q6.1) o8) ?_
    refine r_istore (pc := 51) dX12_areParallel_51 (by decide) (l2 := [some (vr 172), some (vi x1), some (vi x2), some (vi x3), some (vi x4), some (vi x5), some (vi (gI σ (310 + x1.toNat) (2 * x4).toNat)), some (vi (gI σ (310 + x1.toNat) ((2 * x4) + 1).toNat)), none, none, none, none, none, none]) rfl ?_
    refine r_aload_n (pc := 53) dX12_areParallel_53 rfl rfl ?_
    refine r_getR (pc := 54) dX12_areParallel_54 (k9 := 20) CL_12 (by decide) (by decide) w_1435 rfl (okO_of (N := 42) (hL.sh (i := 0) rfl (by decide) (by decide)) (by decide)) ?_
    refine eqR (y := 309) (hL.rf (i := 6) rfl) ?_
    refine r_iload_n (pc := 57) dX12_areParallel_57 rfl rfl ?_
    obtain ⟨o9, h⟩ := h
    refine r_aaload (pc := 58) dX12_areParallel_58 (okB_of (c := 24) (n := 120) (hL.sh (i := 9) rfl (by decide) (by decide)) (by decide) o9) ?_
    have q10 : 310 ≤ 310 + x2.toNat ∧ 310 + x2.toNat < 430 := ⟨Nat.le_add_right _ _, rowB o9 (by decide)⟩
    refine eqR (y := 310 + x2.toNat) (hL.rx (i := 2) rfl (rowC o9 (by decide))) ?_
    refine r_iconst (pc := 59) dX12_areParallel_59 (inRk rfl) ?_
    refine r_iload (pc := 60) dX12_areParallel_60 rfl ?_
    obtain ⟨o11, h⟩ := h
    refine r_imul (pc := 62) dX12_areParallel_62 o11 ?_
    obtain ⟨o12, h⟩ := h
    refine r_iaload (pc := 63) dX12_areParallel_63 (okA_of (c := 20) (n := 8) (hL.sh (i := 10) rfl q10.1 q10.2) (Nat.le_trans (by decide) q10.1) o12) ?_
    refine r_istore (pc := 64) dX12_areParallel_64 (by decide) (l2 := [some (vr 172), some (vi x1), some (vi x2), some (vi x3), some (vi x4), some (vi x5), some (vi (gI σ (310 + x1.toNat) (2 * x4).toNat)), some (vi (gI σ (310 + x1.toNat) ((2 * x4) + 1).toNat)), some (vi (gI σ (310 + x2.toNat) (2 * x5).toNat)), none, none, none, none, none]) rfl ?_
    refine r_aload_n (pc := 66) dX12_areParallel_66 rfl rfl ?_
    refine r_getR (pc := 67) dX12_areParallel_67 (k9 := 20) CL_12 (by decide) (by decide) w_1435 rfl (okO_of (N := 42) (hL.sh (i := 0) rfl (by decide) (by decide)) (by decide)) ?_
    refine eqR (y := 309) (hL.rf (i := 6) rfl) ?_
    refine r_iload_n (pc := 70) dX12_areParallel_70 rfl rfl ?_
    refine r_aaload (pc := 71) dX12_areParallel_71 (okB_of (c := 24) (n := 120) (hL.sh (i := 9) rfl (by decide) (by decide)) (by decide) o9) ?_
    have q13 : 310 ≤ 310 + x2.toNat ∧ 310 + x2.toNat < 430 := ⟨Nat.le_add_right _ _, rowB o9 (by decide)⟩
    refine eqR (y := 310 + x2.toNat) (hL.rx (i := 2) rfl (rowC o9 (by decide))) ?_
    refine r_iconst (pc := 72) dX12_areParallel_72 (inRk rfl) ?_
    refine r_iload (pc := 73) dX12_areParallel_73 rfl ?_
    refine r_imul (pc := 75) dX12_areParallel_75 o11 ?_
    refine r_iconst (pc := 76) dX12_areParallel_76 (inRk rfl) ?_
    obtain ⟨o14, h⟩ := h
    refine r_iadd (pc := 77) dX12_areParallel_77 o14 ?_
    obtain ⟨o15, h⟩ := h
    refine r_iaload (pc := 78) dX12_areParallel_78 (okA_of (c := 20) (n := 8) (hL.sh (i := 10) rfl q13.1 q13.2) (Nat.le_trans (by decide) q13.1) o15) ?_
    refine r_istore (pc := 79) dX12_areParallel_79 (by decide) (l2 := [some (vr 172), some (vi x1), some (vi x2), some (vi x3), some (vi x4), some (vi x5), some (vi (gI σ (310 + x1.toNat) (2 * x4).toNat)), some (vi (gI σ (310 + x1.toNat) ((2 * x4) + 1).toNat)), some (vi (gI σ (310 + x2.toNat) (2 * x5).toNat)), some (vi (gI σ (310 + x2.toNat) ((2 * x5) + 1).toNat)), none, none, none, none]) rfl ?_
    refine r_aload_n (pc := 81) dX12_areParallel_81 rfl rfl ?_
    refine r_getR (pc := 82) dX12_areParallel_82 (k9 := 20) CL_12 (by decide) (by decide) w_1435 rfl (okO_of (N := 42) (hL.sh (i := 0) rfl (by decide) (by decide)) (by decide)) ?_
    refine eqR (y := 309) (hL.rf (i := 6) rfl) ?_
    refine r_iload_n (pc := 85) dX12_areParallel_85 rfl rfl ?_
    refine r_aaload (pc := 86) dX12_areParallel_86 (okB_of (c := 24) (n := 120) (hL.sh (i := 9) rfl (by decide) (by decide)) (by decide) o2) ?_
    have q16 : 310 ≤ 310 + x1.toNat ∧ 310 + x1.toNat < 430 := ⟨Nat.le_add_right _ _, rowB o2 (by decide)⟩
    refine eqR (y := 310 + x1.toNat) (hL.rx (i := 2) rfl (rowC o2 (by decide))) ?_
    refine r_iconst (pc := 87) dX12_areParallel_87 (inRk rfl) ?_
    refine r_iload (pc := 88) dX12_areParallel_88 rfl ?_
    refine r_imul (pc := 90) dX12_areParallel_90 o11 ?_
    refine r_iaload (pc := 91) dX12_areParallel_91 (okA_of (c := 20) (n := 8) (hL.sh (i := 10) rfl q16.1 q16.2) (Nat.le_trans (by decide) q16.1) o12) ?_
    refine r_istore (pc := 92) dX12_areParallel_92 (by decide) (l2 := [some (vr 172), some (vi x1), some (vi x2), some (vi x3), some (vi x4), some (vi x5), some (vi (gI σ (310 + x1.toNat) (2 * x4).toNat)), some (vi (gI σ (310 + x1.toNat) ((2 * x4) + 1).toNat)), some (vi (gI σ (310 + x2.toNat) (2 * x5).toNat)), some (vi (gI σ (310 + x2.toNat) ((2 * x5) + 1).toNat)), some (vi (gI σ (310 + x1.toNat) (2 * x5).toNat)), none, none, none]) rfl ?_
    refine r_aload_n (pc := 94) dX12_areParallel_94 rfl rfl ?_
    refine r_getR (pc := 95) dX12_areParallel_95 (k9 := 20) CL_12 (by decide) (by decide) w_1435 rfl (okO_of (N := 42) (hL.sh (i := 0) rfl (by decide) (by decide)) (by decide)) ?_
    refine eqR (y := 309) (hL.rf (i := 6) rfl) ?_
    refine r_iload_n (pc := 98) dX12_areParallel_98 rfl rfl ?_
    refine r_aaload (pc := 99) dX12_areParallel_99 (okB_of (c := 24) (n := 120) (hL.sh (i := 9) rfl (by decide) (by decide)) (by decide) o2) ?_
    have q17 : 310 ≤ 310 + x1.toNat ∧ 310 + x1.toNat < 430 := ⟨Nat.le_add_right _ _, rowB o2 (by decide)⟩
    refine eqR (y := 310 + x1.toNat) (hL.rx (i := 2) rfl (rowC o2 (by decide))) ?_
    refine r_iconst (pc := 100) dX12_areParallel_100 (inRk rfl) ?_
    refine r_iload (pc := 101) dX12_areParallel_101 rfl ?_
    refine r_imul (pc := 103) dX12_areParallel_103 o11 ?_
    refine r_iconst (pc := 104) dX12_areParallel_104 (inRk rfl) ?_
    refine r_iadd (pc := 105) dX12_areParallel_105 o14 ?_
    refine r_iaload (pc := 106) dX12_areParallel_106 (okA_of (c := 20) (n := 8) (hL.sh (i := 10) rfl q17.1 q17.2) (Nat.le_trans (by decide) q17.1) o15) ?_
    refine r_istore (pc := 107) dX12_areParallel_107 (by decide) (l2 := [some (vr 172), some (vi x1), some (vi x2), some (vi x3), some (vi x4), some (vi x5), some (vi (gI σ (310 + x1.toNat) (2 * x4).toNat)), some (vi (gI σ (310 + x1.toNat) ((2 * x4) + 1).toNat)), some (vi (gI σ (310 + x2.toNat) (2 * x5).toNat)), some (vi (gI σ (310 + x2.toNat) ((2 * x5) + 1).toNat)), some (vi (gI σ (310 + x1.toNat) (2 * x5).toNat)), some (vi (gI σ (310 + x1.toNat) ((2 * x5) + 1).toNat)), none, none]) rfl ?_
    refine r_aload_n (pc := 109) dX12_areParallel_109 rfl rfl ?_
    refine r_getR (pc := 110) dX12_areParallel_110 (k9 := 20) CL_12 (by decide) (by decide) w_1435 rfl (okO_of (N := 42) (hL.sh (i := 0) rfl (by decide) (by decide)) (by decide)) ?_
    refine eqR (y := 309) (hL.rf (i := 6) rfl) ?_
    refine r_iload_n (pc := 113) dX12_areParallel_113 rfl rfl ?_
    refine r_aaload (pc := 114) dX12_areParallel_114 (okB_of (c := 24) (n := 120) (hL.sh (i := 9) rfl (by decide) (by decide)) (by decide) o9) ?_
    have q18 : 310 ≤ 310 + x2.toNat ∧ 310 + x2.toNat < 430 := ⟨Nat.le_add_right _ _, rowB o9 (by decide)⟩
    refine eqR (y := 310 + x2.toNat) (hL.rx (i := 2) rfl (rowC o9 (by decide))) ?_
    refine r_iconst (pc := 115) dX12_areParallel_115 (inRk rfl) ?_
    refine r_iload (pc := 116) dX12_areParallel_116 rfl ?_
    refine r_imul (pc := 118) dX12_areParallel_118 o4 ?_
    refine r_iaload (pc := 119) dX12_areParallel_119 (okA_of (c := 20) (n := 8) (hL.sh (i := 10) rfl q18.1 q18.2) (Nat.le_trans (by decide) q18.1) o5) ?_
    refine r_istore (pc := 120) dX12_areParallel_120 (by decide) (l2 := [some (vr 172), some (vi x1), some (vi x2), some (vi x3), some (vi x4), some (vi x5), some (vi (gI σ (310 + x1.toNat) (2 * x4).toNat)), some (vi (gI σ (310 + x1.toNat) ((2 * x4) + 1).toNat)), some (vi (gI σ (310 + x2.toNat) (2 * x5).toNat)), some (vi (gI σ (310 + x2.toNat) ((2 * x5) + 1).toNat)), some (vi (gI σ (310 + x1.toNat) (2 * x5).toNat)), some (vi (gI σ (310 + x1.toNat) ((2 * x5) + 1).toNat)), some (vi (gI σ (310 + x2.toNat) (2 * x4).toNat)), none]) rfl ?_
    refine r_aload_n (pc := 122) dX12_areParallel_122 rfl rfl ?_
    refine r_getR (pc := 123) dX12_areParallel_123 (k9 := 20) CL_12 (by decide) (by decide) w_1435 rfl (okO_of (N := 42) (hL.sh (i := 0) rfl (by decide) (by decide)) (by decide)) ?_
    refine eqR (y := 309) (hL.rf (i := 6) rfl) ?_
    refine r_iload_n (pc := 126) dX12_areParallel_126 rfl rfl ?_
    refine r_aaload (pc := 127) dX12_areParallel_127 (okB_of (c := 24) (n := 120) (hL.sh (i := 9) rfl (by decide) (by decide)) (by decide) o9) ?_
    have q19 : 310 ≤ 310 + x2.toNat ∧ 310 + x2.toNat < 430 := ⟨Nat.le_add_right _ _, rowB o9 (by decide)⟩
    refine eqR (y := 310 + x2.toNat) (hL.rx (i := 2) rfl (rowC o9 (by decide))) ?_
    refine r_iconst (pc := 128) dX12_areParallel_128 (inRk rfl) ?_
    refine r_iload (pc := 129) dX12_areParallel_129 rfl ?_
    refine r_imul (pc := 131) dX12_areParallel_131 o4 ?_
    refine r_iconst (pc := 132) dX12_areParallel_132 (inRk rfl) ?_
    refine r_iadd (pc := 133) dX12_areParallel_133 o7 ?_
    refine r_iaload (pc := 134) dX12_areParallel_134 (okA_of (c := 20) (n := 8) (hL.sh (i := 10) rfl q19.1 q19.2) (Nat.le_trans (by decide) q19.1) o8) ?_
    refine r_istore (pc := 135) dX12_areParallel_135 (by decide) (l2 := [some (vr 172), some (vi x1), some (vi x2), some (vi x3), some (vi x4), some (vi x5), some (vi (gI σ (310 + x1.toNat) (2 * x4).toNat)), some (vi (gI σ (310 + x1.toNat) ((2 * x4) + 1).toNat)), some (vi (gI σ (310 + x2.toNat) (2 * x5).toNat)), some (vi (gI σ (310 + x2.toNat) ((2 * x5) + 1).toNat)), some (vi (gI σ (310 + x1.toNat) (2 * x5).toNat)), some (vi (gI σ (310 + x1.toNat) ((2 * x5) + 1).toNat)), some (vi (gI σ (310 + x2.toNat) (2 * x4).toNat)), some (vi (gI σ (310 + x2.toNat) ((2 * x4) + 1).toNat))]) rfl ?_
    refine r_iload (pc := 137) dX12_areParallel_137 rfl ?_
    refine r_iload (pc := 139) dX12_areParallel_139 rfl ?_
    obtain ⟨o20, h⟩ := h
    refine r_imul (pc := 141) dX12_areParallel_141 o20 ?_
    refine nmI (fun v21 e9 => ?_)
    replace h := h v21 e9
    refine r_iload_n (pc := 142) dX12_areParallel_142 rfl rfl ?_
    refine r_iload (pc := 143) dX12_areParallel_143 rfl ?_
    obtain ⟨o22, h⟩ := h
    refine r_imul (pc := 145) dX12_areParallel_145 o22 ?_
    refine nmI (fun v23 e9 => ?_)
    replace h := h v23 e9
    refine r_iload (pc := 146) dX12_areParallel_146 rfl ?_
    obtain ⟨o24, h⟩ := h
    refine r_imul (pc := 148) dX12_areParallel_148 o24 ?_
    refine nmI (fun v25 e9 => ?_)
    replace h := h v25 e9
    obtain ⟨o26, h⟩ := h
    refine r_iadd (pc := 149) dX12_areParallel_149 o26 ?_
    refine r_iload (pc := 150) dX12_areParallel_150 rfl ?_
    refine r_iload (pc := 152) dX12_areParallel_152 rfl ?_
    obtain ⟨o27, h⟩ := h
    refine r_imul (pc := 154) dX12_areParallel_154 o27 ?_
    refine nmI (fun v28 e9 => ?_)
    replace h := h v28 e9
    refine r_iload_n (pc := 155) dX12_areParallel_155 rfl rfl ?_
    refine r_iload (pc := 156) dX12_areParallel_156 rfl ?_
    obtain ⟨o29, h⟩ := h
    refine r_imul (pc := 158) dX12_areParallel_158 o29 ?_
    refine nmI (fun v30 e9 => ?_)
    replace h := h v30 e9
    refine r_iload (pc := 159) dX12_areParallel_159 rfl ?_
    obtain ⟨o31, h⟩ := h
    refine r_imul (pc := 161) dX12_areParallel_161 o31 ?_
    refine nmI (fun v32 e9 => ?_)
    replace h := h v32 e9
    obtain ⟨o33, h⟩ := h
    refine r_iadd (pc := 162) dX12_areParallel_162 o33 ?_
    refine r_icmp_ne (pc := 163) (tgt := 191) dX12_areParallel_163 (by decide) (fun c9 => ?_) (fun c9 => ?_)
    · replace h := h.1 c9
      refine r_iconst (pc := 191) dX12_areParallel_191 (inRk rfl) ?_
      exact r_ireturn (pc := 192) (ty := .boolean) dX12_areParallel_192 (by decide +kernel) rfl (nar_bool (by decide)) (h hL)
    · replace h := h.2 c9
      refine r_iload (pc := 166) dX12_areParallel_166 rfl ?_
      refine r_iload (pc := 168) dX12_areParallel_168 rfl ?_
      obtain ⟨o34, h⟩ := h
      refine r_imul (pc := 170) dX12_areParallel_170 o34 ?_
      refine nmI (fun v35 e9 => ?_)
      replace h := h v35 e9
      refine r_iload (pc := 171) dX12_areParallel_171 rfl ?_
      refine r_iload (pc := 173) dX12_areParallel_173 rfl ?_
      obtain ⟨o36, h⟩ := h
      refine r_imul (pc := 175) dX12_areParallel_175 o36 ?_
      refine nmI (fun v37 e9 => ?_)
      replace h := h v37 e9
      obtain ⟨o38, h⟩ := h
      refine r_iadd (pc := 176) dX12_areParallel_176 o38 ?_
      refine r_iload (pc := 177) dX12_areParallel_177 rfl ?_
      refine r_iload (pc := 179) dX12_areParallel_179 rfl ?_
      obtain ⟨o39, h⟩ := h
      refine r_imul (pc := 181) dX12_areParallel_181 o39 ?_
      refine nmI (fun v40 e9 => ?_)
      replace h := h v40 e9
      refine r_iload (pc := 182) dX12_areParallel_182 rfl ?_
      refine r_iload (pc := 184) dX12_areParallel_184 rfl ?_
      obtain ⟨o41, h⟩ := h
      refine r_imul (pc := 186) dX12_areParallel_186 o41 ?_
      refine nmI (fun v42 e9 => ?_)
      replace h := h v42 e9
      obtain ⟨o43, h⟩ := h
      refine r_iadd (pc := 187) dX12_areParallel_187 o43 ?_
      refine r_icmp_eq (pc := 188) (tgt := 193) dX12_areParallel_188 (by decide) (fun c9 => ?_) (fun c9 => ?_)
      · replace h := h.1 c9
        obtain ⟨o44, h⟩ := h
        refine r_iinc (pc := 193) dX12_areParallel_193 rfl (by decide) o44 (l2 := [some (vr 172), some (vi x1), some (vi x2), some (vi x3), some (vi x4), some (vi (x5 + 1)), some (vi (gI σ (310 + x1.toNat) (2 * x4).toNat)), some (vi (gI σ (310 + x1.toNat) ((2 * x4) + 1).toNat)), some (vi (gI σ (310 + x2.toNat) (2 * x5).toNat)), some (vi (gI σ (310 + x2.toNat) ((2 * x5) + 1).toNat)), some (vi (gI σ (310 + x1.toNat) (2 * x5).toNat)), some (vi (gI σ (310 + x1.toNat) ((2 * x5) + 1).toNat)), some (vi (gI σ (310 + x2.toNat) (2 * x4).toNat)), some (vi (gI σ (310 + x2.toNat) ((2 * x4) + 1).toNat))]) rfl ?_
        refine r_goto (pc := 196) (tgt := 18) dX12_areParallel_196 (by decide) ?_
        exact GG.msk [true, true, true, true, true, true, false, false, false, false, false, false, false, false] (h hL)
      · replace h := h.2 c9
        refine r_iconst (pc := 191) dX12_areParallel_191 (inRk rfl) ?_
        exact r_ireturn (pc := 192) (ty := .boolean) dX12_areParallel_192 (by decide +kernel) rfl (nar_bool (by decide)) (h hL)
theorem C_X12_areParallel {a0 : Nat} {x1 : Int} {x2 : Int} (h : GG E mX12_areParallel 0 [some (vr a0), some (vi x1), some (vi x2), none, none, none, none, none, none, none, none, none, none, none] [] σ 0 0 Q) : CC E mX12_areParallel [vr a0, vi x1, vi x2] σ Q := CC.of (by decide +kernel) rfl (by decide +kernel) (fun h9 => nomatch h9) (Nat.le_of_ble_eq_true rfl) h
theorem dX12_axes_0 : decode cX12_axes 0 = .ok (.aload_n 0, 1) := by decide +kernel
theorem dX12_axes_1 : decode cX12_axes 1 = .ok (.iconst 0, 1) := by decide +kernel
theorem dX12_axes_2 : decode cX12_axes 2 = .ok (.putfield 99, 3) := by decide +kernel
theorem dX12_axes_5 : decode cX12_axes 5 = .ok (.aload_n 0, 1) := by decide +kernel
theorem dX12_axes_6 : decode cX12_axes 6 = .ok (.iload_n 1, 1) := by decide +kernel
theorem dX12_axes_7 : decode cX12_axes 7 = .ok (.iconst 2, 1) := by decide +kernel
theorem dX12_axes_8 : decode cX12_axes 8 = .ok (.bipush 120, 2) := by decide +kernel
theorem dX12_axes_10 : decode cX12_axes 10 = .ok (.invokestatic 141, 3) := by decide +kernel
theorem dX12_axes_13 : decode cX12_axes 13 = .ok (.ifCond .ne 7, 3) := by decide +kernel
theorem dX12_axes_16 : decode cX12_axes 16 = .ok (.iconst 1, 1) := by decide +kernel
theorem dX12_axes_17 : decode cX12_axes 17 = .ok (.goto 4, 3) := by decide +kernel
theorem dX12_axes_20 : decode cX12_axes 20 = .ok (.iconst 0, 1) := by decide +kernel
theorem dX12_axes_21 : decode cX12_axes 21 = .ok (.iconst 1, 1) := by decide +kernel
theorem dX12_axes_22 : decode cX12_axes 22 = .ok (.iconst 1, 1) := by decide +kernel
theorem dX12_axes_23 : decode cX12_axes 23 = .ok (.invokevirtual 177, 3) := by decide +kernel
theorem dX12_axes_26 : decode cX12_axes 26 = .ok (.ifCond .eq 5, 3) := by decide +kernel
theorem dX12_axes_29 : decode cX12_axes 29 = .ok (.iconst 0, 1) := by decide +kernel
theorem dX12_axes_30 : decode cX12_axes 30 = .ok (.ireturn, 1) := by decide +kernel
theorem dX12_axes_31 : decode cX12_axes 31 = .ok (.iconst 0, 1) := by decide +kernel
theorem dX12_axes_32 : decode cX12_axes 32 = .ok (.istore_n 2, 1) := by decide +kernel
theorem dX12_axes_33 : decode cX12_axes 33 = .ok (.iconst 0, 1) := by decide +kernel
theorem dX12_axes_34 : decode cX12_axes 34 = .ok (.istore_n 3, 1) := by decide +kernel
theorem dX12_axes_35 : decode cX12_axes 35 = .ok (.iload_n 3, 1) := by decide +kernel
theorem dX12_axes_36 : decode cX12_axes 36 = .ok (.aload_n 0, 1) := by decide +kernel
theorem dX12_axes_37 : decode cX12_axes 37 = .ok (.getfield 192, 3) := by decide +kernel
theorem dX12_axes_40 : decode cX12_axes 40 = .ok (.if_icmp .ge 127, 3) := by decide +kernel
theorem dX12_axes_43 : decode cX12_axes 43 = .ok (.aload_n 0, 1) := by decide +kernel
theorem dX12_axes_44 : decode cX12_axes 44 = .ok (.iload_n 3, 1) := by decide +kernel
theorem dX12_axes_45 : decode cX12_axes 45 = .ok (.invokevirtual 338, 3) := by decide +kernel
theorem dX12_axes_48 : decode cX12_axes 48 = .ok (.ifCond .eq 6, 3) := by decide +kernel
theorem dX12_axes_51 : decode cX12_axes 51 = .ok (.goto 110, 3) := by decide +kernel
theorem dX12_axes_54 : decode cX12_axes 54 = .ok (.iconst 0, 1) := by decide +kernel
theorem dX12_axes_55 : decode cX12_axes 55 = .ok (.istore 4, 2) := by decide +kernel
theorem dX12_axes_57 : decode cX12_axes 57 = .ok (.iconst 1, 1) := by decide +kernel
theorem dX12_axes_58 : decode cX12_axes 58 = .ok (.istore 5, 2) := by decide +kernel
theorem dX12_axes_60 : decode cX12_axes 60 = .ok (.iconst 0, 1) := by decide +kernel
theorem dX12_axes_61 : decode cX12_axes 61 = .ok (.istore 6, 2) := by decide +kernel
theorem dX12_axes_63 : decode cX12_axes 63 = .ok (.iload 6, 2) := by decide +kernel
theorem dX12_axes_65 : decode cX12_axes 65 = .ok (.aload_n 0, 1) := by decide +kernel
theorem dX12_axes_66 : decode cX12_axes 66 = .ok (.getfield 192, 3) := by decide +kernel
theorem dX12_axes_69 : decode cX12_axes 69 = .ok (.if_icmp .ge 50, 3) := by decide +kernel
theorem dX12_axes_72 : decode cX12_axes 72 = .ok (.aload_n 0, 1) := by decide +kernel
theorem dX12_axes_73 : decode cX12_axes 73 = .ok (.iload 6, 2) := by decide +kernel
theorem dX12_axes_75 : decode cX12_axes 75 = .ok (.invokevirtual 338, 3) := by decide +kernel
theorem dX12_axes_78 : decode cX12_axes 78 = .ok (.ifCond .ne 35, 3) := by decide +kernel
theorem dX12_axes_81 : decode cX12_axes 81 = .ok (.aload_n 0, 1) := by decide +kernel
theorem dX12_axes_82 : decode cX12_axes 82 = .ok (.iload_n 3, 1) := by decide +kernel
theorem dX12_axes_83 : decode cX12_axes 83 = .ok (.iload 6, 2) := by decide +kernel
theorem dX12_axes_85 : decode cX12_axes 85 = .ok (.invokevirtual 341, 3) := by decide +kernel
theorem dX12_axes_88 : decode cX12_axes 88 = .ok (.ifCond .ne 6, 3) := by decide +kernel
theorem dX12_axes_91 : decode cX12_axes 91 = .ok (.goto 22, 3) := by decide +kernel
theorem dX12_axes_94 : decode cX12_axes 94 = .ok (.iinc 4 1, 3) := by decide +kernel
theorem dX12_axes_97 : decode cX12_axes 97 = .ok (.iload 5, 2) := by decide +kernel
theorem dX12_axes_99 : decode cX12_axes 99 = .ok (.iload 6, 2) := by decide +kernel
theorem dX12_axes_101 : decode cX12_axes 101 = .ok (.iload_n 3, 1) := by decide +kernel
theorem dX12_axes_102 : decode cX12_axes 102 = .ok (.if_icmp .lt 7, 3) := by decide +kernel
theorem dX12_axes_105 : decode cX12_axes 105 = .ok (.iconst 1, 1) := by decide +kernel
theorem dX12_axes_106 : decode cX12_axes 106 = .ok (.goto 4, 3) := by decide +kernel
theorem dX12_axes_109 : decode cX12_axes 109 = .ok (.iconst 0, 1) := by decide +kernel
theorem dX12_axes_110 : decode cX12_axes 110 = .ok (.iand, 1) := by decide +kernel
theorem dX12_axes_111 : decode cX12_axes 111 = .ok (.istore 5, 2) := by decide +kernel
theorem dX12_axes_113 : decode cX12_axes 113 = .ok (.iinc 6 1, 3) := by decide +kernel
theorem dX12_axes_116 : decode cX12_axes 116 = .ok (.goto (-53), 3) := by decide +kernel
theorem dX12_axes_119 : decode cX12_axes 119 = .ok (.aload_n 0, 1) := by decide +kernel
theorem dX12_axes_120 : decode cX12_axes 120 = .ok (.invokevirtual 314, 3) := by decide +kernel
theorem dX12_axes_123 : decode cX12_axes 123 = .ok (.iconst (-1), 1) := by decide +kernel
theorem dX12_axes_124 : decode cX12_axes 124 = .ok (.if_icmp .ne 10, 3) := by decide +kernel
theorem dX12_axes_127 : decode cX12_axes 127 = .ok (.iload 4, 2) := by decide +kernel
theorem dX12_axes_129 : decode cX12_axes 129 = .ok (.iconst 1, 1) := by decide +kernel
theorem dX12_axes_130 : decode cX12_axes 130 = .ok (.iadd, 1) := by decide +kernel
theorem dX12_axes_131 : decode cX12_axes 131 = .ok (.goto 9, 3) := by decide +kernel
theorem dX12_axes_134 : decode cX12_axes 134 = .ok (.iload 4, 2) := by decide +kernel
theorem dX12_axes_136 : decode cX12_axes 136 = .ok (.iconst 2, 1) := by decide +kernel
theorem dX12_axes_137 : decode cX12_axes 137 = .ok (.idiv, 1) := by decide +kernel
theorem dX12_axes_138 : decode cX12_axes 138 = .ok (.iconst 1, 1) := by decide +kernel
theorem dX12_axes_139 : decode cX12_axes 139 = .ok (.iadd, 1) := by decide +kernel
theorem dX12_axes_140 : decode cX12_axes 140 = .ok (.istore 6, 2) := by decide +kernel
theorem dX12_axes_142 : decode cX12_axes 142 = .ok (.iload_n 2, 1) := by decide +kernel
theorem dX12_axes_143 : decode cX12_axes 143 = .ok (.iload 5, 2) := by decide +kernel
theorem dX12_axes_145 : decode cX12_axes 145 = .ok (.ifCond .eq 13, 3) := by decide +kernel
theorem dX12_axes_148 : decode cX12_axes 148 = .ok (.iload 6, 2) := by decide +kernel
theorem dX12_axes_150 : decode cX12_axes 150 = .ok (.iload_n 1, 1) := by decide +kernel
theorem dX12_axes_151 : decode cX12_axes 151 = .ok (.if_icmp .ne 7, 3) := by decide +kernel
theorem dX12_axes_154 : decode cX12_axes 154 = .ok (.iconst 1, 1) := by decide +kernel
theorem dX12_axes_155 : decode cX12_axes 155 = .ok (.goto 4, 3) := by decide +kernel
theorem dX12_axes_158 : decode cX12_axes 158 = .ok (.iconst 0, 1) := by decide +kernel
theorem dX12_axes_159 : decode cX12_axes 159 = .ok (.iadd, 1) := by decide +kernel
theorem dX12_axes_160 : decode cX12_axes 160 = .ok (.istore_n 2, 1) := by decide +kernel
theorem dX12_axes_161 : decode cX12_axes 161 = .ok (.iinc 3 1, 3) := by decide +kernel
theorem dX12_axes_164 : decode cX12_axes 164 = .ok (.goto (-129), 3) := by decide +kernel
theorem dX12_axes_167 : decode cX12_axes 167 = .ok (.iload_n 2, 1) := by decide +kernel
theorem dX12_axes_168 : decode cX12_axes 168 = .ok (.ireturn, 1) := by decide +kernel
theorem B_X12_axes_0 {g : Sg} {c t : Nat} (hL : Lay LM g c t σ) {x1 : Int} (h : ∀ τ1 : Sg, τ1 = sI σ 172 0 0 → (Lay LM g c t τ1 → CC E mX12_in [vi x1, vi 2, vi 120] τ1 (KI (fun r2 τ3 => Lay LM g c t τ3 ∧ (inR r2 → ((r2 ≠ 0 → (Lay LM g c t τ3 → CC E mX12_bad [vr 172, vi 0, vi 1, vi 1] τ3 (KI (fun r4 τ5 => Lay LM g c t τ5 ∧ (inR r4 → ((r4 = 0 → (Lay LM g c t τ5 → GG E mX12_axes 35 [some (vr 172), some (vi x1), some (vi 0), some (vi 0), none, none, none] [] τ5 rc rs Q)) ∧ (¬ (r4 = 0) → (Lay LM g c t τ5 → Q (.inl (some (vi 0))) τ5))))) (fun _ _ => False)))) ∧ (r2 = 0 → (Lay LM g c t τ3 → CC E mX12_bad [vr 172, vi 1, vi 1, vi 1] τ3 (KI (fun r6 τ7 => Lay LM g c t τ7 ∧ (inR r6 → ((r6 = 0 → (Lay LM g c t τ7 → GG E mX12_axes 35 [some (vr 172), some (vi x1), some (vi 0), some (vi 0), none, none, none] [] τ7 rc rs Q)) ∧ (¬ (r6 = 0) → (Lay LM g c t τ7 → Q (.inl (some (vi 0))) τ7))))) (fun _ _ => False))))))) (fun _ _ => False)))) : GG E mX12_axes 0 [some (vr 172), some (vi x1), none, none, none, none, none] [] σ rc rs Q := by
  refine r_aload_n (pc := 0) dX12_axes_0 rfl rfl ?_
  refine r_iconst (pc := 1) dX12_axes_1 (inRk rfl) ?_
  refine r_putI (pc := 2) dX12_axes_2 (k9 := 0) CL_12 (by decide) (by decide) w_1415 rfl rfl (fun h9 => absurd h9 (by decide +kernel)) (okO_of (N := 42) (hL.sh (i := 0) rfl (by decide) (by decide)) (by decide)) ?_
  refine nmS (fun τ1 e1 => ?_)
  replace h := h τ1 e1
  have hL := hL.wI e1 (by decide) (.inl (by decide))
  refine r_aload_n (pc := 5) dX12_axes_5 rfl rfl ?_
  refine r_iload_n (pc := 6) dX12_axes_6 rfl rfl ?_
  refine r_iconst (pc := 7) dX12_axes_7 (inRk rfl) ?_
  refine r_bipush (pc := 8) dX12_axes_8 (by decide) ?_
  refine c_SI0N (M := mX12_axes) (pc := 10) (As := [vi x1, vi 2, vi 120]) dX12_axes_10 K_X12_in w_1559 ⟨by decide, by decide⟩ (Nat.le_of_ble_eq_true rfl) rfl rfl (h hL) (fun r2 τ3 h8 hr9 => ?_) rfl
  replace hL := h8.1
  replace h := h8.2 hr9
  refine r_if_ne (pc := 13) (tgt := 20) dX12_axes_13 (by decide) (fun c9 => ?_) (fun c9 => ?_)
  · replace h := h.1 c9
    refine r_iconst (pc := 20) dX12_axes_20 (inRk rfl) ?_
    refine r_iconst (pc := 21) dX12_axes_21 (inRk rfl) ?_
    refine r_iconst (pc := 22) dX12_axes_22 (inRk rfl) ?_
    refine c_VI0N (M := mX12_axes) (pc := 23) (As := [vi 0, vi 1, vi 1]) dX12_axes_23 K_X12_bad w_1562 ⟨by decide, by decide⟩ (Nat.le_of_ble_eq_true rfl) rfl rfl (ci := 12) rfl rfl (by decide) (okO_of (N := 42) (hL.sh (i := 0) rfl (by decide) (by decide)) (by decide)) (h hL) (fun r4 τ5 h8 hr9 => ?_) rfl
    replace hL := h8.1
    replace h := h8.2 hr9
    refine r_if_eq (pc := 26) (tgt := 31) dX12_axes_26 (by decide) (fun c9 => ?_) (fun c9 => ?_)
    · replace h := h.1 c9
      refine r_iconst (pc := 31) dX12_axes_31 (inRk rfl) ?_
      refine r_istore_n (pc := 32) dX12_axes_32 rfl (by decide) (l2 := [some (vr 172), some (vi x1), some (vi 0), none, none, none, none]) rfl ?_
      refine r_iconst (pc := 33) dX12_axes_33 (inRk rfl) ?_
      refine r_istore_n (pc := 34) dX12_axes_34 rfl (by decide) (l2 := [some (vr 172), some (vi x1), some (vi 0), some (vi 0), none, none, none]) rfl ?_
      exact (h hL)
    · replace h := h.2 c9
      refine r_iconst (pc := 29) dX12_axes_29 (inRk rfl) ?_
      exact r_ireturn (pc := 30) (ty := .int) dX12_axes_30 (by decide +kernel) rfl (nar_i _) (h hL)
  · replace h := h.2 c9
    refine r_iconst (pc := 16) dX12_axes_16 (inRk rfl) ?_
    refine r_goto (pc := 17) (tgt := 21) dX12_axes_17 (by decide) ?_
    refine r_iconst (pc := 21) dX12_axes_21 (inRk rfl) ?_
    refine r_iconst (pc := 22) dX12_axes_22 (inRk rfl) ?_
    refine c_VI0N (M := mX12_axes) (pc := 23) (As := [vi 1, vi 1, vi 1]) dX12_axes_23 K_X12_bad w_1562 ⟨by decide, by decide⟩ (Nat.le_of_ble_eq_true rfl) rfl rfl (ci := 12) rfl rfl (by decide) (okO_of (N := 42) (hL.sh (i := 0) rfl (by decide) (by decide)) (by decide)) (h hL) (fun r6 τ7 h8 hr9 => ?_) rfl
    replace hL := h8.1
    replace h := h8.2 hr9
    refine r_if_eq (pc := 26) (tgt := 31) dX12_axes_26 (by decide) (fun c9 => ?_) (fun c9 => ?_)
    · replace h := h.1 c9
      refine r_iconst (pc := 31) dX12_axes_31 (inRk rfl) ?_
      refine r_istore_n (pc := 32) dX12_axes_32 rfl (by decide) (l2 := [some (vr 172), some (vi x1), some (vi 0), none, none, none, none]) rfl ?_
      refine r_iconst (pc := 33) dX12_axes_33 (inRk rfl) ?_
      refine r_istore_n (pc := 34) dX12_axes_34 rfl (by decide) (l2 := [some (vr 172), some (vi x1), some (vi 0), some (vi 0), none, none, none]) rfl ?_
      exact (h hL)
    · replace h := h.2 c9
      refine r_iconst (pc := 29) dX12_axes_29 (inRk rfl) ?_
      exact r_ireturn (pc := 30) (ty := .int) dX12_axes_30 (by decide +kernel) rfl (nar_i _) (h hL)
theorem B_X12_axes_35 {g : Sg} {c t : Nat} (hL : Lay LM g c t σ) {x1 : Int} {x2 : Int} {x3 : Int} (h : (((gI σ 172 15) ≤ x3 → (Lay LM g c t σ → Q (.inl (some (vi x2))) σ)) ∧ (¬ ((gI σ 172 15) ≤ x3) → (Lay LM g c t σ → CC E mX12_isStill [vr 172, vi x3] σ (KI (fun r1 τ2 => Lay LM g c t τ2 ∧ (inR r1 → ((r1 = 0 → (Lay LM g c t τ2 → GG E mX12_axes 63 [some (vr 172), some (vi x1), some (vi x2), some (vi x3), some (vi 0), some (vi 1), some (vi 0)] [] τ2 rc rs Q)) ∧ (¬ (r1 = 0) → inR (x3 + 1) ∧ (Lay LM g c t τ2 → GG E mX12_axes 35 [some (vr 172), some (vi x1), some (vi x2), some (vi (x3 + 1)), none, none, none] [] τ2 rc rs Q))))) (fun _ _ => False)))))) : GG E mX12_axes 35 [some (vr 172), some (vi x1), some (vi x2), some (vi x3), none, none, none] [] σ rc rs Q := by
  refine r_iload_n (pc := 35) dX12_axes_35 rfl rfl ?_
  refine r_aload_n (pc := 36) dX12_axes_36 rfl rfl ?_
  refine r_getI (pc := 37) dX12_axes_37 (k9 := 15) CL_12 (by decide) (by decide) w_1430 rfl (okO_of (N := 42) (hL.sh (i := 0) rfl (by decide) (by decide)) (by decide)) (fun _ => ?_)
  refine r_icmp_ge (pc := 40) (tgt := 167) dX12_axes_40 (by decide) (fun c9 => ?_) (fun c9 => ?_)
  · replace h := h.1 c9
    refine r_iload_n (pc := 167) dX12_axes_167 rfl rfl ?_
    exact r_ireturn (pc := 168) (ty := .int) dX12_axes_168 (by decide +kernel) rfl (nar_i _) (h hL)
  · replace h := h.2 c9
    refine r_aload_n (pc := 43) dX12_axes_43 rfl rfl ?_
    refine r_iload_n (pc := 44) dX12_axes_44 rfl rfl ?_
    refine c_VI0N (M := mX12_axes) (pc := 45) (As := [vi x3]) dX12_axes_45 K_X12_isStill w_1778 ⟨by decide, by decide⟩ (Nat.le_of_ble_eq_true rfl) rfl rfl (ci := 12) rfl rfl (by decide) (okO_of (N := 42) (hL.sh (i := 0) rfl (by decide) (by decide)) (by decide)) (h hL) (fun r1 τ2 h8 hr9 => ?_) rfl
    replace hL := h8.1
    replace h := h8.2 hr9
    refine r_if_eq (pc := 48) (tgt := 54) dX12_axes_48 (by decide) (fun c9 => ?_) (fun c9 => ?_)
    · replace h := h.1 c9
      refine r_iconst (pc := 54) dX12_axes_54 (inRk rfl) ?_
      refine r_istore (pc := 55) dX12_axes_55 (by decide) (l2 := [some (vr 172), some (vi x1), some (vi x2), some (vi x3), some (vi 0), none, none]) rfl ?_
      refine r_iconst (pc := 57) dX12_axes_57 (inRk rfl) ?_
      refine r_istore (pc := 58) dX12_axes_58 (by decide) (l2 := [some (vr 172), some (vi x1), some (vi x2), some (vi x3), some (vi 0), some (vi 1), none]) rfl ?_
      refine r_iconst (pc := 60) dX12_axes_60 (inRk rfl) ?_
      refine r_istore (pc := 61) dX12_axes_61 (by decide) (l2 := [some (vr 172), some (vi x1), some (vi x2), some (vi x3), some (vi 0), some (vi 1), some (vi 0)]) rfl ?_
      exact (h hL)
    · replace h := h.2 c9
      refine r_goto (pc := 51) (tgt := 161) dX12_axes_51 (by decide) ?_
      obtain ⟨o3, h⟩ := h
      refine r_iinc (pc := 161) dX12_axes_161 rfl (by decide) o3 (l2 := [some (vr 172), some (vi x1), some (vi x2), some (vi (x3 + 1)), none, none, none]) rfl ?_
      refine r_goto (pc := 164) (tgt := 35) dX12_axes_164 (by decide) ?_
      exact (h hL)
theorem B_X12_axes_63 {g : Sg} {c t : Nat} (hL : Lay LM g c t σ) {x1 : Int} {x2 : Int} {x3 : Int} {x4 : Int} {x5 : Int} {x6 : Int} (h : (((gI σ 172 15) ≤ x6 → (Lay LM g c t σ → CC E mX12_minus [vr 172] σ (KI (fun r1 τ2 => Lay LM g c t τ2 ∧ (inR r1 → ((r1 ≠ (-1) → inR (x4.tdiv 2) ∧ inR ((x4.tdiv 2) + 1) ∧ (Lay LM g c t τ2 → GG E mX12_axes 142 [some (vr 172), some (vi x1), some (vi x2), some (vi x3), none, some (vi x5), some (vi ((x4.tdiv 2) + 1))] [] τ2 rc rs Q)) ∧ (r1 = (-1) → inR (x4 + 1) ∧ (Lay LM g c t τ2 → GG E mX12_axes 142 [some (vr 172), some (vi x1), some (vi x2), some (vi x3), none, some (vi x5), some (vi (x4 + 1))] [] τ2 rc rs Q))))) (fun _ _ => False)))) ∧ (¬ ((gI σ 172 15) ≤ x6) → (Lay LM g c t σ → CC E mX12_isStill [vr 172, vi x6] σ (KI (fun r6 τ7 => Lay LM g c t τ7 ∧ (inR r6 → ((r6 ≠ 0 → inR (x6 + 1) ∧ (Lay LM g c t τ7 → GG E mX12_axes 63 [some (vr 172), some (vi x1), some (vi x2), some (vi x3), some (vi x4), some (vi x5), some (vi (x6 + 1))] [] τ7 rc rs Q)) ∧ (r6 = 0 → (Lay LM g c t τ7 → CC E mX12_areParallel [vr 172, vi x3, vi x6] τ7 (KI (fun r9 τ10 => Lay LM g c t τ10 ∧ (inR r9 → ((r9 ≠ 0 → inR (x4 + 1) ∧ ((x6 < x3 → inR (x6 + 1) ∧ (Lay LM g c t τ10 → GG E mX12_axes 63 [some (vr 172), some (vi x1), some (vi x2), some (vi x3), some (vi (x4 + 1)), some (vi (b_iandq x5 0)), some (vi (x6 + 1))] [] τ10 rc rs Q)) ∧ (¬ (x6 < x3) → inR (x6 + 1) ∧ (Lay LM g c t τ10 → GG E mX12_axes 63 [some (vr 172), some (vi x1), some (vi x2), some (vi x3), some (vi (x4 + 1)), some (vi (b_iandq x5 1)), some (vi (x6 + 1))] [] τ10 rc rs Q)))) ∧ (r9 = 0 → inR (x6 + 1) ∧ (Lay LM g c t τ10 → GG E mX12_axes 63 [some (vr 172), some (vi x1), some (vi x2), some (vi x3), some (vi x4), some (vi x5), some (vi (x6 + 1))] [] τ10 rc rs Q))))) (fun _ _ => False))))))) (fun _ _ => False)))))) : GG E mX12_axes 63 [some (vr 172), some (vi x1), some (vi x2), some (vi x3), some (vi x4), some (vi x5), some (vi x6)] [] σ rc rs Q := by
  refine r_iload (pc := 63) dX12_axes_63 rfl ?_
  refine r_aload_n (pc := 65) dX12_axes_65 rfl rfl ?_
  refine r_getI (pc := 66) dX12_axes_66 (k9 := 15) CL_12 (by decide) (by decide) w_1430 rfl (okO_of (N := 42) (hL.sh (i := 0) rfl (by decide) (by decide)) (by decide)) (fun _ => ?_)
  refine r_icmp_ge (pc := 69) (tgt := 119) dX12_axes_69 (by decide) (fun c9 => ?_) (fun c9 => ?_)
  · replace h := h.1 c9
    refine r_aload_n (pc := 119) dX12_axes_119 rfl rfl ?_
    refine c_VI0N (M := mX12_axes) (pc := 120) (As := []) dX12_axes_120 K_X12_minus w_1714 ⟨by decide, by decide⟩ (Nat.le_of_ble_eq_true rfl) rfl rfl (ci := 12) rfl rfl (by decide) (okO_of (N := 42) (hL.sh (i := 0) rfl (by decide) (by decide)) (by decide)) (h hL) (fun r1 τ2 h8 hr9 => ?_) rfl
    replace hL := h8.1
    replace h := h8.2 hr9
    refine r_iconst (pc := 123) dX12_axes_123 (inRk rfl) ?_
    refine r_icmp_ne (pc := 124) (tgt := 134) dX12_axes_124 (by decide) (fun c9 => ?_) (fun c9 => ?_)
    · replace h := h.1 c9
      refine r_iload (pc := 134) dX12_axes_134 rfl ?_
      refine r_iconst (pc := 136) dX12_axes_136 (inRk rfl) ?_
      obtain ⟨o3, h⟩ := h
      refine r_idiv (pc := 137) dX12_axes_137 (by decide) o3 ?_
      refine r_iconst (pc := 138) dX12_axes_138 (inRk rfl) ?_
      obtain ⟨o4, h⟩ := h
      refine r_iadd (pc := 139) dX12_axes_139 o4 ?_
      refine r_istore (pc := 140) dX12_axes_140 (by decide) (l2 := [some (vr 172), some (vi x1), some (vi x2), some (vi x3), some (vi x4), some (vi x5), some (vi ((x4.tdiv 2) + 1))]) rfl ?_
      exact GG.msk [true, true, true, true, false, true, true] (h hL)
    · replace h := h.2 c9
      refine r_iload (pc := 127) dX12_axes_127 rfl ?_
      refine r_iconst (pc := 129) dX12_axes_129 (inRk rfl) ?_
      obtain ⟨o5, h⟩ := h
      refine r_iadd (pc := 130) dX12_axes_130 o5 ?_
      refine r_goto (pc := 131) (tgt := 140) dX12_axes_131 (by decide) ?_
      refine r_istore (pc := 140) dX12_axes_140 (by decide) (l2 := [some (vr 172), some (vi x1), some (vi x2), some (vi x3), some (vi x4), some (vi x5), some (vi (x4 + 1))]) rfl ?_
      exact GG.msk [true, true, true, true, false, true, true] (h hL)
  · replace h := h.2 c9
    refine r_aload_n (pc := 72) dX12_axes_72 rfl rfl ?_
    refine r_iload (pc := 73) dX12_axes_73 rfl ?_
    refine c_VI0N (M := mX12_axes) (pc := 75) (As := [vi x6]) dX12_axes_75 K_X12_isStill w_1778 ⟨by decide, by decide⟩ (Nat.le_of_ble_eq_true rfl) rfl rfl (ci := 12) rfl rfl (by decide) (okO_of (N := 42) (hL.sh (i := 0) rfl (by decide) (by decide)) (by decide)) (h hL) (fun r6 τ7 h8 hr9 => ?_) rfl
    replace hL := h8.1
    replace h := h8.2 hr9
    refine r_if_ne (pc := 78) (tgt := 113) dX12_axes_78 (by decide) (fun c9 => ?_) (fun c9 => ?_)
    · replace h := h.1 c9
      obtain ⟨o8, h⟩ := h
      refine r_iinc (pc := 113) dX12_axes_113 rfl (by decide) o8 (l2 := [some (vr 172), some (vi x1), some (vi x2), some (vi x3), some (vi x4), some (vi x5), some (vi (x6 + 1))]) rfl ?_
      refine r_goto (pc := 116) (tgt := 63) dX12_axes_116 (by decide) ?_
      exact (h hL)
    · replace h := h.2 c9
      refine r_aload_n (pc := 81) dX12_axes_81 rfl rfl ?_
      refine r_iload_n (pc := 82) dX12_axes_82 rfl rfl ?_
      refine r_iload (pc := 83) dX12_axes_83 rfl ?_
      refine c_VI0N (M := mX12_axes) (pc := 85) (As := [vi x3, vi x6]) dX12_axes_85 K_X12_areParallel w_1782 ⟨by decide, by decide⟩ (Nat.le_of_ble_eq_true rfl) rfl rfl (ci := 12) rfl rfl (by decide) (okO_of (N := 42) (hL.sh (i := 0) rfl (by decide) (by decide)) (by decide)) (h hL) (fun r9 τ10 h8 hr9 => ?_) rfl
      replace hL := h8.1
      replace h := h8.2 hr9
      refine r_if_ne (pc := 88) (tgt := 94) dX12_axes_88 (by decide) (fun c9 => ?_) (fun c9 => ?_)
      · replace h := h.1 c9
        obtain ⟨o11, h⟩ := h
        refine r_iinc (pc := 94) dX12_axes_94 rfl (by decide) o11 (l2 := [some (vr 172), some (vi x1), some (vi x2), some (vi x3), some (vi (x4 + 1)), some (vi x5), some (vi x6)]) rfl ?_
        refine r_iload (pc := 97) dX12_axes_97 rfl ?_
        refine r_iload (pc := 99) dX12_axes_99 rfl ?_
        refine r_iload_n (pc := 101) dX12_axes_101 rfl rfl ?_
        refine r_icmp_lt (pc := 102) (tgt := 109) dX12_axes_102 (by decide) (fun c9 => ?_) (fun c9 => ?_)
        · replace h := h.1 c9
          refine r_iconst (pc := 109) dX12_axes_109 (inRk rfl) ?_
          refine r_iand (pc := 110) dX12_axes_110 ?_
          refine r_istore (pc := 111) dX12_axes_111 (by decide) (l2 := [some (vr 172), some (vi x1), some (vi x2), some (vi x3), some (vi (x4 + 1)), some (vi (b_iandq x5 0)), some (vi x6)]) rfl ?_
          obtain ⟨o12, h⟩ := h
          refine r_iinc (pc := 113) dX12_axes_113 rfl (by decide) o12 (l2 := [some (vr 172), some (vi x1), some (vi x2), some (vi x3), some (vi (x4 + 1)), some (vi (b_iandq x5 0)), some (vi (x6 + 1))]) rfl ?_
          refine r_goto (pc := 116) (tgt := 63) dX12_axes_116 (by decide) ?_
          exact (h hL)
        · replace h := h.2 c9
          refine r_iconst (pc := 105) dX12_axes_105 (inRk rfl) ?_
          refine r_goto (pc := 106) (tgt := 110) dX12_axes_106 (by decide) ?_
          refine r_iand (pc := 110) dX12_axes_110 ?_
          refine r_istore (pc := 111) dX12_axes_111 (by decide) (l2 := [some (vr 172), some (vi x1), some (vi x2), some (vi x3), some (vi (x4 + 1)), some (vi (b_iandq x5 1)), some (vi x6)]) rfl ?_
          obtain ⟨o13, h⟩ := h
          refine r_iinc (pc := 113) dX12_axes_113 rfl (by decide) o13 (l2 := [some (vr 172), some (vi x1), some (vi x2), some (vi x3), some (vi (x4 + 1)), some (vi (b_iandq x5 1)), some (vi (x6 + 1))]) rfl ?_
          refine r_goto (pc := 116) (tgt := 63) dX12_axes_116 (by decide) ?_
          exact (h hL)
      · replace h := h.2 c9
        refine r_goto (pc := 91) (tgt := 113) dX12_axes_91 (by decide) ?_
        obtain ⟨o14, h⟩ := h
        refine r_iinc (pc := 113) dX12_axes_113 rfl (by decide) o14 (l2 := [some (vr 172), some (vi x1), some (vi x2), some (vi x3), some (vi x4), some (vi x5), some (vi (x6 + 1))]) rfl ?_
        refine r_goto (pc := 116) (tgt := 63) dX12_axes_116 (by decide) ?_
        exact (h hL)
theorem B_X12_axes_142 {g : Sg} {c t : Nat} (hL : Lay LM g c t σ) {x1 : Int} {x2 : Int} {x3 : Int} {x5 : Int} {x6 : Int} (h : ((x5 = 0 → inR (x2 + 0) ∧ inR (x3 + 1) ∧ (Lay LM g c t σ → GG E mX12_axes 35 [some (vr 172), some (vi x1), some (vi (x2 + 0)), some (vi (x3 + 1)), none, none, none] [] σ rc rs Q)) ∧ (¬ (x5 = 0) → ((x6 ≠ x1 → inR (x2 + 0) ∧ inR (x3 + 1) ∧ (Lay LM g c t σ → GG E mX12_axes 35 [some (vr 172), some (vi x1), some (vi (x2 + 0)), some (vi (x3 + 1)), none, none, none] [] σ rc rs Q)) ∧ (x6 = x1 → inR (x2 + 1) ∧ inR (x3 + 1) ∧ (Lay LM g c t σ → GG E mX12_axes 35 [some (vr 172), some (vi x1), some (vi (x2 + 1)), some (vi (x3 + 1)), none, none, none] [] σ rc rs Q)))))) : GG E mX12_axes 142 [some (vr 172), some (vi x1), some (vi x2), some (vi x3), none, some (vi x5), some (vi x6)] [] σ rc rs Q := by
  refine r_iload_n (pc := 142) dX12_axes_142 rfl rfl ?_
  refine r_iload (pc := 143) dX12_axes_143 rfl ?_
  refine r_if_eq (pc := 145) (tgt := 158) dX12_axes_145 (by decide) (fun c9 => ?_) (fun c9 => ?_)
  · replace h := h.1 c9
    refine r_iconst (pc := 158) dX12_axes_158 (inRk rfl) ?_
    obtain ⟨o1, h⟩ := h
    refine r_iadd (pc := 159) dX12_axes_159 o1 ?_
    refine r_istore_n (pc := 160) dX12_axes_160 rfl (by decide) (l2 := [some (vr 172), some (vi x1), some (vi (x2 + 0)), some (vi x3), none, some (vi x5), some (vi x6)]) rfl ?_
    obtain ⟨o2, h⟩ := h
    refine r_iinc (pc := 161) dX12_axes_161 rfl (by decide) o2 (l2 := [some (vr 172), some (vi x1), some (vi (x2 + 0)), some (vi (x3 + 1)), none, some (vi x5), some (vi x6)]) rfl ?_
    refine r_goto (pc := 164) (tgt := 35) dX12_axes_164 (by decide) ?_
    exact GG.msk [true, true, true, true, false, false, false] (h hL)
  · replace h := h.2 c9
    refine r_iload (pc := 148) dX12_axes_148 rfl ?_
    refine r_iload_n (pc := 150) dX12_axes_150 rfl rfl ?_
    refine r_icmp_ne (pc := 151) (tgt := 158) dX12_axes_151 (by decide) (fun c9 => ?_) (fun c9 => ?_)
    · replace h := h.1 c9
      refine r_iconst (pc := 158) dX12_axes_158 (inRk rfl) ?_
      obtain ⟨o3, h⟩ := h
      refine r_iadd (pc := 159) dX12_axes_159 o3 ?_
      refine r_istore_n (pc := 160) dX12_axes_160 rfl (by decide) (l2 := [some (vr 172), some (vi x1), some (vi (x2 + 0)), some (vi x3), none, some (vi x5), some (vi x6)]) rfl ?_
      obtain ⟨o4, h⟩ := h
      refine r_iinc (pc := 161) dX12_axes_161 rfl (by decide) o4 (l2 := [some (vr 172), some (vi x1), some (vi (x2 + 0)), some (vi (x3 + 1)), none, some (vi x5), some (vi x6)]) rfl ?_
      refine r_goto (pc := 164) (tgt := 35) dX12_axes_164 (by decide) ?_
      exact GG.msk [true, true, true, true, false, false, false] (h hL)
    · replace h := h.2 c9
      refine r_iconst (pc := 154) dX12_axes_154 (inRk rfl) ?_
      refine r_goto (pc := 155) (tgt := 159) dX12_axes_155 (by decide) ?_
      obtain ⟨o5, h⟩ := h
      refine r_iadd (pc := 159) dX12_axes_159 o5 ?_
      refine r_istore_n (pc := 160) dX12_axes_160 rfl (by decide) (l2 := [some (vr 172), some (vi x1), some (vi (x2 + 1)), some (vi x3), none, some (vi x5), some (vi x6)]) rfl ?_
      obtain ⟨o6, h⟩ := h
      refine r_iinc (pc := 161) dX12_axes_161 rfl (by decide) o6 (l2 := [some (vr 172), some (vi x1), some (vi (x2 + 1)), some (vi (x3 + 1)), none, some (vi x5), some (vi x6)]) rfl ?_
      refine r_goto (pc := 164) (tgt := 35) dX12_axes_164 (by decide) ?_
      exact GG.msk [true, true, true, true, false, false, false] (h hL)
theorem C_X12_axes {a0 : Nat} {x1 : Int} (h : GG E mX12_axes 0 [some (vr a0), some (vi x1), none, none, none, none, none] [] σ 0 0 Q) : CC E mX12_axes [vr a0, vi x1] σ Q := CC.of (by decide +kernel) rfl (by decide +kernel) (fun h9 => nomatch h9) (Nat.le_of_ble_eq_true rfl) h
theorem dX12_bad_0 : decode cX12_bad 0 = .ok (.iload_n 1, 1) := by decide +kernel
theorem dX12_bad_1 : decode cX12_bad 1 = .ok (.ifCond .eq 25, 3) := by decide +kernel
theorem dX12_bad_4 : decode cX12_bad 4 = .ok (.aload_n 0, 1) := by decide +kernel
theorem dX12_bad_5 : decode cX12_bad 5 = .ok (.getfield 99, 3) := by decide +kernel
theorem dX12_bad_8 : decode cX12_bad 8 = .ok (.ifCond .ne 18, 3) := by decide +kernel
theorem dX12_bad_11 : decode cX12_bad 11 = .ok (.aload_n 0, 1) := by decide +kernel
theorem dX12_bad_12 : decode cX12_bad 12 = .ok (.iload_n 2, 1) := by decide +kernel
theorem dX12_bad_13 : decode cX12_bad 13 = .ok (.putfield 99, 3) := by decide +kernel
theorem dX12_bad_16 : decode cX12_bad 16 = .ok (.aload_n 0, 1) := by decide +kernel
theorem dX12_bad_17 : decode cX12_bad 17 = .ok (.getfield 7, 3) := by decide +kernel
theorem dX12_bad_20 : decode cX12_bad 20 = .ok (.iload_n 3, 1) := by decide +kernel
theorem dX12_bad_21 : decode cX12_bad 21 = .ok (.dup2, 1) := by decide +kernel
theorem dX12_bad_22 : decode cX12_bad 22 = .ok (.iaload, 1) := by decide +kernel
theorem dX12_bad_23 : decode cX12_bad 23 = .ok (.iconst 1, 1) := by decide +kernel
theorem dX12_bad_24 : decode cX12_bad 24 = .ok (.iadd, 1) := by decide +kernel
theorem dX12_bad_25 : decode cX12_bad 25 = .ok (.iastore, 1) := by decide +kernel
theorem dX12_bad_26 : decode cX12_bad 26 = .ok (.aload_n 0, 1) := by decide +kernel
theorem dX12_bad_27 : decode cX12_bad 27 = .ok (.getfield 99, 3) := by decide +kernel
theorem dX12_bad_30 : decode cX12_bad 30 = .ok (.ifCond .eq 7, 3) := by decide +kernel
theorem dX12_bad_33 : decode cX12_bad 33 = .ok (.iconst 1, 1) := by decide +kernel
theorem dX12_bad_34 : decode cX12_bad 34 = .ok (.goto 4, 3) := by decide +kernel
theorem dX12_bad_37 : decode cX12_bad 37 = .ok (.iconst 0, 1) := by decide +kernel
theorem dX12_bad_38 : decode cX12_bad 38 = .ok (.ireturn, 1) := by decide +kernel
theorem B_X12_bad_0 {g : Sg} {c t : Nat} (hL : Lay LM g c t σ) {x1 : Int} {x2 : Int} {x3 : Int} (h : ((x1 = 0 → (((gI σ 172 0) = 0 → (Lay LM g c t σ → Q (.inl (some (vi 0))) σ)) ∧ (¬ ((gI σ 172 0) = 0) → (Lay LM g c t σ → Q (.inl (some (vi 1))) σ)))) ∧ (¬ (x1 = 0) → (((gI σ 172 0) ≠ 0 → (((gI σ 172 0) = 0 → (Lay LM g c t σ → Q (.inl (some (vi 0))) σ)) ∧ (¬ ((gI σ 172 0) = 0) → (Lay LM g c t σ → Q (.inl (some (vi 1))) σ)))) ∧ ((gI σ 172 0) = 0 → ∀ τ1 : Sg, τ1 = sI σ 172 0 x2 → (0 ≤ x3 ∧ x3 < 3) ∧ inR ((gI τ1 173 x3.toNat) + 1) ∧ ∀ τ4 : Sg, τ4 = sI τ1 173 x3.toNat ((gI τ1 173 x3.toNat) + 1) → (((gI τ4 172 0) = 0 → (Lay LM g c t τ4 → Q (.inl (some (vi 0))) τ4)) ∧ (¬ ((gI τ4 172 0) = 0) → (Lay LM g c t τ4 → Q (.inl (some (vi 1))) τ4)))))))) : GG E mX12_bad 0 [some (vr 172), some (vi x1), some (vi x2), some (vi x3)] [] σ rc rs Q := by
  refine r_iload_n (pc := 0) dX12_bad_0 rfl rfl ?_
  refine r_if_eq (pc := 1) (tgt := 26) dX12_bad_1 (by decide) (fun c9 => ?_) (fun c9 => ?_)
  · replace h := h.1 c9
    refine r_aload_n (pc := 26) dX12_bad_26 rfl rfl ?_
    refine r_getI (pc := 27) dX12_bad_27 (k9 := 0) CL_12 (by decide) (by decide) w_1415 rfl (okO_of (N := 42) (hL.sh (i := 0) rfl (by decide) (by decide)) (by decide)) (fun _ => ?_)
    refine r_if_eq (pc := 30) (tgt := 37) dX12_bad_30 (by decide) (fun c9 => ?_) (fun c9 => ?_)
    · replace h := h.1 c9
      refine r_iconst (pc := 37) dX12_bad_37 (inRk rfl) ?_
      exact r_ireturn (pc := 38) (ty := .boolean) dX12_bad_38 (by decide +kernel) rfl (nar_bool (by decide)) (h hL)
    · replace h := h.2 c9
      refine r_iconst (pc := 33) dX12_bad_33 (inRk rfl) ?_
      refine r_goto (pc := 34) (tgt := 38) dX12_bad_34 (by decide) ?_
      exact r_ireturn (pc := 38) (ty := .boolean) dX12_bad_38 (by decide +kernel) rfl (nar_bool (by decide)) (h hL)
  · replace h := h.2 c9
    refine r_aload_n (pc := 4) dX12_bad_4 rfl rfl ?_
    refine r_getI (pc := 5) dX12_bad_5 (k9 := 0) CL_12 (by decide) (by decide) w_1415 rfl (okO_of (N := 42) (hL.sh (i := 0) rfl (by decide) (by decide)) (by decide)) (fun _ => ?_)
    refine r_if_ne (pc := 8) (tgt := 26) dX12_bad_8 (by decide) (fun c9 => ?_) (fun c9 => ?_)
    · replace h := h.1 c9
      refine r_aload_n (pc := 26) dX12_bad_26 rfl rfl ?_
      refine r_getI (pc := 27) dX12_bad_27 (k9 := 0) CL_12 (by decide) (by decide) w_1415 rfl (okO_of (N := 42) (hL.sh (i := 0) rfl (by decide) (by decide)) (by decide)) (fun _ => ?_)
      refine r_if_eq (pc := 30) (tgt := 37) dX12_bad_30 (by decide) (fun c9 => ?_) (fun c9 => ?_)
      · replace h := h.1 c9
        refine r_iconst (pc := 37) dX12_bad_37 (inRk rfl) ?_
        exact r_ireturn (pc := 38) (ty := .boolean) dX12_bad_38 (by decide +kernel) rfl (nar_bool (by decide)) (h hL)
      · replace h := h.2 c9
        refine r_iconst (pc := 33) dX12_bad_33 (inRk rfl) ?_
        refine r_goto (pc := 34) (tgt := 38) dX12_bad_34 (by decide) ?_
        exact r_ireturn (pc := 38) (ty := .boolean) dX12_bad_38 (by decide +kernel) rfl (nar_bool (by decide)) (h hL)
    · replace h := h.2 c9
      refine r_aload_n (pc := 11) dX12_bad_11 rfl rfl ?_
      refine r_iload_n (pc := 12) dX12_bad_12 rfl rfl ?_
      refine r_putI (pc := 13) dX12_bad_13 (k9 := 0) CL_12 (by decide) (by decide) w_1415 rfl rfl (fun h9 => absurd h9 (by decide +kernel)) (okO_of (N := 42) (hL.sh (i := 0) rfl (by decide) (by decide)) (by decide)) ?_
      refine nmS (fun τ1 e1 => ?_)
      replace h := h τ1 e1
      have hL := hL.wI e1 (by decide) (.inl (by decide))
      refine r_aload_n (pc := 16) dX12_bad_16 rfl rfl ?_
      refine r_getR (pc := 17) dX12_bad_17 (k9 := 1) CL_12 (by decide) (by decide) w_1416 rfl (okO_of (N := 42) (hL.sh (i := 0) rfl (by decide) (by decide)) (by decide)) ?_
      refine eqR (y := 173) (hL.rf (i := 0) rfl) ?_
      refine r_iload_n (pc := 20) dX12_bad_20 rfl rfl ?_
      refine r_dup2_11 (pc := 21) dX12_bad_21 (fun _ h9 => nomatch h9) (fun _ h9 => nomatch h9) ?_
      obtain ⟨o2, h⟩ := h
      refine r_iaload (pc := 22) dX12_bad_22 (okA_of (c := 20) (n := 3) (hL.sh (i := 1) rfl (by decide) (by decide)) (by decide) o2) ?_
      refine r_iconst (pc := 23) dX12_bad_23 (inRk rfl) ?_
      obtain ⟨o3, h⟩ := h
      refine r_iadd (pc := 24) dX12_bad_24 o3 ?_
      refine r_iastore (pc := 25) dX12_bad_25 (okB_of (c := 20) (n := 3) (hL.sh (i := 1) rfl (by decide) (by decide)) (by decide) o2) ?_
      refine nmS (fun τ4 e4 => ?_)
      replace h := h τ4 e4
      have hL := hL.wI e4 (by decide) (.inl (by decide))
      refine r_aload_n (pc := 26) dX12_bad_26 rfl rfl ?_
      refine r_getI (pc := 27) dX12_bad_27 (k9 := 0) CL_12 (by decide) (by decide) w_1415 rfl (okO_of (N := 42) (hL.sh (i := 0) rfl (by decide) (by decide)) (by decide)) (fun _ => ?_)
      refine r_if_eq (pc := 30) (tgt := 37) dX12_bad_30 (by decide) (fun c9 => ?_) (fun c9 => ?_)
      · replace h := h.1 c9
        refine r_iconst (pc := 37) dX12_bad_37 (inRk rfl) ?_
        exact r_ireturn (pc := 38) (ty := .boolean) dX12_bad_38 (by decide +kernel) rfl (nar_bool (by decide)) (h hL)
      · replace h := h.2 c9
        refine r_iconst (pc := 33) dX12_bad_33 (inRk rfl) ?_
        refine r_goto (pc := 34) (tgt := 38) dX12_bad_34 (by decide) ?_
        exact r_ireturn (pc := 38) (ty := .boolean) dX12_bad_38 (by decide +kernel) rfl (nar_bool (by decide)) (h hL)
theorem C_X12_bad {a0 : Nat} {x1 : Int} {x2 : Int} {x3 : Int} (h : GG E mX12_bad 0 [some (vr a0), some (vi x1), some (vi x2), some (vi x3)] [] σ 0 0 Q) : CC E mX12_bad [vr a0, vi x1, vi x2, vi x3] σ Q := CC.of (by decide +kernel) rfl (by decide +kernel) (fun h9 => nomatch h9) (Nat.le_of_ble_eq_true rfl) h
theorem dX12_byteAt_0 : decode cX12_byteAt 0 = .ok (.iload_n 1, 1) := by decide +kernel
theorem dX12_byteAt_1 : decode cX12_byteAt 1 = .ok (.aload_n 0, 1) := by decide +kernel
theorem dX12_byteAt_2 : decode cX12_byteAt 2 = .ok (.getfield 105, 3) := by decide +kernel
theorem dX12_byteAt_5 : decode cX12_byteAt 5 = .ok (.if_icmp .lt 7, 3) := by decide +kernel
theorem dX12_byteAt_8 : decode cX12_byteAt 8 = .ok (.iconst (-1), 1) := by decide +kernel
theorem dX12_byteAt_9 : decode cX12_byteAt 9 = .ok (.goto 9, 3) := by decide +kernel
theorem dX12_byteAt_12 : decode cX12_byteAt 12 = .ok (.aload_n 0, 1) := by decide +kernel
theorem dX12_byteAt_13 : decode cX12_byteAt 13 = .ok (.getfield 17, 3) := by decide +kernel
theorem dX12_byteAt_16 : decode cX12_byteAt 16 = .ok (.iload_n 1, 1) := by decide +kernel
theorem dX12_byteAt_17 : decode cX12_byteAt 17 = .ok (.iaload, 1) := by decide +kernel
theorem dX12_byteAt_18 : decode cX12_byteAt 18 = .ok (.ireturn, 1) := by decide +kernel
theorem B_X12_byteAt_0 {g : Sg} {c t : Nat} (hL : Lay LM g c t σ) {x1 : Int} (h : ((x1 < (gI σ 172 3) → (0 ≤ x1 ∧ x1 < 400) ∧ (Lay LM g c t σ → Q (.inl (some (vi (gI σ 174 x1.toNat)))) σ)) ∧ (¬ (x1 < (gI σ 172 3)) → (Lay LM g c t σ → Q (.inl (some (vi (-1)))) σ)))) : GG E mX12_byteAt 0 [some (vr 172), some (vi x1)] [] σ rc rs Q := by
  refine r_iload_n (pc := 0) dX12_byteAt_0 rfl rfl ?_
  refine r_aload_n (pc := 1) dX12_byteAt_1 rfl rfl ?_
  refine r_getI (pc := 2) dX12_byteAt_2 (k9 := 3) CL_12 (by decide) (by decide) w_1418 rfl (okO_of (N := 42) (hL.sh (i := 0) rfl (by decide) (by decide)) (by decide)) (fun _ => ?_)
  refine r_icmp_lt (pc := 5) (tgt := 12) dX12_byteAt_5 (by decide) (fun c9 => ?_) (fun c9 => ?_)
  · replace h := h.1 c9
    refine r_aload_n (pc := 12) dX12_byteAt_12 rfl rfl ?_
    refine r_getR (pc := 13) dX12_byteAt_13 (k9 := 8) CL_12 (by decide) (by decide) w_1423 rfl (okO_of (N := 42) (hL.sh (i := 0) rfl (by decide) (by decide)) (by decide)) ?_
    refine eqR (y := 174) (hL.rf (i := 1) rfl) ?_
    refine r_iload_n (pc := 16) dX12_byteAt_16 rfl rfl ?_
    obtain ⟨o1, h⟩ := h
    refine r_iaload (pc := 17) dX12_byteAt_17 (okA_of (c := 20) (n := 400) (hL.sh (i := 2) rfl (by decide) (by decide)) (by decide) o1) ?_
    exact r_ireturn (pc := 18) (ty := .int) dX12_byteAt_18 (by decide +kernel) rfl (nar_i _) (h hL)
  · replace h := h.2 c9
    refine r_iconst (pc := 8) dX12_byteAt_8 (inRk rfl) ?_
    refine r_goto (pc := 9) (tgt := 18) dX12_byteAt_9 (by decide) ?_
    exact r_ireturn (pc := 18) (ty := .int) dX12_byteAt_18 (by decide +kernel) rfl (nar_i _) (h hL)
theorem C_X12_byteAt {a0 : Nat} {x1 : Int} (h : GG E mX12_byteAt 0 [some (vr a0), some (vi x1)] [] σ 0 0 Q) : CC E mX12_byteAt [vr a0, vi x1] σ Q := CC.of (by decide +kernel) rfl (by decide +kernel) (fun h9 => nomatch h9) (Nat.le_of_ble_eq_true rfl) h
theorem dX12_centre_0 : decode cX12_centre 0 = .ok (.iconst 0, 1) := by decide +kernel
theorem dX12_centre_1 : decode cX12_centre 1 = .ok (.istore_n 1, 1) := by decide +kernel
theorem dX12_centre_2 : decode cX12_centre 2 = .ok (.iconst 0, 1) := by decide +kernel
theorem dX12_centre_3 : decode cX12_centre 3 = .ok (.istore_n 2, 1) := by decide +kernel
theorem dX12_centre_4 : decode cX12_centre 4 = .ok (.iload_n 2, 1) := by decide +kernel
theorem dX12_centre_5 : decode cX12_centre 5 = .ok (.aload_n 0, 1) := by decide +kernel
theorem dX12_centre_6 : decode cX12_centre 6 = .ok (.getfield 231, 3) := by decide +kernel
theorem dX12_centre_9 : decode cX12_centre 9 = .ok (.if_icmp .ge 27, 3) := by decide +kernel
theorem dX12_centre_12 : decode cX12_centre 12 = .ok (.iload_n 1, 1) := by decide +kernel
theorem dX12_centre_13 : decode cX12_centre 13 = .ok (.aload_n 0, 1) := by decide +kernel
theorem dX12_centre_14 : decode cX12_centre 14 = .ok (.getfield 52, 3) := by decide +kernel
theorem dX12_centre_17 : decode cX12_centre 17 = .ok (.iload_n 2, 1) := by decide +kernel
theorem dX12_centre_18 : decode cX12_centre 18 = .ok (.iaload, 1) := by decide +kernel
theorem dX12_centre_19 : decode cX12_centre 19 = .ok (.iconst 1, 1) := by decide +kernel
theorem dX12_centre_20 : decode cX12_centre 20 = .ok (.if_icmp .ne 7, 3) := by decide +kernel
theorem dX12_centre_23 : decode cX12_centre 23 = .ok (.iconst 1, 1) := by decide +kernel
theorem dX12_centre_24 : decode cX12_centre 24 = .ok (.goto 4, 3) := by decide +kernel
theorem dX12_centre_27 : decode cX12_centre 27 = .ok (.iconst 0, 1) := by decide +kernel
theorem dX12_centre_28 : decode cX12_centre 28 = .ok (.iadd, 1) := by decide +kernel
theorem dX12_centre_29 : decode cX12_centre 29 = .ok (.istore_n 1, 1) := by decide +kernel
theorem dX12_centre_30 : decode cX12_centre 30 = .ok (.iinc 2 1, 3) := by decide +kernel
theorem dX12_centre_33 : decode cX12_centre 33 = .ok (.goto (-29), 3) := by decide +kernel
theorem dX12_centre_36 : decode cX12_centre 36 = .ok (.iload_n 1, 1) := by decide +kernel
theorem dX12_centre_37 : decode cX12_centre 37 = .ok (.ireturn, 1) := by decide +kernel
theorem B_X12_centre_0 {g : Sg} {c t : Nat} (hL : Lay LM g c t σ)  (h : (Lay LM g c t σ → GG E mX12_centre 4 [some (vr 172), some (vi 0), some (vi 0)] [] σ rc rs Q)) : GG E mX12_centre 0 [some (vr 172), none, none] [] σ rc rs Q := by
  refine r_iconst (pc := 0) dX12_centre_0 (inRk rfl) ?_
  refine r_istore_n (pc := 1) dX12_centre_1 rfl (by decide) (l2 := [some (vr 172), some (vi 0), none]) rfl ?_
  refine r_iconst (pc := 2) dX12_centre_2 (inRk rfl) ?_
  refine r_istore_n (pc := 3) dX12_centre_3 rfl (by decide) (l2 := [some (vr 172), some (vi 0), some (vi 0)]) rfl ?_
  exact (h hL)
theorem B_X12_centre_4 {g : Sg} {c t : Nat} (hL : Lay LM g c t σ) {x1 : Int} {x2 : Int} (h : (((gI σ 172 16) ≤ x2 → (Lay LM g c t σ → Q (.inl (some (vi x1))) σ)) ∧ (¬ ((gI σ 172 16) ≤ x2) → (0 ≤ x2 ∧ x2 < 120) ∧ (((gI σ 555 x2.toNat) ≠ 1 → inR (x1 + 0) ∧ inR (x2 + 1) ∧ (Lay LM g c t σ → GG E mX12_centre 4 [some (vr 172), some (vi (x1 + 0)), some (vi (x2 + 1))] [] σ rc rs Q)) ∧ ((gI σ 555 x2.toNat) = 1 → inR (x1 + 1) ∧ inR (x2 + 1) ∧ (Lay LM g c t σ → GG E mX12_centre 4 [some (vr 172), some (vi (x1 + 1)), some (vi (x2 + 1))] [] σ rc rs Q)))))) : GG E mX12_centre 4 [some (vr 172), some (vi x1), some (vi x2)] [] σ rc rs Q := by
  refine r_iload_n (pc := 4) dX12_centre_4 rfl rfl ?_
  refine r_aload_n (pc := 5) dX12_centre_5 rfl rfl ?_
  refine r_getI (pc := 6) dX12_centre_6 (k9 := 16) CL_12 (by decide) (by decide) w_1431 rfl (okO_of (N := 42) (hL.sh (i := 0) rfl (by decide) (by decide)) (by decide)) (fun _ => ?_)
  refine r_icmp_ge (pc := 9) (tgt := 36) dX12_centre_9 (by decide) (fun c9 => ?_) (fun c9 => ?_)
  · replace h := h.1 c9
    refine r_iload_n (pc := 36) dX12_centre_36 rfl rfl ?_
    exact r_ireturn (pc := 37) (ty := .int) dX12_centre_37 (by decide +kernel) rfl (nar_i _) (h hL)
  · replace h := h.2 c9
    refine r_iload_n (pc := 12) dX12_centre_12 rfl rfl ?_
    refine r_aload_n (pc := 13) dX12_centre_13 rfl rfl ?_
    refine r_getR (pc := 14) dX12_centre_14 (k9 := 26) CL_12 (by decide) (by decide) w_1441 rfl (okO_of (N := 42) (hL.sh (i := 0) rfl (by decide) (by decide)) (by decide)) ?_
    refine eqR (y := 555) (hL.rf (i := 12) rfl) ?_
    refine r_iload_n (pc := 17) dX12_centre_17 rfl rfl ?_
    obtain ⟨o1, h⟩ := h
    refine r_iaload (pc := 18) dX12_centre_18 (okA_of (c := 20) (n := 120) (hL.sh (i := 17) rfl (by decide) (by decide)) (by decide) o1) ?_
    refine r_iconst (pc := 19) dX12_centre_19 (inRk rfl) ?_
    refine r_icmp_ne (pc := 20) (tgt := 27) dX12_centre_20 (by decide) (fun c9 => ?_) (fun c9 => ?_)
    · replace h := h.1 c9
      refine r_iconst (pc := 27) dX12_centre_27 (inRk rfl) ?_
      obtain ⟨o2, h⟩ := h
      refine r_iadd (pc := 28) dX12_centre_28 o2 ?_
      refine r_istore_n (pc := 29) dX12_centre_29 rfl (by decide) (l2 := [some (vr 172), some (vi (x1 + 0)), some (vi x2)]) rfl ?_
      obtain ⟨o3, h⟩ := h
      refine r_iinc (pc := 30) dX12_centre_30 rfl (by decide) o3 (l2 := [some (vr 172), some (vi (x1 + 0)), some (vi (x2 + 1))]) rfl ?_
      refine r_goto (pc := 33) (tgt := 4) dX12_centre_33 (by decide) ?_
      exact (h hL)
    · replace h := h.2 c9
      refine r_iconst (pc := 23) dX12_centre_23 (inRk rfl) ?_
      refine r_goto (pc := 24) (tgt := 28) dX12_centre_24 (by decide) ?_
      obtain ⟨o4, h⟩ := h
      refine r_iadd (pc := 28) dX12_centre_28 o4 ?_
      refine r_istore_n (pc := 29) dX12_centre_29 rfl (by decide) (l2 := [some (vr 172), some (vi (x1 + 1)), some (vi x2)]) rfl ?_
      obtain ⟨o5, h⟩ := h
      refine r_iinc (pc := 30) dX12_centre_30 rfl (by decide) o5 (l2 := [some (vr 172), some (vi (x1 + 1)), some (vi (x2 + 1))]) rfl ?_
      refine r_goto (pc := 33) (tgt := 4) dX12_centre_33 (by decide) ?_
      exact (h hL)
theorem C_X12_centre {a0 : Nat} (h : GG E mX12_centre 0 [some (vr a0), none, none] [] σ 0 0 Q) : CC E mX12_centre [vr a0] σ Q := CC.of (by decide +kernel) rfl (by decide +kernel) (fun h9 => nomatch h9) (Nat.le_of_ble_eq_true rfl) h
theorem dX12_closes_0 : decode cX12_closes 0 = .ok (.iconst 0, 1) := by decide +kernel
theorem dX12_closes_1 : decode cX12_closes 1 = .ok (.istore_n 2, 1) := by decide +kernel
theorem dX12_closes_2 : decode cX12_closes 2 = .ok (.iload_n 2, 1) := by decide +kernel
theorem dX12_closes_3 : decode cX12_closes 3 = .ok (.bipush 8, 2) := by decide +kernel
theorem dX12_closes_5 : decode cX12_closes 5 = .ok (.if_icmp .ge 26, 3) := by decide +kernel
theorem dX12_closes_8 : decode cX12_closes 8 = .ok (.aload_n 0, 1) := by decide +kernel
theorem dX12_closes_9 : decode cX12_closes 9 = .ok (.getfield 28, 3) := by decide +kernel
theorem dX12_closes_12 : decode cX12_closes 12 = .ok (.iconst 0, 1) := by decide +kernel
theorem dX12_closes_13 : decode cX12_closes 13 = .ok (.aaload, 1) := by decide +kernel
theorem dX12_closes_14 : decode cX12_closes 14 = .ok (.iload_n 2, 1) := by decide +kernel
theorem dX12_closes_15 : decode cX12_closes 15 = .ok (.iload_n 2, 1) := by decide +kernel
theorem dX12_closes_16 : decode cX12_closes 16 = .ok (.ifCond .ne 7, 3) := by decide +kernel
theorem dX12_closes_19 : decode cX12_closes 19 = .ok (.iconst 4, 1) := by decide +kernel
theorem dX12_closes_20 : decode cX12_closes 20 = .ok (.goto 4, 3) := by decide +kernel
theorem dX12_closes_23 : decode cX12_closes 23 = .ok (.iconst 0, 1) := by decide +kernel
theorem dX12_closes_24 : decode cX12_closes 24 = .ok (.iastore, 1) := by decide +kernel
theorem dX12_closes_25 : decode cX12_closes 25 = .ok (.iinc 2 1, 3) := by decide +kernel
theorem dX12_closes_28 : decode cX12_closes 28 = .ok (.goto (-26), 3) := by decide +kernel
theorem dX12_closes_31 : decode cX12_closes 31 = .ok (.aload_n 0, 1) := by decide +kernel
theorem dX12_closes_32 : decode cX12_closes 32 = .ok (.iconst 1, 1) := by decide +kernel
theorem dX12_closes_33 : decode cX12_closes 33 = .ok (.putfield 214, 3) := by decide +kernel
theorem dX12_closes_36 : decode cX12_closes 36 = .ok (.iconst 0, 1) := by decide +kernel
theorem dX12_closes_37 : decode cX12_closes 37 = .ok (.istore_n 2, 1) := by decide +kernel
theorem dX12_closes_38 : decode cX12_closes 38 = .ok (.iload_n 2, 1) := by decide +kernel
theorem dX12_closes_39 : decode cX12_closes 39 = .ok (.aload_n 0, 1) := by decide +kernel
theorem dX12_closes_40 : decode cX12_closes 40 = .ok (.getfield 214, 3) := by decide +kernel
theorem dX12_closes_43 : decode cX12_closes 43 = .ok (.if_icmp .ge 160, 3) := by decide +kernel
theorem dX12_closes_46 : decode cX12_closes 46 = .ok (.iconst 0, 1) := by decide +kernel
theorem dX12_closes_47 : decode cX12_closes 47 = .ok (.istore_n 3, 1) := by decide +kernel
theorem dX12_closes_48 : decode cX12_closes 48 = .ok (.iload_n 3, 1) := by decide +kernel
theorem dX12_closes_49 : decode cX12_closes 49 = .ok (.aload_n 0, 1) := by decide +kernel
theorem dX12_closes_50 : decode cX12_closes 50 = .ok (.getfield 22, 3) := by decide +kernel
theorem dX12_closes_53 : decode cX12_closes 53 = .ok (.iload_n 1, 1) := by decide +kernel
theorem dX12_closes_54 : decode cX12_closes 54 = .ok (.aaload, 1) := by decide +kernel
theorem dX12_closes_55 : decode cX12_closes 55 = .ok (.iconst 1, 1) := by decide +kernel
theorem dX12_closes_56 : decode cX12_closes 56 = .ok (.iaload, 1) := by decide +kernel
theorem dX12_closes_57 : decode cX12_closes 57 = .ok (.if_icmp .ge 140, 3) := by decide +kernel
theorem dX12_closes_60 : decode cX12_closes 60 = .ok (.aload_n 0, 1) := by decide +kernel
theorem dX12_closes_61 : decode cX12_closes 61 = .ok (.aload_n 0, 1) := by decide +kernel
theorem dX12_closes_62 : decode cX12_closes 62 = .ok (.getfield 28, 3) := by decide +kernel
theorem dX12_closes_65 : decode cX12_closes 65 = .ok (.iload_n 2, 1) := by decide +kernel
theorem dX12_closes_66 : decode cX12_closes 66 = .ok (.aaload, 1) := by decide +kernel
theorem dX12_closes_67 : decode cX12_closes 67 = .ok (.iconst 0, 1) := by decide +kernel
theorem dX12_closes_68 : decode cX12_closes 68 = .ok (.aload_n 0, 1) := by decide +kernel
theorem dX12_closes_69 : decode cX12_closes 69 = .ok (.getfield 22, 3) := by decide +kernel
theorem dX12_closes_72 : decode cX12_closes 72 = .ok (.iload_n 1, 1) := by decide +kernel
theorem dX12_closes_73 : decode cX12_closes 73 = .ok (.aaload, 1) := by decide +kernel
theorem dX12_closes_74 : decode cX12_closes 74 = .ok (.iconst 2, 1) := by decide +kernel
theorem dX12_closes_75 : decode cX12_closes 75 = .ok (.bipush 8, 2) := by decide +kernel
theorem dX12_closes_77 : decode cX12_closes 77 = .ok (.iload_n 3, 1) := by decide +kernel
theorem dX12_closes_78 : decode cX12_closes 78 = .ok (.imul, 1) := by decide +kernel
theorem dX12_closes_79 : decode cX12_closes 79 = .ok (.iadd, 1) := by decide +kernel
theorem dX12_closes_80 : decode cX12_closes 80 = .ok (.aload_n 0, 1) := by decide +kernel
theorem dX12_closes_81 : decode cX12_closes 81 = .ok (.iload_n 1, 1) := by decide +kernel
theorem dX12_closes_82 : decode cX12_closes 82 = .ok (.invokevirtual 195, 3) := by decide +kernel
theorem dX12_closes_85 : decode cX12_closes 85 = .ok (.invokevirtual 217, 3) := by decide +kernel
theorem dX12_closes_88 : decode cX12_closes 88 = .ok (.ifCond .ne 15, 3) := by decide +kernel
theorem dX12_closes_91 : decode cX12_closes 91 = .ok (.aload_n 0, 1) := by decide +kernel
theorem dX12_closes_92 : decode cX12_closes 92 = .ok (.iconst 1, 1) := by decide +kernel
theorem dX12_closes_93 : decode cX12_closes 93 = .ok (.aload_n 0, 1) := by decide +kernel
theorem dX12_closes_94 : decode cX12_closes 94 = .ok (.getfield 214, 3) := by decide +kernel
theorem dX12_closes_97 : decode cX12_closes 97 = .ok (.iload_n 2, 1) := by decide +kernel
theorem dX12_closes_98 : decode cX12_closes 98 = .ok (.iload_n 3, 1) := by decide +kernel
theorem dX12_closes_99 : decode cX12_closes 99 = .ok (.invokevirtual 210, 3) := by decide +kernel
theorem dX12_closes_102 : decode cX12_closes 102 = .ok (.ireturn, 1) := by decide +kernel
theorem dX12_closes_103 : decode cX12_closes 103 = .ok (.aload_n 0, 1) := by decide +kernel
theorem dX12_closes_104 : decode cX12_closes 104 = .ok (.getfield 28, 3) := by decide +kernel
theorem dX12_closes_107 : decode cX12_closes 107 = .ok (.aload_n 0, 1) := by decide +kernel
theorem dX12_closes_108 : decode cX12_closes 108 = .ok (.getfield 214, 3) := by decide +kernel
theorem dX12_closes_111 : decode cX12_closes 111 = .ok (.aload_n 0, 1) := by decide +kernel
theorem dX12_closes_112 : decode cX12_closes 112 = .ok (.getfield 31, 3) := by decide +kernel
theorem dX12_closes_115 : decode cX12_closes 115 = .ok (.invokestatic 221, 3) := by decide +kernel
theorem dX12_closes_118 : decode cX12_closes 118 = .ok (.iconst (-1), 1) := by decide +kernel
theorem dX12_closes_119 : decode cX12_closes 119 = .ok (.if_icmp .eq 6, 3) := by decide +kernel
theorem dX12_closes_122 : decode cX12_closes 122 = .ok (.goto 69, 3) := by decide +kernel
theorem dX12_closes_125 : decode cX12_closes 125 = .ok (.aload_n 0, 1) := by decide +kernel
theorem dX12_closes_126 : decode cX12_closes 126 = .ok (.getfield 214, 3) := by decide +kernel
theorem dX12_closes_129 : decode cX12_closes 129 = .ok (.bipush 120, 2) := by decide +kernel
theorem dX12_closes_131 : decode cX12_closes 131 = .ok (.if_icmp .ne 15, 3) := by decide +kernel
theorem dX12_closes_134 : decode cX12_closes 134 = .ok (.aload_n 0, 1) := by decide +kernel
theorem dX12_closes_135 : decode cX12_closes 135 = .ok (.iconst 2, 1) := by decide +kernel
theorem dX12_closes_136 : decode cX12_closes 136 = .ok (.aload_n 0, 1) := by decide +kernel
theorem dX12_closes_137 : decode cX12_closes 137 = .ok (.getfield 214, 3) := by decide +kernel
theorem dX12_closes_140 : decode cX12_closes 140 = .ok (.iload_n 2, 1) := by decide +kernel
theorem dX12_closes_141 : decode cX12_closes 141 = .ok (.iload_n 3, 1) := by decide +kernel
theorem dX12_closes_142 : decode cX12_closes 142 = .ok (.invokevirtual 210, 3) := by decide +kernel
theorem dX12_closes_145 : decode cX12_closes 145 = .ok (.ireturn, 1) := by decide +kernel
theorem dX12_closes_146 : decode cX12_closes 146 = .ok (.iconst 0, 1) := by decide +kernel
theorem dX12_closes_147 : decode cX12_closes 147 = .ok (.istore 4, 2) := by decide +kernel
theorem dX12_closes_149 : decode cX12_closes 149 = .ok (.iload 4, 2) := by decide +kernel
theorem dX12_closes_151 : decode cX12_closes 151 = .ok (.bipush 8, 2) := by decide +kernel
theorem dX12_closes_153 : decode cX12_closes 153 = .ok (.if_icmp .ge 28, 3) := by decide +kernel
theorem dX12_closes_156 : decode cX12_closes 156 = .ok (.aload_n 0, 1) := by decide +kernel
theorem dX12_closes_157 : decode cX12_closes 157 = .ok (.getfield 28, 3) := by decide +kernel
theorem dX12_closes_160 : decode cX12_closes 160 = .ok (.aload_n 0, 1) := by decide +kernel
theorem dX12_closes_161 : decode cX12_closes 161 = .ok (.getfield 214, 3) := by decide +kernel
theorem dX12_closes_164 : decode cX12_closes 164 = .ok (.aaload, 1) := by decide +kernel
theorem dX12_closes_165 : decode cX12_closes 165 = .ok (.iload 4, 2) := by decide +kernel
theorem dX12_closes_167 : decode cX12_closes 167 = .ok (.aload_n 0, 1) := by decide +kernel
theorem dX12_closes_168 : decode cX12_closes 168 = .ok (.getfield 31, 3) := by decide +kernel
theorem dX12_closes_171 : decode cX12_closes 171 = .ok (.iload 4, 2) := by decide +kernel
theorem dX12_closes_173 : decode cX12_closes 173 = .ok (.iaload, 1) := by decide +kernel
theorem dX12_closes_174 : decode cX12_closes 174 = .ok (.iastore, 1) := by decide +kernel
theorem dX12_closes_175 : decode cX12_closes 175 = .ok (.iinc 4 1, 3) := by decide +kernel
theorem dX12_closes_178 : decode cX12_closes 178 = .ok (.goto (-29), 3) := by decide +kernel
theorem dX12_closes_181 : decode cX12_closes 181 = .ok (.aload_n 0, 1) := by decide +kernel
theorem dX12_closes_182 : decode cX12_closes 182 = .ok (.dup, 1) := by decide +kernel
theorem dX12_closes_183 : decode cX12_closes 183 = .ok (.getfield 214, 3) := by decide +kernel
theorem dX12_closes_186 : decode cX12_closes 186 = .ok (.iconst 1, 1) := by decide +kernel
theorem dX12_closes_187 : decode cX12_closes 187 = .ok (.iadd, 1) := by decide +kernel
theorem dX12_closes_188 : decode cX12_closes 188 = .ok (.putfield 214, 3) := by decide +kernel
theorem dX12_closes_191 : decode cX12_closes 191 = .ok (.iinc 3 1, 3) := by decide +kernel
theorem dX12_closes_194 : decode cX12_closes 194 = .ok (.goto (-146), 3) := by decide +kernel
theorem dX12_closes_197 : decode cX12_closes 197 = .ok (.iinc 2 1, 3) := by decide +kernel
theorem dX12_closes_200 : decode cX12_closes 200 = .ok (.goto (-162), 3) := by decide +kernel
theorem dX12_closes_203 : decode cX12_closes 203 = .ok (.iconst 1, 1) := by decide +kernel
theorem dX12_closes_204 : decode cX12_closes 204 = .ok (.ireturn, 1) := by decide +kernel
theorem B_X12_closes_0 {g : Sg} {c t : Nat} (hL : Lay LM g c t σ) {x1 : Int} (h : (Lay LM g c t σ → GG E mX12_closes 2 [some (vr 172), some (vi x1), some (vi 0), none, none] [] σ rc rs Q)) : GG E mX12_closes 0 [some (vr 172), some (vi x1), none, none, none] [] σ rc rs Q := by
  refine r_iconst (pc := 0) dX12_closes_0 (inRk rfl) ?_
  refine r_istore_n (pc := 1) dX12_closes_1 rfl (by decide) (l2 := [some (vr 172), some (vi x1), some (vi 0), none, none]) rfl ?_
  exact (h hL)
theorem B_X12_closes_2 {g : Sg} {c t : Nat} (hL : Lay LM g c t σ) {x1 : Int} {x2 : Int} (h : ((8 ≤ x2 → ∀ τ1 : Sg, τ1 = sI σ 172 12 1 → (Lay LM g c t τ1 → GG E mX12_closes 38 [some (vr 172), some (vi x1), some (vi 0), none, none] [] τ1 rc rs Q)) ∧ (¬ (8 ≤ x2) → ((x2 ≠ 0 → (0 ≤ x2 ∧ x2 < 8) ∧ ∀ τ3 : Sg, τ3 = sI σ 188 x2.toNat 0 → inR (x2 + 1) ∧ (Lay LM g c t τ3 → GG E mX12_closes 2 [some (vr 172), some (vi x1), some (vi (x2 + 1)), none, none] [] τ3 rc rs Q)) ∧ (x2 = 0 → (0 ≤ x2 ∧ x2 < 8) ∧ ∀ τ6 : Sg, τ6 = sI σ 188 x2.toNat 4 → inR (x2 + 1) ∧ (Lay LM g c t τ6 → GG E mX12_closes 2 [some (vr 172), some (vi x1), some (vi (x2 + 1)), none, none] [] τ6 rc rs Q)))))) : GG E mX12_closes 2 [some (vr 172), some (vi x1), some (vi x2), none, none] [] σ rc rs Q := by
  refine r_iload_n (pc := 2) dX12_closes_2 rfl rfl ?_
  refine r_bipush (pc := 3) dX12_closes_3 (by decide) ?_
  refine r_icmp_ge (pc := 5) (tgt := 31) dX12_closes_5 (by decide) (fun c9 => ?_) (fun c9 => ?_)
  · replace h := h.1 c9
    refine r_aload_n (pc := 31) dX12_closes_31 rfl rfl ?_
    refine r_iconst (pc := 32) dX12_closes_32 (inRk rfl) ?_
    refine r_putI (pc := 33) dX12_closes_33 (k9 := 12) CL_12 (by decide) (by decide) w_1427 rfl rfl (fun h9 => absurd h9 (by decide +kernel)) (okO_of (N := 42) (hL.sh (i := 0) rfl (by decide) (by decide)) (by decide)) ?_
    refine nmS (fun τ1 e1 => ?_)
    replace h := h τ1 e1
    have hL := hL.wI e1 (by decide) (.inl (by decide))
    refine r_iconst (pc := 36) dX12_closes_36 (inRk rfl) ?_
    refine r_istore_n (pc := 37) dX12_closes_37 rfl (by decide) (l2 := [some (vr 172), some (vi x1), some (vi 0), none, none]) rfl ?_
    exact (h hL)
  · replace h := h.2 c9
    refine r_aload_n (pc := 8) dX12_closes_8 rfl rfl ?_
    refine r_getR (pc := 9) dX12_closes_9 (k9 := 13) CL_12 (by decide) (by decide) w_1428 rfl (okO_of (N := 42) (hL.sh (i := 0) rfl (by decide) (by decide)) (by decide)) ?_
    refine eqR (y := 187) (hL.rf (i := 4) rfl) ?_
    refine r_iconst (pc := 12) dX12_closes_12 (inRk rfl) ?_
    refine r_aaload (pc := 13) dX12_closes_13 (okB_of (c := 24) (n := 120) (hL.sh (i := 6) rfl (by decide) (by decide)) (by decide) (by decide)) ?_
    refine eqR (y := 188) (hL.rx (i := 1) rfl (by decide)) ?_
    refine r_iload_n (pc := 14) dX12_closes_14 rfl rfl ?_
    refine r_iload_n (pc := 15) dX12_closes_15 rfl rfl ?_
    refine r_if_ne (pc := 16) (tgt := 23) dX12_closes_16 (by decide) (fun c9 => ?_) (fun c9 => ?_)
    · replace h := h.1 c9
      refine r_iconst (pc := 23) dX12_closes_23 (inRk rfl) ?_
      obtain ⟨o2, h⟩ := h
      refine r_iastore (pc := 24) dX12_closes_24 (okB_of (c := 20) (n := 8) (hL.sh (i := 7) rfl (by decide) (by decide)) (by decide) o2) ?_
      refine nmS (fun τ3 e3 => ?_)
      replace h := h τ3 e3
      have hL := hL.wI e3 (by decide) (.inl (by decide))
      obtain ⟨o4, h⟩ := h
      refine r_iinc (pc := 25) dX12_closes_25 rfl (by decide) o4 (l2 := [some (vr 172), some (vi x1), some (vi (x2 + 1)), none, none]) rfl ?_
      refine r_goto (pc := 28) (tgt := 2) dX12_closes_28 (by decide) ?_
      exact (h hL)
    · replace h := h.2 c9
      refine r_iconst (pc := 19) dX12_closes_19 (inRk rfl) ?_
      refine r_goto (pc := 20) (tgt := 24) dX12_closes_20 (by decide) ?_
      obtain ⟨o5, h⟩ := h
      refine r_iastore (pc := 24) dX12_closes_24 (okB_of (c := 20) (n := 8) (hL.sh (i := 7) rfl (by decide) (by decide)) (by decide) o5) ?_
      refine nmS (fun τ6 e6 => ?_)
      replace h := h τ6 e6
      have hL := hL.wI e6 (by decide) (.inl (by decide))
      obtain ⟨o7, h⟩ := h
      refine r_iinc (pc := 25) dX12_closes_25 rfl (by decide) o7 (l2 := [some (vr 172), some (vi x1), some (vi (x2 + 1)), none, none]) rfl ?_
      refine r_goto (pc := 28) (tgt := 2) dX12_closes_28 (by decide) ?_
      exact (h hL)
theorem B_X12_closes_38 {g : Sg} {c t : Nat} (hL : Lay LM g c t σ) {x1 : Int} {x2 : Int} (h : (((gI σ 172 12) ≤ x2 → (Lay LM g c t σ → Q (.inl (some (vi 1))) σ)) ∧ (¬ ((gI σ 172 12) ≤ x2) → (Lay LM g c t σ → GG E mX12_closes 48 [some (vr 172), some (vi x1), some (vi x2), some (vi 0), none] [] σ rc rs Q)))) : GG E mX12_closes 38 [some (vr 172), some (vi x1), some (vi x2), none, none] [] σ rc rs Q := by
  refine r_iload_n (pc := 38) dX12_closes_38 rfl rfl ?_
  refine r_aload_n (pc := 39) dX12_closes_39 rfl rfl ?_
  refine r_getI (pc := 40) dX12_closes_40 (k9 := 12) CL_12 (by decide) (by decide) w_1427 rfl (okO_of (N := 42) (hL.sh (i := 0) rfl (by decide) (by decide)) (by decide)) (fun _ => ?_)
  refine r_icmp_ge (pc := 43) (tgt := 203) dX12_closes_43 (by decide) (fun c9 => ?_) (fun c9 => ?_)
  · replace h := h.1 c9
    refine r_iconst (pc := 203) dX12_closes_203 (inRk rfl) ?_
    exact r_ireturn (pc := 204) (ty := .boolean) dX12_closes_204 (by decide +kernel) rfl (nar_bool (by decide)) (h hL)
  · replace h := h.2 c9
    refine r_iconst (pc := 46) dX12_closes_46 (inRk rfl) ?_
    refine r_istore_n (pc := 47) dX12_closes_47 rfl (by decide) (l2 := [some (vr 172), some (vi x1), some (vi x2), some (vi 0), none]) rfl ?_
    exact (h hL)
theorem B_X12_closes_48 {g : Sg} {c t : Nat} (hL : Lay LM g c t σ) {x1 : Int} {x2 : Int} {x3 : Int} (h : (0 ≤ x1 ∧ x1 < 10) ∧ (((gI σ (176 + x1.toNat) 1) ≤ x3 → inR (x2 + 1) ∧ (Lay LM g c t σ → GG E mX12_closes 38 [some (vr 172), some (vi x1), some (vi (x2 + 1)), none, none] [] σ rc rs Q)) ∧ (¬ ((gI σ (176 + x1.toNat) 1) ≤ x3) → (0 ≤ x2 ∧ x2 < 120) ∧ inR (8 * x3) ∧ inR (2 + (8 * x3)) ∧ (Lay LM g c t σ → CC E mX12_root [vr 172, vi x1] σ (KI (fun r9 τ10 => Lay LM g c t τ10 ∧ (inR r9 → (Lay LM g c t τ10 → CC E mX12_multiplies [vr 172, vr (188 + x2.toNat), vi 0, vr (176 + x1.toNat), vi (2 + (8 * x3)), vi r9] τ10 (KI (fun r11 τ12 => Lay LM g c t τ12 ∧ (inR r11 → ((r11 ≠ 0 → (Lay LM g c t τ12 → CC E mX12_placeIn [vr 187, vi (gI τ12 172 12), vr 308] τ12 (KI (fun r13 τ14 => Lay LM g c t τ14 ∧ (inR r13 → ((r13 = (-1) → (((gI τ14 172 12) ≠ 120 → (Lay LM g c t τ14 → GG E mX12_closes 149 [some (vr 172), some (vi x1), some (vi x2), some (vi x3), some (vi 0)] [] τ14 rc rs Q)) ∧ ((gI τ14 172 12) = 120 → (Lay LM g c t τ14 → CC E mX12_stops [vr 172, vi 2, vi (gI τ14 172 12), vi x2, vi x3] τ14 (KI (fun r15 τ16 => Lay LM g c t τ16 ∧ (inR r15 → (r15 = 0 ∨ r15 = 1) ∧ (Lay LM g c t τ16 → Q (.inl (some (vi r15))) τ16))) (fun _ _ => False)))))) ∧ (¬ (r13 = (-1)) → inR (x3 + 1) ∧ (Lay LM g c t τ14 → GG E mX12_closes 48 [some (vr 172), some (vi x1), some (vi x2), some (vi (x3 + 1)), none] [] τ14 rc rs Q))))) (fun _ _ => False)))) ∧ (r11 = 0 → (Lay LM g c t τ12 → CC E mX12_stops [vr 172, vi 1, vi (gI τ12 172 12), vi x2, vi x3] τ12 (KI (fun r18 τ19 => Lay LM g c t τ19 ∧ (inR r18 → (r18 = 0 ∨ r18 = 1) ∧ (Lay LM g c t τ19 → Q (.inl (some (vi r18))) τ19))) (fun _ _ => False))))))) (fun _ _ => False))))) (fun _ _ => False)))))) : GG E mX12_closes 48 [some (vr 172), some (vi x1), some (vi x2), some (vi x3), none] [] σ rc rs Q := by
  refine r_iload_n (pc := 48) dX12_closes_48 rfl rfl ?_
  refine r_aload_n (pc := 49) dX12_closes_49 rfl rfl ?_
  refine r_getR (pc := 50) dX12_closes_50 (k9 := 9) CL_12 (by decide) (by decide) w_1424 rfl (okO_of (N := 42) (hL.sh (i := 0) rfl (by decide) (by decide)) (by decide)) ?_
  refine eqR (y := 175) (hL.rf (i := 2) rfl) ?_
  refine r_iload_n (pc := 53) dX12_closes_53 rfl rfl ?_
  obtain ⟨o1, h⟩ := h
  refine r_aaload (pc := 54) dX12_closes_54 (okB_of (c := 24) (n := 10) (hL.sh (i := 3) rfl (by decide) (by decide)) (by decide) o1) ?_
  have q2 : 176 ≤ 176 + x1.toNat ∧ 176 + x1.toNat < 186 := ⟨Nat.le_add_right _ _, rowB o1 (by decide)⟩
  refine eqR (y := 176 + x1.toNat) (hL.rx (i := 0) rfl (rowC o1 (by decide))) ?_
  refine r_iconst (pc := 55) dX12_closes_55 (inRk rfl) ?_
  refine r_iaload (pc := 56) dX12_closes_56 (okA_of (c := 20) (n := 34) (hL.sh (i := 4) rfl q2.1 q2.2) (Nat.le_trans (by decide) q2.1) (by decide)) ?_
  refine r_icmp_ge (pc := 57) (tgt := 197) dX12_closes_57 (by decide) (fun c9 => ?_) (fun c9 => ?_)
  · replace h := h.1 c9
    obtain ⟨o3, h⟩ := h
    refine r_iinc (pc := 197) dX12_closes_197 rfl (by decide) o3 (l2 := [some (vr 172), some (vi x1), some (vi (x2 + 1)), some (vi x3), none]) rfl ?_
    refine r_goto (pc := 200) (tgt := 38) dX12_closes_200 (by decide) ?_
    exact GG.msk [true, true, true, false, false] (h hL)
  · replace h := h.2 c9
    refine r_aload_n (pc := 60) dX12_closes_60 rfl rfl ?_
    refine r_aload_n (pc := 61) dX12_closes_61 rfl rfl ?_
    refine r_getR (pc := 62) dX12_closes_62 (k9 := 13) CL_12 (by decide) (by decide) w_1428 rfl (okO_of (N := 42) (hL.sh (i := 0) rfl (by decide) (by decide)) (by decide)) ?_
    refine eqR (y := 187) (hL.rf (i := 4) rfl) ?_
    refine r_iload_n (pc := 65) dX12_closes_65 rfl rfl ?_
    obtain ⟨o4, h⟩ := h
    refine r_aaload (pc := 66) dX12_closes_66 (okB_of (c := 24) (n := 120) (hL.sh (i := 6) rfl (by decide) (by decide)) (by decide) o4) ?_
    have q5 : 188 ≤ 188 + x2.toNat ∧ 188 + x2.toNat < 308 := ⟨Nat.le_add_right _ _, rowB o4 (by decide)⟩
    refine eqR (y := 188 + x2.toNat) (hL.rx (i := 1) rfl (rowC o4 (by decide))) ?_
    refine r_iconst (pc := 67) dX12_closes_67 (inRk rfl) ?_
    refine r_aload_n (pc := 68) dX12_closes_68 rfl rfl ?_
    refine r_getR (pc := 69) dX12_closes_69 (k9 := 9) CL_12 (by decide) (by decide) w_1424 rfl (okO_of (N := 42) (hL.sh (i := 0) rfl (by decide) (by decide)) (by decide)) ?_
    refine eqR (y := 175) (hL.rf (i := 2) rfl) ?_
    refine r_iload_n (pc := 72) dX12_closes_72 rfl rfl ?_
    refine r_aaload (pc := 73) dX12_closes_73 (okB_of (c := 24) (n := 10) (hL.sh (i := 3) rfl (by decide) (by decide)) (by decide) o1) ?_
    have q6 : 176 ≤ 176 + x1.toNat ∧ 176 + x1.toNat < 186 := ⟨Nat.le_add_right _ _, rowB o1 (by decide)⟩
    refine eqR (y := 176 + x1.toNat) (hL.rx (i := 0) rfl (rowC o1 (by decide))) ?_
    refine r_iconst (pc := 74) dX12_closes_74 (inRk rfl) ?_
    refine r_bipush (pc := 75) dX12_closes_75 (by decide) ?_
    refine r_iload_n (pc := 77) dX12_closes_77 rfl rfl ?_
    obtain ⟨o7, h⟩ := h
    refine r_imul (pc := 78) dX12_closes_78 o7 ?_
    obtain ⟨o8, h⟩ := h
    refine r_iadd (pc := 79) dX12_closes_79 o8 ?_
    refine r_aload_n (pc := 80) dX12_closes_80 rfl rfl ?_
    refine r_iload_n (pc := 81) dX12_closes_81 rfl rfl ?_
    refine c_VI0N (M := mX12_closes) (pc := 82) (As := [vi x1]) dX12_closes_82 K_X12_root w_1377 ⟨by decide, by decide⟩ (Nat.le_of_ble_eq_true rfl) rfl rfl (ci := 12) rfl rfl (by decide) (okO_of (N := 42) (hL.sh (i := 0) rfl (by decide) (by decide)) (by decide)) (h hL) (fun r9 τ10 h8 hr9 => ?_) rfl
    replace hL := h8.1
    replace h := h8.2 hr9
    refine c_VI0N (M := mX12_closes) (pc := 85) (As := [vr (188 + x2.toNat), vi 0, vr (176 + x1.toNat), vi (2 + (8 * x3)), vi r9]) dX12_closes_85 K_X12_multiplies w_1381 ⟨by decide, by decide⟩ (Nat.le_of_ble_eq_true rfl) rfl rfl (ci := 12) rfl rfl (by decide) (okO_of (N := 42) (hL.sh (i := 0) rfl (by decide) (by decide)) (by decide)) (h hL) (fun r11 τ12 h8 hr9 => ?_) rfl
    replace hL := h8.1
    replace h := h8.2 hr9
    refine r_if_ne (pc := 88) (tgt := 103) dX12_closes_88 (by decide) (fun c9 => ?_) (fun c9 => ?_)
    · replace h := h.1 c9
      refine r_aload_n (pc := 103) dX12_closes_103 rfl rfl ?_
      refine r_getR (pc := 104) dX12_closes_104 (k9 := 13) CL_12 (by decide) (by decide) w_1428 rfl (okO_of (N := 42) (hL.sh (i := 0) rfl (by decide) (by decide)) (by decide)) ?_
      refine eqR (y := 187) (hL.rf (i := 4) rfl) ?_
      refine r_aload_n (pc := 107) dX12_closes_107 rfl rfl ?_
      refine r_getI (pc := 108) dX12_closes_108 (k9 := 12) CL_12 (by decide) (by decide) w_1427 rfl (okO_of (N := 42) (hL.sh (i := 0) rfl (by decide) (by decide)) (by decide)) (fun _ => ?_)
      refine r_aload_n (pc := 111) dX12_closes_111 rfl rfl ?_
      refine r_getR (pc := 112) dX12_closes_112 (k9 := 14) CL_12 (by decide) (by decide) w_1429 rfl (okO_of (N := 42) (hL.sh (i := 0) rfl (by decide) (by decide)) (by decide)) ?_
      refine eqR (y := 308) (hL.rf (i := 5) rfl) ?_
      refine c_SI0N (M := mX12_closes) (pc := 115) (As := [vr 187, vi (gI τ12 172 12), vr 308]) dX12_closes_115 K_X12_placeIn w_1395 ⟨by decide, by decide⟩ (Nat.le_of_ble_eq_true rfl) rfl rfl (h hL) (fun r13 τ14 h8 hr9 => ?_) rfl
      replace hL := h8.1
      replace h := h8.2 hr9
      refine r_iconst (pc := 118) dX12_closes_118 (inRk rfl) ?_
      refine r_icmp_eq (pc := 119) (tgt := 125) dX12_closes_119 (by decide) (fun c9 => ?_) (fun c9 => ?_)
      · replace h := h.1 c9
        refine r_aload_n (pc := 125) dX12_closes_125 rfl rfl ?_
        refine r_getI (pc := 126) dX12_closes_126 (k9 := 12) CL_12 (by decide) (by decide) w_1427 rfl (okO_of (N := 42) (hL.sh (i := 0) rfl (by decide) (by decide)) (by decide)) (fun _ => ?_)
        refine r_bipush (pc := 129) dX12_closes_129 (by decide) ?_
        refine r_icmp_ne (pc := 131) (tgt := 146) dX12_closes_131 (by decide) (fun c9 => ?_) (fun c9 => ?_)
        · replace h := h.1 c9
          refine r_iconst (pc := 146) dX12_closes_146 (inRk rfl) ?_
          refine r_istore (pc := 147) dX12_closes_147 (by decide) (l2 := [some (vr 172), some (vi x1), some (vi x2), some (vi x3), some (vi 0)]) rfl ?_
          exact (h hL)
        · replace h := h.2 c9
          refine r_aload_n (pc := 134) dX12_closes_134 rfl rfl ?_
          refine r_iconst (pc := 135) dX12_closes_135 (inRk rfl) ?_
          refine r_aload_n (pc := 136) dX12_closes_136 rfl rfl ?_
          refine r_getI (pc := 137) dX12_closes_137 (k9 := 12) CL_12 (by decide) (by decide) w_1427 rfl (okO_of (N := 42) (hL.sh (i := 0) rfl (by decide) (by decide)) (by decide)) (fun _ => ?_)
          refine r_iload_n (pc := 140) dX12_closes_140 rfl rfl ?_
          refine r_iload_n (pc := 141) dX12_closes_141 rfl rfl ?_
          refine c_VI0N (M := mX12_closes) (pc := 142) (As := [vi 2, vi (gI τ14 172 12), vi x2, vi x3]) dX12_closes_142 K_X12_stops w_1391 ⟨by decide, by decide⟩ (Nat.le_of_ble_eq_true rfl) rfl rfl (ci := 12) rfl rfl (by decide) (okO_of (N := 42) (hL.sh (i := 0) rfl (by decide) (by decide)) (by decide)) (h hL) (fun r15 τ16 h8 hr9 => ?_) rfl
          replace hL := h8.1
          replace h := h8.2 hr9
          exact r_ireturn (pc := 145) (ty := .boolean) dX12_closes_145 (by decide +kernel) rfl (nar_bool h.1) (h.2 hL)
      · replace h := h.2 c9
        refine r_goto (pc := 122) (tgt := 191) dX12_closes_122 (by decide) ?_
        obtain ⟨o17, h⟩ := h
        refine r_iinc (pc := 191) dX12_closes_191 rfl (by decide) o17 (l2 := [some (vr 172), some (vi x1), some (vi x2), some (vi (x3 + 1)), none]) rfl ?_
        refine r_goto (pc := 194) (tgt := 48) dX12_closes_194 (by decide) ?_
        exact (h hL)
    · replace h := h.2 c9
      refine r_aload_n (pc := 91) dX12_closes_91 rfl rfl ?_
      refine r_iconst (pc := 92) dX12_closes_92 (inRk rfl) ?_
      refine r_aload_n (pc := 93) dX12_closes_93 rfl rfl ?_
      refine r_getI (pc := 94) dX12_closes_94 (k9 := 12) CL_12 (by decide) (by decide) w_1427 rfl (okO_of (N := 42) (hL.sh (i := 0) rfl (by decide) (by decide)) (by decide)) (fun _ => ?_)
      refine r_iload_n (pc := 97) dX12_closes_97 rfl rfl ?_
      refine r_iload_n (pc := 98) dX12_closes_98 rfl rfl ?_
      refine c_VI0N (M := mX12_closes) (pc := 99) (As := [vi 1, vi (gI τ12 172 12), vi x2, vi x3]) dX12_closes_99 K_X12_stops w_1391 ⟨by decide, by decide⟩ (Nat.le_of_ble_eq_true rfl) rfl rfl (ci := 12) rfl rfl (by decide) (okO_of (N := 42) (hL.sh (i := 0) rfl (by decide) (by decide)) (by decide)) (h hL) (fun r18 τ19 h8 hr9 => ?_) rfl
      replace hL := h8.1
      replace h := h8.2 hr9
      exact r_ireturn (pc := 102) (ty := .boolean) dX12_closes_102 (by decide +kernel) rfl (nar_bool h.1) (h.2 hL)
theorem B_X12_closes_149 {g : Sg} {c t : Nat} (hL : Lay LM g c t σ) {x1 : Int} {x2 : Int} {x3 : Int} {x4 : Int} (h : ((8 ≤ x4 → inR ((gI σ 172 12) + 1) ∧ ∀ τ2 : Sg, τ2 = sI σ 172 12 ((gI σ 172 12) + 1) → inR (x3 + 1) ∧ (Lay LM g c t τ2 → GG E mX12_closes 48 [some (vr 172), some (vi x1), some (vi x2), some (vi (x3 + 1)), none] [] τ2 rc rs Q)) ∧ (¬ (8 ≤ x4) → (0 ≤ (gI σ 172 12) ∧ (gI σ 172 12) < 120) ∧ (0 ≤ x4 ∧ x4 < 8) ∧ ∀ τ7 : Sg, τ7 = sI σ (188 + (gI σ 172 12).toNat) x4.toNat (gI σ 308 x4.toNat) → inR (x4 + 1) ∧ (Lay LM g c t τ7 → GG E mX12_closes 149 [some (vr 172), some (vi x1), some (vi x2), some (vi x3), some (vi (x4 + 1))] [] τ7 rc rs Q)))) : GG E mX12_closes 149 [some (vr 172), some (vi x1), some (vi x2), some (vi x3), some (vi x4)] [] σ rc rs Q := by
  refine r_iload (pc := 149) dX12_closes_149 rfl ?_
  refine r_bipush (pc := 151) dX12_closes_151 (by decide) ?_
  refine r_icmp_ge (pc := 153) (tgt := 181) dX12_closes_153 (by decide) (fun c9 => ?_) (fun c9 => ?_)
  · replace h := h.1 c9
    refine r_aload_n (pc := 181) dX12_closes_181 rfl rfl ?_
    refine r_dup (pc := 182) dX12_closes_182 (fun _ h9 => nomatch h9) ?_
    refine r_getI (pc := 183) dX12_closes_183 (k9 := 12) CL_12 (by decide) (by decide) w_1427 rfl (okO_of (N := 42) (hL.sh (i := 0) rfl (by decide) (by decide)) (by decide)) (fun _ => ?_)
    refine r_iconst (pc := 186) dX12_closes_186 (inRk rfl) ?_
    obtain ⟨o1, h⟩ := h
    refine r_iadd (pc := 187) dX12_closes_187 o1 ?_
    refine r_putI (pc := 188) dX12_closes_188 (k9 := 12) CL_12 (by decide) (by decide) w_1427 rfl rfl (fun h9 => absurd h9 (by decide +kernel)) (okO_of (N := 42) (hL.sh (i := 0) rfl (by decide) (by decide)) (by decide)) ?_
    refine nmS (fun τ2 e2 => ?_)
    replace h := h τ2 e2
    have hL := hL.wI e2 (by decide) (.inl (by decide))
    obtain ⟨o3, h⟩ := h
    refine r_iinc (pc := 191) dX12_closes_191 rfl (by decide) o3 (l2 := [some (vr 172), some (vi x1), some (vi x2), some (vi (x3 + 1)), some (vi x4)]) rfl ?_
    refine r_goto (pc := 194) (tgt := 48) dX12_closes_194 (by decide) ?_
    exact GG.msk [true, true, true, true, false] (h hL)
  · replace h := h.2 c9
    refine r_aload_n (pc := 156) dX12_closes_156 rfl rfl ?_
    refine r_getR (pc := 157) dX12_closes_157 (k9 := 13) CL_12 (by decide) (by decide) w_1428 rfl (okO_of (N := 42) (hL.sh (i := 0) rfl (by decide) (by decide)) (by decide)) ?_
    refine eqR (y := 187) (hL.rf (i := 4) rfl) ?_
    refine r_aload_n (pc := 160) dX12_closes_160 rfl rfl ?_
    refine r_getI (pc := 161) dX12_closes_161 (k9 := 12) CL_12 (by decide) (by decide) w_1427 rfl (okO_of (N := 42) (hL.sh (i := 0) rfl (by decide) (by decide)) (by decide)) (fun _ => ?_)
    obtain ⟨o4, h⟩ := h
    refine r_aaload (pc := 164) dX12_closes_164 (okB_of (c := 24) (n := 120) (hL.sh (i := 6) rfl (by decide) (by decide)) (by decide) o4) ?_
    have q5 : 188 ≤ 188 + (gI σ 172 12).toNat ∧ 188 + (gI σ 172 12).toNat < 308 := ⟨Nat.le_add_right _ _, rowB o4 (by decide)⟩
    refine eqR (y := 188 + (gI σ 172 12).toNat) (hL.rx (i := 1) rfl (rowC o4 (by decide))) ?_
    refine r_iload (pc := 165) dX12_closes_165 rfl ?_
    refine r_aload_n (pc := 167) dX12_closes_167 rfl rfl ?_
    refine r_getR (pc := 168) dX12_closes_168 (k9 := 14) CL_12 (by decide) (by decide) w_1429 rfl (okO_of (N := 42) (hL.sh (i := 0) rfl (by decide) (by decide)) (by decide)) ?_
    refine eqR (y := 308) (hL.rf (i := 5) rfl) ?_
    refine r_iload (pc := 171) dX12_closes_171 rfl ?_
    obtain ⟨o6, h⟩ := h
    refine r_iaload (pc := 173) dX12_closes_173 (okA_of (c := 20) (n := 8) (hL.sh (i := 8) rfl (by decide) (by decide)) (by decide) o6) ?_
    refine r_iastore (pc := 174) dX12_closes_174 (okB_of (c := 20) (n := 8) (hL.sh (i := 7) rfl q5.1 q5.2) (Nat.le_trans (by decide) q5.1) o6) ?_
    refine nmS (fun τ7 e7 => ?_)
    replace h := h τ7 e7
    have hL := hL.wI e7 (Nat.le_trans (by decide) q5.1) (.inl ⟨Nat.le_trans (by decide) q5.1, Nat.lt_of_lt_of_le q5.2 (by decide)⟩)
    obtain ⟨o8, h⟩ := h
    refine r_iinc (pc := 175) dX12_closes_175 rfl (by decide) o8 (l2 := [some (vr 172), some (vi x1), some (vi x2), some (vi x3), some (vi (x4 + 1))]) rfl ?_
    refine r_goto (pc := 178) (tgt := 149) dX12_closes_178 (by decide) ?_
    exact (h hL)
theorem C_X12_closes {a0 : Nat} {x1 : Int} (h : GG E mX12_closes 0 [some (vr a0), some (vi x1), none, none, none] [] σ 0 0 Q) : CC E mX12_closes [vr a0, vi x1] σ Q := CC.of (by decide +kernel) rfl (by decide +kernel) (fun h9 => nomatch h9) (Nat.le_of_ble_eq_true rfl) h
theorem dX12_common_0 : decode cX12_common 0 = .ok (.iload_n 0, 1) := by decide +kernel
theorem dX12_common_1 : decode cX12_common 1 = .ok (.istore_n 2, 1) := by decide +kernel
theorem dX12_common_2 : decode cX12_common 2 = .ok (.iload_n 1, 1) := by decide +kernel
theorem dX12_common_3 : decode cX12_common 3 = .ok (.istore_n 3, 1) := by decide +kernel
theorem dX12_common_4 : decode cX12_common 4 = .ok (.iload_n 3, 1) := by decide +kernel
theorem dX12_common_5 : decode cX12_common 5 = .ok (.ifCond .eq 16, 3) := by decide +kernel
theorem dX12_common_8 : decode cX12_common 8 = .ok (.iload_n 2, 1) := by decide +kernel
theorem dX12_common_9 : decode cX12_common 9 = .ok (.iload_n 3, 1) := by decide +kernel
theorem dX12_common_10 : decode cX12_common 10 = .ok (.irem, 1) := by decide +kernel
theorem dX12_common_11 : decode cX12_common 11 = .ok (.istore 4, 2) := by decide +kernel
theorem dX12_common_13 : decode cX12_common 13 = .ok (.iload_n 3, 1) := by decide +kernel
theorem dX12_common_14 : decode cX12_common 14 = .ok (.istore_n 2, 1) := by decide +kernel
theorem dX12_common_15 : decode cX12_common 15 = .ok (.iload 4, 2) := by decide +kernel
theorem dX12_common_17 : decode cX12_common 17 = .ok (.istore_n 3, 1) := by decide +kernel
theorem dX12_common_18 : decode cX12_common 18 = .ok (.goto (-14), 3) := by decide +kernel
theorem dX12_common_21 : decode cX12_common 21 = .ok (.iload_n 2, 1) := by decide +kernel
theorem dX12_common_22 : decode cX12_common 22 = .ok (.ireturn, 1) := by decide +kernel
theorem B_X12_common_0 {x0 : Int} {x1 : Int} (h : GG E mX12_common 4 [none, none, some (vi x0), some (vi x1), none] [] σ rc rs Q) : GG E mX12_common 0 [some (vi x0), some (vi x1), none, none, none] [] σ rc rs Q := by
  refine r_iload_n (pc := 0) dX12_common_0 rfl rfl ?_
  refine r_istore_n (pc := 1) dX12_common_1 rfl (by decide) (l2 := [some (vi x0), some (vi x1), some (vi x0), none, none]) rfl ?_
  refine r_iload_n (pc := 2) dX12_common_2 rfl rfl ?_
  refine r_istore_n (pc := 3) dX12_common_3 rfl (by decide) (l2 := [some (vi x0), some (vi x1), some (vi x0), some (vi x1), none]) rfl ?_
  exact GG.msk [false, false, true, true, false] h
theorem B_X12_common_4 {x2 : Int} {x3 : Int} (h : ((x3 = 0 → Q (.inl (some (vi x2))) σ) ∧ (¬ (x3 = 0) → x3 ≠ 0 ∧ GG E mX12_common 4 [none, none, some (vi x3), some (vi (x2.tmod x3)), none] [] σ rc rs Q))) : GG E mX12_common 4 [none, none, some (vi x2), some (vi x3), none] [] σ rc rs Q := by
  refine r_iload_n (pc := 4) dX12_common_4 rfl rfl ?_
  refine r_if_eq (pc := 5) (tgt := 21) dX12_common_5 (by decide) (fun c9 => ?_) (fun c9 => ?_)
  · replace h := h.1 c9
    refine r_iload_n (pc := 21) dX12_common_21 rfl rfl ?_
    exact r_ireturn (pc := 22) (ty := .int) dX12_common_22 (by decide +kernel) rfl (nar_i _) h
  · replace h := h.2 c9
    refine r_iload_n (pc := 8) dX12_common_8 rfl rfl ?_
    refine r_iload_n (pc := 9) dX12_common_9 rfl rfl ?_
    obtain ⟨o1, h⟩ := h
    refine r_irem (pc := 10) dX12_common_10 o1 ?_
    refine r_istore (pc := 11) dX12_common_11 (by decide) (l2 := [none, none, some (vi x2), some (vi x3), some (vi (x2.tmod x3))]) rfl ?_
    refine r_iload_n (pc := 13) dX12_common_13 rfl rfl ?_
    refine r_istore_n (pc := 14) dX12_common_14 rfl (by decide) (l2 := [none, none, some (vi x3), some (vi x3), some (vi (x2.tmod x3))]) rfl ?_
    refine r_iload (pc := 15) dX12_common_15 rfl ?_
    refine r_istore_n (pc := 17) dX12_common_17 rfl (by decide) (l2 := [none, none, some (vi x3), some (vi (x2.tmod x3)), some (vi (x2.tmod x3))]) rfl ?_
    refine r_goto (pc := 18) (tgt := 4) dX12_common_18 (by decide) ?_
    exact GG.msk [false, false, true, true, false] h
theorem C_X12_common {x0 : Int} {x1 : Int} (h : GG E mX12_common 0 [some (vi x0), some (vi x1), none, none, none] [] σ 0 0 Q) : CC E mX12_common [vi x0, vi x1] σ Q := CC.of (by decide +kernel) rfl (by decide +kernel) (fun h9 => nomatch h9) (Nat.le_of_ble_eq_true rfl) h
theorem dX12_copies_0 : decode cX12_copies 0 = .ok (.iconst 0, 1) := by decide +kernel
theorem dX12_copies_1 : decode cX12_copies 1 = .ok (.istore_n 3, 1) := by decide +kernel
theorem dX12_copies_2 : decode cX12_copies 2 = .ok (.iload_n 3, 1) := by decide +kernel
theorem dX12_copies_3 : decode cX12_copies 3 = .ok (.bipush 34, 2) := by decide +kernel
theorem dX12_copies_5 : decode cX12_copies 5 = .ok (.if_icmp .ge 25, 3) := by decide +kernel
theorem dX12_copies_8 : decode cX12_copies 8 = .ok (.aload_n 0, 1) := by decide +kernel
theorem dX12_copies_9 : decode cX12_copies 9 = .ok (.getfield 22, 3) := by decide +kernel
theorem dX12_copies_12 : decode cX12_copies 12 = .ok (.iload_n 2, 1) := by decide +kernel
theorem dX12_copies_13 : decode cX12_copies 13 = .ok (.aaload, 1) := by decide +kernel
theorem dX12_copies_14 : decode cX12_copies 14 = .ok (.iload_n 3, 1) := by decide +kernel
theorem dX12_copies_15 : decode cX12_copies 15 = .ok (.aload_n 0, 1) := by decide +kernel
theorem dX12_copies_16 : decode cX12_copies 16 = .ok (.getfield 22, 3) := by decide +kernel
theorem dX12_copies_19 : decode cX12_copies 19 = .ok (.iload_n 1, 1) := by decide +kernel
theorem dX12_copies_20 : decode cX12_copies 20 = .ok (.aaload, 1) := by decide +kernel
theorem dX12_copies_21 : decode cX12_copies 21 = .ok (.iload_n 3, 1) := by decide +kernel
theorem dX12_copies_22 : decode cX12_copies 22 = .ok (.iaload, 1) := by decide +kernel
theorem dX12_copies_23 : decode cX12_copies 23 = .ok (.iastore, 1) := by decide +kernel
theorem dX12_copies_24 : decode cX12_copies 24 = .ok (.iinc 3 1, 3) := by decide +kernel
theorem dX12_copies_27 : decode cX12_copies 27 = .ok (.goto (-25), 3) := by decide +kernel
theorem dX12_copies_30 : decode cX12_copies 30 = .ok (.return_, 1) := by decide +kernel
theorem B_X12_copies_0 {g : Sg} {c t : Nat} (hL : Lay LM g c t σ) {x1 : Int} {x2 : Int} (h : (Lay LM g c t σ → GG E mX12_copies 2 [some (vr 172), some (vi x1), some (vi x2), some (vi 0)] [] σ rc rs Q)) : GG E mX12_copies 0 [some (vr 172), some (vi x1), some (vi x2), none] [] σ rc rs Q := by
  refine r_iconst (pc := 0) dX12_copies_0 (inRk rfl) ?_
  refine r_istore_n (pc := 1) dX12_copies_1 rfl (by decide) (l2 := [some (vr 172), some (vi x1), some (vi x2), some (vi 0)]) rfl ?_
  exact (h hL)
theorem B_X12_copies_2 {g : Sg} {c t : Nat} (hL : Lay LM g c t σ) {x1 : Int} {x2 : Int} {x3 : Int} (h : ((34 ≤ x3 → (Lay LM g c t σ → Q (.inl none) σ)) ∧ (¬ (34 ≤ x3) → (0 ≤ x2 ∧ x2 < 10) ∧ (0 ≤ x1 ∧ x1 < 10) ∧ (0 ≤ x3 ∧ x3 < 34) ∧ ∀ τ6 : Sg, τ6 = sI σ (176 + x2.toNat) x3.toNat (gI σ (176 + x1.toNat) x3.toNat) → inR (x3 + 1) ∧ (Lay LM g c t τ6 → GG E mX12_copies 2 [some (vr 172), some (vi x1), some (vi x2), some (vi (x3 + 1))] [] τ6 rc rs Q)))) : GG E mX12_copies 2 [some (vr 172), some (vi x1), some (vi x2), some (vi x3)] [] σ rc rs Q := by
  refine r_iload_n (pc := 2) dX12_copies_2 rfl rfl ?_
  refine r_bipush (pc := 3) dX12_copies_3 (by decide) ?_
  refine r_icmp_ge (pc := 5) (tgt := 30) dX12_copies_5 (by decide) (fun c9 => ?_) (fun c9 => ?_)
  · replace h := h.1 c9
    exact r_return (pc := 30) dX12_copies_30 (by decide +kernel) rfl (h hL)
  · replace h := h.2 c9
    refine r_aload_n (pc := 8) dX12_copies_8 rfl rfl ?_
    refine r_getR (pc := 9) dX12_copies_9 (k9 := 9) CL_12 (by decide) (by decide) w_1424 rfl (okO_of (N := 42) (hL.sh (i := 0) rfl (by decide) (by decide)) (by decide)) ?_
    refine eqR (y := 175) (hL.rf (i := 2) rfl) ?_
    refine r_iload_n (pc := 12) dX12_copies_12 rfl rfl ?_
    obtain ⟨o1, h⟩ := h
    refine r_aaload (pc := 13) dX12_copies_13 (okB_of (c := 24) (n := 10) (hL.sh (i := 3) rfl (by decide) (by decide)) (by decide) o1) ?_
    have q2 : 176 ≤ 176 + x2.toNat ∧ 176 + x2.toNat < 186 := ⟨Nat.le_add_right _ _, rowB o1 (by decide)⟩
    refine eqR (y := 176 + x2.toNat) (hL.rx (i := 0) rfl (rowC o1 (by decide))) ?_
    refine r_iload_n (pc := 14) dX12_copies_14 rfl rfl ?_
    refine r_aload_n (pc := 15) dX12_copies_15 rfl rfl ?_
    refine r_getR (pc := 16) dX12_copies_16 (k9 := 9) CL_12 (by decide) (by decide) w_1424 rfl (okO_of (N := 42) (hL.sh (i := 0) rfl (by decide) (by decide)) (by decide)) ?_
    refine eqR (y := 175) (hL.rf (i := 2) rfl) ?_
    refine r_iload_n (pc := 19) dX12_copies_19 rfl rfl ?_
    obtain ⟨o3, h⟩ := h
    refine r_aaload (pc := 20) dX12_copies_20 (okB_of (c := 24) (n := 10) (hL.sh (i := 3) rfl (by decide) (by decide)) (by decide) o3) ?_
    have q4 : 176 ≤ 176 + x1.toNat ∧ 176 + x1.toNat < 186 := ⟨Nat.le_add_right _ _, rowB o3 (by decide)⟩
    refine eqR (y := 176 + x1.toNat) (hL.rx (i := 0) rfl (rowC o3 (by decide))) ?_
    refine r_iload_n (pc := 21) dX12_copies_21 rfl rfl ?_
    obtain ⟨o5, h⟩ := h
    refine r_iaload (pc := 22) dX12_copies_22 (okA_of (c := 20) (n := 34) (hL.sh (i := 4) rfl q4.1 q4.2) (Nat.le_trans (by decide) q4.1) o5) ?_
    refine r_iastore (pc := 23) dX12_copies_23 (okB_of (c := 20) (n := 34) (hL.sh (i := 4) rfl q2.1 q2.2) (Nat.le_trans (by decide) q2.1) o5) ?_
    refine nmS (fun τ6 e6 => ?_)
    replace h := h τ6 e6
    have hL := hL.wI e6 (Nat.le_trans (by decide) q2.1) (.inl ⟨Nat.le_trans (by decide) q2.1, Nat.lt_of_lt_of_le q2.2 (by decide)⟩)
    obtain ⟨o7, h⟩ := h
    refine r_iinc (pc := 24) dX12_copies_24 rfl (by decide) o7 (l2 := [some (vr 172), some (vi x1), some (vi x2), some (vi (x3 + 1))]) rfl ?_
    refine r_goto (pc := 27) (tgt := 2) dX12_copies_27 (by decide) ?_
    exact (h hL)
theorem C_X12_copies {a0 : Nat} {x1 : Int} {x2 : Int} (h : GG E mX12_copies 0 [some (vr a0), some (vi x1), some (vi x2), none] [] σ 0 0 Q) : CC E mX12_copies [vr a0, vi x1, vi x2] σ Q := CC.of (by decide +kernel) rfl (by decide +kernel) (fun h9 => nomatch h9) (Nat.le_of_ble_eq_true rfl) h
theorem dX12_couples_0 : decode cX12_couples 0 = .ok (.aload_n 0, 1) := by decide +kernel
theorem dX12_couples_1 : decode cX12_couples 1 = .ok (.iconst 0, 1) := by decide +kernel
theorem dX12_couples_2 : decode cX12_couples 2 = .ok (.putfield 99, 3) := by decide +kernel
theorem dX12_couples_5 : decode cX12_couples 5 = .ok (.aload_n 0, 1) := by decide +kernel
theorem dX12_couples_6 : decode cX12_couples 6 = .ok (.aload_n 0, 1) := by decide +kernel
theorem dX12_couples_7 : decode cX12_couples 7 = .ok (.iload_n 1, 1) := by decide +kernel
theorem dX12_couples_8 : decode cX12_couples 8 = .ok (.invokevirtual 335, 3) := by decide +kernel
theorem dX12_couples_11 : decode cX12_couples 11 = .ok (.ifCond .eq 19, 3) := by decide +kernel
theorem dX12_couples_14 : decode cX12_couples 14 = .ok (.aload_n 0, 1) := by decide +kernel
theorem dX12_couples_15 : decode cX12_couples 15 = .ok (.iload_n 2, 1) := by decide +kernel
theorem dX12_couples_16 : decode cX12_couples 16 = .ok (.invokevirtual 335, 3) := by decide +kernel
theorem dX12_couples_19 : decode cX12_couples 19 = .ok (.ifCond .eq 11, 3) := by decide +kernel
theorem dX12_couples_22 : decode cX12_couples 22 = .ok (.aload_n 0, 1) := by decide +kernel
theorem dX12_couples_23 : decode cX12_couples 23 = .ok (.iload_n 3, 1) := by decide +kernel
theorem dX12_couples_24 : decode cX12_couples 24 = .ok (.invokevirtual 335, 3) := by decide +kernel
theorem dX12_couples_27 : decode cX12_couples 27 = .ok (.ifCond .ne 7, 3) := by decide +kernel
theorem dX12_couples_30 : decode cX12_couples 30 = .ok (.iconst 1, 1) := by decide +kernel
theorem dX12_couples_31 : decode cX12_couples 31 = .ok (.goto 4, 3) := by decide +kernel
theorem dX12_couples_34 : decode cX12_couples 34 = .ok (.iconst 0, 1) := by decide +kernel
theorem dX12_couples_35 : decode cX12_couples 35 = .ok (.iconst 1, 1) := by decide +kernel
theorem dX12_couples_36 : decode cX12_couples 36 = .ok (.iconst 0, 1) := by decide +kernel
theorem dX12_couples_37 : decode cX12_couples 37 = .ok (.invokevirtual 177, 3) := by decide +kernel
theorem dX12_couples_40 : decode cX12_couples 40 = .ok (.ifCond .eq 5, 3) := by decide +kernel
theorem dX12_couples_43 : decode cX12_couples 43 = .ok (.iconst 0, 1) := by decide +kernel
theorem dX12_couples_44 : decode cX12_couples 44 = .ok (.ireturn, 1) := by decide +kernel
theorem dX12_couples_45 : decode cX12_couples 45 = .ok (.aload_n 0, 1) := by decide +kernel
theorem dX12_couples_46 : decode cX12_couples 46 = .ok (.invokevirtual 317, 3) := by decide +kernel
theorem dX12_couples_49 : decode cX12_couples 49 = .ok (.aload_n 0, 1) := by decide +kernel
theorem dX12_couples_50 : decode cX12_couples 50 = .ok (.getfield 55, 3) := by decide +kernel
theorem dX12_couples_53 : decode cX12_couples 53 = .ok (.bipush 48, 2) := by decide +kernel
theorem dX12_couples_55 : decode cX12_couples 55 = .ok (.iload_n 1, 1) := by decide +kernel
theorem dX12_couples_56 : decode cX12_couples 56 = .ok (.imul, 1) := by decide +kernel
theorem dX12_couples_57 : decode cX12_couples 57 = .ok (.iload_n 2, 1) := by decide +kernel
theorem dX12_couples_58 : decode cX12_couples 58 = .ok (.iadd, 1) := by decide +kernel
theorem dX12_couples_59 : decode cX12_couples 59 = .ok (.aaload, 1) := by decide +kernel
theorem dX12_couples_60 : decode cX12_couples 60 = .ok (.iload_n 3, 1) := by decide +kernel
theorem dX12_couples_61 : decode cX12_couples 61 = .ok (.iaload, 1) := by decide +kernel
theorem dX12_couples_62 : decode cX12_couples 62 = .ok (.ireturn, 1) := by decide +kernel
theorem B_X12_couples_0 {g : Sg} {c t : Nat} (hL : Lay LM g c t σ) {x1 : Int} {x2 : Int} {x3 : Int} (h : ∀ τ1 : Sg, τ1 = sI σ 172 0 0 → (Lay LM g c t τ1 → CC E mX12_isClass [vr 172, vi x1] τ1 (KI (fun r2 τ3 => Lay LM g c t τ3 ∧ (inR r2 → ((r2 = 0 → (Lay LM g c t τ3 → CC E mX12_bad [vr 172, vi 1, vi 1, vi 0] τ3 (KI (fun r4 τ5 => Lay LM g c t τ5 ∧ (inR r4 → ((r4 = 0 → (Lay LM g c t τ5 → GG E mX12_couples 45 [some (vr 172), some (vi x1), some (vi x2), some (vi x3)] [] τ5 rc rs Q)) ∧ (¬ (r4 = 0) → (Lay LM g c t τ5 → GG E mX12_couples 43 [none, none, none, none] [] τ5 rc rs Q))))) (fun _ _ => False)))) ∧ (¬ (r2 = 0) → (Lay LM g c t τ3 → CC E mX12_isClass [vr 172, vi x2] τ3 (KI (fun r6 τ7 => Lay LM g c t τ7 ∧ (inR r6 → ((r6 = 0 → (Lay LM g c t τ7 → CC E mX12_bad [vr 172, vi 1, vi 1, vi 0] τ7 (KI (fun r8 τ9 => Lay LM g c t τ9 ∧ (inR r8 → ((r8 = 0 → (Lay LM g c t τ9 → GG E mX12_couples 45 [some (vr 172), some (vi x1), some (vi x2), some (vi x3)] [] τ9 rc rs Q)) ∧ (¬ (r8 = 0) → (Lay LM g c t τ9 → GG E mX12_couples 43 [none, none, none, none] [] τ9 rc rs Q))))) (fun _ _ => False)))) ∧ (¬ (r6 = 0) → (Lay LM g c t τ7 → CC E mX12_isClass [vr 172, vi x3] τ7 (KI (fun r10 τ11 => Lay LM g c t τ11 ∧ (inR r10 → ((r10 ≠ 0 → (Lay LM g c t τ11 → CC E mX12_bad [vr 172, vi 0, vi 1, vi 0] τ11 (KI (fun r12 τ13 => Lay LM g c t τ13 ∧ (inR r12 → ((r12 = 0 → (Lay LM g c t τ13 → GG E mX12_couples 45 [some (vr 172), some (vi x1), some (vi x2), some (vi x3)] [] τ13 rc rs Q)) ∧ (¬ (r12 = 0) → (Lay LM g c t τ13 → GG E mX12_couples 43 [none, none, none, none] [] τ13 rc rs Q))))) (fun _ _ => False)))) ∧ (r10 = 0 → (Lay LM g c t τ11 → CC E mX12_bad [vr 172, vi 1, vi 1, vi 0] τ11 (KI (fun r14 τ15 => Lay LM g c t τ15 ∧ (inR r14 → ((r14 = 0 → (Lay LM g c t τ15 → GG E mX12_couples 45 [some (vr 172), some (vi x1), some (vi x2), some (vi x3)] [] τ15 rc rs Q)) ∧ (¬ (r14 = 0) → (Lay LM g c t τ15 → GG E mX12_couples 43 [none, none, none, none] [] τ15 rc rs Q))))) (fun _ _ => False))))))) (fun _ _ => False))))))) (fun _ _ => False))))))) (fun _ _ => False)))) : GG E mX12_couples 0 [some (vr 172), some (vi x1), some (vi x2), some (vi x3)] [] σ rc rs Q := by
  refine r_aload_n (pc := 0) dX12_couples_0 rfl rfl ?_
  refine r_iconst (pc := 1) dX12_couples_1 (inRk rfl) ?_
  refine r_putI (pc := 2) dX12_couples_2 (k9 := 0) CL_12 (by decide) (by decide) w_1415 rfl rfl (fun h9 => absurd h9 (by decide +kernel)) (okO_of (N := 42) (hL.sh (i := 0) rfl (by decide) (by decide)) (by decide)) ?_
  refine nmS (fun τ1 e1 => ?_)
  replace h := h τ1 e1
  have hL := hL.wI e1 (by decide) (.inl (by decide))
  refine r_aload_n (pc := 5) dX12_couples_5 rfl rfl ?_
  refine r_aload_n (pc := 6) dX12_couples_6 rfl rfl ?_
  refine r_iload_n (pc := 7) dX12_couples_7 rfl rfl ?_
  refine c_VI0N (M := mX12_couples) (pc := 8) (As := [vi x1]) dX12_couples_8 K_X12_isClass w_1766 ⟨by decide, by decide⟩ (Nat.le_of_ble_eq_true rfl) rfl rfl (ci := 12) rfl rfl (by decide) (okO_of (N := 42) (hL.sh (i := 0) rfl (by decide) (by decide)) (by decide)) (h hL) (fun r2 τ3 h8 hr9 => ?_) rfl
  replace hL := h8.1
  replace h := h8.2 hr9
  refine r_if_eq (pc := 11) (tgt := 30) dX12_couples_11 (by decide) (fun c9 => ?_) (fun c9 => ?_)
  · replace h := h.1 c9
    refine r_iconst (pc := 30) dX12_couples_30 (inRk rfl) ?_
    refine r_goto (pc := 31) (tgt := 35) dX12_couples_31 (by decide) ?_
    refine r_iconst (pc := 35) dX12_couples_35 (inRk rfl) ?_
    refine r_iconst (pc := 36) dX12_couples_36 (inRk rfl) ?_
    refine c_VI0N (M := mX12_couples) (pc := 37) (As := [vi 1, vi 1, vi 0]) dX12_couples_37 K_X12_bad w_1562 ⟨by decide, by decide⟩ (Nat.le_of_ble_eq_true rfl) rfl rfl (ci := 12) rfl rfl (by decide) (okO_of (N := 42) (hL.sh (i := 0) rfl (by decide) (by decide)) (by decide)) (h hL) (fun r4 τ5 h8 hr9 => ?_) rfl
    replace hL := h8.1
    replace h := h8.2 hr9
    refine r_if_eq (pc := 40) (tgt := 45) dX12_couples_40 (by decide) (fun c9 => ?_) (fun c9 => ?_)
    · replace h := h.1 c9
      exact (h hL)
    · replace h := h.2 c9
      exact GG.msk [false, false, false, false] (h hL)
  · replace h := h.2 c9
    refine r_aload_n (pc := 14) dX12_couples_14 rfl rfl ?_
    refine r_iload_n (pc := 15) dX12_couples_15 rfl rfl ?_
    refine c_VI0N (M := mX12_couples) (pc := 16) (As := [vi x2]) dX12_couples_16 K_X12_isClass w_1766 ⟨by decide, by decide⟩ (Nat.le_of_ble_eq_true rfl) rfl rfl (ci := 12) rfl rfl (by decide) (okO_of (N := 42) (hL.sh (i := 0) rfl (by decide) (by decide)) (by decide)) (h hL) (fun r6 τ7 h8 hr9 => ?_) rfl
    replace hL := h8.1
    replace h := h8.2 hr9
    refine r_if_eq (pc := 19) (tgt := 30) dX12_couples_19 (by decide) (fun c9 => ?_) (fun c9 => ?_)
    · replace h := h.1 c9
      refine r_iconst (pc := 30) dX12_couples_30 (inRk rfl) ?_
      refine r_goto (pc := 31) (tgt := 35) dX12_couples_31 (by decide) ?_
      refine r_iconst (pc := 35) dX12_couples_35 (inRk rfl) ?_
      refine r_iconst (pc := 36) dX12_couples_36 (inRk rfl) ?_
      refine c_VI0N (M := mX12_couples) (pc := 37) (As := [vi 1, vi 1, vi 0]) dX12_couples_37 K_X12_bad w_1562 ⟨by decide, by decide⟩ (Nat.le_of_ble_eq_true rfl) rfl rfl (ci := 12) rfl rfl (by decide) (okO_of (N := 42) (hL.sh (i := 0) rfl (by decide) (by decide)) (by decide)) (h hL) (fun r8 τ9 h8 hr9 => ?_) rfl
      replace hL := h8.1
      replace h := h8.2 hr9
      refine r_if_eq (pc := 40) (tgt := 45) dX12_couples_40 (by decide) (fun c9 => ?_) (fun c9 => ?_)
      · replace h := h.1 c9
        exact (h hL)
      · replace h := h.2 c9
        exact GG.msk [false, false, false, false] (h hL)
    · replace h := h.2 c9
      refine r_aload_n (pc := 22) dX12_couples_22 rfl rfl ?_
      refine r_iload_n (pc := 23) dX12_couples_23 rfl rfl ?_
      refine c_VI0N (M := mX12_couples) (pc := 24) (As := [vi x3]) dX12_couples_24 K_X12_isClass w_1766 ⟨by decide, by decide⟩ (Nat.le_of_ble_eq_true rfl) rfl rfl (ci := 12) rfl rfl (by decide) (okO_of (N := 42) (hL.sh (i := 0) rfl (by decide) (by decide)) (by decide)) (h hL) (fun r10 τ11 h8 hr9 => ?_) rfl
      replace hL := h8.1
      replace h := h8.2 hr9
      refine r_if_ne (pc := 27) (tgt := 34) dX12_couples_27 (by decide) (fun c9 => ?_) (fun c9 => ?_)
      · replace h := h.1 c9
        refine r_iconst (pc := 34) dX12_couples_34 (inRk rfl) ?_
        refine r_iconst (pc := 35) dX12_couples_35 (inRk rfl) ?_
        refine r_iconst (pc := 36) dX12_couples_36 (inRk rfl) ?_
        refine c_VI0N (M := mX12_couples) (pc := 37) (As := [vi 0, vi 1, vi 0]) dX12_couples_37 K_X12_bad w_1562 ⟨by decide, by decide⟩ (Nat.le_of_ble_eq_true rfl) rfl rfl (ci := 12) rfl rfl (by decide) (okO_of (N := 42) (hL.sh (i := 0) rfl (by decide) (by decide)) (by decide)) (h hL) (fun r12 τ13 h8 hr9 => ?_) rfl
        replace hL := h8.1
        replace h := h8.2 hr9
        refine r_if_eq (pc := 40) (tgt := 45) dX12_couples_40 (by decide) (fun c9 => ?_) (fun c9 => ?_)
        · replace h := h.1 c9
          exact (h hL)
        · replace h := h.2 c9
          exact GG.msk [false, false, false, false] (h hL)
      · replace h := h.2 c9
        refine r_iconst (pc := 30) dX12_couples_30 (inRk rfl) ?_
        refine r_goto (pc := 31) (tgt := 35) dX12_couples_31 (by decide) ?_
        refine r_iconst (pc := 35) dX12_couples_35 (inRk rfl) ?_
        refine r_iconst (pc := 36) dX12_couples_36 (inRk rfl) ?_
        refine c_VI0N (M := mX12_couples) (pc := 37) (As := [vi 1, vi 1, vi 0]) dX12_couples_37 K_X12_bad w_1562 ⟨by decide, by decide⟩ (Nat.le_of_ble_eq_true rfl) rfl rfl (ci := 12) rfl rfl (by decide) (okO_of (N := 42) (hL.sh (i := 0) rfl (by decide) (by decide)) (by decide)) (h hL) (fun r14 τ15 h8 hr9 => ?_) rfl
        replace hL := h8.1
        replace h := h8.2 hr9
        refine r_if_eq (pc := 40) (tgt := 45) dX12_couples_40 (by decide) (fun c9 => ?_) (fun c9 => ?_)
        · replace h := h.1 c9
          exact (h hL)
        · replace h := h.2 c9
          exact GG.msk [false, false, false, false] (h hL)
theorem B_X12_couples_43 {g : Sg} {c t : Nat} (hL : Lay LM g c t σ)  (h : (Lay LM g c t σ → Q (.inl (some (vi 0))) σ)) : GG E mX12_couples 43 [none, none, none, none] [] σ rc rs Q := by
  refine r_iconst (pc := 43) dX12_couples_43 (inRk rfl) ?_
  exact r_ireturn (pc := 44) (ty := .int) dX12_couples_44 (by decide +kernel) rfl (nar_i _) (h hL)
theorem B_X12_couples_45 {g : Sg} {c t : Nat} (hL : Lay LM g c t σ) {x1 : Int} {x2 : Int} {x3 : Int} (h : (Lay LM g c t σ → CC E mX12_laysRows [vr 172] σ (KV (fun τ2 => Lay LM g c t τ2 ∧ inR (48 * x1) ∧ inR ((48 * x1) + x2) ∧ (0 ≤ ((48 * x1) + x2) ∧ ((48 * x1) + x2) < 2304) ∧ (0 ≤ x3 ∧ x3 < 48) ∧ (Lay LM g c t τ2 → Q (.inl (some (vi (gI τ2 (557 + ((48 * x1) + x2).toNat) x3.toNat)))) τ2)) (fun _ _ => False)))) : GG E mX12_couples 45 [some (vr 172), some (vi x1), some (vi x2), some (vi x3)] [] σ rc rs Q := by
  refine r_aload_n (pc := 45) dX12_couples_45 rfl rfl ?_
  refine c_VV0N (M := mX12_couples) (pc := 46) (As := []) dX12_couples_46 K_X12_laysRows w_1652 ⟨by decide, by decide⟩ (Nat.le_of_ble_eq_true rfl) rfl rfl (ci := 12) rfl rfl (by decide) (okO_of (N := 42) (hL.sh (i := 0) rfl (by decide) (by decide)) (by decide)) (h hL) (fun τ2 h8 => ?_) rfl
  replace hL := h8.1
  replace h := h8.2
  refine r_aload_n (pc := 49) dX12_couples_49 rfl rfl ?_
  refine r_getR (pc := 50) dX12_couples_50 (k9 := 28) CL_12 (by decide) (by decide) w_1443 rfl (okO_of (N := 42) (hL.sh (i := 0) rfl (by decide) (by decide)) (by decide)) ?_
  refine eqR (y := 556) (hL.rf (i := 13) rfl) ?_
  refine r_bipush (pc := 53) dX12_couples_53 (by decide) ?_
  refine r_iload_n (pc := 55) dX12_couples_55 rfl rfl ?_
  obtain ⟨o3, h⟩ := h
  refine r_imul (pc := 56) dX12_couples_56 o3 ?_
  refine r_iload_n (pc := 57) dX12_couples_57 rfl rfl ?_
  obtain ⟨o4, h⟩ := h
  refine r_iadd (pc := 58) dX12_couples_58 o4 ?_
  obtain ⟨o5, h⟩ := h
  refine r_aaload (pc := 59) dX12_couples_59 (okB_of (c := 24) (n := 2304) (hL.sh (i := 18) rfl (by decide) (by decide)) (by decide) o5) ?_
  have q6 : 557 ≤ 557 + ((48 * x1) + x2).toNat ∧ 557 + ((48 * x1) + x2).toNat < 2861 := ⟨Nat.le_add_right _ _, rowB o5 (by decide)⟩
  refine eqR (y := 557 + ((48 * x1) + x2).toNat) (hL.rx (i := 4) rfl (rowC o5 (by decide))) ?_
  refine r_iload_n (pc := 60) dX12_couples_60 rfl rfl ?_
  obtain ⟨o7, h⟩ := h
  refine r_iaload (pc := 61) dX12_couples_61 (okA_of (c := 20) (n := 48) (hL.sh (i := 19) rfl q6.1 q6.2) (Nat.le_trans (by decide) q6.1) o7) ?_
  exact r_ireturn (pc := 62) (ty := .int) dX12_couples_62 (by decide +kernel) rfl (nar_i _) (h hL)
theorem C_X12_couples {a0 : Nat} {x1 : Int} {x2 : Int} {x3 : Int} (h : GG E mX12_couples 0 [some (vr a0), some (vi x1), some (vi x2), some (vi x3)] [] σ 0 0 Q) : CC E mX12_couples [vr a0, vi x1, vi x2, vi x3] σ Q := CC.of (by decide +kernel) rfl (by decide +kernel) (fun h9 => nomatch h9) (Nat.le_of_ble_eq_true rfl) h
theorem dX12_degree_0 : decode cX12_degree 0 = .ok (.aload_n 0, 1) := by decide +kernel
theorem dX12_degree_1 : decode cX12_degree 1 = .ok (.iconst 0, 1) := by decide +kernel
theorem dX12_degree_2 : decode cX12_degree 2 = .ok (.putfield 99, 3) := by decide +kernel
theorem dX12_degree_5 : decode cX12_degree 5 = .ok (.aload_n 0, 1) := by decide +kernel
theorem dX12_degree_6 : decode cX12_degree 6 = .ok (.aload_n 0, 1) := by decide +kernel
theorem dX12_degree_7 : decode cX12_degree 7 = .ok (.iload_n 1, 1) := by decide +kernel
theorem dX12_degree_8 : decode cX12_degree 8 = .ok (.invokevirtual 335, 3) := by decide +kernel
theorem dX12_degree_11 : decode cX12_degree 11 = .ok (.ifCond .ne 7, 3) := by decide +kernel
theorem dX12_degree_14 : decode cX12_degree 14 = .ok (.iconst 1, 1) := by decide +kernel
theorem dX12_degree_15 : decode cX12_degree 15 = .ok (.goto 4, 3) := by decide +kernel
theorem dX12_degree_18 : decode cX12_degree 18 = .ok (.iconst 0, 1) := by decide +kernel
theorem dX12_degree_19 : decode cX12_degree 19 = .ok (.iconst 1, 1) := by decide +kernel
theorem dX12_degree_20 : decode cX12_degree 20 = .ok (.iconst 0, 1) := by decide +kernel
theorem dX12_degree_21 : decode cX12_degree 21 = .ok (.invokevirtual 177, 3) := by decide +kernel
theorem dX12_degree_24 : decode cX12_degree 24 = .ok (.ifCond .eq 5, 3) := by decide +kernel
theorem dX12_degree_27 : decode cX12_degree 27 = .ok (.iconst 0, 1) := by decide +kernel
theorem dX12_degree_28 : decode cX12_degree 28 = .ok (.ireturn, 1) := by decide +kernel
theorem dX12_degree_29 : decode cX12_degree 29 = .ok (.aload_n 0, 1) := by decide +kernel
theorem dX12_degree_30 : decode cX12_degree 30 = .ok (.invokevirtual 317, 3) := by decide +kernel
theorem dX12_degree_33 : decode cX12_degree 33 = .ok (.aload_n 0, 1) := by decide +kernel
theorem dX12_degree_34 : decode cX12_degree 34 = .ok (.getfield 73, 3) := by decide +kernel
theorem dX12_degree_37 : decode cX12_degree 37 = .ok (.iload_n 1, 1) := by decide +kernel
theorem dX12_degree_38 : decode cX12_degree 38 = .ok (.iaload, 1) := by decide +kernel
theorem dX12_degree_39 : decode cX12_degree 39 = .ok (.ireturn, 1) := by decide +kernel
theorem B_X12_degree_0 {g : Sg} {c t : Nat} (hL : Lay LM g c t σ) {x1 : Int} (h : ∀ τ1 : Sg, τ1 = sI σ 172 0 0 → (Lay LM g c t τ1 → CC E mX12_isClass [vr 172, vi x1] τ1 (KI (fun r2 τ3 => Lay LM g c t τ3 ∧ (inR r2 → ((r2 ≠ 0 → (Lay LM g c t τ3 → CC E mX12_bad [vr 172, vi 0, vi 1, vi 0] τ3 (KI (fun r4 τ5 => Lay LM g c t τ5 ∧ (inR r4 → ((r4 = 0 → (Lay LM g c t τ5 → CC E mX12_laysRows [vr 172] τ5 (KV (fun τ7 => Lay LM g c t τ7 ∧ (0 ≤ x1 ∧ x1 < 48) ∧ (Lay LM g c t τ7 → Q (.inl (some (vi (gI τ7 2962 x1.toNat)))) τ7)) (fun _ _ => False)))) ∧ (¬ (r4 = 0) → (Lay LM g c t τ5 → Q (.inl (some (vi 0))) τ5))))) (fun _ _ => False)))) ∧ (r2 = 0 → (Lay LM g c t τ3 → CC E mX12_bad [vr 172, vi 1, vi 1, vi 0] τ3 (KI (fun r9 τ10 => Lay LM g c t τ10 ∧ (inR r9 → ((r9 = 0 → (Lay LM g c t τ10 → CC E mX12_laysRows [vr 172] τ10 (KV (fun τ12 => Lay LM g c t τ12 ∧ (0 ≤ x1 ∧ x1 < 48) ∧ (Lay LM g c t τ12 → Q (.inl (some (vi (gI τ12 2962 x1.toNat)))) τ12)) (fun _ _ => False)))) ∧ (¬ (r9 = 0) → (Lay LM g c t τ10 → Q (.inl (some (vi 0))) τ10))))) (fun _ _ => False))))))) (fun _ _ => False)))) : GG E mX12_degree 0 [some (vr 172), some (vi x1)] [] σ rc rs Q := by
  refine r_aload_n (pc := 0) dX12_degree_0 rfl rfl ?_
  refine r_iconst (pc := 1) dX12_degree_1 (inRk rfl) ?_
  refine r_putI (pc := 2) dX12_degree_2 (k9 := 0) CL_12 (by decide) (by decide) w_1415 rfl rfl (fun h9 => absurd h9 (by decide +kernel)) (okO_of (N := 42) (hL.sh (i := 0) rfl (by decide) (by decide)) (by decide)) ?_
  refine nmS (fun τ1 e1 => ?_)
  replace h := h τ1 e1
  have hL := hL.wI e1 (by decide) (.inl (by decide))
  refine r_aload_n (pc := 5) dX12_degree_5 rfl rfl ?_
  refine r_aload_n (pc := 6) dX12_degree_6 rfl rfl ?_
  refine r_iload_n (pc := 7) dX12_degree_7 rfl rfl ?_
  refine c_VI0N (M := mX12_degree) (pc := 8) (As := [vi x1]) dX12_degree_8 K_X12_isClass w_1766 ⟨by decide, by decide⟩ (Nat.le_of_ble_eq_true rfl) rfl rfl (ci := 12) rfl rfl (by decide) (okO_of (N := 42) (hL.sh (i := 0) rfl (by decide) (by decide)) (by decide)) (h hL) (fun r2 τ3 h8 hr9 => ?_) rfl
  replace hL := h8.1
  replace h := h8.2 hr9
  refine r_if_ne (pc := 11) (tgt := 18) dX12_degree_11 (by decide) (fun c9 => ?_) (fun c9 => ?_)
  · replace h := h.1 c9
    refine r_iconst (pc := 18) dX12_degree_18 (inRk rfl) ?_
    refine r_iconst (pc := 19) dX12_degree_19 (inRk rfl) ?_
    refine r_iconst (pc := 20) dX12_degree_20 (inRk rfl) ?_
    refine c_VI0N (M := mX12_degree) (pc := 21) (As := [vi 0, vi 1, vi 0]) dX12_degree_21 K_X12_bad w_1562 ⟨by decide, by decide⟩ (Nat.le_of_ble_eq_true rfl) rfl rfl (ci := 12) rfl rfl (by decide) (okO_of (N := 42) (hL.sh (i := 0) rfl (by decide) (by decide)) (by decide)) (h hL) (fun r4 τ5 h8 hr9 => ?_) rfl
    replace hL := h8.1
    replace h := h8.2 hr9
    refine r_if_eq (pc := 24) (tgt := 29) dX12_degree_24 (by decide) (fun c9 => ?_) (fun c9 => ?_)
    · replace h := h.1 c9
      refine r_aload_n (pc := 29) dX12_degree_29 rfl rfl ?_
      refine c_VV0N (M := mX12_degree) (pc := 30) (As := []) dX12_degree_30 K_X12_laysRows w_1652 ⟨by decide, by decide⟩ (Nat.le_of_ble_eq_true rfl) rfl rfl (ci := 12) rfl rfl (by decide) (okO_of (N := 42) (hL.sh (i := 0) rfl (by decide) (by decide)) (by decide)) (h hL) (fun τ7 h8 => ?_) rfl
      replace hL := h8.1
      replace h := h8.2
      refine r_aload_n (pc := 33) dX12_degree_33 rfl rfl ?_
      refine r_getR (pc := 34) dX12_degree_34 (k9 := 34) CL_12 (by decide) (by decide) w_1449 rfl (okO_of (N := 42) (hL.sh (i := 0) rfl (by decide) (by decide)) (by decide)) ?_
      refine eqR (y := 2962) (hL.rf (i := 19) rfl) ?_
      refine r_iload_n (pc := 37) dX12_degree_37 rfl rfl ?_
      obtain ⟨o8, h⟩ := h
      refine r_iaload (pc := 38) dX12_degree_38 (okA_of (c := 20) (n := 48) (hL.sh (i := 27) rfl (by decide) (by decide)) (by decide) o8) ?_
      exact r_ireturn (pc := 39) (ty := .int) dX12_degree_39 (by decide +kernel) rfl (nar_i _) (h hL)
    · replace h := h.2 c9
      refine r_iconst (pc := 27) dX12_degree_27 (inRk rfl) ?_
      exact r_ireturn (pc := 28) (ty := .int) dX12_degree_28 (by decide +kernel) rfl (nar_i _) (h hL)
  · replace h := h.2 c9
    refine r_iconst (pc := 14) dX12_degree_14 (inRk rfl) ?_
    refine r_goto (pc := 15) (tgt := 19) dX12_degree_15 (by decide) ?_
    refine r_iconst (pc := 19) dX12_degree_19 (inRk rfl) ?_
    refine r_iconst (pc := 20) dX12_degree_20 (inRk rfl) ?_
    refine c_VI0N (M := mX12_degree) (pc := 21) (As := [vi 1, vi 1, vi 0]) dX12_degree_21 K_X12_bad w_1562 ⟨by decide, by decide⟩ (Nat.le_of_ble_eq_true rfl) rfl rfl (ci := 12) rfl rfl (by decide) (okO_of (N := 42) (hL.sh (i := 0) rfl (by decide) (by decide)) (by decide)) (h hL) (fun r9 τ10 h8 hr9 => ?_) rfl
    replace hL := h8.1
    replace h := h8.2 hr9
    refine r_if_eq (pc := 24) (tgt := 29) dX12_degree_24 (by decide) (fun c9 => ?_) (fun c9 => ?_)
    · replace h := h.1 c9
      refine r_aload_n (pc := 29) dX12_degree_29 rfl rfl ?_
      refine c_VV0N (M := mX12_degree) (pc := 30) (As := []) dX12_degree_30 K_X12_laysRows w_1652 ⟨by decide, by decide⟩ (Nat.le_of_ble_eq_true rfl) rfl rfl (ci := 12) rfl rfl (by decide) (okO_of (N := 42) (hL.sh (i := 0) rfl (by decide) (by decide)) (by decide)) (h hL) (fun τ12 h8 => ?_) rfl
      replace hL := h8.1
      replace h := h8.2
      refine r_aload_n (pc := 33) dX12_degree_33 rfl rfl ?_
      refine r_getR (pc := 34) dX12_degree_34 (k9 := 34) CL_12 (by decide) (by decide) w_1449 rfl (okO_of (N := 42) (hL.sh (i := 0) rfl (by decide) (by decide)) (by decide)) ?_
      refine eqR (y := 2962) (hL.rf (i := 19) rfl) ?_
      refine r_iload_n (pc := 37) dX12_degree_37 rfl rfl ?_
      obtain ⟨o13, h⟩ := h
      refine r_iaload (pc := 38) dX12_degree_38 (okA_of (c := 20) (n := 48) (hL.sh (i := 27) rfl (by decide) (by decide)) (by decide) o13) ?_
      exact r_ireturn (pc := 39) (ty := .int) dX12_degree_39 (by decide +kernel) rfl (nar_i _) (h hL)
    · replace h := h.2 c9
      refine r_iconst (pc := 27) dX12_degree_27 (inRk rfl) ?_
      exact r_ireturn (pc := 28) (ty := .int) dX12_degree_28 (by decide +kernel) rfl (nar_i _) (h hL)
theorem C_X12_degree {a0 : Nat} {x1 : Int} (h : GG E mX12_degree 0 [some (vr a0), some (vi x1)] [] σ 0 0 Q) : CC E mX12_degree [vr a0, vi x1] σ Q := CC.of (by decide +kernel) rfl (by decide +kernel) (fun h9 => nomatch h9) (Nat.le_of_ble_eq_true rfl) h
theorem dX12_diagram_0 : decode cX12_diagram 0 = .ok (.aload_n 0, 1) := by decide +kernel
theorem dX12_diagram_1 : decode cX12_diagram 1 = .ok (.iconst 1, 1) := by decide +kernel
theorem dX12_diagram_2 : decode cX12_diagram 2 = .ok (.invokevirtual 299, 3) := by decide +kernel
theorem dX12_diagram_5 : decode cX12_diagram 5 = .ok (.istore_n 1, 1) := by decide +kernel
theorem dX12_diagram_6 : decode cX12_diagram 6 = .ok (.iload_n 1, 1) := by decide +kernel
theorem dX12_diagram_7 : decode cX12_diagram 7 = .ok (.iconst 4, 1) := by decide +kernel
theorem dX12_diagram_8 : decode cX12_diagram 8 = .ok (.if_icmp .ne 7, 3) := by decide +kernel
theorem dX12_diagram_11 : decode cX12_diagram 11 = .ok (.iconst 1, 1) := by decide +kernel
theorem dX12_diagram_12 : decode cX12_diagram 12 = .ok (.goto 13, 3) := by decide +kernel
theorem dX12_diagram_15 : decode cX12_diagram 15 = .ok (.iload_n 1, 1) := by decide +kernel
theorem dX12_diagram_16 : decode cX12_diagram 16 = .ok (.iconst 3, 1) := by decide +kernel
theorem dX12_diagram_17 : decode cX12_diagram 17 = .ok (.if_icmp .ne 7, 3) := by decide +kernel
theorem dX12_diagram_20 : decode cX12_diagram 20 = .ok (.iconst 2, 1) := by decide +kernel
theorem dX12_diagram_21 : decode cX12_diagram 21 = .ok (.goto 4, 3) := by decide +kernel
theorem dX12_diagram_24 : decode cX12_diagram 24 = .ok (.iconst 0, 1) := by decide +kernel
theorem dX12_diagram_25 : decode cX12_diagram 25 = .ok (.ireturn, 1) := by decide +kernel
theorem B_X12_diagram_0 {g : Sg} {c t : Nat} (hL : Lay LM g c t σ)  (h : (Lay LM g c t σ → CC E mX12_withWaysOf [vr 172, vi 1] σ (KI (fun r1 τ2 => Lay LM g c t τ2 ∧ (inR r1 → ((r1 ≠ 4 → ((r1 ≠ 3 → (Lay LM g c t τ2 → Q (.inl (some (vi 0))) τ2)) ∧ (r1 = 3 → (Lay LM g c t τ2 → Q (.inl (some (vi 2))) τ2)))) ∧ (r1 = 4 → (Lay LM g c t τ2 → Q (.inl (some (vi 1))) τ2))))) (fun _ _ => False)))) : GG E mX12_diagram 0 [some (vr 172), none] [] σ rc rs Q := by
  refine r_aload_n (pc := 0) dX12_diagram_0 rfl rfl ?_
  refine r_iconst (pc := 1) dX12_diagram_1 (inRk rfl) ?_
  refine c_VI0N (M := mX12_diagram) (pc := 2) (As := [vi 1]) dX12_diagram_2 K_X12_withWaysOf w_1722 ⟨by decide, by decide⟩ (Nat.le_of_ble_eq_true rfl) rfl rfl (ci := 12) rfl rfl (by decide) (okO_of (N := 42) (hL.sh (i := 0) rfl (by decide) (by decide)) (by decide)) (h hL) (fun r1 τ2 h8 hr9 => ?_) rfl
  replace hL := h8.1
  replace h := h8.2 hr9
  refine r_istore_n (pc := 5) dX12_diagram_5 rfl (by decide) (l2 := [some (vr 172), some (vi r1)]) rfl ?_
  refine r_iload_n (pc := 6) dX12_diagram_6 rfl rfl ?_
  refine r_iconst (pc := 7) dX12_diagram_7 (inRk rfl) ?_
  refine r_icmp_ne (pc := 8) (tgt := 15) dX12_diagram_8 (by decide) (fun c9 => ?_) (fun c9 => ?_)
  · replace h := h.1 c9
    refine r_iload_n (pc := 15) dX12_diagram_15 rfl rfl ?_
    refine r_iconst (pc := 16) dX12_diagram_16 (inRk rfl) ?_
    refine r_icmp_ne (pc := 17) (tgt := 24) dX12_diagram_17 (by decide) (fun c9 => ?_) (fun c9 => ?_)
    · replace h := h.1 c9
      refine r_iconst (pc := 24) dX12_diagram_24 (inRk rfl) ?_
      exact r_ireturn (pc := 25) (ty := .int) dX12_diagram_25 (by decide +kernel) rfl (nar_i _) (h hL)
    · replace h := h.2 c9
      refine r_iconst (pc := 20) dX12_diagram_20 (inRk rfl) ?_
      refine r_goto (pc := 21) (tgt := 25) dX12_diagram_21 (by decide) ?_
      exact r_ireturn (pc := 25) (ty := .int) dX12_diagram_25 (by decide +kernel) rfl (nar_i _) (h hL)
  · replace h := h.2 c9
    refine r_iconst (pc := 11) dX12_diagram_11 (inRk rfl) ?_
    refine r_goto (pc := 12) (tgt := 25) dX12_diagram_12 (by decide) ?_
    exact r_ireturn (pc := 25) (ty := .int) dX12_diagram_25 (by decide +kernel) rfl (nar_i _) (h hL)
theorem C_X12_diagram {a0 : Nat} (h : GG E mX12_diagram 0 [some (vr a0), none] [] σ 0 0 Q) : CC E mX12_diagram [vr a0] σ Q := CC.of (by decide +kernel) rfl (by decide +kernel) (fun h9 => nomatch h9) (Nat.le_of_ble_eq_true rfl) h
theorem dX12_drop_0 : decode cX12_drop 0 = .ok (.aload_n 0, 1) := by decide +kernel
theorem dX12_drop_1 : decode cX12_drop 1 = .ok (.iconst 0, 1) := by decide +kernel
theorem dX12_drop_2 : decode cX12_drop 2 = .ok (.putfield 99, 3) := by decide +kernel
theorem dX12_drop_5 : decode cX12_drop 5 = .ok (.aload_n 0, 1) := by decide +kernel
theorem dX12_drop_6 : decode cX12_drop 6 = .ok (.iload_n 1, 1) := by decide +kernel
theorem dX12_drop_7 : decode cX12_drop 7 = .ok (.iconst 0, 1) := by decide +kernel
theorem dX12_drop_8 : decode cX12_drop 8 = .ok (.aload_n 0, 1) := by decide +kernel
theorem dX12_drop_9 : decode cX12_drop 9 = .ok (.getfield 22, 3) := by decide +kernel
theorem dX12_drop_12 : decode cX12_drop 12 = .ok (.iconst 0, 1) := by decide +kernel
theorem dX12_drop_13 : decode cX12_drop 13 = .ok (.aaload, 1) := by decide +kernel
theorem dX12_drop_14 : decode cX12_drop 14 = .ok (.iconst 1, 1) := by decide +kernel
theorem dX12_drop_15 : decode cX12_drop 15 = .ok (.iaload, 1) := by decide +kernel
theorem dX12_drop_16 : decode cX12_drop 16 = .ok (.iconst 1, 1) := by decide +kernel
theorem dX12_drop_17 : decode cX12_drop 17 = .ok (.isub, 1) := by decide +kernel
theorem dX12_drop_18 : decode cX12_drop 18 = .ok (.invokestatic 141, 3) := by decide +kernel
theorem dX12_drop_21 : decode cX12_drop 21 = .ok (.ifCond .ne 7, 3) := by decide +kernel
theorem dX12_drop_24 : decode cX12_drop 24 = .ok (.iconst 1, 1) := by decide +kernel
theorem dX12_drop_25 : decode cX12_drop 25 = .ok (.goto 4, 3) := by decide +kernel
theorem dX12_drop_28 : decode cX12_drop 28 = .ok (.iconst 0, 1) := by decide +kernel
theorem dX12_drop_29 : decode cX12_drop 29 = .ok (.iconst 1, 1) := by decide +kernel
theorem dX12_drop_30 : decode cX12_drop 30 = .ok (.iconst 0, 1) := by decide +kernel
theorem dX12_drop_31 : decode cX12_drop 31 = .ok (.invokevirtual 177, 3) := by decide +kernel
theorem dX12_drop_34 : decode cX12_drop 34 = .ok (.ifCond .eq 5, 3) := by decide +kernel
theorem dX12_drop_37 : decode cX12_drop 37 = .ok (.iconst 0, 1) := by decide +kernel
theorem dX12_drop_38 : decode cX12_drop 38 = .ok (.ireturn, 1) := by decide +kernel
theorem dX12_drop_39 : decode cX12_drop 39 = .ok (.aload_n 0, 1) := by decide +kernel
theorem dX12_drop_40 : decode cX12_drop 40 = .ok (.invokevirtual 302, 3) := by decide +kernel
theorem dX12_drop_43 : decode cX12_drop 43 = .ok (.iconst 2, 1) := by decide +kernel
theorem dX12_drop_44 : decode cX12_drop 44 = .ok (.bipush 8, 2) := by decide +kernel
theorem dX12_drop_46 : decode cX12_drop 46 = .ok (.iload_n 1, 1) := by decide +kernel
theorem dX12_drop_47 : decode cX12_drop 47 = .ok (.imul, 1) := by decide +kernel
theorem dX12_drop_48 : decode cX12_drop 48 = .ok (.iadd, 1) := by decide +kernel
theorem dX12_drop_49 : decode cX12_drop 49 = .ok (.istore_n 2, 1) := by decide +kernel
theorem dX12_drop_50 : decode cX12_drop 50 = .ok (.iload_n 2, 1) := by decide +kernel
theorem dX12_drop_51 : decode cX12_drop 51 = .ok (.bipush 8, 2) := by decide +kernel
theorem dX12_drop_53 : decode cX12_drop 53 = .ok (.iadd, 1) := by decide +kernel
theorem dX12_drop_54 : decode cX12_drop 54 = .ok (.iconst 2, 1) := by decide +kernel
theorem dX12_drop_55 : decode cX12_drop 55 = .ok (.bipush 8, 2) := by decide +kernel
theorem dX12_drop_57 : decode cX12_drop 57 = .ok (.aload_n 0, 1) := by decide +kernel
theorem dX12_drop_58 : decode cX12_drop 58 = .ok (.getfield 22, 3) := by decide +kernel
theorem dX12_drop_61 : decode cX12_drop 61 = .ok (.iconst 0, 1) := by decide +kernel
theorem dX12_drop_62 : decode cX12_drop 62 = .ok (.aaload, 1) := by decide +kernel
theorem dX12_drop_63 : decode cX12_drop 63 = .ok (.iconst 1, 1) := by decide +kernel
theorem dX12_drop_64 : decode cX12_drop 64 = .ok (.iaload, 1) := by decide +kernel
theorem dX12_drop_65 : decode cX12_drop 65 = .ok (.imul, 1) := by decide +kernel
theorem dX12_drop_66 : decode cX12_drop 66 = .ok (.iadd, 1) := by decide +kernel
theorem dX12_drop_67 : decode cX12_drop 67 = .ok (.if_icmp .ge 28, 3) := by decide +kernel
theorem dX12_drop_70 : decode cX12_drop 70 = .ok (.aload_n 0, 1) := by decide +kernel
theorem dX12_drop_71 : decode cX12_drop 71 = .ok (.getfield 22, 3) := by decide +kernel
theorem dX12_drop_74 : decode cX12_drop 74 = .ok (.iconst 0, 1) := by decide +kernel
theorem dX12_drop_75 : decode cX12_drop 75 = .ok (.aaload, 1) := by decide +kernel
theorem dX12_drop_76 : decode cX12_drop 76 = .ok (.iload_n 2, 1) := by decide +kernel
theorem dX12_drop_77 : decode cX12_drop 77 = .ok (.aload_n 0, 1) := by decide +kernel
theorem dX12_drop_78 : decode cX12_drop 78 = .ok (.getfield 22, 3) := by decide +kernel
theorem dX12_drop_81 : decode cX12_drop 81 = .ok (.iconst 0, 1) := by decide +kernel
theorem dX12_drop_82 : decode cX12_drop 82 = .ok (.aaload, 1) := by decide +kernel
theorem dX12_drop_83 : decode cX12_drop 83 = .ok (.iload_n 2, 1) := by decide +kernel
theorem dX12_drop_84 : decode cX12_drop 84 = .ok (.bipush 8, 2) := by decide +kernel
theorem dX12_drop_86 : decode cX12_drop 86 = .ok (.iadd, 1) := by decide +kernel
theorem dX12_drop_87 : decode cX12_drop 87 = .ok (.iaload, 1) := by decide +kernel
theorem dX12_drop_88 : decode cX12_drop 88 = .ok (.iastore, 1) := by decide +kernel
theorem dX12_drop_89 : decode cX12_drop 89 = .ok (.iinc 2 1, 3) := by decide +kernel
theorem dX12_drop_92 : decode cX12_drop 92 = .ok (.goto (-42), 3) := by decide +kernel
theorem dX12_drop_95 : decode cX12_drop 95 = .ok (.aload_n 0, 1) := by decide +kernel
theorem dX12_drop_96 : decode cX12_drop 96 = .ok (.getfield 22, 3) := by decide +kernel
theorem dX12_drop_99 : decode cX12_drop 99 = .ok (.iconst 0, 1) := by decide +kernel
theorem dX12_drop_100 : decode cX12_drop 100 = .ok (.aaload, 1) := by decide +kernel
theorem dX12_drop_101 : decode cX12_drop 101 = .ok (.iconst 1, 1) := by decide +kernel
theorem dX12_drop_102 : decode cX12_drop 102 = .ok (.dup2, 1) := by decide +kernel
theorem dX12_drop_103 : decode cX12_drop 103 = .ok (.iaload, 1) := by decide +kernel
theorem dX12_drop_104 : decode cX12_drop 104 = .ok (.iconst 1, 1) := by decide +kernel
theorem dX12_drop_105 : decode cX12_drop 105 = .ok (.isub, 1) := by decide +kernel
theorem dX12_drop_106 : decode cX12_drop 106 = .ok (.iastore, 1) := by decide +kernel
theorem dX12_drop_107 : decode cX12_drop 107 = .ok (.aload_n 0, 1) := by decide +kernel
theorem dX12_drop_108 : decode cX12_drop 108 = .ok (.invokevirtual 305, 3) := by decide +kernel
theorem dX12_drop_111 : decode cX12_drop 111 = .ok (.aload_n 0, 1) := by decide +kernel
theorem dX12_drop_112 : decode cX12_drop 112 = .ok (.getfield 192, 3) := by decide +kernel
theorem dX12_drop_115 : decode cX12_drop 115 = .ok (.ireturn, 1) := by decide +kernel
theorem B_X12_drop_0 {g : Sg} {c t : Nat} (hL : Lay LM g c t σ) {x1 : Int} (h : ∀ τ1 : Sg, τ1 = sI σ 172 0 0 → inR ((gI τ1 176 1) - 1) ∧ (Lay LM g c t τ1 → CC E mX12_in [vi x1, vi 0, vi ((gI τ1 176 1) - 1)] τ1 (KI (fun r3 τ4 => Lay LM g c t τ4 ∧ (inR r3 → ((r3 ≠ 0 → (Lay LM g c t τ4 → CC E mX12_bad [vr 172, vi 0, vi 1, vi 0] τ4 (KI (fun r5 τ6 => Lay LM g c t τ6 ∧ (inR r5 → ((r5 = 0 → (Lay LM g c t τ6 → CC E mX12_remembers [vr 172] τ6 (KV (fun τ8 => Lay LM g c t τ8 ∧ inR (8 * x1) ∧ inR (2 + (8 * x1)) ∧ (Lay LM g c t τ8 → GG E mX12_drop 50 [some (vr 172), none, some (vi (2 + (8 * x1)))] [] τ8 rc rs Q)) (fun _ _ => False)))) ∧ (¬ (r5 = 0) → (Lay LM g c t τ6 → Q (.inl (some (vi 0))) τ6))))) (fun _ _ => False)))) ∧ (r3 = 0 → (Lay LM g c t τ4 → CC E mX12_bad [vr 172, vi 1, vi 1, vi 0] τ4 (KI (fun r11 τ12 => Lay LM g c t τ12 ∧ (inR r11 → ((r11 = 0 → (Lay LM g c t τ12 → CC E mX12_remembers [vr 172] τ12 (KV (fun τ14 => Lay LM g c t τ14 ∧ inR (8 * x1) ∧ inR (2 + (8 * x1)) ∧ (Lay LM g c t τ14 → GG E mX12_drop 50 [some (vr 172), none, some (vi (2 + (8 * x1)))] [] τ14 rc rs Q)) (fun _ _ => False)))) ∧ (¬ (r11 = 0) → (Lay LM g c t τ12 → Q (.inl (some (vi 0))) τ12))))) (fun _ _ => False))))))) (fun _ _ => False)))) : GG E mX12_drop 0 [some (vr 172), some (vi x1), none] [] σ rc rs Q := by
  refine r_aload_n (pc := 0) dX12_drop_0 rfl rfl ?_
  refine r_iconst (pc := 1) dX12_drop_1 (inRk rfl) ?_
  refine r_putI (pc := 2) dX12_drop_2 (k9 := 0) CL_12 (by decide) (by decide) w_1415 rfl rfl (fun h9 => absurd h9 (by decide +kernel)) (okO_of (N := 42) (hL.sh (i := 0) rfl (by decide) (by decide)) (by decide)) ?_
  refine nmS (fun τ1 e1 => ?_)
  replace h := h τ1 e1
  have hL := hL.wI e1 (by decide) (.inl (by decide))
  refine r_aload_n (pc := 5) dX12_drop_5 rfl rfl ?_
  refine r_iload_n (pc := 6) dX12_drop_6 rfl rfl ?_
  refine r_iconst (pc := 7) dX12_drop_7 (inRk rfl) ?_
  refine r_aload_n (pc := 8) dX12_drop_8 rfl rfl ?_
  refine r_getR (pc := 9) dX12_drop_9 (k9 := 9) CL_12 (by decide) (by decide) w_1424 rfl (okO_of (N := 42) (hL.sh (i := 0) rfl (by decide) (by decide)) (by decide)) ?_
  refine eqR (y := 175) (hL.rf (i := 2) rfl) ?_
  refine r_iconst (pc := 12) dX12_drop_12 (inRk rfl) ?_
  refine r_aaload (pc := 13) dX12_drop_13 (okB_of (c := 24) (n := 10) (hL.sh (i := 3) rfl (by decide) (by decide)) (by decide) (by decide)) ?_
  refine eqR (y := 176) (hL.rx (i := 0) rfl (by decide)) ?_
  refine r_iconst (pc := 14) dX12_drop_14 (inRk rfl) ?_
  refine r_iaload (pc := 15) dX12_drop_15 (okA_of (c := 20) (n := 34) (hL.sh (i := 4) rfl (by decide) (by decide)) (by decide) (by decide)) ?_
  refine r_iconst (pc := 16) dX12_drop_16 (inRk rfl) ?_
  obtain ⟨o2, h⟩ := h
  refine r_isub (pc := 17) dX12_drop_17 o2 ?_
  refine c_SI0N (M := mX12_drop) (pc := 18) (As := [vi x1, vi 0, vi ((gI τ1 176 1) - 1)]) dX12_drop_18 K_X12_in w_1559 ⟨by decide, by decide⟩ (Nat.le_of_ble_eq_true rfl) rfl rfl (h hL) (fun r3 τ4 h8 hr9 => ?_) rfl
  replace hL := h8.1
  replace h := h8.2 hr9
  refine r_if_ne (pc := 21) (tgt := 28) dX12_drop_21 (by decide) (fun c9 => ?_) (fun c9 => ?_)
  · replace h := h.1 c9
    refine r_iconst (pc := 28) dX12_drop_28 (inRk rfl) ?_
    refine r_iconst (pc := 29) dX12_drop_29 (inRk rfl) ?_
    refine r_iconst (pc := 30) dX12_drop_30 (inRk rfl) ?_
    refine c_VI0N (M := mX12_drop) (pc := 31) (As := [vi 0, vi 1, vi 0]) dX12_drop_31 K_X12_bad w_1562 ⟨by decide, by decide⟩ (Nat.le_of_ble_eq_true rfl) rfl rfl (ci := 12) rfl rfl (by decide) (okO_of (N := 42) (hL.sh (i := 0) rfl (by decide) (by decide)) (by decide)) (h hL) (fun r5 τ6 h8 hr9 => ?_) rfl
    replace hL := h8.1
    replace h := h8.2 hr9
    refine r_if_eq (pc := 34) (tgt := 39) dX12_drop_34 (by decide) (fun c9 => ?_) (fun c9 => ?_)
    · replace h := h.1 c9
      refine r_aload_n (pc := 39) dX12_drop_39 rfl rfl ?_
      refine c_VV0N (M := mX12_drop) (pc := 40) (As := []) dX12_drop_40 K_X12_remembers w_1628 ⟨by decide, by decide⟩ (Nat.le_of_ble_eq_true rfl) rfl rfl (ci := 12) rfl rfl (by decide) (okO_of (N := 42) (hL.sh (i := 0) rfl (by decide) (by decide)) (by decide)) (h hL) (fun τ8 h8 => ?_) rfl
      replace hL := h8.1
      replace h := h8.2
      refine r_iconst (pc := 43) dX12_drop_43 (inRk rfl) ?_
      refine r_bipush (pc := 44) dX12_drop_44 (by decide) ?_
      refine r_iload_n (pc := 46) dX12_drop_46 rfl rfl ?_
      obtain ⟨o9, h⟩ := h
      refine r_imul (pc := 47) dX12_drop_47 o9 ?_
      obtain ⟨o10, h⟩ := h
      refine r_iadd (pc := 48) dX12_drop_48 o10 ?_
      refine r_istore_n (pc := 49) dX12_drop_49 rfl (by decide) (l2 := [some (vr 172), some (vi x1), some (vi (2 + (8 * x1)))]) rfl ?_
      exact GG.msk [true, false, true] (h hL)
    · replace h := h.2 c9
      refine r_iconst (pc := 37) dX12_drop_37 (inRk rfl) ?_
      exact r_ireturn (pc := 38) (ty := .int) dX12_drop_38 (by decide +kernel) rfl (nar_i _) (h hL)
  · replace h := h.2 c9
    refine r_iconst (pc := 24) dX12_drop_24 (inRk rfl) ?_
    refine r_goto (pc := 25) (tgt := 29) dX12_drop_25 (by decide) ?_
    refine r_iconst (pc := 29) dX12_drop_29 (inRk rfl) ?_
    refine r_iconst (pc := 30) dX12_drop_30 (inRk rfl) ?_
    refine c_VI0N (M := mX12_drop) (pc := 31) (As := [vi 1, vi 1, vi 0]) dX12_drop_31 K_X12_bad w_1562 ⟨by decide, by decide⟩ (Nat.le_of_ble_eq_true rfl) rfl rfl (ci := 12) rfl rfl (by decide) (okO_of (N := 42) (hL.sh (i := 0) rfl (by decide) (by decide)) (by decide)) (h hL) (fun r11 τ12 h8 hr9 => ?_) rfl
    replace hL := h8.1
    replace h := h8.2 hr9
    refine r_if_eq (pc := 34) (tgt := 39) dX12_drop_34 (by decide) (fun c9 => ?_) (fun c9 => ?_)
    · replace h := h.1 c9
      refine r_aload_n (pc := 39) dX12_drop_39 rfl rfl ?_
      refine c_VV0N (M := mX12_drop) (pc := 40) (As := []) dX12_drop_40 K_X12_remembers w_1628 ⟨by decide, by decide⟩ (Nat.le_of_ble_eq_true rfl) rfl rfl (ci := 12) rfl rfl (by decide) (okO_of (N := 42) (hL.sh (i := 0) rfl (by decide) (by decide)) (by decide)) (h hL) (fun τ14 h8 => ?_) rfl
      replace hL := h8.1
      replace h := h8.2
      refine r_iconst (pc := 43) dX12_drop_43 (inRk rfl) ?_
      refine r_bipush (pc := 44) dX12_drop_44 (by decide) ?_
      refine r_iload_n (pc := 46) dX12_drop_46 rfl rfl ?_
      obtain ⟨o15, h⟩ := h
      refine r_imul (pc := 47) dX12_drop_47 o15 ?_
      obtain ⟨o16, h⟩ := h
      refine r_iadd (pc := 48) dX12_drop_48 o16 ?_
      refine r_istore_n (pc := 49) dX12_drop_49 rfl (by decide) (l2 := [some (vr 172), some (vi x1), some (vi (2 + (8 * x1)))]) rfl ?_
      exact GG.msk [true, false, true] (h hL)
    · replace h := h.2 c9
      refine r_iconst (pc := 37) dX12_drop_37 (inRk rfl) ?_
      exact r_ireturn (pc := 38) (ty := .int) dX12_drop_38 (by decide +kernel) rfl (nar_i _) (h hL)
theorem B_X12_drop_50 {g : Sg} {c t : Nat} (hL : Lay LM g c t σ) {x2 : Int} (h : inR (x2 + 8) ∧ inR (8 * (gI σ 176 1)) ∧ inR (2 + (8 * (gI σ 176 1))) ∧ (((2 + (8 * (gI σ 176 1))) ≤ (x2 + 8) → inR ((gI σ 176 1) - 1) ∧ ∀ τ5 : Sg, τ5 = sI σ 176 1 ((gI σ 176 1) - 1) → (Lay LM g c t τ5 → CC E mX12_makesAnew [vr 172] τ5 (KV (fun τ7 => Lay LM g c t τ7 ∧ (Lay LM g c t τ7 → Q (.inl (some (vi (gI τ7 172 15)))) τ7)) (fun _ _ => False)))) ∧ (¬ ((2 + (8 * (gI σ 176 1))) ≤ (x2 + 8)) → (0 ≤ (x2 + 8) ∧ (x2 + 8) < 34) ∧ (0 ≤ x2 ∧ x2 < 34) ∧ ∀ τ10 : Sg, τ10 = sI σ 176 x2.toNat (gI σ 176 (x2 + 8).toNat) → inR (x2 + 1) ∧ (Lay LM g c t τ10 → GG E mX12_drop 50 [some (vr 172), none, some (vi (x2 + 1))] [] τ10 rc rs Q)))) : GG E mX12_drop 50 [some (vr 172), none, some (vi x2)] [] σ rc rs Q := by
  refine r_iload_n (pc := 50) dX12_drop_50 rfl rfl ?_
  refine r_bipush (pc := 51) dX12_drop_51 (by decide) ?_
  obtain ⟨o1, h⟩ := h
  refine r_iadd (pc := 53) dX12_drop_53 o1 ?_
  refine r_iconst (pc := 54) dX12_drop_54 (inRk rfl) ?_
  refine r_bipush (pc := 55) dX12_drop_55 (by decide) ?_
  refine r_aload_n (pc := 57) dX12_drop_57 rfl rfl ?_
  refine r_getR (pc := 58) dX12_drop_58 (k9 := 9) CL_12 (by decide) (by decide) w_1424 rfl (okO_of (N := 42) (hL.sh (i := 0) rfl (by decide) (by decide)) (by decide)) ?_
  refine eqR (y := 175) (hL.rf (i := 2) rfl) ?_
  refine r_iconst (pc := 61) dX12_drop_61 (inRk rfl) ?_
  refine r_aaload (pc := 62) dX12_drop_62 (okB_of (c := 24) (n := 10) (hL.sh (i := 3) rfl (by decide) (by decide)) (by decide) (by decide)) ?_
  refine eqR (y := 176) (hL.rx (i := 0) rfl (by decide)) ?_
  refine r_iconst (pc := 63) dX12_drop_63 (inRk rfl) ?_
  refine r_iaload (pc := 64) dX12_drop_64 (okA_of (c := 20) (n := 34) (hL.sh (i := 4) rfl (by decide) (by decide)) (by decide) (by decide)) ?_
  obtain ⟨o2, h⟩ := h
  refine r_imul (pc := 65) dX12_drop_65 o2 ?_
  obtain ⟨o3, h⟩ := h
  refine r_iadd (pc := 66) dX12_drop_66 o3 ?_
  refine r_icmp_ge (pc := 67) (tgt := 95) dX12_drop_67 (by decide) (fun c9 => ?_) (fun c9 => ?_)
  · replace h := h.1 c9
    refine r_aload_n (pc := 95) dX12_drop_95 rfl rfl ?_
    refine r_getR (pc := 96) dX12_drop_96 (k9 := 9) CL_12 (by decide) (by decide) w_1424 rfl (okO_of (N := 42) (hL.sh (i := 0) rfl (by decide) (by decide)) (by decide)) ?_
    refine eqR (y := 175) (hL.rf (i := 2) rfl) ?_
    refine r_iconst (pc := 99) dX12_drop_99 (inRk rfl) ?_
    refine r_aaload (pc := 100) dX12_drop_100 (okB_of (c := 24) (n := 10) (hL.sh (i := 3) rfl (by decide) (by decide)) (by decide) (by decide)) ?_
    refine eqR (y := 176) (hL.rx (i := 0) rfl (by decide)) ?_
    refine r_iconst (pc := 101) dX12_drop_101 (inRk rfl) ?_
    refine r_dup2_11 (pc := 102) dX12_drop_102 (fun _ h9 => nomatch h9) (fun _ h9 => nomatch h9) ?_
    refine r_iaload (pc := 103) dX12_drop_103 (okA_of (c := 20) (n := 34) (hL.sh (i := 4) rfl (by decide) (by decide)) (by decide) (by decide)) ?_
    refine r_iconst (pc := 104) dX12_drop_104 (inRk rfl) ?_
    obtain ⟨o4, h⟩ := h
    refine r_isub (pc := 105) dX12_drop_105 o4 ?_
    refine r_iastore (pc := 106) dX12_drop_106 (okB_of (c := 20) (n := 34) (hL.sh (i := 4) rfl (by decide) (by decide)) (by decide) (by decide)) ?_
    refine nmS (fun τ5 e5 => ?_)
    replace h := h τ5 e5
    have hL := hL.wI e5 (by decide) (.inl (by decide))
    refine r_aload_n (pc := 107) dX12_drop_107 rfl rfl ?_
    refine c_VV0N (M := mX12_drop) (pc := 108) (As := []) dX12_drop_108 K_X12_makesAnew w_1636 ⟨by decide, by decide⟩ (Nat.le_of_ble_eq_true rfl) rfl rfl (ci := 12) rfl rfl (by decide) (okO_of (N := 42) (hL.sh (i := 0) rfl (by decide) (by decide)) (by decide)) (h hL) (fun τ7 h8 => ?_) rfl
    replace hL := h8.1
    replace h := h8.2
    refine r_aload_n (pc := 111) dX12_drop_111 rfl rfl ?_
    refine r_getI (pc := 112) dX12_drop_112 (k9 := 15) CL_12 (by decide) (by decide) w_1430 rfl (okO_of (N := 42) (hL.sh (i := 0) rfl (by decide) (by decide)) (by decide)) (fun _ => ?_)
    exact r_ireturn (pc := 115) (ty := .int) dX12_drop_115 (by decide +kernel) rfl (nar_i _) (h hL)
  · replace h := h.2 c9
    refine r_aload_n (pc := 70) dX12_drop_70 rfl rfl ?_
    refine r_getR (pc := 71) dX12_drop_71 (k9 := 9) CL_12 (by decide) (by decide) w_1424 rfl (okO_of (N := 42) (hL.sh (i := 0) rfl (by decide) (by decide)) (by decide)) ?_
    refine eqR (y := 175) (hL.rf (i := 2) rfl) ?_
    refine r_iconst (pc := 74) dX12_drop_74 (inRk rfl) ?_
    refine r_aaload (pc := 75) dX12_drop_75 (okB_of (c := 24) (n := 10) (hL.sh (i := 3) rfl (by decide) (by decide)) (by decide) (by decide)) ?_
    refine eqR (y := 176) (hL.rx (i := 0) rfl (by decide)) ?_
    refine r_iload_n (pc := 76) dX12_drop_76 rfl rfl ?_
    refine r_aload_n (pc := 77) dX12_drop_77 rfl rfl ?_
    refine r_getR (pc := 78) dX12_drop_78 (k9 := 9) CL_12 (by decide) (by decide) w_1424 rfl (okO_of (N := 42) (hL.sh (i := 0) rfl (by decide) (by decide)) (by decide)) ?_
    refine eqR (y := 175) (hL.rf (i := 2) rfl) ?_
    refine r_iconst (pc := 81) dX12_drop_81 (inRk rfl) ?_
    refine r_aaload (pc := 82) dX12_drop_82 (okB_of (c := 24) (n := 10) (hL.sh (i := 3) rfl (by decide) (by decide)) (by decide) (by decide)) ?_
    refine eqR (y := 176) (hL.rx (i := 0) rfl (by decide)) ?_
    refine r_iload_n (pc := 83) dX12_drop_83 rfl rfl ?_
    refine r_bipush (pc := 84) dX12_drop_84 (by decide) ?_
    refine r_iadd (pc := 86) dX12_drop_86 o1 ?_
    obtain ⟨o8, h⟩ := h
    refine r_iaload (pc := 87) dX12_drop_87 (okA_of (c := 20) (n := 34) (hL.sh (i := 4) rfl (by decide) (by decide)) (by decide) o8) ?_
    obtain ⟨o9, h⟩ := h
    refine r_iastore (pc := 88) dX12_drop_88 (okB_of (c := 20) (n := 34) (hL.sh (i := 4) rfl (by decide) (by decide)) (by decide) o9) ?_
    refine nmS (fun τ10 e10 => ?_)
    replace h := h τ10 e10
    have hL := hL.wI e10 (by decide) (.inl (by decide))
    obtain ⟨o11, h⟩ := h
    refine r_iinc (pc := 89) dX12_drop_89 rfl (by decide) o11 (l2 := [some (vr 172), none, some (vi (x2 + 1))]) rfl ?_
    refine r_goto (pc := 92) (tgt := 50) dX12_drop_92 (by decide) ?_
    exact (h hL)
theorem C_X12_drop {a0 : Nat} {x1 : Int} (h : GG E mX12_drop 0 [some (vr a0), some (vi x1), none] [] σ 0 0 Q) : CC E mX12_drop [vr a0, vi x1] σ Q := CC.of (by decide +kernel) rfl (by decide +kernel) (fun h9 => nomatch h9) (Nat.le_of_ble_eq_true rfl) h
theorem dX12_element_0 : decode cX12_element 0 = .ok (.aload_n 0, 1) := by decide +kernel
theorem dX12_element_1 : decode cX12_element 1 = .ok (.iconst 0, 1) := by decide +kernel
theorem dX12_element_2 : decode cX12_element 2 = .ok (.putfield 99, 3) := by decide +kernel
theorem dX12_element_5 : decode cX12_element 5 = .ok (.aload_n 0, 1) := by decide +kernel
theorem dX12_element_6 : decode cX12_element 6 = .ok (.aload_n 0, 1) := by decide +kernel
theorem dX12_element_7 : decode cX12_element 7 = .ok (.iload_n 1, 1) := by decide +kernel
theorem dX12_element_8 : decode cX12_element 8 = .ok (.invokevirtual 332, 3) := by decide +kernel
theorem dX12_element_11 : decode cX12_element 11 = .ok (.ifCond .ne 7, 3) := by decide +kernel
theorem dX12_element_14 : decode cX12_element 14 = .ok (.iconst 1, 1) := by decide +kernel
theorem dX12_element_15 : decode cX12_element 15 = .ok (.goto 4, 3) := by decide +kernel
theorem dX12_element_18 : decode cX12_element 18 = .ok (.iconst 0, 1) := by decide +kernel
theorem dX12_element_19 : decode cX12_element 19 = .ok (.iconst 1, 1) := by decide +kernel
theorem dX12_element_20 : decode cX12_element 20 = .ok (.iconst 0, 1) := by decide +kernel
theorem dX12_element_21 : decode cX12_element 21 = .ok (.invokevirtual 177, 3) := by decide +kernel
theorem dX12_element_24 : decode cX12_element 24 = .ok (.ifCond .ne 27, 3) := by decide +kernel
theorem dX12_element_27 : decode cX12_element 27 = .ok (.aload_n 0, 1) := by decide +kernel
theorem dX12_element_28 : decode cX12_element 28 = .ok (.iload_n 2, 1) := by decide +kernel
theorem dX12_element_29 : decode cX12_element 29 = .ok (.iconst 0, 1) := by decide +kernel
theorem dX12_element_30 : decode cX12_element 30 = .ok (.bipush 10, 2) := by decide +kernel
theorem dX12_element_32 : decode cX12_element 32 = .ok (.invokestatic 141, 3) := by decide +kernel
theorem dX12_element_35 : decode cX12_element 35 = .ok (.ifCond .ne 7, 3) := by decide +kernel
theorem dX12_element_38 : decode cX12_element 38 = .ok (.iconst 1, 1) := by decide +kernel
theorem dX12_element_39 : decode cX12_element 39 = .ok (.goto 4, 3) := by decide +kernel
theorem dX12_element_42 : decode cX12_element 42 = .ok (.iconst 0, 1) := by decide +kernel
theorem dX12_element_43 : decode cX12_element 43 = .ok (.iconst 2, 1) := by decide +kernel
theorem dX12_element_44 : decode cX12_element 44 = .ok (.iconst 1, 1) := by decide +kernel
theorem dX12_element_45 : decode cX12_element 45 = .ok (.invokevirtual 177, 3) := by decide +kernel
theorem dX12_element_48 : decode cX12_element 48 = .ok (.ifCond .eq 5, 3) := by decide +kernel
theorem dX12_element_51 : decode cX12_element 51 = .ok (.iconst 0, 1) := by decide +kernel
theorem dX12_element_52 : decode cX12_element 52 = .ok (.ireturn, 1) := by decide +kernel
theorem dX12_element_53 : decode cX12_element 53 = .ok (.iload_n 2, 1) := by decide +kernel
theorem dX12_element_54 : decode cX12_element 54 = .ok (.bipush 8, 2) := by decide +kernel
theorem dX12_element_56 : decode cX12_element 56 = .ok (.if_icmp .ge 14, 3) := by decide +kernel
theorem dX12_element_59 : decode cX12_element 59 = .ok (.aload_n 0, 1) := by decide +kernel
theorem dX12_element_60 : decode cX12_element 60 = .ok (.getfield 34, 3) := by decide +kernel
theorem dX12_element_63 : decode cX12_element 63 = .ok (.iload_n 1, 1) := by decide +kernel
theorem dX12_element_64 : decode cX12_element 64 = .ok (.aaload, 1) := by decide +kernel
theorem dX12_element_65 : decode cX12_element 65 = .ok (.iload_n 2, 1) := by decide +kernel
theorem dX12_element_66 : decode cX12_element 66 = .ok (.iaload, 1) := by decide +kernel
theorem dX12_element_67 : decode cX12_element 67 = .ok (.goto 39, 3) := by decide +kernel
theorem dX12_element_70 : decode cX12_element 70 = .ok (.iload_n 2, 1) := by decide +kernel
theorem dX12_element_71 : decode cX12_element 71 = .ok (.bipush 8, 2) := by decide +kernel
theorem dX12_element_73 : decode cX12_element 73 = .ok (.if_icmp .ne 12, 3) := by decide +kernel
theorem dX12_element_76 : decode cX12_element 76 = .ok (.aload_n 0, 1) := by decide +kernel
theorem dX12_element_77 : decode cX12_element 77 = .ok (.getfield 40, 3) := by decide +kernel
theorem dX12_element_80 : decode cX12_element 80 = .ok (.iload_n 1, 1) := by decide +kernel
theorem dX12_element_81 : decode cX12_element 81 = .ok (.iaload, 1) := by decide +kernel
theorem dX12_element_82 : decode cX12_element 82 = .ok (.goto 24, 3) := by decide +kernel
theorem dX12_element_85 : decode cX12_element 85 = .ok (.iload_n 2, 1) := by decide +kernel
theorem dX12_element_86 : decode cX12_element 86 = .ok (.bipush 9, 2) := by decide +kernel
theorem dX12_element_88 : decode cX12_element 88 = .ok (.if_icmp .ne 12, 3) := by decide +kernel
theorem dX12_element_91 : decode cX12_element 91 = .ok (.aload_n 0, 1) := by decide +kernel
theorem dX12_element_92 : decode cX12_element 92 = .ok (.getfield 43, 3) := by decide +kernel
theorem dX12_element_95 : decode cX12_element 95 = .ok (.iload_n 1, 1) := by decide +kernel
theorem dX12_element_96 : decode cX12_element 96 = .ok (.iaload, 1) := by decide +kernel
theorem dX12_element_97 : decode cX12_element 97 = .ok (.goto 9, 3) := by decide +kernel
theorem dX12_element_100 : decode cX12_element 100 = .ok (.aload_n 0, 1) := by decide +kernel
theorem dX12_element_101 : decode cX12_element 101 = .ok (.getfield 46, 3) := by decide +kernel
theorem dX12_element_104 : decode cX12_element 104 = .ok (.iload_n 1, 1) := by decide +kernel
theorem dX12_element_105 : decode cX12_element 105 = .ok (.iaload, 1) := by decide +kernel
theorem dX12_element_106 : decode cX12_element 106 = .ok (.ireturn, 1) := by decide +kernel
theorem B_X12_element_0 {g : Sg} {c t : Nat} (hL : Lay LM g c t σ) {x1 : Int} {x2 : Int} (h : ∀ τ1 : Sg, τ1 = sI σ 172 0 0 → (Lay LM g c t τ1 → CC E mX12_isElement [vr 172, vi x1] τ1 (KI (fun r2 τ3 => Lay LM g c t τ3 ∧ (inR r2 → ((r2 ≠ 0 → (Lay LM g c t τ3 → CC E mX12_bad [vr 172, vi 0, vi 1, vi 0] τ3 (KI (fun r4 τ5 => Lay LM g c t τ5 ∧ (inR r4 → ((r4 ≠ 0 → (Lay LM g c t τ5 → GG E mX12_element 51 [none, none, none] [] τ5 rc rs Q)) ∧ (r4 = 0 → (Lay LM g c t τ5 → CC E mX12_in [vi x2, vi 0, vi 10] τ5 (KI (fun r6 τ7 => Lay LM g c t τ7 ∧ (inR r6 → ((r6 ≠ 0 → (Lay LM g c t τ7 → CC E mX12_bad [vr 172, vi 0, vi 2, vi 1] τ7 (KI (fun r8 τ9 => Lay LM g c t τ9 ∧ (inR r8 → ((r8 = 0 → (Lay LM g c t τ9 → GG E mX12_element 53 [some (vr 172), some (vi x1), some (vi x2)] [] τ9 rc rs Q)) ∧ (¬ (r8 = 0) → (Lay LM g c t τ9 → GG E mX12_element 51 [none, none, none] [] τ9 rc rs Q))))) (fun _ _ => False)))) ∧ (r6 = 0 → (Lay LM g c t τ7 → CC E mX12_bad [vr 172, vi 1, vi 2, vi 1] τ7 (KI (fun r10 τ11 => Lay LM g c t τ11 ∧ (inR r10 → ((r10 = 0 → (Lay LM g c t τ11 → GG E mX12_element 53 [some (vr 172), some (vi x1), some (vi x2)] [] τ11 rc rs Q)) ∧ (¬ (r10 = 0) → (Lay LM g c t τ11 → GG E mX12_element 51 [none, none, none] [] τ11 rc rs Q))))) (fun _ _ => False))))))) (fun _ _ => False))))))) (fun _ _ => False)))) ∧ (r2 = 0 → (Lay LM g c t τ3 → CC E mX12_bad [vr 172, vi 1, vi 1, vi 0] τ3 (KI (fun r12 τ13 => Lay LM g c t τ13 ∧ (inR r12 → ((r12 ≠ 0 → (Lay LM g c t τ13 → GG E mX12_element 51 [none, none, none] [] τ13 rc rs Q)) ∧ (r12 = 0 → (Lay LM g c t τ13 → CC E mX12_in [vi x2, vi 0, vi 10] τ13 (KI (fun r14 τ15 => Lay LM g c t τ15 ∧ (inR r14 → ((r14 ≠ 0 → (Lay LM g c t τ15 → CC E mX12_bad [vr 172, vi 0, vi 2, vi 1] τ15 (KI (fun r16 τ17 => Lay LM g c t τ17 ∧ (inR r16 → ((r16 = 0 → (Lay LM g c t τ17 → GG E mX12_element 53 [some (vr 172), some (vi x1), some (vi x2)] [] τ17 rc rs Q)) ∧ (¬ (r16 = 0) → (Lay LM g c t τ17 → GG E mX12_element 51 [none, none, none] [] τ17 rc rs Q))))) (fun _ _ => False)))) ∧ (r14 = 0 → (Lay LM g c t τ15 → CC E mX12_bad [vr 172, vi 1, vi 2, vi 1] τ15 (KI (fun r18 τ19 => Lay LM g c t τ19 ∧ (inR r18 → ((r18 = 0 → (Lay LM g c t τ19 → GG E mX12_element 53 [some (vr 172), some (vi x1), some (vi x2)] [] τ19 rc rs Q)) ∧ (¬ (r18 = 0) → (Lay LM g c t τ19 → GG E mX12_element 51 [none, none, none] [] τ19 rc rs Q))))) (fun _ _ => False))))))) (fun _ _ => False))))))) (fun _ _ => False))))))) (fun _ _ => False)))) : GG E mX12_element 0 [some (vr 172), some (vi x1), some (vi x2)] [] σ rc rs Q := by
  refine r_aload_n (pc := 0) dX12_element_0 rfl rfl ?_
  refine r_iconst (pc := 1) dX12_element_1 (inRk rfl) ?_
  refine r_putI (pc := 2) dX12_element_2 (k9 := 0) CL_12 (by decide) (by decide) w_1415 rfl rfl (fun h9 => absurd h9 (by decide +kernel)) (okO_of (N := 42) (hL.sh (i := 0) rfl (by decide) (by decide)) (by decide)) ?_
  refine nmS (fun τ1 e1 => ?_)
  replace h := h τ1 e1
  have hL := hL.wI e1 (by decide) (.inl (by decide))
  refine r_aload_n (pc := 5) dX12_element_5 rfl rfl ?_
  refine r_aload_n (pc := 6) dX12_element_6 rfl rfl ?_
  refine r_iload_n (pc := 7) dX12_element_7 rfl rfl ?_
  refine c_VI0N (M := mX12_element) (pc := 8) (As := [vi x1]) dX12_element_8 K_X12_isElement w_1746 ⟨by decide, by decide⟩ (Nat.le_of_ble_eq_true rfl) rfl rfl (ci := 12) rfl rfl (by decide) (okO_of (N := 42) (hL.sh (i := 0) rfl (by decide) (by decide)) (by decide)) (h hL) (fun r2 τ3 h8 hr9 => ?_) rfl
  replace hL := h8.1
  replace h := h8.2 hr9
  refine r_if_ne (pc := 11) (tgt := 18) dX12_element_11 (by decide) (fun c9 => ?_) (fun c9 => ?_)
  · replace h := h.1 c9
    refine r_iconst (pc := 18) dX12_element_18 (inRk rfl) ?_
    refine r_iconst (pc := 19) dX12_element_19 (inRk rfl) ?_
    refine r_iconst (pc := 20) dX12_element_20 (inRk rfl) ?_
    refine c_VI0N (M := mX12_element) (pc := 21) (As := [vi 0, vi 1, vi 0]) dX12_element_21 K_X12_bad w_1562 ⟨by decide, by decide⟩ (Nat.le_of_ble_eq_true rfl) rfl rfl (ci := 12) rfl rfl (by decide) (okO_of (N := 42) (hL.sh (i := 0) rfl (by decide) (by decide)) (by decide)) (h hL) (fun r4 τ5 h8 hr9 => ?_) rfl
    replace hL := h8.1
    replace h := h8.2 hr9
    refine r_if_ne (pc := 24) (tgt := 51) dX12_element_24 (by decide) (fun c9 => ?_) (fun c9 => ?_)
    · replace h := h.1 c9
      exact GG.msk [false, false, false] (h hL)
    · replace h := h.2 c9
      refine r_aload_n (pc := 27) dX12_element_27 rfl rfl ?_
      refine r_iload_n (pc := 28) dX12_element_28 rfl rfl ?_
      refine r_iconst (pc := 29) dX12_element_29 (inRk rfl) ?_
      refine r_bipush (pc := 30) dX12_element_30 (by decide) ?_
      refine c_SI0N (M := mX12_element) (pc := 32) (As := [vi x2, vi 0, vi 10]) dX12_element_32 K_X12_in w_1559 ⟨by decide, by decide⟩ (Nat.le_of_ble_eq_true rfl) rfl rfl (h hL) (fun r6 τ7 h8 hr9 => ?_) rfl
      replace hL := h8.1
      replace h := h8.2 hr9
      refine r_if_ne (pc := 35) (tgt := 42) dX12_element_35 (by decide) (fun c9 => ?_) (fun c9 => ?_)
      · replace h := h.1 c9
        refine r_iconst (pc := 42) dX12_element_42 (inRk rfl) ?_
        refine r_iconst (pc := 43) dX12_element_43 (inRk rfl) ?_
        refine r_iconst (pc := 44) dX12_element_44 (inRk rfl) ?_
        refine c_VI0N (M := mX12_element) (pc := 45) (As := [vi 0, vi 2, vi 1]) dX12_element_45 K_X12_bad w_1562 ⟨by decide, by decide⟩ (Nat.le_of_ble_eq_true rfl) rfl rfl (ci := 12) rfl rfl (by decide) (okO_of (N := 42) (hL.sh (i := 0) rfl (by decide) (by decide)) (by decide)) (h hL) (fun r8 τ9 h8 hr9 => ?_) rfl
        replace hL := h8.1
        replace h := h8.2 hr9
        refine r_if_eq (pc := 48) (tgt := 53) dX12_element_48 (by decide) (fun c9 => ?_) (fun c9 => ?_)
        · replace h := h.1 c9
          exact (h hL)
        · replace h := h.2 c9
          exact GG.msk [false, false, false] (h hL)
      · replace h := h.2 c9
        refine r_iconst (pc := 38) dX12_element_38 (inRk rfl) ?_
        refine r_goto (pc := 39) (tgt := 43) dX12_element_39 (by decide) ?_
        refine r_iconst (pc := 43) dX12_element_43 (inRk rfl) ?_
        refine r_iconst (pc := 44) dX12_element_44 (inRk rfl) ?_
        refine c_VI0N (M := mX12_element) (pc := 45) (As := [vi 1, vi 2, vi 1]) dX12_element_45 K_X12_bad w_1562 ⟨by decide, by decide⟩ (Nat.le_of_ble_eq_true rfl) rfl rfl (ci := 12) rfl rfl (by decide) (okO_of (N := 42) (hL.sh (i := 0) rfl (by decide) (by decide)) (by decide)) (h hL) (fun r10 τ11 h8 hr9 => ?_) rfl
        replace hL := h8.1
        replace h := h8.2 hr9
        refine r_if_eq (pc := 48) (tgt := 53) dX12_element_48 (by decide) (fun c9 => ?_) (fun c9 => ?_)
        · replace h := h.1 c9
          exact (h hL)
        · replace h := h.2 c9
          exact GG.msk [false, false, false] (h hL)
  · replace h := h.2 c9
    refine r_iconst (pc := 14) dX12_element_14 (inRk rfl) ?_
    refine r_goto (pc := 15) (tgt := 19) dX12_element_15 (by decide) ?_
    refine r_iconst (pc := 19) dX12_element_19 (inRk rfl) ?_
    refine r_iconst (pc := 20) dX12_element_20 (inRk rfl) ?_
    refine c_VI0N (M := mX12_element) (pc := 21) (As := [vi 1, vi 1, vi 0]) dX12_element_21 K_X12_bad w_1562 ⟨by decide, by decide⟩ (Nat.le_of_ble_eq_true rfl) rfl rfl (ci := 12) rfl rfl (by decide) (okO_of (N := 42) (hL.sh (i := 0) rfl (by decide) (by decide)) (by decide)) (h hL) (fun r12 τ13 h8 hr9 => ?_) rfl
    replace hL := h8.1
    replace h := h8.2 hr9
    refine r_if_ne (pc := 24) (tgt := 51) dX12_element_24 (by decide) (fun c9 => ?_) (fun c9 => ?_)
    · replace h := h.1 c9
      exact GG.msk [false, false, false] (h hL)
    · replace h := h.2 c9
      refine r_aload_n (pc := 27) dX12_element_27 rfl rfl ?_
      refine r_iload_n (pc := 28) dX12_element_28 rfl rfl ?_
      refine r_iconst (pc := 29) dX12_element_29 (inRk rfl) ?_
      refine r_bipush (pc := 30) dX12_element_30 (by decide) ?_
      refine c_SI0N (M := mX12_element) (pc := 32) (As := [vi x2, vi 0, vi 10]) dX12_element_32 K_X12_in w_1559 ⟨by decide, by decide⟩ (Nat.le_of_ble_eq_true rfl) rfl rfl (h hL) (fun r14 τ15 h8 hr9 => ?_) rfl
      replace hL := h8.1
      replace h := h8.2 hr9
      refine r_if_ne (pc := 35) (tgt := 42) dX12_element_35 (by decide) (fun c9 => ?_) (fun c9 => ?_)
      · replace h := h.1 c9
        refine r_iconst (pc := 42) dX12_element_42 (inRk rfl) ?_
        refine r_iconst (pc := 43) dX12_element_43 (inRk rfl) ?_
        refine r_iconst (pc := 44) dX12_element_44 (inRk rfl) ?_
        refine c_VI0N (M := mX12_element) (pc := 45) (As := [vi 0, vi 2, vi 1]) dX12_element_45 K_X12_bad w_1562 ⟨by decide, by decide⟩ (Nat.le_of_ble_eq_true rfl) rfl rfl (ci := 12) rfl rfl (by decide) (okO_of (N := 42) (hL.sh (i := 0) rfl (by decide) (by decide)) (by decide)) (h hL) (fun r16 τ17 h8 hr9 => ?_) rfl
        replace hL := h8.1
        replace h := h8.2 hr9
        refine r_if_eq (pc := 48) (tgt := 53) dX12_element_48 (by decide) (fun c9 => ?_) (fun c9 => ?_)
        · replace h := h.1 c9
          exact (h hL)
        · replace h := h.2 c9
          exact GG.msk [false, false, false] (h hL)
      · replace h := h.2 c9
        refine r_iconst (pc := 38) dX12_element_38 (inRk rfl) ?_
        refine r_goto (pc := 39) (tgt := 43) dX12_element_39 (by decide) ?_
        refine r_iconst (pc := 43) dX12_element_43 (inRk rfl) ?_
        refine r_iconst (pc := 44) dX12_element_44 (inRk rfl) ?_
        refine c_VI0N (M := mX12_element) (pc := 45) (As := [vi 1, vi 2, vi 1]) dX12_element_45 K_X12_bad w_1562 ⟨by decide, by decide⟩ (Nat.le_of_ble_eq_true rfl) rfl rfl (ci := 12) rfl rfl (by decide) (okO_of (N := 42) (hL.sh (i := 0) rfl (by decide) (by decide)) (by decide)) (h hL) (fun r18 τ19 h8 hr9 => ?_) rfl
        replace hL := h8.1
        replace h := h8.2 hr9
        refine r_if_eq (pc := 48) (tgt := 53) dX12_element_48 (by decide) (fun c9 => ?_) (fun c9 => ?_)
        · replace h := h.1 c9
          exact (h hL)
        · replace h := h.2 c9
          exact GG.msk [false, false, false] (h hL)
theorem B_X12_element_51 {g : Sg} {c t : Nat} (hL : Lay LM g c t σ)  (h : (Lay LM g c t σ → Q (.inl (some (vi 0))) σ)) : GG E mX12_element 51 [none, none, none] [] σ rc rs Q := by
  refine r_iconst (pc := 51) dX12_element_51 (inRk rfl) ?_
  exact r_ireturn (pc := 52) (ty := .int) dX12_element_52 (by decide +kernel) rfl (nar_i _) (h hL)
theorem B_X12_element_53 {g : Sg} {c t : Nat} (hL : Lay LM g c t σ) {x1 : Int} {x2 : Int} (h : ((8 ≤ x2 → ((x2 ≠ 8 → ((x2 ≠ 9 → (0 ≤ x1 ∧ x1 < 120) ∧ (Lay LM g c t σ → Q (.inl (some (vi (gI σ 553 x1.toNat)))) σ)) ∧ (x2 = 9 → (0 ≤ x1 ∧ x1 < 120) ∧ (Lay LM g c t σ → Q (.inl (some (vi (gI σ 552 x1.toNat)))) σ)))) ∧ (x2 = 8 → (0 ≤ x1 ∧ x1 < 120) ∧ (Lay LM g c t σ → Q (.inl (some (vi (gI σ 551 x1.toNat)))) σ)))) ∧ (¬ (8 ≤ x2) → (0 ≤ x1 ∧ x1 < 120) ∧ (0 ≤ x2 ∧ x2 < 8) ∧ (Lay LM g c t σ → Q (.inl (some (vi (gI σ (310 + x1.toNat) x2.toNat)))) σ)))) : GG E mX12_element 53 [some (vr 172), some (vi x1), some (vi x2)] [] σ rc rs Q := by
  refine r_iload_n (pc := 53) dX12_element_53 rfl rfl ?_
  refine r_bipush (pc := 54) dX12_element_54 (by decide) ?_
  refine r_icmp_ge (pc := 56) (tgt := 70) dX12_element_56 (by decide) (fun c9 => ?_) (fun c9 => ?_)
  · replace h := h.1 c9
    refine r_iload_n (pc := 70) dX12_element_70 rfl rfl ?_
    refine r_bipush (pc := 71) dX12_element_71 (by decide) ?_
    refine r_icmp_ne (pc := 73) (tgt := 85) dX12_element_73 (by decide) (fun c9 => ?_) (fun c9 => ?_)
    · replace h := h.1 c9
      refine r_iload_n (pc := 85) dX12_element_85 rfl rfl ?_
      refine r_bipush (pc := 86) dX12_element_86 (by decide) ?_
      refine r_icmp_ne (pc := 88) (tgt := 100) dX12_element_88 (by decide) (fun c9 => ?_) (fun c9 => ?_)
      · replace h := h.1 c9
        refine r_aload_n (pc := 100) dX12_element_100 rfl rfl ?_
        refine r_getR (pc := 101) dX12_element_101 (k9 := 24) CL_12 (by decide) (by decide) w_1439 rfl (okO_of (N := 42) (hL.sh (i := 0) rfl (by decide) (by decide)) (by decide)) ?_
        refine eqR (y := 553) (hL.rf (i := 10) rfl) ?_
        refine r_iload_n (pc := 104) dX12_element_104 rfl rfl ?_
        obtain ⟨o1, h⟩ := h
        refine r_iaload (pc := 105) dX12_element_105 (okA_of (c := 20) (n := 120) (hL.sh (i := 15) rfl (by decide) (by decide)) (by decide) o1) ?_
        exact r_ireturn (pc := 106) (ty := .int) dX12_element_106 (by decide +kernel) rfl (nar_i _) (h hL)
      · replace h := h.2 c9
        refine r_aload_n (pc := 91) dX12_element_91 rfl rfl ?_
        refine r_getR (pc := 92) dX12_element_92 (k9 := 23) CL_12 (by decide) (by decide) w_1438 rfl (okO_of (N := 42) (hL.sh (i := 0) rfl (by decide) (by decide)) (by decide)) ?_
        refine eqR (y := 552) (hL.rf (i := 9) rfl) ?_
        refine r_iload_n (pc := 95) dX12_element_95 rfl rfl ?_
        obtain ⟨o2, h⟩ := h
        refine r_iaload (pc := 96) dX12_element_96 (okA_of (c := 20) (n := 120) (hL.sh (i := 14) rfl (by decide) (by decide)) (by decide) o2) ?_
        refine r_goto (pc := 97) (tgt := 106) dX12_element_97 (by decide) ?_
        exact r_ireturn (pc := 106) (ty := .int) dX12_element_106 (by decide +kernel) rfl (nar_i _) (h hL)
    · replace h := h.2 c9
      refine r_aload_n (pc := 76) dX12_element_76 rfl rfl ?_
      refine r_getR (pc := 77) dX12_element_77 (k9 := 22) CL_12 (by decide) (by decide) w_1437 rfl (okO_of (N := 42) (hL.sh (i := 0) rfl (by decide) (by decide)) (by decide)) ?_
      refine eqR (y := 551) (hL.rf (i := 8) rfl) ?_
      refine r_iload_n (pc := 80) dX12_element_80 rfl rfl ?_
      obtain ⟨o3, h⟩ := h
      refine r_iaload (pc := 81) dX12_element_81 (okA_of (c := 20) (n := 120) (hL.sh (i := 13) rfl (by decide) (by decide)) (by decide) o3) ?_
      refine r_goto (pc := 82) (tgt := 106) dX12_element_82 (by decide) ?_
      exact r_ireturn (pc := 106) (ty := .int) dX12_element_106 (by decide +kernel) rfl (nar_i _) (h hL)
  · replace h := h.2 c9
    refine r_aload_n (pc := 59) dX12_element_59 rfl rfl ?_
    refine r_getR (pc := 60) dX12_element_60 (k9 := 20) CL_12 (by decide) (by decide) w_1435 rfl (okO_of (N := 42) (hL.sh (i := 0) rfl (by decide) (by decide)) (by decide)) ?_
    refine eqR (y := 309) (hL.rf (i := 6) rfl) ?_
    refine r_iload_n (pc := 63) dX12_element_63 rfl rfl ?_
    obtain ⟨o4, h⟩ := h
    refine r_aaload (pc := 64) dX12_element_64 (okB_of (c := 24) (n := 120) (hL.sh (i := 9) rfl (by decide) (by decide)) (by decide) o4) ?_
    have q5 : 310 ≤ 310 + x1.toNat ∧ 310 + x1.toNat < 430 := ⟨Nat.le_add_right _ _, rowB o4 (by decide)⟩
    refine eqR (y := 310 + x1.toNat) (hL.rx (i := 2) rfl (rowC o4 (by decide))) ?_
    refine r_iload_n (pc := 65) dX12_element_65 rfl rfl ?_
    obtain ⟨o6, h⟩ := h
    refine r_iaload (pc := 66) dX12_element_66 (okA_of (c := 20) (n := 8) (hL.sh (i := 10) rfl q5.1 q5.2) (Nat.le_trans (by decide) q5.1) o6) ?_
    refine r_goto (pc := 67) (tgt := 106) dX12_element_67 (by decide) ?_
    exact r_ireturn (pc := 106) (ty := .int) dX12_element_106 (by decide +kernel) rfl (nar_i _) (h hL)
theorem C_X12_element {a0 : Nat} {x1 : Int} {x2 : Int} (h : GG E mX12_element 0 [some (vr a0), some (vi x1), some (vi x2)] [] σ 0 0 Q) : CC E mX12_element [vr a0, vi x1, vi x2] σ Q := CC.of (by decide +kernel) rfl (by decide +kernel) (fun h9 => nomatch h9) (Nat.le_of_ble_eq_true rfl) h
theorem dX12_ends_0 : decode cX12_ends 0 = .ok (.aload_n 0, 1) := by decide +kernel
theorem dX12_ends_1 : decode cX12_ends 1 = .ok (.invokevirtual 121, 3) := by decide +kernel
theorem dX12_ends_4 : decode cX12_ends 4 = .ok (.ifCond .ne 4, 3) := by decide +kernel
theorem dX12_ends_7 : decode cX12_ends 7 = .ok (.return_, 1) := by decide +kernel
theorem dX12_ends_8 : decode cX12_ends 8 = .ok (.aload_n 0, 1) := by decide +kernel
theorem dX12_ends_9 : decode cX12_ends 9 = .ok (.invokevirtual 125, 3) := by decide +kernel
theorem dX12_ends_12 : decode cX12_ends 12 = .ok (.bipush 59, 2) := by decide +kernel
theorem dX12_ends_14 : decode cX12_ends 14 = .ok (.if_icmp .ne 16, 3) := by decide +kernel
theorem dX12_ends_17 : decode cX12_ends 17 = .ok (.aload_n 0, 1) := by decide +kernel
theorem dX12_ends_18 : decode cX12_ends 18 = .ok (.dup, 1) := by decide +kernel
theorem dX12_ends_19 : decode cX12_ends 19 = .ok (.getfield 108, 3) := by decide +kernel
theorem dX12_ends_22 : decode cX12_ends 22 = .ok (.iconst 1, 1) := by decide +kernel
theorem dX12_ends_23 : decode cX12_ends 23 = .ok (.iadd, 1) := by decide +kernel
theorem dX12_ends_24 : decode cX12_ends 24 = .ok (.putfield 108, 3) := by decide +kernel
theorem dX12_ends_27 : decode cX12_ends 27 = .ok (.goto 12, 3) := by decide +kernel
theorem dX12_ends_30 : decode cX12_ends 30 = .ok (.aload_n 0, 1) := by decide +kernel
theorem dX12_ends_31 : decode cX12_ends 31 = .ok (.iconst 1, 1) := by decide +kernel
theorem dX12_ends_32 : decode cX12_ends 32 = .ok (.aload_n 0, 1) := by decide +kernel
theorem dX12_ends_33 : decode cX12_ends 33 = .ok (.getfield 108, 3) := by decide +kernel
theorem dX12_ends_36 : decode cX12_ends 36 = .ok (.invokevirtual 132, 3) := by decide +kernel
theorem dX12_ends_39 : decode cX12_ends 39 = .ok (.return_, 1) := by decide +kernel
theorem B_X12_ends_0 {g : Sg} {c t : Nat} (hL : Lay LM g c t σ)  (h : (Lay LM g c t σ → CC E mX12_fine [vr 172] σ (KI (fun r1 τ2 => Lay LM g c t τ2 ∧ (inR r1 → ((r1 ≠ 0 → (Lay LM g c t τ2 → CC E mX12_here [vr 172] τ2 (KI (fun r3 τ4 => Lay LM g c t τ4 ∧ (inR r3 → ((r3 ≠ 59 → (Lay LM g c t τ4 → CC E mX12_wrong [vr 172, vi 1, vi (gI τ4 172 4)] τ4 (KV (fun τ6 => Lay LM g c t τ6 ∧ (Lay LM g c t τ6 → Q (.inl none) τ6)) (fun _ _ => False)))) ∧ (r3 = 59 → inR ((gI τ4 172 4) + 1) ∧ ∀ τ8 : Sg, τ8 = sI τ4 172 4 ((gI τ4 172 4) + 1) → (Lay LM g c t τ8 → Q (.inl none) τ8))))) (fun _ _ => False)))) ∧ (r1 = 0 → (Lay LM g c t τ2 → Q (.inl none) τ2))))) (fun _ _ => False)))) : GG E mX12_ends 0 [some (vr 172)] [] σ rc rs Q := by
  refine r_aload_n (pc := 0) dX12_ends_0 rfl rfl ?_
  refine c_VI0N (M := mX12_ends) (pc := 1) (As := []) dX12_ends_1 K_X12_fine w_1579 ⟨by decide, by decide⟩ (Nat.le_of_ble_eq_true rfl) rfl rfl (ci := 12) rfl rfl (by decide) (okO_of (N := 42) (hL.sh (i := 0) rfl (by decide) (by decide)) (by decide)) (h hL) (fun r1 τ2 h8 hr9 => ?_) rfl
  replace hL := h8.1
  replace h := h8.2 hr9
  refine r_if_ne (pc := 4) (tgt := 8) dX12_ends_4 (by decide) (fun c9 => ?_) (fun c9 => ?_)
  · replace h := h.1 c9
    refine r_aload_n (pc := 8) dX12_ends_8 rfl rfl ?_
    refine c_VI0N (M := mX12_ends) (pc := 9) (As := []) dX12_ends_9 K_X12_here w_1566 ⟨by decide, by decide⟩ (Nat.le_of_ble_eq_true rfl) rfl rfl (ci := 12) rfl rfl (by decide) (okO_of (N := 42) (hL.sh (i := 0) rfl (by decide) (by decide)) (by decide)) (h hL) (fun r3 τ4 h8 hr9 => ?_) rfl
    replace hL := h8.1
    replace h := h8.2 hr9
    refine r_bipush (pc := 12) dX12_ends_12 (by decide) ?_
    refine r_icmp_ne (pc := 14) (tgt := 30) dX12_ends_14 (by decide) (fun c9 => ?_) (fun c9 => ?_)
    · replace h := h.1 c9
      refine r_aload_n (pc := 30) dX12_ends_30 rfl rfl ?_
      refine r_iconst (pc := 31) dX12_ends_31 (inRk rfl) ?_
      refine r_aload_n (pc := 32) dX12_ends_32 rfl rfl ?_
      refine r_getI (pc := 33) dX12_ends_33 (k9 := 4) CL_12 (by decide) (by decide) w_1419 rfl (okO_of (N := 42) (hL.sh (i := 0) rfl (by decide) (by decide)) (by decide)) (fun _ => ?_)
      refine c_VV0N (M := mX12_ends) (pc := 36) (As := [vi 1, vi (gI τ4 172 4)]) dX12_ends_36 K_X12_wrong w_1588 ⟨by decide, by decide⟩ (Nat.le_of_ble_eq_true rfl) rfl rfl (ci := 12) rfl rfl (by decide) (okO_of (N := 42) (hL.sh (i := 0) rfl (by decide) (by decide)) (by decide)) (h hL) (fun τ6 h8 => ?_) rfl
      replace hL := h8.1
      replace h := h8.2
      exact r_return (pc := 39) dX12_ends_39 (by decide +kernel) rfl (h hL)
    · replace h := h.2 c9
      refine r_aload_n (pc := 17) dX12_ends_17 rfl rfl ?_
      refine r_dup (pc := 18) dX12_ends_18 (fun _ h9 => nomatch h9) ?_
      refine r_getI (pc := 19) dX12_ends_19 (k9 := 4) CL_12 (by decide) (by decide) w_1419 rfl (okO_of (N := 42) (hL.sh (i := 0) rfl (by decide) (by decide)) (by decide)) (fun _ => ?_)
      refine r_iconst (pc := 22) dX12_ends_22 (inRk rfl) ?_
      obtain ⟨o7, h⟩ := h
      refine r_iadd (pc := 23) dX12_ends_23 o7 ?_
      refine r_putI (pc := 24) dX12_ends_24 (k9 := 4) CL_12 (by decide) (by decide) w_1419 rfl rfl (fun h9 => absurd h9 (by decide +kernel)) (okO_of (N := 42) (hL.sh (i := 0) rfl (by decide) (by decide)) (by decide)) ?_
      refine nmS (fun τ8 e8 => ?_)
      replace h := h τ8 e8
      have hL := hL.wI e8 (by decide) (.inl (by decide))
      refine r_goto (pc := 27) (tgt := 39) dX12_ends_27 (by decide) ?_
      exact r_return (pc := 39) dX12_ends_39 (by decide +kernel) rfl (h hL)
  · replace h := h.2 c9
    exact r_return (pc := 7) dX12_ends_7 (by decide +kernel) rfl (h hL)
theorem C_X12_ends {a0 : Nat} (h : GG E mX12_ends 0 [some (vr a0)] [] σ 0 0 Q) : CC E mX12_ends [vr a0] σ Q := CC.of (by decide +kernel) rfl (by decide +kernel) (fun h9 => nomatch h9) (Nat.le_of_ble_eq_true rfl) h
theorem dX12_far_0 : decode cX12_far 0 = .ok (.aload_n 0, 1) := by decide +kernel
theorem dX12_far_1 : decode cX12_far 1 = .ok (.iconst 0, 1) := by decide +kernel
theorem dX12_far_2 : decode cX12_far 2 = .ok (.putfield 99, 3) := by decide +kernel
theorem dX12_far_5 : decode cX12_far 5 = .ok (.aload_n 0, 1) := by decide +kernel
theorem dX12_far_6 : decode cX12_far 6 = .ok (.aload_n 0, 1) := by decide +kernel
theorem dX12_far_7 : decode cX12_far 7 = .ok (.iload_n 1, 1) := by decide +kernel
theorem dX12_far_8 : decode cX12_far 8 = .ok (.invokevirtual 335, 3) := by decide +kernel
theorem dX12_far_11 : decode cX12_far 11 = .ok (.ifCond .eq 11, 3) := by decide +kernel
theorem dX12_far_14 : decode cX12_far 14 = .ok (.aload_n 0, 1) := by decide +kernel
theorem dX12_far_15 : decode cX12_far 15 = .ok (.iload_n 2, 1) := by decide +kernel
theorem dX12_far_16 : decode cX12_far 16 = .ok (.invokevirtual 335, 3) := by decide +kernel
theorem dX12_far_19 : decode cX12_far 19 = .ok (.ifCond .ne 7, 3) := by decide +kernel
theorem dX12_far_22 : decode cX12_far 22 = .ok (.iconst 1, 1) := by decide +kernel
theorem dX12_far_23 : decode cX12_far 23 = .ok (.goto 4, 3) := by decide +kernel
theorem dX12_far_26 : decode cX12_far 26 = .ok (.iconst 0, 1) := by decide +kernel
theorem dX12_far_27 : decode cX12_far 27 = .ok (.iconst 1, 1) := by decide +kernel
theorem dX12_far_28 : decode cX12_far 28 = .ok (.iconst 0, 1) := by decide +kernel
theorem dX12_far_29 : decode cX12_far 29 = .ok (.invokevirtual 177, 3) := by decide +kernel
theorem dX12_far_32 : decode cX12_far 32 = .ok (.ifCond .eq 5, 3) := by decide +kernel
theorem dX12_far_35 : decode cX12_far 35 = .ok (.iconst 0, 1) := by decide +kernel
theorem dX12_far_36 : decode cX12_far 36 = .ok (.ireturn, 1) := by decide +kernel
theorem dX12_far_37 : decode cX12_far 37 = .ok (.aload_n 0, 1) := by decide +kernel
theorem dX12_far_38 : decode cX12_far 38 = .ok (.invokevirtual 317, 3) := by decide +kernel
theorem dX12_far_41 : decode cX12_far 41 = .ok (.iconst 0, 1) := by decide +kernel
theorem dX12_far_42 : decode cX12_far 42 = .ok (.istore_n 3, 1) := by decide +kernel
theorem dX12_far_43 : decode cX12_far 43 = .ok (.iload_n 3, 1) := by decide +kernel
theorem dX12_far_44 : decode cX12_far 44 = .ok (.aload_n 0, 1) := by decide +kernel
theorem dX12_far_45 : decode cX12_far 45 = .ok (.getfield 231, 3) := by decide +kernel
theorem dX12_far_48 : decode cX12_far 48 = .ok (.if_icmp .ge 25, 3) := by decide +kernel
theorem dX12_far_51 : decode cX12_far 51 = .ok (.aload_n 0, 1) := by decide +kernel
theorem dX12_far_52 : decode cX12_far 52 = .ok (.getfield 85, 3) := by decide +kernel
theorem dX12_far_55 : decode cX12_far 55 = .ok (.iload_n 3, 1) := by decide +kernel
theorem dX12_far_56 : decode cX12_far 56 = .ok (.iload_n 3, 1) := by decide +kernel
theorem dX12_far_57 : decode cX12_far 57 = .ok (.iload_n 1, 1) := by decide +kernel
theorem dX12_far_58 : decode cX12_far 58 = .ok (.if_icmp .ne 7, 3) := by decide +kernel
theorem dX12_far_61 : decode cX12_far 61 = .ok (.iconst 0, 1) := by decide +kernel
theorem dX12_far_62 : decode cX12_far 62 = .ok (.goto 4, 3) := by decide +kernel
theorem dX12_far_65 : decode cX12_far 65 = .ok (.iconst (-1), 1) := by decide +kernel
theorem dX12_far_66 : decode cX12_far 66 = .ok (.iastore, 1) := by decide +kernel
theorem dX12_far_67 : decode cX12_far 67 = .ok (.iinc 3 1, 3) := by decide +kernel
theorem dX12_far_70 : decode cX12_far 70 = .ok (.goto (-27), 3) := by decide +kernel
theorem dX12_far_73 : decode cX12_far 73 = .ok (.iconst 0, 1) := by decide +kernel
theorem dX12_far_74 : decode cX12_far 74 = .ok (.istore_n 3, 1) := by decide +kernel
theorem dX12_far_75 : decode cX12_far 75 = .ok (.aload_n 0, 1) := by decide +kernel
theorem dX12_far_76 : decode cX12_far 76 = .ok (.getfield 85, 3) := by decide +kernel
theorem dX12_far_79 : decode cX12_far 79 = .ok (.iload_n 2, 1) := by decide +kernel
theorem dX12_far_80 : decode cX12_far 80 = .ok (.iaload, 1) := by decide +kernel
theorem dX12_far_81 : decode cX12_far 81 = .ok (.iconst (-1), 1) := by decide +kernel
theorem dX12_far_82 : decode cX12_far 82 = .ok (.if_icmp .ne 88, 3) := by decide +kernel
theorem dX12_far_85 : decode cX12_far 85 = .ok (.iconst 0, 1) := by decide +kernel
theorem dX12_far_86 : decode cX12_far 86 = .ok (.istore 4, 2) := by decide +kernel
theorem dX12_far_88 : decode cX12_far 88 = .ok (.iload 4, 2) := by decide +kernel
theorem dX12_far_90 : decode cX12_far 90 = .ok (.aload_n 0, 1) := by decide +kernel
theorem dX12_far_91 : decode cX12_far 91 = .ok (.getfield 231, 3) := by decide +kernel
theorem dX12_far_94 : decode cX12_far 94 = .ok (.if_icmp .ge 70, 3) := by decide +kernel
theorem dX12_far_97 : decode cX12_far 97 = .ok (.iconst 0, 1) := by decide +kernel
theorem dX12_far_98 : decode cX12_far 98 = .ok (.istore 5, 2) := by decide +kernel
theorem dX12_far_100 : decode cX12_far 100 = .ok (.iload 5, 2) := by decide +kernel
theorem dX12_far_102 : decode cX12_far 102 = .ok (.aload_n 0, 1) := by decide +kernel
theorem dX12_far_103 : decode cX12_far 103 = .ok (.getfield 231, 3) := by decide +kernel
theorem dX12_far_106 : decode cX12_far 106 = .ok (.if_icmp .ge 52, 3) := by decide +kernel
theorem dX12_far_109 : decode cX12_far 109 = .ok (.aload_n 0, 1) := by decide +kernel
theorem dX12_far_110 : decode cX12_far 110 = .ok (.getfield 85, 3) := by decide +kernel
theorem dX12_far_113 : decode cX12_far 113 = .ok (.iload 4, 2) := by decide +kernel
theorem dX12_far_115 : decode cX12_far 115 = .ok (.iaload, 1) := by decide +kernel
theorem dX12_far_116 : decode cX12_far 116 = .ok (.iload_n 3, 1) := by decide +kernel
theorem dX12_far_117 : decode cX12_far 117 = .ok (.if_icmp .ne 35, 3) := by decide +kernel
theorem dX12_far_120 : decode cX12_far 120 = .ok (.aload_n 0, 1) := by decide +kernel
theorem dX12_far_121 : decode cX12_far 121 = .ok (.getfield 85, 3) := by decide +kernel
theorem dX12_far_124 : decode cX12_far 124 = .ok (.iload 5, 2) := by decide +kernel
theorem dX12_far_126 : decode cX12_far 126 = .ok (.iaload, 1) := by decide +kernel
theorem dX12_far_127 : decode cX12_far 127 = .ok (.iconst (-1), 1) := by decide +kernel
theorem dX12_far_128 : decode cX12_far 128 = .ok (.if_icmp .ne 24, 3) := by decide +kernel
theorem dX12_far_131 : decode cX12_far 131 = .ok (.aload_n 0, 1) := by decide +kernel
theorem dX12_far_132 : decode cX12_far 132 = .ok (.iload 4, 2) := by decide +kernel
theorem dX12_far_134 : decode cX12_far 134 = .ok (.iload 5, 2) := by decide +kernel
theorem dX12_far_136 : decode cX12_far 136 = .ok (.invokevirtual 293, 3) := by decide +kernel
theorem dX12_far_139 : decode cX12_far 139 = .ok (.ifCond .le 13, 3) := by decide +kernel
theorem dX12_far_142 : decode cX12_far 142 = .ok (.aload_n 0, 1) := by decide +kernel
theorem dX12_far_143 : decode cX12_far 143 = .ok (.getfield 85, 3) := by decide +kernel
theorem dX12_far_146 : decode cX12_far 146 = .ok (.iload 5, 2) := by decide +kernel
theorem dX12_far_148 : decode cX12_far 148 = .ok (.iload_n 3, 1) := by decide +kernel
theorem dX12_far_149 : decode cX12_far 149 = .ok (.iconst 1, 1) := by decide +kernel
theorem dX12_far_150 : decode cX12_far 150 = .ok (.iadd, 1) := by decide +kernel
theorem dX12_far_151 : decode cX12_far 151 = .ok (.iastore, 1) := by decide +kernel
theorem dX12_far_152 : decode cX12_far 152 = .ok (.iinc 5 1, 3) := by decide +kernel
theorem dX12_far_155 : decode cX12_far 155 = .ok (.goto (-55), 3) := by decide +kernel
theorem dX12_far_158 : decode cX12_far 158 = .ok (.iinc 4 1, 3) := by decide +kernel
theorem dX12_far_161 : decode cX12_far 161 = .ok (.goto (-73), 3) := by decide +kernel
theorem dX12_far_164 : decode cX12_far 164 = .ok (.iinc 3 1, 3) := by decide +kernel
theorem dX12_far_167 : decode cX12_far 167 = .ok (.goto (-92), 3) := by decide +kernel
theorem dX12_far_170 : decode cX12_far 170 = .ok (.aload_n 0, 1) := by decide +kernel
theorem dX12_far_171 : decode cX12_far 171 = .ok (.getfield 85, 3) := by decide +kernel
theorem dX12_far_174 : decode cX12_far 174 = .ok (.iload_n 2, 1) := by decide +kernel
theorem dX12_far_175 : decode cX12_far 175 = .ok (.iaload, 1) := by decide +kernel
theorem dX12_far_176 : decode cX12_far 176 = .ok (.ireturn, 1) := by decide +kernel
theorem B_X12_far_0 {g : Sg} {c t : Nat} (hL : Lay LM g c t σ) {x1 : Int} {x2 : Int} (h : ∀ τ1 : Sg, τ1 = sI σ 172 0 0 → (Lay LM g c t τ1 → CC E mX12_isClass [vr 172, vi x1] τ1 (KI (fun r2 τ3 => Lay LM g c t τ3 ∧ (inR r2 → ((r2 = 0 → (Lay LM g c t τ3 → CC E mX12_bad [vr 172, vi 1, vi 1, vi 0] τ3 (KI (fun r4 τ5 => Lay LM g c t τ5 ∧ (inR r4 → ((r4 = 0 → (Lay LM g c t τ5 → CC E mX12_laysRows [vr 172] τ5 (KV (fun τ7 => Lay LM g c t τ7 ∧ (Lay LM g c t τ7 → GG E mX12_far 43 [some (vr 172), some (vi x1), some (vi x2), some (vi 0), none, none] [] τ7 rc rs Q)) (fun _ _ => False)))) ∧ (¬ (r4 = 0) → (Lay LM g c t τ5 → Q (.inl (some (vi 0))) τ5))))) (fun _ _ => False)))) ∧ (¬ (r2 = 0) → (Lay LM g c t τ3 → CC E mX12_isClass [vr 172, vi x2] τ3 (KI (fun r8 τ9 => Lay LM g c t τ9 ∧ (inR r8 → ((r8 ≠ 0 → (Lay LM g c t τ9 → CC E mX12_bad [vr 172, vi 0, vi 1, vi 0] τ9 (KI (fun r10 τ11 => Lay LM g c t τ11 ∧ (inR r10 → ((r10 = 0 → (Lay LM g c t τ11 → CC E mX12_laysRows [vr 172] τ11 (KV (fun τ13 => Lay LM g c t τ13 ∧ (Lay LM g c t τ13 → GG E mX12_far 43 [some (vr 172), some (vi x1), some (vi x2), some (vi 0), none, none] [] τ13 rc rs Q)) (fun _ _ => False)))) ∧ (¬ (r10 = 0) → (Lay LM g c t τ11 → Q (.inl (some (vi 0))) τ11))))) (fun _ _ => False)))) ∧ (r8 = 0 → (Lay LM g c t τ9 → CC E mX12_bad [vr 172, vi 1, vi 1, vi 0] τ9 (KI (fun r14 τ15 => Lay LM g c t τ15 ∧ (inR r14 → ((r14 = 0 → (Lay LM g c t τ15 → CC E mX12_laysRows [vr 172] τ15 (KV (fun τ17 => Lay LM g c t τ17 ∧ (Lay LM g c t τ17 → GG E mX12_far 43 [some (vr 172), some (vi x1), some (vi x2), some (vi 0), none, none] [] τ17 rc rs Q)) (fun _ _ => False)))) ∧ (¬ (r14 = 0) → (Lay LM g c t τ15 → Q (.inl (some (vi 0))) τ15))))) (fun _ _ => False))))))) (fun _ _ => False))))))) (fun _ _ => False)))) : GG E mX12_far 0 [some (vr 172), some (vi x1), some (vi x2), none, none, none] [] σ rc rs Q := by
  refine r_aload_n (pc := 0) dX12_far_0 rfl rfl ?_
  refine r_iconst (pc := 1) dX12_far_1 (inRk rfl) ?_
  refine r_putI (pc := 2) dX12_far_2 (k9 := 0) CL_12 (by decide) (by decide) w_1415 rfl rfl (fun h9 => absurd h9 (by decide +kernel)) (okO_of (N := 42) (hL.sh (i := 0) rfl (by decide) (by decide)) (by decide)) ?_
  refine nmS (fun τ1 e1 => ?_)
  replace h := h τ1 e1
  have hL := hL.wI e1 (by decide) (.inl (by decide))
  refine r_aload_n (pc := 5) dX12_far_5 rfl rfl ?_
  refine r_aload_n (pc := 6) dX12_far_6 rfl rfl ?_
  refine r_iload_n (pc := 7) dX12_far_7 rfl rfl ?_
  refine c_VI0N (M := mX12_far) (pc := 8) (As := [vi x1]) dX12_far_8 K_X12_isClass w_1766 ⟨by decide, by decide⟩ (Nat.le_of_ble_eq_true rfl) rfl rfl (ci := 12) rfl rfl (by decide) (okO_of (N := 42) (hL.sh (i := 0) rfl (by decide) (by decide)) (by decide)) (h hL) (fun r2 τ3 h8 hr9 => ?_) rfl
  replace hL := h8.1
  replace h := h8.2 hr9
  refine r_if_eq (pc := 11) (tgt := 22) dX12_far_11 (by decide) (fun c9 => ?_) (fun c9 => ?_)
  · replace h := h.1 c9
    refine r_iconst (pc := 22) dX12_far_22 (inRk rfl) ?_
    refine r_goto (pc := 23) (tgt := 27) dX12_far_23 (by decide) ?_
    refine r_iconst (pc := 27) dX12_far_27 (inRk rfl) ?_
    refine r_iconst (pc := 28) dX12_far_28 (inRk rfl) ?_
    refine c_VI0N (M := mX12_far) (pc := 29) (As := [vi 1, vi 1, vi 0]) dX12_far_29 K_X12_bad w_1562 ⟨by decide, by decide⟩ (Nat.le_of_ble_eq_true rfl) rfl rfl (ci := 12) rfl rfl (by decide) (okO_of (N := 42) (hL.sh (i := 0) rfl (by decide) (by decide)) (by decide)) (h hL) (fun r4 τ5 h8 hr9 => ?_) rfl
    replace hL := h8.1
    replace h := h8.2 hr9
    refine r_if_eq (pc := 32) (tgt := 37) dX12_far_32 (by decide) (fun c9 => ?_) (fun c9 => ?_)
    · replace h := h.1 c9
      refine r_aload_n (pc := 37) dX12_far_37 rfl rfl ?_
      refine c_VV0N (M := mX12_far) (pc := 38) (As := []) dX12_far_38 K_X12_laysRows w_1652 ⟨by decide, by decide⟩ (Nat.le_of_ble_eq_true rfl) rfl rfl (ci := 12) rfl rfl (by decide) (okO_of (N := 42) (hL.sh (i := 0) rfl (by decide) (by decide)) (by decide)) (h hL) (fun τ7 h8 => ?_) rfl
      replace hL := h8.1
      replace h := h8.2
      refine r_iconst (pc := 41) dX12_far_41 (inRk rfl) ?_
      refine r_istore_n (pc := 42) dX12_far_42 rfl (by decide) (l2 := [some (vr 172), some (vi x1), some (vi x2), some (vi 0), none, none]) rfl ?_
      exact (h hL)
    · replace h := h.2 c9
      refine r_iconst (pc := 35) dX12_far_35 (inRk rfl) ?_
      exact r_ireturn (pc := 36) (ty := .int) dX12_far_36 (by decide +kernel) rfl (nar_i _) (h hL)
  · replace h := h.2 c9
    refine r_aload_n (pc := 14) dX12_far_14 rfl rfl ?_
    refine r_iload_n (pc := 15) dX12_far_15 rfl rfl ?_
    refine c_VI0N (M := mX12_far) (pc := 16) (As := [vi x2]) dX12_far_16 K_X12_isClass w_1766 ⟨by decide, by decide⟩ (Nat.le_of_ble_eq_true rfl) rfl rfl (ci := 12) rfl rfl (by decide) (okO_of (N := 42) (hL.sh (i := 0) rfl (by decide) (by decide)) (by decide)) (h hL) (fun r8 τ9 h8 hr9 => ?_) rfl
    replace hL := h8.1
    replace h := h8.2 hr9
    refine r_if_ne (pc := 19) (tgt := 26) dX12_far_19 (by decide) (fun c9 => ?_) (fun c9 => ?_)
    · replace h := h.1 c9
      refine r_iconst (pc := 26) dX12_far_26 (inRk rfl) ?_
      refine r_iconst (pc := 27) dX12_far_27 (inRk rfl) ?_
      refine r_iconst (pc := 28) dX12_far_28 (inRk rfl) ?_
      refine c_VI0N (M := mX12_far) (pc := 29) (As := [vi 0, vi 1, vi 0]) dX12_far_29 K_X12_bad w_1562 ⟨by decide, by decide⟩ (Nat.le_of_ble_eq_true rfl) rfl rfl (ci := 12) rfl rfl (by decide) (okO_of (N := 42) (hL.sh (i := 0) rfl (by decide) (by decide)) (by decide)) (h hL) (fun r10 τ11 h8 hr9 => ?_) rfl
      replace hL := h8.1
      replace h := h8.2 hr9
      refine r_if_eq (pc := 32) (tgt := 37) dX12_far_32 (by decide) (fun c9 => ?_) (fun c9 => ?_)
      · replace h := h.1 c9
        refine r_aload_n (pc := 37) dX12_far_37 rfl rfl ?_
        refine c_VV0N (M := mX12_far) (pc := 38) (As := []) dX12_far_38 K_X12_laysRows w_1652 ⟨by decide, by decide⟩ (Nat.le_of_ble_eq_true rfl) rfl rfl (ci := 12) rfl rfl (by decide) (okO_of (N := 42) (hL.sh (i := 0) rfl (by decide) (by decide)) (by decide)) (h hL) (fun τ13 h8 => ?_) rfl
        replace hL := h8.1
        replace h := h8.2
        refine r_iconst (pc := 41) dX12_far_41 (inRk rfl) ?_
        refine r_istore_n (pc := 42) dX12_far_42 rfl (by decide) (l2 := [some (vr 172), some (vi x1), some (vi x2), some (vi 0), none, none]) rfl ?_
        exact (h hL)
      · replace h := h.2 c9
        refine r_iconst (pc := 35) dX12_far_35 (inRk rfl) ?_
        exact r_ireturn (pc := 36) (ty := .int) dX12_far_36 (by decide +kernel) rfl (nar_i _) (h hL)
    · replace h := h.2 c9
      refine r_iconst (pc := 22) dX12_far_22 (inRk rfl) ?_
      refine r_goto (pc := 23) (tgt := 27) dX12_far_23 (by decide) ?_
      refine r_iconst (pc := 27) dX12_far_27 (inRk rfl) ?_
      refine r_iconst (pc := 28) dX12_far_28 (inRk rfl) ?_
      refine c_VI0N (M := mX12_far) (pc := 29) (As := [vi 1, vi 1, vi 0]) dX12_far_29 K_X12_bad w_1562 ⟨by decide, by decide⟩ (Nat.le_of_ble_eq_true rfl) rfl rfl (ci := 12) rfl rfl (by decide) (okO_of (N := 42) (hL.sh (i := 0) rfl (by decide) (by decide)) (by decide)) (h hL) (fun r14 τ15 h8 hr9 => ?_) rfl
      replace hL := h8.1
      replace h := h8.2 hr9
      refine r_if_eq (pc := 32) (tgt := 37) dX12_far_32 (by decide) (fun c9 => ?_) (fun c9 => ?_)
      · replace h := h.1 c9
        refine r_aload_n (pc := 37) dX12_far_37 rfl rfl ?_
        refine c_VV0N (M := mX12_far) (pc := 38) (As := []) dX12_far_38 K_X12_laysRows w_1652 ⟨by decide, by decide⟩ (Nat.le_of_ble_eq_true rfl) rfl rfl (ci := 12) rfl rfl (by decide) (okO_of (N := 42) (hL.sh (i := 0) rfl (by decide) (by decide)) (by decide)) (h hL) (fun τ17 h8 => ?_) rfl
        replace hL := h8.1
        replace h := h8.2
        refine r_iconst (pc := 41) dX12_far_41 (inRk rfl) ?_
        refine r_istore_n (pc := 42) dX12_far_42 rfl (by decide) (l2 := [some (vr 172), some (vi x1), some (vi x2), some (vi 0), none, none]) rfl ?_
        exact (h hL)
      · replace h := h.2 c9
        refine r_iconst (pc := 35) dX12_far_35 (inRk rfl) ?_
        exact r_ireturn (pc := 36) (ty := .int) dX12_far_36 (by decide +kernel) rfl (nar_i _) (h hL)
theorem B_X12_far_43 {g : Sg} {c t : Nat} (hL : Lay LM g c t σ) {x1 : Int} {x2 : Int} {x3 : Int} (h : (((gI σ 172 16) ≤ x3 → (Lay LM g c t σ → GG E mX12_far 75 [some (vr 172), none, some (vi x2), some (vi 0), none, none] [] σ rc rs Q)) ∧ (¬ ((gI σ 172 16) ≤ x3) → ((x3 ≠ x1 → (0 ≤ x3 ∧ x3 < 48) ∧ ∀ τ2 : Sg, τ2 = sI σ 2966 x3.toNat (-1) → inR (x3 + 1) ∧ (Lay LM g c t τ2 → GG E mX12_far 43 [some (vr 172), some (vi x1), some (vi x2), some (vi (x3 + 1)), none, none] [] τ2 rc rs Q)) ∧ (x3 = x1 → (0 ≤ x3 ∧ x3 < 48) ∧ ∀ τ5 : Sg, τ5 = sI σ 2966 x3.toNat 0 → inR (x3 + 1) ∧ (Lay LM g c t τ5 → GG E mX12_far 43 [some (vr 172), some (vi x1), some (vi x2), some (vi (x3 + 1)), none, none] [] τ5 rc rs Q)))))) : GG E mX12_far 43 [some (vr 172), some (vi x1), some (vi x2), some (vi x3), none, none] [] σ rc rs Q := by
  refine r_iload_n (pc := 43) dX12_far_43 rfl rfl ?_
  refine r_aload_n (pc := 44) dX12_far_44 rfl rfl ?_
  refine r_getI (pc := 45) dX12_far_45 (k9 := 16) CL_12 (by decide) (by decide) w_1431 rfl (okO_of (N := 42) (hL.sh (i := 0) rfl (by decide) (by decide)) (by decide)) (fun _ => ?_)
  refine r_icmp_ge (pc := 48) (tgt := 73) dX12_far_48 (by decide) (fun c9 => ?_) (fun c9 => ?_)
  · replace h := h.1 c9
    refine r_iconst (pc := 73) dX12_far_73 (inRk rfl) ?_
    refine r_istore_n (pc := 74) dX12_far_74 rfl (by decide) (l2 := [some (vr 172), some (vi x1), some (vi x2), some (vi 0), none, none]) rfl ?_
    exact GG.msk [true, false, true, true, false, false] (h hL)
  · replace h := h.2 c9
    refine r_aload_n (pc := 51) dX12_far_51 rfl rfl ?_
    refine r_getR (pc := 52) dX12_far_52 (k9 := 39) CL_12 (by decide) (by decide) w_1454 rfl (okO_of (N := 42) (hL.sh (i := 0) rfl (by decide) (by decide)) (by decide)) ?_
    refine eqR (y := 2966) (hL.rf (i := 23) rfl) ?_
    refine r_iload_n (pc := 55) dX12_far_55 rfl rfl ?_
    refine r_iload_n (pc := 56) dX12_far_56 rfl rfl ?_
    refine r_iload_n (pc := 57) dX12_far_57 rfl rfl ?_
    refine r_icmp_ne (pc := 58) (tgt := 65) dX12_far_58 (by decide) (fun c9 => ?_) (fun c9 => ?_)
    · replace h := h.1 c9
      refine r_iconst (pc := 65) dX12_far_65 (inRk rfl) ?_
      obtain ⟨o1, h⟩ := h
      refine r_iastore (pc := 66) dX12_far_66 (okB_of (c := 20) (n := 48) (hL.sh (i := 31) rfl (by decide) (by decide)) (by decide) o1) ?_
      refine nmS (fun τ2 e2 => ?_)
      replace h := h τ2 e2
      have hL := hL.wI e2 (by decide) (.inl (by decide))
      obtain ⟨o3, h⟩ := h
      refine r_iinc (pc := 67) dX12_far_67 rfl (by decide) o3 (l2 := [some (vr 172), some (vi x1), some (vi x2), some (vi (x3 + 1)), none, none]) rfl ?_
      refine r_goto (pc := 70) (tgt := 43) dX12_far_70 (by decide) ?_
      exact (h hL)
    · replace h := h.2 c9
      refine r_iconst (pc := 61) dX12_far_61 (inRk rfl) ?_
      refine r_goto (pc := 62) (tgt := 66) dX12_far_62 (by decide) ?_
      obtain ⟨o4, h⟩ := h
      refine r_iastore (pc := 66) dX12_far_66 (okB_of (c := 20) (n := 48) (hL.sh (i := 31) rfl (by decide) (by decide)) (by decide) o4) ?_
      refine nmS (fun τ5 e5 => ?_)
      replace h := h τ5 e5
      have hL := hL.wI e5 (by decide) (.inl (by decide))
      obtain ⟨o6, h⟩ := h
      refine r_iinc (pc := 67) dX12_far_67 rfl (by decide) o6 (l2 := [some (vr 172), some (vi x1), some (vi x2), some (vi (x3 + 1)), none, none]) rfl ?_
      refine r_goto (pc := 70) (tgt := 43) dX12_far_70 (by decide) ?_
      exact (h hL)
theorem B_X12_far_75 {g : Sg} {c t : Nat} (hL : Lay LM g c t σ) {x2 : Int} {x3 : Int} (h : (0 ≤ x2 ∧ x2 < 48) ∧ (((gI σ 2966 x2.toNat) ≠ (-1) → (Lay LM g c t σ → Q (.inl (some (vi (gI σ 2966 x2.toNat)))) σ)) ∧ ((gI σ 2966 x2.toNat) = (-1) → (Lay LM g c t σ → GG E mX12_far 88 [some (vr 172), none, some (vi x2), some (vi x3), some (vi 0), none] [] σ rc rs Q)))) : GG E mX12_far 75 [some (vr 172), none, some (vi x2), some (vi x3), none, none] [] σ rc rs Q := by
  refine r_aload_n (pc := 75) dX12_far_75 rfl rfl ?_
  refine r_getR (pc := 76) dX12_far_76 (k9 := 39) CL_12 (by decide) (by decide) w_1454 rfl (okO_of (N := 42) (hL.sh (i := 0) rfl (by decide) (by decide)) (by decide)) ?_
  refine eqR (y := 2966) (hL.rf (i := 23) rfl) ?_
  refine r_iload_n (pc := 79) dX12_far_79 rfl rfl ?_
  obtain ⟨o1, h⟩ := h
  refine r_iaload (pc := 80) dX12_far_80 (okA_of (c := 20) (n := 48) (hL.sh (i := 31) rfl (by decide) (by decide)) (by decide) o1) ?_
  refine r_iconst (pc := 81) dX12_far_81 (inRk rfl) ?_
  refine r_icmp_ne (pc := 82) (tgt := 170) dX12_far_82 (by decide) (fun c9 => ?_) (fun c9 => ?_)
  · replace h := h.1 c9
    refine r_aload_n (pc := 170) dX12_far_170 rfl rfl ?_
    refine r_getR (pc := 171) dX12_far_171 (k9 := 39) CL_12 (by decide) (by decide) w_1454 rfl (okO_of (N := 42) (hL.sh (i := 0) rfl (by decide) (by decide)) (by decide)) ?_
    refine eqR (y := 2966) (hL.rf (i := 23) rfl) ?_
    refine r_iload_n (pc := 174) dX12_far_174 rfl rfl ?_
    refine r_iaload (pc := 175) dX12_far_175 (okA_of (c := 20) (n := 48) (hL.sh (i := 31) rfl (by decide) (by decide)) (by decide) o1) ?_
    exact r_ireturn (pc := 176) (ty := .int) dX12_far_176 (by decide +kernel) rfl (nar_i _) (h hL)
  · replace h := h.2 c9
    refine r_iconst (pc := 85) dX12_far_85 (inRk rfl) ?_
    refine r_istore (pc := 86) dX12_far_86 (by decide) (l2 := [some (vr 172), none, some (vi x2), some (vi x3), some (vi 0), none]) rfl ?_
    exact (h hL)
theorem B_X12_far_88 {g : Sg} {c t : Nat} (hL : Lay LM g c t σ) {x2 : Int} {x3 : Int} {x4 : Int} (h : (((gI σ 172 16) ≤ x4 → inR (x3 + 1) ∧ (Lay LM g c t σ → GG E mX12_far 75 [some (vr 172), none, some (vi x2), some (vi (x3 + 1)), none, none] [] σ rc rs Q)) ∧ (¬ ((gI σ 172 16) ≤ x4) → (Lay LM g c t σ → GG E mX12_far 100 [some (vr 172), none, some (vi x2), some (vi x3), some (vi x4), some (vi 0)] [] σ rc rs Q)))) : GG E mX12_far 88 [some (vr 172), none, some (vi x2), some (vi x3), some (vi x4), none] [] σ rc rs Q := by
  refine r_iload (pc := 88) dX12_far_88 rfl ?_
  refine r_aload_n (pc := 90) dX12_far_90 rfl rfl ?_
  refine r_getI (pc := 91) dX12_far_91 (k9 := 16) CL_12 (by decide) (by decide) w_1431 rfl (okO_of (N := 42) (hL.sh (i := 0) rfl (by decide) (by decide)) (by decide)) (fun _ => ?_)
  refine r_icmp_ge (pc := 94) (tgt := 164) dX12_far_94 (by decide) (fun c9 => ?_) (fun c9 => ?_)
  · replace h := h.1 c9
    obtain ⟨o1, h⟩ := h
    refine r_iinc (pc := 164) dX12_far_164 rfl (by decide) o1 (l2 := [some (vr 172), none, some (vi x2), some (vi (x3 + 1)), some (vi x4), none]) rfl ?_
    refine r_goto (pc := 167) (tgt := 75) dX12_far_167 (by decide) ?_
    exact GG.msk [true, false, true, true, false, false] (h hL)
  · replace h := h.2 c9
    refine r_iconst (pc := 97) dX12_far_97 (inRk rfl) ?_
    refine r_istore (pc := 98) dX12_far_98 (by decide) (l2 := [some (vr 172), none, some (vi x2), some (vi x3), some (vi x4), some (vi 0)]) rfl ?_
    exact (h hL)
theorem B_X12_far_100 {g : Sg} {c t : Nat} (hL : Lay LM g c t σ) {x2 : Int} {x3 : Int} {x4 : Int} {x5 : Int} (h : (((gI σ 172 16) ≤ x5 → inR (x4 + 1) ∧ (Lay LM g c t σ → GG E mX12_far 88 [some (vr 172), none, some (vi x2), some (vi x3), some (vi (x4 + 1)), none] [] σ rc rs Q)) ∧ (¬ ((gI σ 172 16) ≤ x5) → (0 ≤ x4 ∧ x4 < 48) ∧ (((gI σ 2966 x4.toNat) ≠ x3 → inR (x5 + 1) ∧ (Lay LM g c t σ → GG E mX12_far 100 [some (vr 172), none, some (vi x2), some (vi x3), some (vi x4), some (vi (x5 + 1))] [] σ rc rs Q)) ∧ ((gI σ 2966 x4.toNat) = x3 → (0 ≤ x5 ∧ x5 < 48) ∧ (((gI σ 2966 x5.toNat) ≠ (-1) → inR (x5 + 1) ∧ (Lay LM g c t σ → GG E mX12_far 100 [some (vr 172), none, some (vi x2), some (vi x3), some (vi x4), some (vi (x5 + 1))] [] σ rc rs Q)) ∧ ((gI σ 2966 x5.toNat) = (-1) → (Lay LM g c t σ → CC E mX12_waysOf [vr 172, vi x4, vi x5] σ (KI (fun r6 τ7 => Lay LM g c t τ7 ∧ (inR r6 → ((r6 ≤ 0 → inR (x5 + 1) ∧ (Lay LM g c t τ7 → GG E mX12_far 100 [some (vr 172), none, some (vi x2), some (vi x3), some (vi x4), some (vi (x5 + 1))] [] τ7 rc rs Q)) ∧ (¬ (r6 ≤ 0) → inR (x3 + 1) ∧ ∀ τ10 : Sg, τ10 = sI τ7 2966 x5.toNat (x3 + 1) → inR (x5 + 1) ∧ (Lay LM g c t τ10 → GG E mX12_far 100 [some (vr 172), none, some (vi x2), some (vi x3), some (vi x4), some (vi (x5 + 1))] [] τ10 rc rs Q))))) (fun _ _ => False)))))))))) : GG E mX12_far 100 [some (vr 172), none, some (vi x2), some (vi x3), some (vi x4), some (vi x5)] [] σ rc rs Q := by
  refine r_iload (pc := 100) dX12_far_100 rfl ?_
  refine r_aload_n (pc := 102) dX12_far_102 rfl rfl ?_
  refine r_getI (pc := 103) dX12_far_103 (k9 := 16) CL_12 (by decide) (by decide) w_1431 rfl (okO_of (N := 42) (hL.sh (i := 0) rfl (by decide) (by decide)) (by decide)) (fun _ => ?_)
  refine r_icmp_ge (pc := 106) (tgt := 158) dX12_far_106 (by decide) (fun c9 => ?_) (fun c9 => ?_)
  · replace h := h.1 c9
    obtain ⟨o1, h⟩ := h
    refine r_iinc (pc := 158) dX12_far_158 rfl (by decide) o1 (l2 := [some (vr 172), none, some (vi x2), some (vi x3), some (vi (x4 + 1)), some (vi x5)]) rfl ?_
    refine r_goto (pc := 161) (tgt := 88) dX12_far_161 (by decide) ?_
    exact GG.msk [true, false, true, true, true, false] (h hL)
  · replace h := h.2 c9
    refine r_aload_n (pc := 109) dX12_far_109 rfl rfl ?_
    refine r_getR (pc := 110) dX12_far_110 (k9 := 39) CL_12 (by decide) (by decide) w_1454 rfl (okO_of (N := 42) (hL.sh (i := 0) rfl (by decide) (by decide)) (by decide)) ?_
    refine eqR (y := 2966) (hL.rf (i := 23) rfl) ?_
    refine r_iload (pc := 113) dX12_far_113 rfl ?_
    obtain ⟨o2, h⟩ := h
    refine r_iaload (pc := 115) dX12_far_115 (okA_of (c := 20) (n := 48) (hL.sh (i := 31) rfl (by decide) (by decide)) (by decide) o2) ?_
    refine r_iload_n (pc := 116) dX12_far_116 rfl rfl ?_
    refine r_icmp_ne (pc := 117) (tgt := 152) dX12_far_117 (by decide) (fun c9 => ?_) (fun c9 => ?_)
    · replace h := h.1 c9
      obtain ⟨o3, h⟩ := h
      refine r_iinc (pc := 152) dX12_far_152 rfl (by decide) o3 (l2 := [some (vr 172), none, some (vi x2), some (vi x3), some (vi x4), some (vi (x5 + 1))]) rfl ?_
      refine r_goto (pc := 155) (tgt := 100) dX12_far_155 (by decide) ?_
      exact (h hL)
    · replace h := h.2 c9
      refine r_aload_n (pc := 120) dX12_far_120 rfl rfl ?_
      refine r_getR (pc := 121) dX12_far_121 (k9 := 39) CL_12 (by decide) (by decide) w_1454 rfl (okO_of (N := 42) (hL.sh (i := 0) rfl (by decide) (by decide)) (by decide)) ?_
      refine eqR (y := 2966) (hL.rf (i := 23) rfl) ?_
      refine r_iload (pc := 124) dX12_far_124 rfl ?_
      obtain ⟨o4, h⟩ := h
      refine r_iaload (pc := 126) dX12_far_126 (okA_of (c := 20) (n := 48) (hL.sh (i := 31) rfl (by decide) (by decide)) (by decide) o4) ?_
      refine r_iconst (pc := 127) dX12_far_127 (inRk rfl) ?_
      refine r_icmp_ne (pc := 128) (tgt := 152) dX12_far_128 (by decide) (fun c9 => ?_) (fun c9 => ?_)
      · replace h := h.1 c9
        obtain ⟨o5, h⟩ := h
        refine r_iinc (pc := 152) dX12_far_152 rfl (by decide) o5 (l2 := [some (vr 172), none, some (vi x2), some (vi x3), some (vi x4), some (vi (x5 + 1))]) rfl ?_
        refine r_goto (pc := 155) (tgt := 100) dX12_far_155 (by decide) ?_
        exact (h hL)
      · replace h := h.2 c9
        refine r_aload_n (pc := 131) dX12_far_131 rfl rfl ?_
        refine r_iload (pc := 132) dX12_far_132 rfl ?_
        refine r_iload (pc := 134) dX12_far_134 rfl ?_
        refine c_VI0N (M := mX12_far) (pc := 136) (As := [vi x4, vi x5]) dX12_far_136 K_X12_waysOf w_1730 ⟨by decide, by decide⟩ (Nat.le_of_ble_eq_true rfl) rfl rfl (ci := 12) rfl rfl (by decide) (okO_of (N := 42) (hL.sh (i := 0) rfl (by decide) (by decide)) (by decide)) (h hL) (fun r6 τ7 h8 hr9 => ?_) rfl
        replace hL := h8.1
        replace h := h8.2 hr9
        refine r_if_le (pc := 139) (tgt := 152) dX12_far_139 (by decide) (fun c9 => ?_) (fun c9 => ?_)
        · replace h := h.1 c9
          obtain ⟨o8, h⟩ := h
          refine r_iinc (pc := 152) dX12_far_152 rfl (by decide) o8 (l2 := [some (vr 172), none, some (vi x2), some (vi x3), some (vi x4), some (vi (x5 + 1))]) rfl ?_
          refine r_goto (pc := 155) (tgt := 100) dX12_far_155 (by decide) ?_
          exact (h hL)
        · replace h := h.2 c9
          refine r_aload_n (pc := 142) dX12_far_142 rfl rfl ?_
          refine r_getR (pc := 143) dX12_far_143 (k9 := 39) CL_12 (by decide) (by decide) w_1454 rfl (okO_of (N := 42) (hL.sh (i := 0) rfl (by decide) (by decide)) (by decide)) ?_
          refine eqR (y := 2966) (hL.rf (i := 23) rfl) ?_
          refine r_iload (pc := 146) dX12_far_146 rfl ?_
          refine r_iload_n (pc := 148) dX12_far_148 rfl rfl ?_
          refine r_iconst (pc := 149) dX12_far_149 (inRk rfl) ?_
          obtain ⟨o9, h⟩ := h
          refine r_iadd (pc := 150) dX12_far_150 o9 ?_
          refine r_iastore (pc := 151) dX12_far_151 (okB_of (c := 20) (n := 48) (hL.sh (i := 31) rfl (by decide) (by decide)) (by decide) o4) ?_
          refine nmS (fun τ10 e10 => ?_)
          replace h := h τ10 e10
          have hL := hL.wI e10 (by decide) (.inl (by decide))
          obtain ⟨o11, h⟩ := h
          refine r_iinc (pc := 152) dX12_far_152 rfl (by decide) o11 (l2 := [some (vr 172), none, some (vi x2), some (vi x3), some (vi x4), some (vi (x5 + 1))]) rfl ?_
          refine r_goto (pc := 155) (tgt := 100) dX12_far_155 (by decide) ?_
          exact (h hL)
theorem C_X12_far {a0 : Nat} {x1 : Int} {x2 : Int} (h : GG E mX12_far 0 [some (vr a0), some (vi x1), some (vi x2), none, none, none] [] σ 0 0 Q) : CC E mX12_far [vr a0, vi x1, vi x2] σ Q := CC.of (by decide +kernel) rfl (by decide +kernel) (fun h9 => nomatch h9) (Nat.le_of_ble_eq_true rfl) h
theorem dX12_fault_0 : decode cX12_fault 0 = .ok (.aload_n 0, 1) := by decide +kernel
theorem dX12_fault_1 : decode cX12_fault 1 = .ok (.iconst 0, 1) := by decide +kernel
theorem dX12_fault_2 : decode cX12_fault 2 = .ok (.putfield 99, 3) := by decide +kernel
theorem dX12_fault_5 : decode cX12_fault 5 = .ok (.aload_n 0, 1) := by decide +kernel
theorem dX12_fault_6 : decode cX12_fault 6 = .ok (.getfield 13, 3) := by decide +kernel
theorem dX12_fault_9 : decode cX12_fault 9 = .ok (.ireturn, 1) := by decide +kernel
theorem B_X12_fault_0 {g : Sg} {c t : Nat} (hL : Lay LM g c t σ)  (h : ∀ τ1 : Sg, τ1 = sI σ 172 0 0 → (Lay LM g c t τ1 → Q (.inl (some (vi (gI τ1 172 5)))) τ1)) : GG E mX12_fault 0 [some (vr 172)] [] σ rc rs Q := by
  refine r_aload_n (pc := 0) dX12_fault_0 rfl rfl ?_
  refine r_iconst (pc := 1) dX12_fault_1 (inRk rfl) ?_
  refine r_putI (pc := 2) dX12_fault_2 (k9 := 0) CL_12 (by decide) (by decide) w_1415 rfl rfl (fun h9 => absurd h9 (by decide +kernel)) (okO_of (N := 42) (hL.sh (i := 0) rfl (by decide) (by decide)) (by decide)) ?_
  refine nmS (fun τ1 e1 => ?_)
  replace h := h τ1 e1
  have hL := hL.wI e1 (by decide) (.inl (by decide))
  refine r_aload_n (pc := 5) dX12_fault_5 rfl rfl ?_
  refine r_getI (pc := 6) dX12_fault_6 (k9 := 5) CL_12 (by decide) (by decide) w_1420 rfl (okO_of (N := 42) (hL.sh (i := 0) rfl (by decide) (by decide)) (by decide)) (fun _ => ?_)
  exact r_ireturn (pc := 9) (ty := .int) dX12_fault_9 (by decide +kernel) rfl (nar_i _) (h hL)
theorem C_X12_fault {a0 : Nat} (h : GG E mX12_fault 0 [some (vr a0)] [] σ 0 0 Q) : CC E mX12_fault [vr a0] σ Q := CC.of (by decide +kernel) rfl (by decide +kernel) (fun h9 => nomatch h9) (Nat.le_of_ble_eq_true rfl) h
theorem dX12_feed_0 : decode cX12_feed 0 = .ok (.aload_n 0, 1) := by decide +kernel
theorem dX12_feed_1 : decode cX12_feed 1 = .ok (.iconst 0, 1) := by decide +kernel
theorem dX12_feed_2 : decode cX12_feed 2 = .ok (.putfield 99, 3) := by decide +kernel
theorem dX12_feed_5 : decode cX12_feed 5 = .ok (.aload_n 0, 1) := by decide +kernel
theorem dX12_feed_6 : decode cX12_feed 6 = .ok (.getfield 102, 3) := by decide +kernel
theorem dX12_feed_9 : decode cX12_feed 9 = .ok (.bipush 20, 2) := by decide +kernel
theorem dX12_feed_11 : decode cX12_feed 11 = .ok (.iadd, 1) := by decide +kernel
theorem dX12_feed_12 : decode cX12_feed 12 = .ok (.sipush 400, 3) := by decide +kernel
theorem dX12_feed_15 : decode cX12_feed 15 = .ok (.if_icmp .le 5, 3) := by decide +kernel
theorem dX12_feed_18 : decode cX12_feed 18 = .ok (.iconst (-1), 1) := by decide +kernel
theorem dX12_feed_19 : decode cX12_feed 19 = .ok (.ireturn, 1) := by decide +kernel
theorem dX12_feed_20 : decode cX12_feed 20 = .ok (.iconst 0, 1) := by decide +kernel
theorem dX12_feed_21 : decode cX12_feed 21 = .ok (.istore 6, 2) := by decide +kernel
theorem dX12_feed_23 : decode cX12_feed 23 = .ok (.iload 6, 2) := by decide +kernel
theorem dX12_feed_25 : decode cX12_feed 25 = .ok (.bipush 20, 2) := by decide +kernel
theorem dX12_feed_27 : decode cX12_feed 27 = .ok (.if_icmp .ge 93, 3) := by decide +kernel
theorem dX12_feed_30 : decode cX12_feed 30 = .ok (.iload 6, 2) := by decide +kernel
theorem dX12_feed_32 : decode cX12_feed 32 = .ok (.iconst 4, 1) := by decide +kernel
theorem dX12_feed_33 : decode cX12_feed 33 = .ok (.if_icmp .ge 7, 3) := by decide +kernel
theorem dX12_feed_36 : decode cX12_feed 36 = .ok (.iload_n 1, 1) := by decide +kernel
theorem dX12_feed_37 : decode cX12_feed 37 = .ok (.goto 39, 3) := by decide +kernel
theorem dX12_feed_40 : decode cX12_feed 40 = .ok (.iload 6, 2) := by decide +kernel
theorem dX12_feed_42 : decode cX12_feed 42 = .ok (.bipush 8, 2) := by decide +kernel
theorem dX12_feed_44 : decode cX12_feed 44 = .ok (.if_icmp .ge 7, 3) := by decide +kernel
theorem dX12_feed_47 : decode cX12_feed 47 = .ok (.iload_n 2, 1) := by decide +kernel
theorem dX12_feed_48 : decode cX12_feed 48 = .ok (.goto 28, 3) := by decide +kernel
theorem dX12_feed_51 : decode cX12_feed 51 = .ok (.iload 6, 2) := by decide +kernel
theorem dX12_feed_53 : decode cX12_feed 53 = .ok (.bipush 12, 2) := by decide +kernel
theorem dX12_feed_55 : decode cX12_feed 55 = .ok (.if_icmp .ge 7, 3) := by decide +kernel
theorem dX12_feed_58 : decode cX12_feed 58 = .ok (.iload_n 3, 1) := by decide +kernel
theorem dX12_feed_59 : decode cX12_feed 59 = .ok (.goto 17, 3) := by decide +kernel
theorem dX12_feed_62 : decode cX12_feed 62 = .ok (.iload 6, 2) := by decide +kernel
theorem dX12_feed_64 : decode cX12_feed 64 = .ok (.bipush 16, 2) := by decide +kernel
theorem dX12_feed_66 : decode cX12_feed 66 = .ok (.if_icmp .ge 8, 3) := by decide +kernel
theorem dX12_feed_69 : decode cX12_feed 69 = .ok (.iload 4, 2) := by decide +kernel
theorem dX12_feed_71 : decode cX12_feed 71 = .ok (.goto 5, 3) := by decide +kernel
theorem dX12_feed_74 : decode cX12_feed 74 = .ok (.iload 5, 2) := by decide +kernel
theorem dX12_feed_76 : decode cX12_feed 76 = .ok (.istore 7, 2) := by decide +kernel
theorem dX12_feed_78 : decode cX12_feed 78 = .ok (.aload_n 0, 1) := by decide +kernel
theorem dX12_feed_79 : decode cX12_feed 79 = .ok (.getfield 17, 3) := by decide +kernel
theorem dX12_feed_82 : decode cX12_feed 82 = .ok (.aload_n 0, 1) := by decide +kernel
theorem dX12_feed_83 : decode cX12_feed 83 = .ok (.getfield 102, 3) := by decide +kernel
theorem dX12_feed_86 : decode cX12_feed 86 = .ok (.iload 7, 2) := by decide +kernel
theorem dX12_feed_88 : decode cX12_feed 88 = .ok (.bipush 24, 2) := by decide +kernel
theorem dX12_feed_90 : decode cX12_feed 90 = .ok (.bipush 8, 2) := by decide +kernel
theorem dX12_feed_92 : decode cX12_feed 92 = .ok (.iload 6, 2) := by decide +kernel
theorem dX12_feed_94 : decode cX12_feed 94 = .ok (.iconst 4, 1) := by decide +kernel
theorem dX12_feed_95 : decode cX12_feed 95 = .ok (.irem, 1) := by decide +kernel
theorem dX12_feed_96 : decode cX12_feed 96 = .ok (.imul, 1) := by decide +kernel
theorem dX12_feed_97 : decode cX12_feed 97 = .ok (.isub, 1) := by decide +kernel
theorem dX12_feed_98 : decode cX12_feed 98 = .ok (.ishr, 1) := by decide +kernel
theorem dX12_feed_99 : decode cX12_feed 99 = .ok (.sipush 255, 3) := by decide +kernel
theorem dX12_feed_102 : decode cX12_feed 102 = .ok (.iand, 1) := by decide +kernel
theorem dX12_feed_103 : decode cX12_feed 103 = .ok (.iastore, 1) := by decide +kernel
theorem dX12_feed_104 : decode cX12_feed 104 = .ok (.aload_n 0, 1) := by decide +kernel
theorem dX12_feed_105 : decode cX12_feed 105 = .ok (.dup, 1) := by decide +kernel
theorem dX12_feed_106 : decode cX12_feed 106 = .ok (.getfield 102, 3) := by decide +kernel
theorem dX12_feed_109 : decode cX12_feed 109 = .ok (.iconst 1, 1) := by decide +kernel
theorem dX12_feed_110 : decode cX12_feed 110 = .ok (.iadd, 1) := by decide +kernel
theorem dX12_feed_111 : decode cX12_feed 111 = .ok (.putfield 102, 3) := by decide +kernel
theorem dX12_feed_114 : decode cX12_feed 114 = .ok (.iinc 6 1, 3) := by decide +kernel
theorem dX12_feed_117 : decode cX12_feed 117 = .ok (.goto (-94), 3) := by decide +kernel
theorem dX12_feed_120 : decode cX12_feed 120 = .ok (.aload_n 0, 1) := by decide +kernel
theorem dX12_feed_121 : decode cX12_feed 121 = .ok (.getfield 102, 3) := by decide +kernel
theorem dX12_feed_124 : decode cX12_feed 124 = .ok (.ireturn, 1) := by decide +kernel
theorem B_X12_feed_0 {g : Sg} {c t : Nat} (hL : Lay LM g c t σ) {x1 : Int} {x2 : Int} {x3 : Int} {x4 : Int} {x5 : Int} (h : ∀ τ1 : Sg, τ1 = sI σ 172 0 0 → inR ((gI τ1 172 2) + 20) ∧ ((((gI τ1 172 2) + 20) ≤ 400 → (Lay LM g c t τ1 → GG E mX12_feed 23 [some (vr 172), some (vi x1), some (vi x2), some (vi x3), some (vi x4), some (vi x5), some (vi 0), none] [] τ1 rc rs Q)) ∧ (¬ (((gI τ1 172 2) + 20) ≤ 400) → (Lay LM g c t τ1 → Q (.inl (some (vi (-1)))) τ1)))) : GG E mX12_feed 0 [some (vr 172), some (vi x1), some (vi x2), some (vi x3), some (vi x4), some (vi x5), none, none] [] σ rc rs Q := by
  refine r_aload_n (pc := 0) dX12_feed_0 rfl rfl ?_
  refine r_iconst (pc := 1) dX12_feed_1 (inRk rfl) ?_
  refine r_putI (pc := 2) dX12_feed_2 (k9 := 0) CL_12 (by decide) (by decide) w_1415 rfl rfl (fun h9 => absurd h9 (by decide +kernel)) (okO_of (N := 42) (hL.sh (i := 0) rfl (by decide) (by decide)) (by decide)) ?_
  refine nmS (fun τ1 e1 => ?_)
  replace h := h τ1 e1
  have hL := hL.wI e1 (by decide) (.inl (by decide))
  refine r_aload_n (pc := 5) dX12_feed_5 rfl rfl ?_
  refine r_getI (pc := 6) dX12_feed_6 (k9 := 2) CL_12 (by decide) (by decide) w_1417 rfl (okO_of (N := 42) (hL.sh (i := 0) rfl (by decide) (by decide)) (by decide)) (fun _ => ?_)
  refine r_bipush (pc := 9) dX12_feed_9 (by decide) ?_
  obtain ⟨o2, h⟩ := h
  refine r_iadd (pc := 11) dX12_feed_11 o2 ?_
  refine r_sipush (pc := 12) dX12_feed_12 (by decide) ?_
  refine r_icmp_le (pc := 15) (tgt := 20) dX12_feed_15 (by decide) (fun c9 => ?_) (fun c9 => ?_)
  · replace h := h.1 c9
    refine r_iconst (pc := 20) dX12_feed_20 (inRk rfl) ?_
    refine r_istore (pc := 21) dX12_feed_21 (by decide) (l2 := [some (vr 172), some (vi x1), some (vi x2), some (vi x3), some (vi x4), some (vi x5), some (vi 0), none]) rfl ?_
    exact (h hL)
  · replace h := h.2 c9
    refine r_iconst (pc := 18) dX12_feed_18 (inRk rfl) ?_
    exact r_ireturn (pc := 19) (ty := .int) dX12_feed_19 (by decide +kernel) rfl (nar_i _) (h hL)
theorem B_X12_feed_23 {g : Sg} {c t : Nat} (hL : Lay LM g c t σ) {x1 : Int} {x2 : Int} {x3 : Int} {x4 : Int} {x5 : Int} {x6 : Int} (h : ((20 ≤ x6 → (Lay LM g c t σ → Q (.inl (some (vi (gI σ 172 2)))) σ)) ∧ (¬ (20 ≤ x6) → ((4 ≤ x6 → ((8 ≤ x6 → ((12 ≤ x6 → ((16 ≤ x6 → (Lay LM g c t σ → GG E mX12_feed 78 [some (vr 172), some (vi x1), some (vi x2), some (vi x3), some (vi x4), some (vi x5), some (vi x6), some (vi x5)] [] σ rc rs Q)) ∧ (¬ (16 ≤ x6) → (Lay LM g c t σ → GG E mX12_feed 78 [some (vr 172), some (vi x1), some (vi x2), some (vi x3), some (vi x4), some (vi x5), some (vi x6), some (vi x4)] [] σ rc rs Q)))) ∧ (¬ (12 ≤ x6) → (Lay LM g c t σ → GG E mX12_feed 78 [some (vr 172), some (vi x1), some (vi x2), some (vi x3), some (vi x4), some (vi x5), some (vi x6), some (vi x3)] [] σ rc rs Q)))) ∧ (¬ (8 ≤ x6) → (Lay LM g c t σ → GG E mX12_feed 78 [some (vr 172), some (vi x1), some (vi x2), some (vi x3), some (vi x4), some (vi x5), some (vi x6), some (vi x2)] [] σ rc rs Q)))) ∧ (¬ (4 ≤ x6) → (Lay LM g c t σ → GG E mX12_feed 78 [some (vr 172), some (vi x1), some (vi x2), some (vi x3), some (vi x4), some (vi x5), some (vi x6), some (vi x1)] [] σ rc rs Q)))))) : GG E mX12_feed 23 [some (vr 172), some (vi x1), some (vi x2), some (vi x3), some (vi x4), some (vi x5), some (vi x6), none] [] σ rc rs Q := by
  refine r_iload (pc := 23) dX12_feed_23 rfl ?_
  refine r_bipush (pc := 25) dX12_feed_25 (by decide) ?_
  refine r_icmp_ge (pc := 27) (tgt := 120) dX12_feed_27 (by decide) (fun c9 => ?_) (fun c9 => ?_)
  · replace h := h.1 c9
    refine r_aload_n (pc := 120) dX12_feed_120 rfl rfl ?_
    refine r_getI (pc := 121) dX12_feed_121 (k9 := 2) CL_12 (by decide) (by decide) w_1417 rfl (okO_of (N := 42) (hL.sh (i := 0) rfl (by decide) (by decide)) (by decide)) (fun _ => ?_)
    exact r_ireturn (pc := 124) (ty := .int) dX12_feed_124 (by decide +kernel) rfl (nar_i _) (h hL)
  · replace h := h.2 c9
    refine r_iload (pc := 30) dX12_feed_30 rfl ?_
    refine r_iconst (pc := 32) dX12_feed_32 (inRk rfl) ?_
    refine r_icmp_ge (pc := 33) (tgt := 40) dX12_feed_33 (by decide) (fun c9 => ?_) (fun c9 => ?_)
    · replace h := h.1 c9
      refine r_iload (pc := 40) dX12_feed_40 rfl ?_
      refine r_bipush (pc := 42) dX12_feed_42 (by decide) ?_
      refine r_icmp_ge (pc := 44) (tgt := 51) dX12_feed_44 (by decide) (fun c9 => ?_) (fun c9 => ?_)
      · replace h := h.1 c9
        refine r_iload (pc := 51) dX12_feed_51 rfl ?_
        refine r_bipush (pc := 53) dX12_feed_53 (by decide) ?_
        refine r_icmp_ge (pc := 55) (tgt := 62) dX12_feed_55 (by decide) (fun c9 => ?_) (fun c9 => ?_)
        · replace h := h.1 c9
          refine r_iload (pc := 62) dX12_feed_62 rfl ?_
          refine r_bipush (pc := 64) dX12_feed_64 (by decide) ?_
          refine r_icmp_ge (pc := 66) (tgt := 74) dX12_feed_66 (by decide) (fun c9 => ?_) (fun c9 => ?_)
          · replace h := h.1 c9
            refine r_iload (pc := 74) dX12_feed_74 rfl ?_
            refine r_istore (pc := 76) dX12_feed_76 (by decide) (l2 := [some (vr 172), some (vi x1), some (vi x2), some (vi x3), some (vi x4), some (vi x5), some (vi x6), some (vi x5)]) rfl ?_
            exact (h hL)
          · replace h := h.2 c9
            refine r_iload (pc := 69) dX12_feed_69 rfl ?_
            refine r_goto (pc := 71) (tgt := 76) dX12_feed_71 (by decide) ?_
            refine r_istore (pc := 76) dX12_feed_76 (by decide) (l2 := [some (vr 172), some (vi x1), some (vi x2), some (vi x3), some (vi x4), some (vi x5), some (vi x6), some (vi x4)]) rfl ?_
            exact (h hL)
        · replace h := h.2 c9
          refine r_iload_n (pc := 58) dX12_feed_58 rfl rfl ?_
          refine r_goto (pc := 59) (tgt := 76) dX12_feed_59 (by decide) ?_
          refine r_istore (pc := 76) dX12_feed_76 (by decide) (l2 := [some (vr 172), some (vi x1), some (vi x2), some (vi x3), some (vi x4), some (vi x5), some (vi x6), some (vi x3)]) rfl ?_
          exact (h hL)
      · replace h := h.2 c9
        refine r_iload_n (pc := 47) dX12_feed_47 rfl rfl ?_
        refine r_goto (pc := 48) (tgt := 76) dX12_feed_48 (by decide) ?_
        refine r_istore (pc := 76) dX12_feed_76 (by decide) (l2 := [some (vr 172), some (vi x1), some (vi x2), some (vi x3), some (vi x4), some (vi x5), some (vi x6), some (vi x2)]) rfl ?_
        exact (h hL)
    · replace h := h.2 c9
      refine r_iload_n (pc := 36) dX12_feed_36 rfl rfl ?_
      refine r_goto (pc := 37) (tgt := 76) dX12_feed_37 (by decide) ?_
      refine r_istore (pc := 76) dX12_feed_76 (by decide) (l2 := [some (vr 172), some (vi x1), some (vi x2), some (vi x3), some (vi x4), some (vi x5), some (vi x6), some (vi x1)]) rfl ?_
      exact (h hL)
theorem B_X12_feed_78 {g : Sg} {c t : Nat} (hL : Lay LM g c t σ) {x1 : Int} {x2 : Int} {x3 : Int} {x4 : Int} {x5 : Int} {x6 : Int} {x7 : Int} (h : inR (8 * (x6.tmod 4)) ∧ inR (24 - (8 * (x6.tmod 4))) ∧ ∀ v3 : Int, v3 = b_iandq (b_ishrq x7 (24 - (8 * (x6.tmod 4)))) 255 → (0 ≤ (gI σ 172 2) ∧ (gI σ 172 2) < 400) ∧ ∀ τ5 : Sg, τ5 = sI σ 174 (gI σ 172 2).toNat v3 → inR ((gI τ5 172 2) + 1) ∧ ∀ τ7 : Sg, τ7 = sI τ5 172 2 ((gI τ5 172 2) + 1) → inR (x6 + 1) ∧ (Lay LM g c t τ7 → GG E mX12_feed 23 [some (vr 172), some (vi x1), some (vi x2), some (vi x3), some (vi x4), some (vi x5), some (vi (x6 + 1)), none] [] τ7 rc rs Q)) : GG E mX12_feed 78 [some (vr 172), some (vi x1), some (vi x2), some (vi x3), some (vi x4), some (vi x5), some (vi x6), some (vi x7)] [] σ rc rs Q := by
  refine r_aload_n (pc := 78) dX12_feed_78 rfl rfl ?_
  refine r_getR (pc := 79) dX12_feed_79 (k9 := 8) CL_12 (by decide) (by decide) w_1423 rfl (okO_of (N := 42) (hL.sh (i := 0) rfl (by decide) (by decide)) (by decide)) ?_
  refine eqR (y := 174) (hL.rf (i := 1) rfl) ?_
  refine r_aload_n (pc := 82) dX12_feed_82 rfl rfl ?_
  refine r_getI (pc := 83) dX12_feed_83 (k9 := 2) CL_12 (by decide) (by decide) w_1417 rfl (okO_of (N := 42) (hL.sh (i := 0) rfl (by decide) (by decide)) (by decide)) (fun _ => ?_)
  refine r_iload (pc := 86) dX12_feed_86 rfl ?_
  refine r_bipush (pc := 88) dX12_feed_88 (by decide) ?_
  refine r_bipush (pc := 90) dX12_feed_90 (by decide) ?_
  refine r_iload (pc := 92) dX12_feed_92 rfl ?_
  refine r_iconst (pc := 94) dX12_feed_94 (inRk rfl) ?_
  refine r_irem (pc := 95) dX12_feed_95 (by decide) ?_
  obtain ⟨o1, h⟩ := h
  refine r_imul (pc := 96) dX12_feed_96 o1 ?_
  obtain ⟨o2, h⟩ := h
  refine r_isub (pc := 97) dX12_feed_97 o2 ?_
  refine r_ishr (pc := 98) dX12_feed_98 ?_
  refine r_sipush (pc := 99) dX12_feed_99 (by decide) ?_
  refine r_iand (pc := 102) dX12_feed_102 ?_
  refine nmI (fun v3 e9 => ?_)
  replace h := h v3 e9
  obtain ⟨o4, h⟩ := h
  refine r_iastore (pc := 103) dX12_feed_103 (okB_of (c := 20) (n := 400) (hL.sh (i := 2) rfl (by decide) (by decide)) (by decide) o4) ?_
  refine nmS (fun τ5 e5 => ?_)
  replace h := h τ5 e5
  have hL := hL.wI e5 (by decide) (.inl (by decide))
  refine r_aload_n (pc := 104) dX12_feed_104 rfl rfl ?_
  refine r_dup (pc := 105) dX12_feed_105 (fun _ h9 => nomatch h9) ?_
  refine r_getI (pc := 106) dX12_feed_106 (k9 := 2) CL_12 (by decide) (by decide) w_1417 rfl (okO_of (N := 42) (hL.sh (i := 0) rfl (by decide) (by decide)) (by decide)) (fun _ => ?_)
  refine r_iconst (pc := 109) dX12_feed_109 (inRk rfl) ?_
  obtain ⟨o6, h⟩ := h
  refine r_iadd (pc := 110) dX12_feed_110 o6 ?_
  refine r_putI (pc := 111) dX12_feed_111 (k9 := 2) CL_12 (by decide) (by decide) w_1417 rfl rfl (fun h9 => absurd h9 (by decide +kernel)) (okO_of (N := 42) (hL.sh (i := 0) rfl (by decide) (by decide)) (by decide)) ?_
  refine nmS (fun τ7 e7 => ?_)
  replace h := h τ7 e7
  have hL := hL.wI e7 (by decide) (.inl (by decide))
  obtain ⟨o8, h⟩ := h
  refine r_iinc (pc := 114) dX12_feed_114 rfl (by decide) o8 (l2 := [some (vr 172), some (vi x1), some (vi x2), some (vi x3), some (vi x4), some (vi x5), some (vi (x6 + 1)), some (vi x7)]) rfl ?_
  refine r_goto (pc := 117) (tgt := 23) dX12_feed_117 (by decide) ?_
  exact GG.msk [true, true, true, true, true, true, true, false] (h hL)
theorem C_X12_feed {a0 : Nat} {x1 : Int} {x2 : Int} {x3 : Int} {x4 : Int} {x5 : Int} (h : GG E mX12_feed 0 [some (vr a0), some (vi x1), some (vi x2), some (vi x3), some (vi x4), some (vi x5), none, none] [] σ 0 0 Q) : CC E mX12_feed [vr a0, vi x1, vi x2, vi x3, vi x4, vi x5] σ Q := CC.of (by decide +kernel) rfl (by decide +kernel) (fun h9 => nomatch h9) (Nat.le_of_ble_eq_true rfl) h
theorem dX12_find_0 : decode cX12_find 0 = .ok (.aload_n 0, 1) := by decide +kernel
theorem dX12_find_1 : decode cX12_find 1 = .ok (.iconst 0, 1) := by decide +kernel
theorem dX12_find_2 : decode cX12_find 2 = .ok (.putfield 99, 3) := by decide +kernel
theorem dX12_find_5 : decode cX12_find 5 = .ok (.bipush 8, 2) := by decide +kernel
theorem dX12_find_7 : decode cX12_find 7 = .ok (.newarray .int, 2) := by decide +kernel
theorem dX12_find_9 : decode cX12_find 9 = .ok (.dup, 1) := by decide +kernel
theorem dX12_find_10 : decode cX12_find 10 = .ok (.iconst 0, 1) := by decide +kernel
theorem dX12_find_11 : decode cX12_find 11 = .ok (.iload_n 1, 1) := by decide +kernel
theorem dX12_find_12 : decode cX12_find 12 = .ok (.iastore, 1) := by decide +kernel
theorem dX12_find_13 : decode cX12_find 13 = .ok (.dup, 1) := by decide +kernel
theorem dX12_find_14 : decode cX12_find 14 = .ok (.iconst 1, 1) := by decide +kernel
theorem dX12_find_15 : decode cX12_find 15 = .ok (.iload_n 2, 1) := by decide +kernel
theorem dX12_find_16 : decode cX12_find 16 = .ok (.iastore, 1) := by decide +kernel
theorem dX12_find_17 : decode cX12_find 17 = .ok (.dup, 1) := by decide +kernel
theorem dX12_find_18 : decode cX12_find 18 = .ok (.iconst 2, 1) := by decide +kernel
theorem dX12_find_19 : decode cX12_find 19 = .ok (.iload_n 3, 1) := by decide +kernel
theorem dX12_find_20 : decode cX12_find 20 = .ok (.iastore, 1) := by decide +kernel
theorem dX12_find_21 : decode cX12_find 21 = .ok (.dup, 1) := by decide +kernel
theorem dX12_find_22 : decode cX12_find 22 = .ok (.iconst 3, 1) := by decide +kernel
theorem dX12_find_23 : decode cX12_find 23 = .ok (.iload 4, 2) := by decide +kernel
theorem dX12_find_25 : decode cX12_find 25 = .ok (.iastore, 1) := by decide +kernel
theorem dX12_find_26 : decode cX12_find 26 = .ok (.dup, 1) := by decide +kernel
theorem dX12_find_27 : decode cX12_find 27 = .ok (.iconst 4, 1) := by decide +kernel
theorem dX12_find_28 : decode cX12_find 28 = .ok (.iload 5, 2) := by decide +kernel
theorem dX12_find_30 : decode cX12_find 30 = .ok (.iastore, 1) := by decide +kernel
theorem dX12_find_31 : decode cX12_find 31 = .ok (.dup, 1) := by decide +kernel
theorem dX12_find_32 : decode cX12_find 32 = .ok (.iconst 5, 1) := by decide +kernel
theorem dX12_find_33 : decode cX12_find 33 = .ok (.iload 6, 2) := by decide +kernel
theorem dX12_find_35 : decode cX12_find 35 = .ok (.iastore, 1) := by decide +kernel
theorem dX12_find_36 : decode cX12_find 36 = .ok (.dup, 1) := by decide +kernel
theorem dX12_find_37 : decode cX12_find 37 = .ok (.bipush 6, 2) := by decide +kernel
theorem dX12_find_39 : decode cX12_find 39 = .ok (.iload 7, 2) := by decide +kernel
theorem dX12_find_41 : decode cX12_find 41 = .ok (.iastore, 1) := by decide +kernel
theorem dX12_find_42 : decode cX12_find 42 = .ok (.dup, 1) := by decide +kernel
theorem dX12_find_43 : decode cX12_find 43 = .ok (.bipush 7, 2) := by decide +kernel
theorem dX12_find_45 : decode cX12_find 45 = .ok (.iload 8, 2) := by decide +kernel
theorem dX12_find_47 : decode cX12_find 47 = .ok (.iastore, 1) := by decide +kernel
theorem dX12_find_48 : decode cX12_find 48 = .ok (.astore 9, 2) := by decide +kernel
theorem dX12_find_50 : decode cX12_find 50 = .ok (.aload_n 0, 1) := by decide +kernel
theorem dX12_find_51 : decode cX12_find 51 = .ok (.getfield 34, 3) := by decide +kernel
theorem dX12_find_54 : decode cX12_find 54 = .ok (.aload_n 0, 1) := by decide +kernel
theorem dX12_find_55 : decode cX12_find 55 = .ok (.getfield 192, 3) := by decide +kernel
theorem dX12_find_58 : decode cX12_find 58 = .ok (.aload 9, 2) := by decide +kernel
theorem dX12_find_60 : decode cX12_find 60 = .ok (.invokestatic 221, 3) := by decide +kernel
theorem dX12_find_63 : decode cX12_find 63 = .ok (.ireturn, 1) := by decide +kernel
theorem B_X12_find_0 {g : Sg} {c t : Nat} (hL : Lay LM g c t σ) {x1 : Int} {x2 : Int} {x3 : Int} {x4 : Int} {x5 : Int} {x6 : Int} {x7 : Int} {x8 : Int} (h : ∀ τ1 : Sg, τ1 = sI σ 172 0 0 → 1 ≤ rc ∧ 8 ≤ rs ∧ ∀ (b2 : Nat) (τ3 : Sg), b2 = gz τ1 → τ3 = nw τ1 (20, 8) → okB 20 τ3 b2 0 ∧ (16 ≤ b2 ∧ gz g ≤ b2) ∧ ∀ τ6 : Sg, τ6 = sI τ3 b2 0 x1 → okB 20 τ6 b2 1 ∧ ∀ τ8 : Sg, τ8 = sI τ6 b2 1 x2 → okB 20 τ8 b2 2 ∧ ∀ τ10 : Sg, τ10 = sI τ8 b2 2 x3 → okB 20 τ10 b2 3 ∧ ∀ τ12 : Sg, τ12 = sI τ10 b2 3 x4 → okB 20 τ12 b2 4 ∧ ∀ τ14 : Sg, τ14 = sI τ12 b2 4 x5 → okB 20 τ14 b2 5 ∧ ∀ τ16 : Sg, τ16 = sI τ14 b2 5 x6 → okB 20 τ16 b2 6 ∧ ∀ τ18 : Sg, τ18 = sI τ16 b2 6 x7 → okB 20 τ18 b2 7 ∧ ∀ τ20 : Sg, τ20 = sI τ18 b2 7 x8 → (Lay LM g c t τ20 → CC E mX12_placeIn [vr 309, vi (gI τ20 172 15), vr b2] τ20 (KI (fun r21 τ22 => Lay LM g c t τ22 ∧ (inR r21 → (Lay LM g c t τ22 → Q (.inl (some (vi r21))) τ22))) (fun _ _ => False)))) : GG E mX12_find 0 [some (vr 172), some (vi x1), some (vi x2), some (vi x3), some (vi x4), some (vi x5), some (vi x6), some (vi x7), some (vi x8), none] [] σ rc rs Q := by
  refine r_aload_n (pc := 0) dX12_find_0 rfl rfl ?_
  refine r_iconst (pc := 1) dX12_find_1 (inRk rfl) ?_
  refine r_putI (pc := 2) dX12_find_2 (k9 := 0) CL_12 (by decide) (by decide) w_1415 rfl rfl (fun h9 => absurd h9 (by decide +kernel)) (okO_of (N := 42) (hL.sh (i := 0) rfl (by decide) (by decide)) (by decide)) ?_
  refine nmS (fun τ1 e1 => ?_)
  replace h := h τ1 e1
  have hL := hL.wI e1 (by decide) (.inl (by decide))
  refine r_bipush (pc := 5) dX12_find_5 (by decide) ?_
  refine r_newarray (pc := 7) dX12_find_7 (cc := 20) rfl (by decide) (by decide) w_175 (by decide) (by decide) h.1 h.2.1 ?_
  replace h := h.2.2
  change GG _ _ _ _ (vr _ :: _) (nw _ (20, 8)) (_ - 1) (_ - 8) _
  refine nmR (fun b2 e8 => ?_)
  refine nmS (fun τ3 e9 => ?_)
  replace h := h b2 τ3 e8 e9
  have hL := hL.nw9 e9
  refine r_dup (pc := 9) dX12_find_9 (fun _ h9 => nomatch h9) ?_
  refine r_iconst (pc := 10) dX12_find_10 (inRk rfl) ?_
  refine r_iload_n (pc := 11) dX12_find_11 rfl rfl ?_
  obtain ⟨o4, h⟩ := h
  obtain ⟨o5, h⟩ := h
  refine r_iastore (pc := 12) dX12_find_12 o4 ?_
  refine nmS (fun τ6 e6 => ?_)
  replace h := h τ6 e6
  have hL := hL.wI e6 o5.1 (.inr o5.2)
  refine r_dup (pc := 13) dX12_find_13 (fun _ h9 => nomatch h9) ?_
  refine r_iconst (pc := 14) dX12_find_14 (inRk rfl) ?_
  refine r_iload_n (pc := 15) dX12_find_15 rfl rfl ?_
  obtain ⟨o7, h⟩ := h
  refine r_iastore (pc := 16) dX12_find_16 o7 ?_
  refine nmS (fun τ8 e8 => ?_)
  replace h := h τ8 e8
  have hL := hL.wI e8 o5.1 (.inr o5.2)
  refine r_dup (pc := 17) dX12_find_17 (fun _ h9 => nomatch h9) ?_
  refine r_iconst (pc := 18) dX12_find_18 (inRk rfl) ?_
  refine r_iload_n (pc := 19) dX12_find_19 rfl rfl ?_
  obtain ⟨o9, h⟩ := h
  refine r_iastore (pc := 20) dX12_find_20 o9 ?_
  refine nmS (fun τ10 e10 => ?_)
  replace h := h τ10 e10
  have hL := hL.wI e10 o5.1 (.inr o5.2)
  refine r_dup (pc := 21) dX12_find_21 (fun _ h9 => nomatch h9) ?_
  refine r_iconst (pc := 22) dX12_find_22 (inRk rfl) ?_
  refine r_iload (pc := 23) dX12_find_23 rfl ?_
  obtain ⟨o11, h⟩ := h
  refine r_iastore (pc := 25) dX12_find_25 o11 ?_
  refine nmS (fun τ12 e12 => ?_)
  replace h := h τ12 e12
  have hL := hL.wI e12 o5.1 (.inr o5.2)
  refine r_dup (pc := 26) dX12_find_26 (fun _ h9 => nomatch h9) ?_
  refine r_iconst (pc := 27) dX12_find_27 (inRk rfl) ?_
  refine r_iload (pc := 28) dX12_find_28 rfl ?_
  obtain ⟨o13, h⟩ := h
  refine r_iastore (pc := 30) dX12_find_30 o13 ?_
  refine nmS (fun τ14 e14 => ?_)
  replace h := h τ14 e14
  have hL := hL.wI e14 o5.1 (.inr o5.2)
  refine r_dup (pc := 31) dX12_find_31 (fun _ h9 => nomatch h9) ?_
  refine r_iconst (pc := 32) dX12_find_32 (inRk rfl) ?_
  refine r_iload (pc := 33) dX12_find_33 rfl ?_
  obtain ⟨o15, h⟩ := h
  refine r_iastore (pc := 35) dX12_find_35 o15 ?_
  refine nmS (fun τ16 e16 => ?_)
  replace h := h τ16 e16
  have hL := hL.wI e16 o5.1 (.inr o5.2)
  refine r_dup (pc := 36) dX12_find_36 (fun _ h9 => nomatch h9) ?_
  refine r_bipush (pc := 37) dX12_find_37 (by decide) ?_
  refine r_iload (pc := 39) dX12_find_39 rfl ?_
  obtain ⟨o17, h⟩ := h
  refine r_iastore (pc := 41) dX12_find_41 o17 ?_
  refine nmS (fun τ18 e18 => ?_)
  replace h := h τ18 e18
  have hL := hL.wI e18 o5.1 (.inr o5.2)
  refine r_dup (pc := 42) dX12_find_42 (fun _ h9 => nomatch h9) ?_
  refine r_bipush (pc := 43) dX12_find_43 (by decide) ?_
  refine r_iload (pc := 45) dX12_find_45 rfl ?_
  obtain ⟨o19, h⟩ := h
  refine r_iastore (pc := 47) dX12_find_47 o19 ?_
  refine nmS (fun τ20 e20 => ?_)
  replace h := h τ20 e20
  have hL := hL.wI e20 o5.1 (.inr o5.2)
  refine r_astore (pc := 48) dX12_find_48 (by decide) (l2 := [some (vr 172), some (vi x1), some (vi x2), some (vi x3), some (vi x4), some (vi x5), some (vi x6), some (vi x7), some (vi x8), some (vr b2)]) rfl ?_
  refine r_aload_n (pc := 50) dX12_find_50 rfl rfl ?_
  refine r_getR (pc := 51) dX12_find_51 (k9 := 20) CL_12 (by decide) (by decide) w_1435 rfl (okO_of (N := 42) (hL.sh (i := 0) rfl (by decide) (by decide)) (by decide)) ?_
  refine eqR (y := 309) (hL.rf (i := 6) rfl) ?_
  refine r_aload_n (pc := 54) dX12_find_54 rfl rfl ?_
  refine r_getI (pc := 55) dX12_find_55 (k9 := 15) CL_12 (by decide) (by decide) w_1430 rfl (okO_of (N := 42) (hL.sh (i := 0) rfl (by decide) (by decide)) (by decide)) (fun _ => ?_)
  refine r_aload (pc := 58) dX12_find_58 rfl ?_
  refine c_SI0N (M := mX12_find) (pc := 60) (As := [vr 309, vi (gI τ20 172 15), vr b2]) dX12_find_60 K_X12_placeIn w_1395 ⟨by decide, by decide⟩ (Nat.le_of_ble_eq_true rfl) rfl rfl (h hL) (fun r21 τ22 h8 hr9 => ?_) rfl
  replace hL := h8.1
  replace h := h8.2 hr9
  exact r_ireturn (pc := 63) (ty := .int) dX12_find_63 (by decide +kernel) rfl (nar_i _) (h hL)
theorem C_X12_find {a0 : Nat} {x1 : Int} {x2 : Int} {x3 : Int} {x4 : Int} {x5 : Int} {x6 : Int} {x7 : Int} {x8 : Int} (h : GG E mX12_find 0 [some (vr a0), some (vi x1), some (vi x2), some (vi x3), some (vi x4), some (vi x5), some (vi x6), some (vi x7), some (vi x8), none] [] σ 1 8 Q) : CC E mX12_find [vr a0, vi x1, vi x2, vi x3, vi x4, vi x5, vi x6, vi x7, vi x8] σ Q := CC.of (by decide +kernel) rfl (by decide +kernel) (fun h9 => nomatch h9) (Nat.le_of_ble_eq_true rfl) h
theorem dX12_fine_0 : decode cX12_fine 0 = .ok (.aload_n 0, 1) := by decide +kernel
theorem dX12_fine_1 : decode cX12_fine 1 = .ok (.getfield 115, 3) := by decide +kernel
theorem dX12_fine_4 : decode cX12_fine 4 = .ok (.ifCond .ne 7, 3) := by decide +kernel
theorem dX12_fine_7 : decode cX12_fine 7 = .ok (.iconst 1, 1) := by decide +kernel
theorem dX12_fine_8 : decode cX12_fine 8 = .ok (.goto 4, 3) := by decide +kernel
theorem dX12_fine_11 : decode cX12_fine 11 = .ok (.iconst 0, 1) := by decide +kernel
theorem dX12_fine_12 : decode cX12_fine 12 = .ok (.ireturn, 1) := by decide +kernel
theorem B_X12_fine_0 {g : Sg} {c t : Nat} (hL : Lay LM g c t σ)  (h : (((gI σ 172 6) ≠ 0 → (Lay LM g c t σ → Q (.inl (some (vi 0))) σ)) ∧ ((gI σ 172 6) = 0 → (Lay LM g c t σ → Q (.inl (some (vi 1))) σ)))) : GG E mX12_fine 0 [some (vr 172)] [] σ rc rs Q := by
  refine r_aload_n (pc := 0) dX12_fine_0 rfl rfl ?_
  refine r_getI (pc := 1) dX12_fine_1 (k9 := 6) CL_12 (by decide) (by decide) w_1421 rfl (okO_of (N := 42) (hL.sh (i := 0) rfl (by decide) (by decide)) (by decide)) (fun _ => ?_)
  refine r_if_ne (pc := 4) (tgt := 11) dX12_fine_4 (by decide) (fun c9 => ?_) (fun c9 => ?_)
  · replace h := h.1 c9
    refine r_iconst (pc := 11) dX12_fine_11 (inRk rfl) ?_
    exact r_ireturn (pc := 12) (ty := .boolean) dX12_fine_12 (by decide +kernel) rfl (nar_bool (by decide)) (h hL)
  · replace h := h.2 c9
    refine r_iconst (pc := 7) dX12_fine_7 (inRk rfl) ?_
    refine r_goto (pc := 8) (tgt := 12) dX12_fine_8 (by decide) ?_
    exact r_ireturn (pc := 12) (ty := .boolean) dX12_fine_12 (by decide +kernel) rfl (nar_bool (by decide)) (h hL)
theorem C_X12_fine {a0 : Nat} (h : GG E mX12_fine 0 [some (vr a0)] [] σ 0 0 Q) : CC E mX12_fine [vr a0] σ Q := CC.of (by decide +kernel) rfl (by decide +kernel) (fun h9 => nomatch h9) (Nat.le_of_ble_eq_true rfl) h
theorem dX12_freeOf_0 : decode cX12_freeOf 0 = .ok (.iconst 0, 1) := by decide +kernel
theorem dX12_freeOf_1 : decode cX12_freeOf 1 = .ok (.istore_n 1, 1) := by decide +kernel
theorem dX12_freeOf_2 : decode cX12_freeOf 2 = .ok (.iconst 0, 1) := by decide +kernel
theorem dX12_freeOf_3 : decode cX12_freeOf 3 = .ok (.istore_n 2, 1) := by decide +kernel
theorem dX12_freeOf_4 : decode cX12_freeOf 4 = .ok (.iconst (-1), 1) := by decide +kernel
theorem dX12_freeOf_5 : decode cX12_freeOf 5 = .ok (.istore_n 3, 1) := by decide +kernel
theorem dX12_freeOf_6 : decode cX12_freeOf 6 = .ok (.iconst 0, 1) := by decide +kernel
theorem dX12_freeOf_7 : decode cX12_freeOf 7 = .ok (.istore 4, 2) := by decide +kernel
theorem dX12_freeOf_9 : decode cX12_freeOf 9 = .ok (.iload 4, 2) := by decide +kernel
theorem dX12_freeOf_11 : decode cX12_freeOf 11 = .ok (.aload_n 0, 1) := by decide +kernel
theorem dX12_freeOf_12 : decode cX12_freeOf 12 = .ok (.getfield 231, 3) := by decide +kernel
theorem dX12_freeOf_15 : decode cX12_freeOf 15 = .ok (.if_icmp .ge 259, 3) := by decide +kernel
theorem dX12_freeOf_18 : decode cX12_freeOf 18 = .ok (.iload_n 1, 1) := by decide +kernel
theorem dX12_freeOf_19 : decode cX12_freeOf 19 = .ok (.istore 5, 2) := by decide +kernel
theorem dX12_freeOf_21 : decode cX12_freeOf 21 = .ok (.iload 5, 2) := by decide +kernel
theorem dX12_freeOf_23 : decode cX12_freeOf 23 = .ok (.aload_n 0, 1) := by decide +kernel
theorem dX12_freeOf_24 : decode cX12_freeOf 24 = .ok (.getfield 231, 3) := by decide +kernel
theorem dX12_freeOf_27 : decode cX12_freeOf 27 = .ok (.if_icmp .ge 22, 3) := by decide +kernel
theorem dX12_freeOf_30 : decode cX12_freeOf 30 = .ok (.aload_n 0, 1) := by decide +kernel
theorem dX12_freeOf_31 : decode cX12_freeOf 31 = .ok (.getfield 58, 3) := by decide +kernel
theorem dX12_freeOf_34 : decode cX12_freeOf 34 = .ok (.iload 5, 2) := by decide +kernel
theorem dX12_freeOf_36 : decode cX12_freeOf 36 = .ok (.aaload, 1) := by decide +kernel
theorem dX12_freeOf_37 : decode cX12_freeOf 37 = .ok (.iload 4, 2) := by decide +kernel
theorem dX12_freeOf_39 : decode cX12_freeOf 39 = .ok (.iaload, 1) := by decide +kernel
theorem dX12_freeOf_40 : decode cX12_freeOf 40 = .ok (.ifCond .ne 9, 3) := by decide +kernel
theorem dX12_freeOf_43 : decode cX12_freeOf 43 = .ok (.iinc 5 1, 3) := by decide +kernel
theorem dX12_freeOf_46 : decode cX12_freeOf 46 = .ok (.goto (-25), 3) := by decide +kernel
theorem dX12_freeOf_49 : decode cX12_freeOf 49 = .ok (.aload_n 0, 1) := by decide +kernel
theorem dX12_freeOf_50 : decode cX12_freeOf 50 = .ok (.getfield 67, 3) := by decide +kernel
theorem dX12_freeOf_53 : decode cX12_freeOf 53 = .ok (.iload 4, 2) := by decide +kernel
theorem dX12_freeOf_55 : decode cX12_freeOf 55 = .ok (.iconst (-1), 1) := by decide +kernel
theorem dX12_freeOf_56 : decode cX12_freeOf 56 = .ok (.iastore, 1) := by decide +kernel
theorem dX12_freeOf_57 : decode cX12_freeOf 57 = .ok (.iload 5, 2) := by decide +kernel
theorem dX12_freeOf_59 : decode cX12_freeOf 59 = .ok (.aload_n 0, 1) := by decide +kernel
theorem dX12_freeOf_60 : decode cX12_freeOf 60 = .ok (.getfield 231, 3) := by decide +kernel
theorem dX12_freeOf_63 : decode cX12_freeOf 63 = .ok (.if_icmp .ne 12, 3) := by decide +kernel
theorem dX12_freeOf_66 : decode cX12_freeOf 66 = .ok (.iinc 2 1, 3) := by decide +kernel
theorem dX12_freeOf_69 : decode cX12_freeOf 69 = .ok (.iload 4, 2) := by decide +kernel
theorem dX12_freeOf_71 : decode cX12_freeOf 71 = .ok (.istore_n 3, 1) := by decide +kernel
theorem dX12_freeOf_72 : decode cX12_freeOf 72 = .ok (.goto 196, 3) := by decide +kernel
theorem dX12_freeOf_75 : decode cX12_freeOf 75 = .ok (.aload_n 0, 1) := by decide +kernel
theorem dX12_freeOf_76 : decode cX12_freeOf 76 = .ok (.getfield 58, 3) := by decide +kernel
theorem dX12_freeOf_79 : decode cX12_freeOf 79 = .ok (.iload 5, 2) := by decide +kernel
theorem dX12_freeOf_81 : decode cX12_freeOf 81 = .ok (.aaload, 1) := by decide +kernel
theorem dX12_freeOf_82 : decode cX12_freeOf 82 = .ok (.astore 6, 2) := by decide +kernel
theorem dX12_freeOf_84 : decode cX12_freeOf 84 = .ok (.aload_n 0, 1) := by decide +kernel
theorem dX12_freeOf_85 : decode cX12_freeOf 85 = .ok (.getfield 58, 3) := by decide +kernel
theorem dX12_freeOf_88 : decode cX12_freeOf 88 = .ok (.iload 5, 2) := by decide +kernel
theorem dX12_freeOf_90 : decode cX12_freeOf 90 = .ok (.aload_n 0, 1) := by decide +kernel
theorem dX12_freeOf_91 : decode cX12_freeOf 91 = .ok (.getfield 58, 3) := by decide +kernel
theorem dX12_freeOf_94 : decode cX12_freeOf 94 = .ok (.iload_n 1, 1) := by decide +kernel
theorem dX12_freeOf_95 : decode cX12_freeOf 95 = .ok (.aaload, 1) := by decide +kernel
theorem dX12_freeOf_96 : decode cX12_freeOf 96 = .ok (.aastore, 1) := by decide +kernel
theorem dX12_freeOf_97 : decode cX12_freeOf 97 = .ok (.aload_n 0, 1) := by decide +kernel
theorem dX12_freeOf_98 : decode cX12_freeOf 98 = .ok (.getfield 58, 3) := by decide +kernel
theorem dX12_freeOf_101 : decode cX12_freeOf 101 = .ok (.iload_n 1, 1) := by decide +kernel
theorem dX12_freeOf_102 : decode cX12_freeOf 102 = .ok (.aload 6, 2) := by decide +kernel
theorem dX12_freeOf_104 : decode cX12_freeOf 104 = .ok (.aastore, 1) := by decide +kernel
theorem dX12_freeOf_105 : decode cX12_freeOf 105 = .ok (.aload_n 0, 1) := by decide +kernel
theorem dX12_freeOf_106 : decode cX12_freeOf 106 = .ok (.getfield 58, 3) := by decide +kernel
theorem dX12_freeOf_109 : decode cX12_freeOf 109 = .ok (.iload_n 1, 1) := by decide +kernel
theorem dX12_freeOf_110 : decode cX12_freeOf 110 = .ok (.aaload, 1) := by decide +kernel
theorem dX12_freeOf_111 : decode cX12_freeOf 111 = .ok (.iload 4, 2) := by decide +kernel
theorem dX12_freeOf_113 : decode cX12_freeOf 113 = .ok (.iaload, 1) := by decide +kernel
theorem dX12_freeOf_114 : decode cX12_freeOf 114 = .ok (.istore 7, 2) := by decide +kernel
theorem dX12_freeOf_116 : decode cX12_freeOf 116 = .ok (.iconst 0, 1) := by decide +kernel
theorem dX12_freeOf_117 : decode cX12_freeOf 117 = .ok (.istore 8, 2) := by decide +kernel
theorem dX12_freeOf_119 : decode cX12_freeOf 119 = .ok (.iload 8, 2) := by decide +kernel
theorem dX12_freeOf_121 : decode cX12_freeOf 121 = .ok (.aload_n 0, 1) := by decide +kernel
theorem dX12_freeOf_122 : decode cX12_freeOf 122 = .ok (.getfield 231, 3) := by decide +kernel
theorem dX12_freeOf_125 : decode cX12_freeOf 125 = .ok (.if_icmp .ge 33, 3) := by decide +kernel
theorem dX12_freeOf_128 : decode cX12_freeOf 128 = .ok (.aload_n 0, 1) := by decide +kernel
theorem dX12_freeOf_129 : decode cX12_freeOf 129 = .ok (.getfield 58, 3) := by decide +kernel
theorem dX12_freeOf_132 : decode cX12_freeOf 132 = .ok (.iload_n 1, 1) := by decide +kernel
theorem dX12_freeOf_133 : decode cX12_freeOf 133 = .ok (.aaload, 1) := by decide +kernel
theorem dX12_freeOf_134 : decode cX12_freeOf 134 = .ok (.iload 8, 2) := by decide +kernel
theorem dX12_freeOf_136 : decode cX12_freeOf 136 = .ok (.aload_n 0, 1) := by decide +kernel
theorem dX12_freeOf_137 : decode cX12_freeOf 137 = .ok (.aload_n 0, 1) := by decide +kernel
theorem dX12_freeOf_138 : decode cX12_freeOf 138 = .ok (.getfield 58, 3) := by decide +kernel
theorem dX12_freeOf_141 : decode cX12_freeOf 141 = .ok (.iload_n 1, 1) := by decide +kernel
theorem dX12_freeOf_142 : decode cX12_freeOf 142 = .ok (.aaload, 1) := by decide +kernel
theorem dX12_freeOf_143 : decode cX12_freeOf 143 = .ok (.iload 8, 2) := by decide +kernel
theorem dX12_freeOf_145 : decode cX12_freeOf 145 = .ok (.iaload, 1) := by decide +kernel
theorem dX12_freeOf_146 : decode cX12_freeOf 146 = .ok (.iload 7, 2) := by decide +kernel
theorem dX12_freeOf_148 : decode cX12_freeOf 148 = .ok (.invokevirtual 254, 3) := by decide +kernel
theorem dX12_freeOf_151 : decode cX12_freeOf 151 = .ok (.iastore, 1) := by decide +kernel
theorem dX12_freeOf_152 : decode cX12_freeOf 152 = .ok (.iinc 8 1, 3) := by decide +kernel
theorem dX12_freeOf_155 : decode cX12_freeOf 155 = .ok (.goto (-36), 3) := by decide +kernel
theorem dX12_freeOf_158 : decode cX12_freeOf 158 = .ok (.iconst 0, 1) := by decide +kernel
theorem dX12_freeOf_159 : decode cX12_freeOf 159 = .ok (.istore 8, 2) := by decide +kernel
theorem dX12_freeOf_161 : decode cX12_freeOf 161 = .ok (.iload 8, 2) := by decide +kernel
theorem dX12_freeOf_163 : decode cX12_freeOf 163 = .ok (.aload_n 0, 1) := by decide +kernel
theorem dX12_freeOf_164 : decode cX12_freeOf 164 = .ok (.getfield 231, 3) := by decide +kernel
theorem dX12_freeOf_167 : decode cX12_freeOf 167 = .ok (.if_icmp .ge 90, 3) := by decide +kernel
theorem dX12_freeOf_170 : decode cX12_freeOf 170 = .ok (.aload_n 0, 1) := by decide +kernel
theorem dX12_freeOf_171 : decode cX12_freeOf 171 = .ok (.getfield 58, 3) := by decide +kernel
theorem dX12_freeOf_174 : decode cX12_freeOf 174 = .ok (.iload 8, 2) := by decide +kernel
theorem dX12_freeOf_176 : decode cX12_freeOf 176 = .ok (.aaload, 1) := by decide +kernel
theorem dX12_freeOf_177 : decode cX12_freeOf 177 = .ok (.iload 4, 2) := by decide +kernel
theorem dX12_freeOf_179 : decode cX12_freeOf 179 = .ok (.iaload, 1) := by decide +kernel
theorem dX12_freeOf_180 : decode cX12_freeOf 180 = .ok (.istore 9, 2) := by decide +kernel
theorem dX12_freeOf_182 : decode cX12_freeOf 182 = .ok (.iconst 0, 1) := by decide +kernel
theorem dX12_freeOf_183 : decode cX12_freeOf 183 = .ok (.istore 10, 2) := by decide +kernel
theorem dX12_freeOf_185 : decode cX12_freeOf 185 = .ok (.iload 10, 2) := by decide +kernel
theorem dX12_freeOf_187 : decode cX12_freeOf 187 = .ok (.aload_n 0, 1) := by decide +kernel
theorem dX12_freeOf_188 : decode cX12_freeOf 188 = .ok (.getfield 231, 3) := by decide +kernel
theorem dX12_freeOf_191 : decode cX12_freeOf 191 = .ok (.if_icmp .ge 60, 3) := by decide +kernel
theorem dX12_freeOf_194 : decode cX12_freeOf 194 = .ok (.iload 8, 2) := by decide +kernel
theorem dX12_freeOf_196 : decode cX12_freeOf 196 = .ok (.iload_n 1, 1) := by decide +kernel
theorem dX12_freeOf_197 : decode cX12_freeOf 197 = .ok (.if_icmp .eq 54, 3) := by decide +kernel
theorem dX12_freeOf_200 : decode cX12_freeOf 200 = .ok (.iload 9, 2) := by decide +kernel
theorem dX12_freeOf_202 : decode cX12_freeOf 202 = .ok (.ifCond .eq 49, 3) := by decide +kernel
theorem dX12_freeOf_205 : decode cX12_freeOf 205 = .ok (.aload_n 0, 1) := by decide +kernel
theorem dX12_freeOf_206 : decode cX12_freeOf 206 = .ok (.getfield 58, 3) := by decide +kernel
theorem dX12_freeOf_209 : decode cX12_freeOf 209 = .ok (.iload 8, 2) := by decide +kernel
theorem dX12_freeOf_211 : decode cX12_freeOf 211 = .ok (.aaload, 1) := by decide +kernel
theorem dX12_freeOf_212 : decode cX12_freeOf 212 = .ok (.iload 10, 2) := by decide +kernel
theorem dX12_freeOf_214 : decode cX12_freeOf 214 = .ok (.aload_n 0, 1) := by decide +kernel
theorem dX12_freeOf_215 : decode cX12_freeOf 215 = .ok (.aload_n 0, 1) := by decide +kernel
theorem dX12_freeOf_216 : decode cX12_freeOf 216 = .ok (.getfield 58, 3) := by decide +kernel
theorem dX12_freeOf_219 : decode cX12_freeOf 219 = .ok (.iload 8, 2) := by decide +kernel
theorem dX12_freeOf_221 : decode cX12_freeOf 221 = .ok (.aaload, 1) := by decide +kernel
theorem dX12_freeOf_222 : decode cX12_freeOf 222 = .ok (.iload 10, 2) := by decide +kernel
theorem dX12_freeOf_224 : decode cX12_freeOf 224 = .ok (.iaload, 1) := by decide +kernel
theorem dX12_freeOf_225 : decode cX12_freeOf 225 = .ok (.i2l, 1) := by decide +kernel
theorem dX12_freeOf_226 : decode cX12_freeOf 226 = .ok (.iload 9, 2) := by decide +kernel
theorem dX12_freeOf_228 : decode cX12_freeOf 228 = .ok (.i2l, 1) := by decide +kernel
theorem dX12_freeOf_229 : decode cX12_freeOf 229 = .ok (.aload_n 0, 1) := by decide +kernel
theorem dX12_freeOf_230 : decode cX12_freeOf 230 = .ok (.getfield 58, 3) := by decide +kernel
theorem dX12_freeOf_233 : decode cX12_freeOf 233 = .ok (.iload_n 1, 1) := by decide +kernel
theorem dX12_freeOf_234 : decode cX12_freeOf 234 = .ok (.aaload, 1) := by decide +kernel
theorem dX12_freeOf_235 : decode cX12_freeOf 235 = .ok (.iload 10, 2) := by decide +kernel
theorem dX12_freeOf_237 : decode cX12_freeOf 237 = .ok (.iaload, 1) := by decide +kernel
theorem dX12_freeOf_238 : decode cX12_freeOf 238 = .ok (.i2l, 1) := by decide +kernel
theorem dX12_freeOf_239 : decode cX12_freeOf 239 = .ok (.lmul, 1) := by decide +kernel
theorem dX12_freeOf_240 : decode cX12_freeOf 240 = .ok (.lsub, 1) := by decide +kernel
theorem dX12_freeOf_241 : decode cX12_freeOf 241 = .ok (.invokevirtual 250, 3) := by decide +kernel
theorem dX12_freeOf_244 : decode cX12_freeOf 244 = .ok (.iastore, 1) := by decide +kernel
theorem dX12_freeOf_245 : decode cX12_freeOf 245 = .ok (.iinc 10 1, 3) := by decide +kernel
theorem dX12_freeOf_248 : decode cX12_freeOf 248 = .ok (.goto (-63), 3) := by decide +kernel
theorem dX12_freeOf_251 : decode cX12_freeOf 251 = .ok (.iinc 8 1, 3) := by decide +kernel
theorem dX12_freeOf_254 : decode cX12_freeOf 254 = .ok (.goto (-93), 3) := by decide +kernel
theorem dX12_freeOf_257 : decode cX12_freeOf 257 = .ok (.aload_n 0, 1) := by decide +kernel
theorem dX12_freeOf_258 : decode cX12_freeOf 258 = .ok (.getfield 67, 3) := by decide +kernel
theorem dX12_freeOf_261 : decode cX12_freeOf 261 = .ok (.iload 4, 2) := by decide +kernel
theorem dX12_freeOf_263 : decode cX12_freeOf 263 = .ok (.iload_n 1, 1) := by decide +kernel
theorem dX12_freeOf_264 : decode cX12_freeOf 264 = .ok (.iastore, 1) := by decide +kernel
theorem dX12_freeOf_265 : decode cX12_freeOf 265 = .ok (.iinc 1 1, 3) := by decide +kernel
theorem dX12_freeOf_268 : decode cX12_freeOf 268 = .ok (.iinc 4 1, 3) := by decide +kernel
theorem dX12_freeOf_271 : decode cX12_freeOf 271 = .ok (.goto (-262), 3) := by decide +kernel
theorem dX12_freeOf_274 : decode cX12_freeOf 274 = .ok (.iconst 0, 1) := by decide +kernel
theorem dX12_freeOf_275 : decode cX12_freeOf 275 = .ok (.istore 4, 2) := by decide +kernel
theorem dX12_freeOf_277 : decode cX12_freeOf 277 = .ok (.iload 4, 2) := by decide +kernel
theorem dX12_freeOf_279 : decode cX12_freeOf 279 = .ok (.aload_n 0, 1) := by decide +kernel
theorem dX12_freeOf_280 : decode cX12_freeOf 280 = .ok (.getfield 231, 3) := by decide +kernel
theorem dX12_freeOf_283 : decode cX12_freeOf 283 = .ok (.if_icmp .ge 66, 3) := by decide +kernel
theorem dX12_freeOf_286 : decode cX12_freeOf 286 = .ok (.iload_n 3, 1) := by decide +kernel
theorem dX12_freeOf_287 : decode cX12_freeOf 287 = .ok (.iconst (-1), 1) := by decide +kernel
theorem dX12_freeOf_288 : decode cX12_freeOf 288 = .ok (.if_icmp .eq 61, 3) := by decide +kernel
theorem dX12_freeOf_291 : decode cX12_freeOf 291 = .ok (.aload_n 0, 1) := by decide +kernel
theorem dX12_freeOf_292 : decode cX12_freeOf 292 = .ok (.getfield 64, 3) := by decide +kernel
theorem dX12_freeOf_295 : decode cX12_freeOf 295 = .ok (.iload 4, 2) := by decide +kernel
theorem dX12_freeOf_297 : decode cX12_freeOf 297 = .ok (.iload 4, 2) := by decide +kernel
theorem dX12_freeOf_299 : decode cX12_freeOf 299 = .ok (.iload_n 3, 1) := by decide +kernel
theorem dX12_freeOf_300 : decode cX12_freeOf 300 = .ok (.if_icmp .ne 7, 3) := by decide +kernel
theorem dX12_freeOf_303 : decode cX12_freeOf 303 = .ok (.iconst 1, 1) := by decide +kernel
theorem dX12_freeOf_304 : decode cX12_freeOf 304 = .ok (.goto 38, 3) := by decide +kernel
theorem dX12_freeOf_307 : decode cX12_freeOf 307 = .ok (.aload_n 0, 1) := by decide +kernel
theorem dX12_freeOf_308 : decode cX12_freeOf 308 = .ok (.getfield 67, 3) := by decide +kernel
theorem dX12_freeOf_311 : decode cX12_freeOf 311 = .ok (.iload 4, 2) := by decide +kernel
theorem dX12_freeOf_313 : decode cX12_freeOf 313 = .ok (.iaload, 1) := by decide +kernel
theorem dX12_freeOf_314 : decode cX12_freeOf 314 = .ok (.iconst (-1), 1) := by decide +kernel
theorem dX12_freeOf_315 : decode cX12_freeOf 315 = .ok (.if_icmp .ne 7, 3) := by decide +kernel
theorem dX12_freeOf_318 : decode cX12_freeOf 318 = .ok (.iconst 0, 1) := by decide +kernel
theorem dX12_freeOf_319 : decode cX12_freeOf 319 = .ok (.goto 23, 3) := by decide +kernel
theorem dX12_freeOf_322 : decode cX12_freeOf 322 = .ok (.aload_n 0, 1) := by decide +kernel
theorem dX12_freeOf_323 : decode cX12_freeOf 323 = .ok (.aload_n 0, 1) := by decide +kernel
theorem dX12_freeOf_324 : decode cX12_freeOf 324 = .ok (.getfield 58, 3) := by decide +kernel
theorem dX12_freeOf_327 : decode cX12_freeOf 327 = .ok (.aload_n 0, 1) := by decide +kernel
theorem dX12_freeOf_328 : decode cX12_freeOf 328 = .ok (.getfield 67, 3) := by decide +kernel
theorem dX12_freeOf_331 : decode cX12_freeOf 331 = .ok (.iload 4, 2) := by decide +kernel
theorem dX12_freeOf_333 : decode cX12_freeOf 333 = .ok (.iaload, 1) := by decide +kernel
theorem dX12_freeOf_334 : decode cX12_freeOf 334 = .ok (.aaload, 1) := by decide +kernel
theorem dX12_freeOf_335 : decode cX12_freeOf 335 = .ok (.iload_n 3, 1) := by decide +kernel
theorem dX12_freeOf_336 : decode cX12_freeOf 336 = .ok (.iaload, 1) := by decide +kernel
theorem dX12_freeOf_337 : decode cX12_freeOf 337 = .ok (.ineg, 1) := by decide +kernel
theorem dX12_freeOf_338 : decode cX12_freeOf 338 = .ok (.i2l, 1) := by decide +kernel
theorem dX12_freeOf_339 : decode cX12_freeOf 339 = .ok (.invokevirtual 250, 3) := by decide +kernel
theorem dX12_freeOf_342 : decode cX12_freeOf 342 = .ok (.iastore, 1) := by decide +kernel
theorem dX12_freeOf_343 : decode cX12_freeOf 343 = .ok (.iinc 4 1, 3) := by decide +kernel
theorem dX12_freeOf_346 : decode cX12_freeOf 346 = .ok (.goto (-69), 3) := by decide +kernel
theorem dX12_freeOf_349 : decode cX12_freeOf 349 = .ok (.iload_n 2, 1) := by decide +kernel
theorem dX12_freeOf_350 : decode cX12_freeOf 350 = .ok (.ireturn, 1) := by decide +kernel
theorem B_X12_freeOf_0 {g : Sg} {c t : Nat} (hL : Lay LM g c t σ)  (h : (Lay LM g c t σ → GG E mX12_freeOf 9 [some (vr 172), some (vi 0), some (vi 0), some (vi (-1)), some (vi 0), none, none, none, none, none, none] [] σ rc rs Q)) : GG E mX12_freeOf 0 [some (vr 172), none, none, none, none, none, none, none, none, none, none] [] σ rc rs Q := by
  refine r_iconst (pc := 0) dX12_freeOf_0 (inRk rfl) ?_
  refine r_istore_n (pc := 1) dX12_freeOf_1 rfl (by decide) (l2 := [some (vr 172), some (vi 0), none, none, none, none, none, none, none, none, none]) rfl ?_
  refine r_iconst (pc := 2) dX12_freeOf_2 (inRk rfl) ?_
  refine r_istore_n (pc := 3) dX12_freeOf_3 rfl (by decide) (l2 := [some (vr 172), some (vi 0), some (vi 0), none, none, none, none, none, none, none, none]) rfl ?_
  refine r_iconst (pc := 4) dX12_freeOf_4 (inRk rfl) ?_
  refine r_istore_n (pc := 5) dX12_freeOf_5 rfl (by decide) (l2 := [some (vr 172), some (vi 0), some (vi 0), some (vi (-1)), none, none, none, none, none, none, none]) rfl ?_
  refine r_iconst (pc := 6) dX12_freeOf_6 (inRk rfl) ?_
  refine r_istore (pc := 7) dX12_freeOf_7 (by decide) (l2 := [some (vr 172), some (vi 0), some (vi 0), some (vi (-1)), some (vi 0), none, none, none, none, none, none]) rfl ?_
  exact (h hL)
theorem B_X12_freeOf_9 {g : Sg} {c t : Nat} (hL : Lay LM g c t σ) {x1 : Int} {x2 : Int} {x3 : Int} {x4 : Int} (h : (((gI σ 172 16) ≤ x4 → (Lay LM g c t σ → GG E mX12_freeOf 277 [some (vr 172), none, some (vi x2), some (vi x3), some (vi 0), none, none, none, none, none, none] [] σ rc rs Q)) ∧ (¬ ((gI σ 172 16) ≤ x4) → (Lay LM g c t σ → GG E mX12_freeOf 21 [some (vr 172), some (vi x1), some (vi x2), some (vi x3), some (vi x4), some (vi x1), none, none, none, none, none] [] σ rc rs Q)))) : GG E mX12_freeOf 9 [some (vr 172), some (vi x1), some (vi x2), some (vi x3), some (vi x4), none, none, none, none, none, none] [] σ rc rs Q := by
  refine r_iload (pc := 9) dX12_freeOf_9 rfl ?_
  refine r_aload_n (pc := 11) dX12_freeOf_11 rfl rfl ?_
  refine r_getI (pc := 12) dX12_freeOf_12 (k9 := 16) CL_12 (by decide) (by decide) w_1431 rfl (okO_of (N := 42) (hL.sh (i := 0) rfl (by decide) (by decide)) (by decide)) (fun _ => ?_)
  refine r_icmp_ge (pc := 15) (tgt := 274) dX12_freeOf_15 (by decide) (fun c9 => ?_) (fun c9 => ?_)
  · replace h := h.1 c9
    refine r_iconst (pc := 274) dX12_freeOf_274 (inRk rfl) ?_
    refine r_istore (pc := 275) dX12_freeOf_275 (by decide) (l2 := [some (vr 172), some (vi x1), some (vi x2), some (vi x3), some (vi 0), none, none, none, none, none, none]) rfl ?_
    exact GG.msk [true, false, true, true, true, false, false, false, false, false, false] (h hL)
  · replace h := h.2 c9
    refine r_iload_n (pc := 18) dX12_freeOf_18 rfl rfl ?_
    refine r_istore (pc := 19) dX12_freeOf_19 (by decide) (l2 := [some (vr 172), some (vi x1), some (vi x2), some (vi x3), some (vi x4), some (vi x1), none, none, none, none, none]) rfl ?_
    exact (h hL)
theorem B_X12_freeOf_21 {g : Sg} {c t : Nat} (hL : Lay LM g c t σ) {x1 : Int} {x2 : Int} {x3 : Int} {x4 : Int} {x5 : Int} (h : (((gI σ 172 16) ≤ x5 → (Lay LM g c t σ → GG E mX12_freeOf 49 [some (vr 172), some (vi x1), some (vi x2), some (vi x3), some (vi x4), some (vi x5), none, none, none, none, none] [] σ rc rs Q)) ∧ (¬ ((gI σ 172 16) ≤ x5) → (0 ≤ x5 ∧ x5 < 48) ∧ ∀ b2 : Nat, b2 = gR σ 2861 x5.toNat → (2862 ≤ b2 ∧ b2 < 2910) → (0 ≤ x4 ∧ x4 < 48) ∧ (((gI σ b2 x4.toNat) ≠ 0 → (Lay LM g c t σ → GG E mX12_freeOf 49 [some (vr 172), some (vi x1), some (vi x2), some (vi x3), some (vi x4), some (vi x5), none, none, none, none, none] [] σ rc rs Q)) ∧ ((gI σ b2 x4.toNat) = 0 → inR (x5 + 1) ∧ (Lay LM g c t σ → GG E mX12_freeOf 21 [some (vr 172), some (vi x1), some (vi x2), some (vi x3), some (vi x4), some (vi (x5 + 1)), none, none, none, none, none] [] σ rc rs Q)))))) : GG E mX12_freeOf 21 [some (vr 172), some (vi x1), some (vi x2), some (vi x3), some (vi x4), some (vi x5), none, none, none, none, none] [] σ rc rs Q := by
  refine r_iload (pc := 21) dX12_freeOf_21 rfl ?_
  refine r_aload_n (pc := 23) dX12_freeOf_23 rfl rfl ?_
  refine r_getI (pc := 24) dX12_freeOf_24 (k9 := 16) CL_12 (by decide) (by decide) w_1431 rfl (okO_of (N := 42) (hL.sh (i := 0) rfl (by decide) (by decide)) (by decide)) (fun _ => ?_)
  refine r_icmp_ge (pc := 27) (tgt := 49) dX12_freeOf_27 (by decide) (fun c9 => ?_) (fun c9 => ?_)
  · replace h := h.1 c9
    exact (h hL)
  · replace h := h.2 c9
    refine r_aload_n (pc := 30) dX12_freeOf_30 rfl rfl ?_
    refine r_getR (pc := 31) dX12_freeOf_31 (k9 := 29) CL_12 (by decide) (by decide) w_1444 rfl (okO_of (N := 42) (hL.sh (i := 0) rfl (by decide) (by decide)) (by decide)) ?_
    refine eqR (y := 2861) (hL.rf (i := 14) rfl) ?_
    refine r_iload (pc := 34) dX12_freeOf_34 rfl ?_
    obtain ⟨o1, h⟩ := h
    refine r_aaload (pc := 36) dX12_freeOf_36 (okB_of (c := 24) (n := 48) (hL.sh (i := 20) rfl (by decide) (by decide)) (by decide) o1) ?_
    refine nmR (fun b2 e9 => ?_)
    have q3 : (2862 ≤ b2 ∧ b2 < 2910) := e9 ▸ hL.rsw (i := 0) rfl (rowC o1 (by decide))
    replace h := h b2 e9 q3
    refine r_iload (pc := 37) dX12_freeOf_37 rfl ?_
    obtain ⟨o4, h⟩ := h
    refine r_iaload (pc := 39) dX12_freeOf_39 (okA_of (c := 20) (n := 48) (hL.sh (i := 21) rfl q3.1 q3.2) (Nat.le_trans (by decide) q3.1) o4) ?_
    refine r_if_ne (pc := 40) (tgt := 49) dX12_freeOf_40 (by decide) (fun c9 => ?_) (fun c9 => ?_)
    · replace h := h.1 c9
      exact (h hL)
    · replace h := h.2 c9
      obtain ⟨o5, h⟩ := h
      refine r_iinc (pc := 43) dX12_freeOf_43 rfl (by decide) o5 (l2 := [some (vr 172), some (vi x1), some (vi x2), some (vi x3), some (vi x4), some (vi (x5 + 1)), none, none, none, none, none]) rfl ?_
      refine r_goto (pc := 46) (tgt := 21) dX12_freeOf_46 (by decide) ?_
      exact (h hL)
theorem B_X12_freeOf_49 {g : Sg} {c t : Nat} (hL : Lay LM g c t σ) {x1 : Int} {x2 : Int} {x3 : Int} {x4 : Int} {x5 : Int} (h : (0 ≤ x4 ∧ x4 < 48) ∧ ∀ τ2 : Sg, τ2 = sI σ 2912 x4.toNat (-1) → ((x5 ≠ (gI τ2 172 16) → (0 ≤ x5 ∧ x5 < 48) ∧ ∀ b4 : Nat, b4 = gR τ2 2861 x5.toNat → (2862 ≤ b4 ∧ b4 < 2910) → (0 ≤ x1 ∧ x1 < 48) ∧ ∀ b7 : Nat, b7 = gR τ2 2861 x1.toNat → (2862 ≤ b7 ∧ b7 < 2910) → ∀ τ9 : Sg, τ9 = sR τ2 2861 x5.toNat b7 → ∀ τ10 : Sg, τ10 = sR τ9 2861 x1.toNat b4 → ∀ b11 : Nat, b11 = gR τ10 2861 x1.toNat → (2862 ≤ b11 ∧ b11 < 2910) → (Lay LM g c t τ10 → GG E mX12_freeOf 119 [some (vr 172), some (vi x1), some (vi x2), some (vi x3), some (vi x4), none, none, some (vi (gI τ10 b11 x4.toNat)), some (vi 0), none, none] [] τ10 rc rs Q)) ∧ (x5 = (gI τ2 172 16) → inR (x2 + 1) ∧ inR (x4 + 1) ∧ (Lay LM g c t τ2 → GG E mX12_freeOf 9 [some (vr 172), some (vi x1), some (vi (x2 + 1)), some (vi x4), some (vi (x4 + 1)), none, none, none, none, none, none] [] τ2 rc rs Q)))) : GG E mX12_freeOf 49 [some (vr 172), some (vi x1), some (vi x2), some (vi x3), some (vi x4), some (vi x5), none, none, none, none, none] [] σ rc rs Q := by
  refine r_aload_n (pc := 49) dX12_freeOf_49 rfl rfl ?_
  refine r_getR (pc := 50) dX12_freeOf_50 (k9 := 32) CL_12 (by decide) (by decide) w_1447 rfl (okO_of (N := 42) (hL.sh (i := 0) rfl (by decide) (by decide)) (by decide)) ?_
  refine eqR (y := 2912) (hL.rf (i := 17) rfl) ?_
  refine r_iload (pc := 53) dX12_freeOf_53 rfl ?_
  refine r_iconst (pc := 55) dX12_freeOf_55 (inRk rfl) ?_
  obtain ⟨o1, h⟩ := h
  refine r_iastore (pc := 56) dX12_freeOf_56 (okB_of (c := 20) (n := 48) (hL.sh (i := 24) rfl (by decide) (by decide)) (by decide) o1) ?_
  refine nmS (fun τ2 e2 => ?_)
  replace h := h τ2 e2
  have hL := hL.wI e2 (by decide) (.inl (by decide))
  refine r_iload (pc := 57) dX12_freeOf_57 rfl ?_
  refine r_aload_n (pc := 59) dX12_freeOf_59 rfl rfl ?_
  refine r_getI (pc := 60) dX12_freeOf_60 (k9 := 16) CL_12 (by decide) (by decide) w_1431 rfl (okO_of (N := 42) (hL.sh (i := 0) rfl (by decide) (by decide)) (by decide)) (fun _ => ?_)
  refine r_icmp_ne (pc := 63) (tgt := 75) dX12_freeOf_63 (by decide) (fun c9 => ?_) (fun c9 => ?_)
  · replace h := h.1 c9
    refine r_aload_n (pc := 75) dX12_freeOf_75 rfl rfl ?_
    refine r_getR (pc := 76) dX12_freeOf_76 (k9 := 29) CL_12 (by decide) (by decide) w_1444 rfl (okO_of (N := 42) (hL.sh (i := 0) rfl (by decide) (by decide)) (by decide)) ?_
    refine eqR (y := 2861) (hL.rf (i := 14) rfl) ?_
    refine r_iload (pc := 79) dX12_freeOf_79 rfl ?_
    obtain ⟨o3, h⟩ := h
    refine r_aaload (pc := 81) dX12_freeOf_81 (okB_of (c := 24) (n := 48) (hL.sh (i := 20) rfl (by decide) (by decide)) (by decide) o3) ?_
    refine nmR (fun b4 e9 => ?_)
    have q5 : (2862 ≤ b4 ∧ b4 < 2910) := e9 ▸ hL.rsw (i := 0) rfl (rowC o3 (by decide))
    replace h := h b4 e9 q5
    refine r_astore (pc := 82) dX12_freeOf_82 (by decide) (l2 := [some (vr 172), some (vi x1), some (vi x2), some (vi x3), some (vi x4), some (vi x5), some (vr b4), none, none, none, none]) rfl ?_
    refine r_aload_n (pc := 84) dX12_freeOf_84 rfl rfl ?_
    refine r_getR (pc := 85) dX12_freeOf_85 (k9 := 29) CL_12 (by decide) (by decide) w_1444 rfl (okO_of (N := 42) (hL.sh (i := 0) rfl (by decide) (by decide)) (by decide)) ?_
    refine eqR (y := 2861) (hL.rf (i := 14) rfl) ?_
    refine r_iload (pc := 88) dX12_freeOf_88 rfl ?_
    refine r_aload_n (pc := 90) dX12_freeOf_90 rfl rfl ?_
    refine r_getR (pc := 91) dX12_freeOf_91 (k9 := 29) CL_12 (by decide) (by decide) w_1444 rfl (okO_of (N := 42) (hL.sh (i := 0) rfl (by decide) (by decide)) (by decide)) ?_
    refine eqR (y := 2861) (hL.rf (i := 14) rfl) ?_
    refine r_iload_n (pc := 94) dX12_freeOf_94 rfl rfl ?_
    obtain ⟨o6, h⟩ := h
    refine r_aaload (pc := 95) dX12_freeOf_95 (okB_of (c := 24) (n := 48) (hL.sh (i := 20) rfl (by decide) (by decide)) (by decide) o6) ?_
    refine nmR (fun b7 e9 => ?_)
    have q8 : (2862 ≤ b7 ∧ b7 < 2910) := e9 ▸ hL.rsw (i := 0) rfl (rowC o6 (by decide))
    replace h := h b7 e9 q8
    refine r_aastore (pc := 96) dX12_freeOf_96 (okB_of (c := 24) (n := 48) (hL.sh (i := 20) rfl (by decide) (by decide)) (by decide) o3) ⟨(Nat.le_trans (by decide) q8.1), by rw [(hL.sh (i := 21) rfl q8.1 q8.2)]⟩ ?_
    refine nmS (fun τ9 e9 => ?_)
    replace h := h τ9 e9
    have hL := hL.wR e9 (i := 0) rfl q8 (by decide) (by decide)
    refine r_aload_n (pc := 97) dX12_freeOf_97 rfl rfl ?_
    refine r_getR (pc := 98) dX12_freeOf_98 (k9 := 29) CL_12 (by decide) (by decide) w_1444 rfl (okO_of (N := 42) (hL.sh (i := 0) rfl (by decide) (by decide)) (by decide)) ?_
    refine eqR (y := 2861) (hL.rf (i := 14) rfl) ?_
    refine r_iload_n (pc := 101) dX12_freeOf_101 rfl rfl ?_
    refine r_aload (pc := 102) dX12_freeOf_102 rfl ?_
    refine r_aastore (pc := 104) dX12_freeOf_104 (okB_of (c := 24) (n := 48) (hL.sh (i := 20) rfl (by decide) (by decide)) (by decide) o6) ⟨(Nat.le_trans (by decide) q5.1), by rw [(hL.sh (i := 21) rfl q5.1 q5.2)]⟩ ?_
    refine nmS (fun τ10 e10 => ?_)
    replace h := h τ10 e10
    have hL := hL.wR e10 (i := 0) rfl q5 (by decide) (by decide)
    refine r_aload_n (pc := 105) dX12_freeOf_105 rfl rfl ?_
    refine r_getR (pc := 106) dX12_freeOf_106 (k9 := 29) CL_12 (by decide) (by decide) w_1444 rfl (okO_of (N := 42) (hL.sh (i := 0) rfl (by decide) (by decide)) (by decide)) ?_
    refine eqR (y := 2861) (hL.rf (i := 14) rfl) ?_
    refine r_iload_n (pc := 109) dX12_freeOf_109 rfl rfl ?_
    refine r_aaload (pc := 110) dX12_freeOf_110 (okB_of (c := 24) (n := 48) (hL.sh (i := 20) rfl (by decide) (by decide)) (by decide) o6) ?_
    refine nmR (fun b11 e9 => ?_)
    have q12 : (2862 ≤ b11 ∧ b11 < 2910) := e9 ▸ hL.rsw (i := 0) rfl (rowC o6 (by decide))
    replace h := h b11 e9 q12
    refine r_iload (pc := 111) dX12_freeOf_111 rfl ?_
    refine r_iaload (pc := 113) dX12_freeOf_113 (okA_of (c := 20) (n := 48) (hL.sh (i := 21) rfl q12.1 q12.2) (Nat.le_trans (by decide) q12.1) o1) ?_
    refine r_istore (pc := 114) dX12_freeOf_114 (by decide) (l2 := [some (vr 172), some (vi x1), some (vi x2), some (vi x3), some (vi x4), some (vi x5), some (vr b4), some (vi (gI τ10 b11 x4.toNat)), none, none, none]) rfl ?_
    refine r_iconst (pc := 116) dX12_freeOf_116 (inRk rfl) ?_
    refine r_istore (pc := 117) dX12_freeOf_117 (by decide) (l2 := [some (vr 172), some (vi x1), some (vi x2), some (vi x3), some (vi x4), some (vi x5), some (vr b4), some (vi (gI τ10 b11 x4.toNat)), some (vi 0), none, none]) rfl ?_
    exact GG.msk [true, true, true, true, true, false, false, true, true, false, false] (h hL)
  · replace h := h.2 c9
    obtain ⟨o13, h⟩ := h
    refine r_iinc (pc := 66) dX12_freeOf_66 rfl (by decide) o13 (l2 := [some (vr 172), some (vi x1), some (vi (x2 + 1)), some (vi x3), some (vi x4), some (vi x5), none, none, none, none, none]) rfl ?_
    refine r_iload (pc := 69) dX12_freeOf_69 rfl ?_
    refine r_istore_n (pc := 71) dX12_freeOf_71 rfl (by decide) (l2 := [some (vr 172), some (vi x1), some (vi (x2 + 1)), some (vi x4), some (vi x4), some (vi x5), none, none, none, none, none]) rfl ?_
    refine r_goto (pc := 72) (tgt := 268) dX12_freeOf_72 (by decide) ?_
    obtain ⟨o14, h⟩ := h
    refine r_iinc (pc := 268) dX12_freeOf_268 rfl (by decide) o14 (l2 := [some (vr 172), some (vi x1), some (vi (x2 + 1)), some (vi x4), some (vi (x4 + 1)), some (vi x5), none, none, none, none, none]) rfl ?_
    refine r_goto (pc := 271) (tgt := 9) dX12_freeOf_271 (by decide) ?_
    exact GG.msk [true, true, true, true, true, false, false, false, false, false, false] (h hL)
theorem B_X12_freeOf_119 {g : Sg} {c t : Nat} (hL : Lay LM g c t σ) {x1 : Int} {x2 : Int} {x3 : Int} {x4 : Int} {x7 : Int} {x8 : Int} (h : (((gI σ 172 16) ≤ x8 → (Lay LM g c t σ → GG E mX12_freeOf 161 [some (vr 172), some (vi x1), some (vi x2), some (vi x3), some (vi x4), none, none, none, some (vi 0), none, none] [] σ rc rs Q)) ∧ (¬ ((gI σ 172 16) ≤ x8) → (0 ≤ x1 ∧ x1 < 48) ∧ ∀ b2 : Nat, b2 = gR σ 2861 x1.toNat → (2862 ≤ b2 ∧ b2 < 2910) → ∀ b4 : Nat, b4 = gR σ 2861 x1.toNat → (2862 ≤ b4 ∧ b4 < 2910) → (0 ≤ x8 ∧ x8 < 48) ∧ (Lay LM g c t σ → CC E mX12_over [vr 172, vi (gI σ b4 x8.toNat), vi x7] σ (KI (fun r7 τ8 => Lay LM g c t τ8 ∧ (inR r7 → ∀ τ9 : Sg, τ9 = sI τ8 b2 x8.toNat r7 → inR (x8 + 1) ∧ (Lay LM g c t τ9 → GG E mX12_freeOf 119 [some (vr 172), some (vi x1), some (vi x2), some (vi x3), some (vi x4), none, none, some (vi x7), some (vi (x8 + 1)), none, none] [] τ9 rc rs Q))) (fun _ _ => False)))))) : GG E mX12_freeOf 119 [some (vr 172), some (vi x1), some (vi x2), some (vi x3), some (vi x4), none, none, some (vi x7), some (vi x8), none, none] [] σ rc rs Q := by
  refine r_iload (pc := 119) dX12_freeOf_119 rfl ?_
  refine r_aload_n (pc := 121) dX12_freeOf_121 rfl rfl ?_
  refine r_getI (pc := 122) dX12_freeOf_122 (k9 := 16) CL_12 (by decide) (by decide) w_1431 rfl (okO_of (N := 42) (hL.sh (i := 0) rfl (by decide) (by decide)) (by decide)) (fun _ => ?_)
  refine r_icmp_ge (pc := 125) (tgt := 158) dX12_freeOf_125 (by decide) (fun c9 => ?_) (fun c9 => ?_)
  · replace h := h.1 c9
    refine r_iconst (pc := 158) dX12_freeOf_158 (inRk rfl) ?_
    refine r_istore (pc := 159) dX12_freeOf_159 (by decide) (l2 := [some (vr 172), some (vi x1), some (vi x2), some (vi x3), some (vi x4), none, none, some (vi x7), some (vi 0), none, none]) rfl ?_
    exact GG.msk [true, true, true, true, true, false, false, false, true, false, false] (h hL)
  · replace h := h.2 c9
    refine r_aload_n (pc := 128) dX12_freeOf_128 rfl rfl ?_
    refine r_getR (pc := 129) dX12_freeOf_129 (k9 := 29) CL_12 (by decide) (by decide) w_1444 rfl (okO_of (N := 42) (hL.sh (i := 0) rfl (by decide) (by decide)) (by decide)) ?_
    refine eqR (y := 2861) (hL.rf (i := 14) rfl) ?_
    refine r_iload_n (pc := 132) dX12_freeOf_132 rfl rfl ?_
    obtain ⟨o1, h⟩ := h
    refine r_aaload (pc := 133) dX12_freeOf_133 (okB_of (c := 24) (n := 48) (hL.sh (i := 20) rfl (by decide) (by decide)) (by decide) o1) ?_
    refine nmR (fun b2 e9 => ?_)
    have q3 : (2862 ≤ b2 ∧ b2 < 2910) := e9 ▸ hL.rsw (i := 0) rfl (rowC o1 (by decide))
    replace h := h b2 e9 q3
    refine r_iload (pc := 134) dX12_freeOf_134 rfl ?_
    refine r_aload_n (pc := 136) dX12_freeOf_136 rfl rfl ?_
    refine r_aload_n (pc := 137) dX12_freeOf_137 rfl rfl ?_
    refine r_getR (pc := 138) dX12_freeOf_138 (k9 := 29) CL_12 (by decide) (by decide) w_1444 rfl (okO_of (N := 42) (hL.sh (i := 0) rfl (by decide) (by decide)) (by decide)) ?_
    refine eqR (y := 2861) (hL.rf (i := 14) rfl) ?_
    refine r_iload_n (pc := 141) dX12_freeOf_141 rfl rfl ?_
    refine r_aaload (pc := 142) dX12_freeOf_142 (okB_of (c := 24) (n := 48) (hL.sh (i := 20) rfl (by decide) (by decide)) (by decide) o1) ?_
    refine nmR (fun b4 e9 => ?_)
    have q5 : (2862 ≤ b4 ∧ b4 < 2910) := e9 ▸ hL.rsw (i := 0) rfl (rowC o1 (by decide))
    replace h := h b4 e9 q5
    refine r_iload (pc := 143) dX12_freeOf_143 rfl ?_
    obtain ⟨o6, h⟩ := h
    refine r_iaload (pc := 145) dX12_freeOf_145 (okA_of (c := 20) (n := 48) (hL.sh (i := 21) rfl q5.1 q5.2) (Nat.le_trans (by decide) q5.1) o6) ?_
    refine r_iload (pc := 146) dX12_freeOf_146 rfl ?_
    refine c_VI0N (M := mX12_freeOf) (pc := 148) (As := [vi (gI σ b4 x8.toNat), vi x7]) dX12_freeOf_148 K_X12_over w_1674 ⟨by decide, by decide⟩ (Nat.le_of_ble_eq_true rfl) rfl rfl (ci := 12) rfl rfl (by decide) (okO_of (N := 42) (hL.sh (i := 0) rfl (by decide) (by decide)) (by decide)) (h hL) (fun r7 τ8 h8 hr9 => ?_) rfl
    replace hL := h8.1
    replace h := h8.2 hr9
    refine r_iastore (pc := 151) dX12_freeOf_151 (okB_of (c := 20) (n := 48) (hL.sh (i := 21) rfl q3.1 q3.2) (Nat.le_trans (by decide) q3.1) o6) ?_
    refine nmS (fun τ9 e9 => ?_)
    replace h := h τ9 e9
    have hL := hL.wI e9 (Nat.le_trans (by decide) q3.1) (.inl ⟨Nat.le_trans (by decide) q3.1, Nat.lt_of_lt_of_le q3.2 (by decide)⟩)
    obtain ⟨o10, h⟩ := h
    refine r_iinc (pc := 152) dX12_freeOf_152 rfl (by decide) o10 (l2 := [some (vr 172), some (vi x1), some (vi x2), some (vi x3), some (vi x4), none, none, some (vi x7), some (vi (x8 + 1)), none, none]) rfl ?_
    refine r_goto (pc := 155) (tgt := 119) dX12_freeOf_155 (by decide) ?_
    exact (h hL)
theorem B_X12_freeOf_161 {g : Sg} {c t : Nat} (hL : Lay LM g c t σ) {x1 : Int} {x2 : Int} {x3 : Int} {x4 : Int} {x8 : Int} (h : (((gI σ 172 16) ≤ x8 → (0 ≤ x4 ∧ x4 < 48) ∧ ∀ τ2 : Sg, τ2 = sI σ 2912 x4.toNat x1 → inR (x1 + 1) ∧ inR (x4 + 1) ∧ (Lay LM g c t τ2 → GG E mX12_freeOf 9 [some (vr 172), some (vi (x1 + 1)), some (vi x2), some (vi x3), some (vi (x4 + 1)), none, none, none, none, none, none] [] τ2 rc rs Q)) ∧ (¬ ((gI σ 172 16) ≤ x8) → (0 ≤ x8 ∧ x8 < 48) ∧ ∀ b6 : Nat, b6 = gR σ 2861 x8.toNat → (2862 ≤ b6 ∧ b6 < 2910) → (0 ≤ x4 ∧ x4 < 48) ∧ (Lay LM g c t σ → GG E mX12_freeOf 185 [some (vr 172), some (vi x1), some (vi x2), some (vi x3), some (vi x4), none, none, none, some (vi x8), some (vi (gI σ b6 x4.toNat)), some (vi 0)] [] σ rc rs Q)))) : GG E mX12_freeOf 161 [some (vr 172), some (vi x1), some (vi x2), some (vi x3), some (vi x4), none, none, none, some (vi x8), none, none] [] σ rc rs Q := by
  refine r_iload (pc := 161) dX12_freeOf_161 rfl ?_
  refine r_aload_n (pc := 163) dX12_freeOf_163 rfl rfl ?_
  refine r_getI (pc := 164) dX12_freeOf_164 (k9 := 16) CL_12 (by decide) (by decide) w_1431 rfl (okO_of (N := 42) (hL.sh (i := 0) rfl (by decide) (by decide)) (by decide)) (fun _ => ?_)
  refine r_icmp_ge (pc := 167) (tgt := 257) dX12_freeOf_167 (by decide) (fun c9 => ?_) (fun c9 => ?_)
  · replace h := h.1 c9
    refine r_aload_n (pc := 257) dX12_freeOf_257 rfl rfl ?_
    refine r_getR (pc := 258) dX12_freeOf_258 (k9 := 32) CL_12 (by decide) (by decide) w_1447 rfl (okO_of (N := 42) (hL.sh (i := 0) rfl (by decide) (by decide)) (by decide)) ?_
    refine eqR (y := 2912) (hL.rf (i := 17) rfl) ?_
    refine r_iload (pc := 261) dX12_freeOf_261 rfl ?_
    refine r_iload_n (pc := 263) dX12_freeOf_263 rfl rfl ?_
    obtain ⟨o1, h⟩ := h
    refine r_iastore (pc := 264) dX12_freeOf_264 (okB_of (c := 20) (n := 48) (hL.sh (i := 24) rfl (by decide) (by decide)) (by decide) o1) ?_
    refine nmS (fun τ2 e2 => ?_)
    replace h := h τ2 e2
    have hL := hL.wI e2 (by decide) (.inl (by decide))
    obtain ⟨o3, h⟩ := h
    refine r_iinc (pc := 265) dX12_freeOf_265 rfl (by decide) o3 (l2 := [some (vr 172), some (vi (x1 + 1)), some (vi x2), some (vi x3), some (vi x4), none, none, none, some (vi x8), none, none]) rfl ?_
    obtain ⟨o4, h⟩ := h
    refine r_iinc (pc := 268) dX12_freeOf_268 rfl (by decide) o4 (l2 := [some (vr 172), some (vi (x1 + 1)), some (vi x2), some (vi x3), some (vi (x4 + 1)), none, none, none, some (vi x8), none, none]) rfl ?_
    refine r_goto (pc := 271) (tgt := 9) dX12_freeOf_271 (by decide) ?_
    exact GG.msk [true, true, true, true, true, false, false, false, false, false, false] (h hL)
  · replace h := h.2 c9
    refine r_aload_n (pc := 170) dX12_freeOf_170 rfl rfl ?_
    refine r_getR (pc := 171) dX12_freeOf_171 (k9 := 29) CL_12 (by decide) (by decide) w_1444 rfl (okO_of (N := 42) (hL.sh (i := 0) rfl (by decide) (by decide)) (by decide)) ?_
    refine eqR (y := 2861) (hL.rf (i := 14) rfl) ?_
    refine r_iload (pc := 174) dX12_freeOf_174 rfl ?_
    obtain ⟨o5, h⟩ := h
    refine r_aaload (pc := 176) dX12_freeOf_176 (okB_of (c := 24) (n := 48) (hL.sh (i := 20) rfl (by decide) (by decide)) (by decide) o5) ?_
    refine nmR (fun b6 e9 => ?_)
    have q7 : (2862 ≤ b6 ∧ b6 < 2910) := e9 ▸ hL.rsw (i := 0) rfl (rowC o5 (by decide))
    replace h := h b6 e9 q7
    refine r_iload (pc := 177) dX12_freeOf_177 rfl ?_
    obtain ⟨o8, h⟩ := h
    refine r_iaload (pc := 179) dX12_freeOf_179 (okA_of (c := 20) (n := 48) (hL.sh (i := 21) rfl q7.1 q7.2) (Nat.le_trans (by decide) q7.1) o8) ?_
    refine r_istore (pc := 180) dX12_freeOf_180 (by decide) (l2 := [some (vr 172), some (vi x1), some (vi x2), some (vi x3), some (vi x4), none, none, none, some (vi x8), some (vi (gI σ b6 x4.toNat)), none]) rfl ?_
    refine r_iconst (pc := 182) dX12_freeOf_182 (inRk rfl) ?_
    refine r_istore (pc := 183) dX12_freeOf_183 (by decide) (l2 := [some (vr 172), some (vi x1), some (vi x2), some (vi x3), some (vi x4), none, none, none, some (vi x8), some (vi (gI σ b6 x4.toNat)), some (vi 0)]) rfl ?_
    exact (h hL)
theorem B_X12_freeOf_185 {g : Sg} {c t : Nat} (hL : Lay LM g c t σ) {x1 : Int} {x2 : Int} {x3 : Int} {x4 : Int} {x8 : Int} {x9 : Int} {x10 : Int} (h : (((gI σ 172 16) ≤ x10 → inR (x8 + 1) ∧ (Lay LM g c t σ → GG E mX12_freeOf 161 [some (vr 172), some (vi x1), some (vi x2), some (vi x3), some (vi x4), none, none, none, some (vi (x8 + 1)), none, none] [] σ rc rs Q)) ∧ (¬ ((gI σ 172 16) ≤ x10) → ((x8 = x1 → inR (x8 + 1) ∧ (Lay LM g c t σ → GG E mX12_freeOf 161 [some (vr 172), some (vi x1), some (vi x2), some (vi x3), some (vi x4), none, none, none, some (vi (x8 + 1)), none, none] [] σ rc rs Q)) ∧ (¬ (x8 = x1) → ((x9 = 0 → inR (x8 + 1) ∧ (Lay LM g c t σ → GG E mX12_freeOf 161 [some (vr 172), some (vi x1), some (vi x2), some (vi x3), some (vi x4), none, none, none, some (vi (x8 + 1)), none, none] [] σ rc rs Q)) ∧ (¬ (x9 = 0) → (0 ≤ x8 ∧ x8 < 48) ∧ ∀ b5 : Nat, b5 = gR σ 2861 x8.toNat → (2862 ≤ b5 ∧ b5 < 2910) → ∀ b7 : Nat, b7 = gR σ 2861 x8.toNat → (2862 ≤ b7 ∧ b7 < 2910) → (0 ≤ x10 ∧ x10 < 48) ∧ (0 ≤ x1 ∧ x1 < 48) ∧ ∀ b11 : Nat, b11 = gR σ 2861 x1.toNat → (2862 ≤ b11 ∧ b11 < 2910) → ∀ v13 : Int, v13 = wL ((gI σ b7 x10.toNat) - (wL (x9 * (gI σ b11 x10.toNat)))) → (Lay LM g c t σ → CC E mX12_mod [vr 172, vl v13] σ (KI (fun r14 τ15 => Lay LM g c t τ15 ∧ (inR r14 → ∀ τ16 : Sg, τ16 = sI τ15 b5 x10.toNat r14 → inR (x10 + 1) ∧ (Lay LM g c t τ16 → GG E mX12_freeOf 185 [some (vr 172), some (vi x1), some (vi x2), some (vi x3), some (vi x4), none, none, none, some (vi x8), some (vi x9), some (vi (x10 + 1))] [] τ16 rc rs Q))) (fun _ _ => False)))))))))) : GG E mX12_freeOf 185 [some (vr 172), some (vi x1), some (vi x2), some (vi x3), some (vi x4), none, none, none, some (vi x8), some (vi x9), some (vi x10)] [] σ rc rs Q := by
  refine r_iload (pc := 185) dX12_freeOf_185 rfl ?_
  refine r_aload_n (pc := 187) dX12_freeOf_187 rfl rfl ?_
  refine r_getI (pc := 188) dX12_freeOf_188 (k9 := 16) CL_12 (by decide) (by decide) w_1431 rfl (okO_of (N := 42) (hL.sh (i := 0) rfl (by decide) (by decide)) (by decide)) (fun _ => ?_)
  refine r_icmp_ge (pc := 191) (tgt := 251) dX12_freeOf_191 (by decide) (fun c9 => ?_) (fun c9 => ?_)
  · replace h := h.1 c9
    obtain ⟨o1, h⟩ := h
    refine r_iinc (pc := 251) dX12_freeOf_251 rfl (by decide) o1 (l2 := [some (vr 172), some (vi x1), some (vi x2), some (vi x3), some (vi x4), none, none, none, some (vi (x8 + 1)), some (vi x9), some (vi x10)]) rfl ?_
    refine r_goto (pc := 254) (tgt := 161) dX12_freeOf_254 (by decide) ?_
    exact GG.msk [true, true, true, true, true, false, false, false, true, false, false] (h hL)
  · replace h := h.2 c9
    refine r_iload (pc := 194) dX12_freeOf_194 rfl ?_
    refine r_iload_n (pc := 196) dX12_freeOf_196 rfl rfl ?_
    refine r_icmp_eq (pc := 197) (tgt := 251) dX12_freeOf_197 (by decide) (fun c9 => ?_) (fun c9 => ?_)
    · replace h := h.1 c9
      obtain ⟨o2, h⟩ := h
      refine r_iinc (pc := 251) dX12_freeOf_251 rfl (by decide) o2 (l2 := [some (vr 172), some (vi x1), some (vi x2), some (vi x3), some (vi x4), none, none, none, some (vi (x8 + 1)), some (vi x9), some (vi x10)]) rfl ?_
      refine r_goto (pc := 254) (tgt := 161) dX12_freeOf_254 (by decide) ?_
      exact GG.msk [true, true, true, true, true, false, false, false, true, false, false] (h hL)
    · replace h := h.2 c9
      refine r_iload (pc := 200) dX12_freeOf_200 rfl ?_
      refine r_if_eq (pc := 202) (tgt := 251) dX12_freeOf_202 (by decide) (fun c9 => ?_) (fun c9 => ?_)
      · replace h := h.1 c9
        obtain ⟨o3, h⟩ := h
        refine r_iinc (pc := 251) dX12_freeOf_251 rfl (by decide) o3 (l2 := [some (vr 172), some (vi x1), some (vi x2), some (vi x3), some (vi x4), none, none, none, some (vi (x8 + 1)), some (vi x9), some (vi x10)]) rfl ?_
        refine r_goto (pc := 254) (tgt := 161) dX12_freeOf_254 (by decide) ?_
        exact GG.msk [true, true, true, true, true, false, false, false, true, false, false] (h hL)
      · replace h := h.2 c9
        refine r_aload_n (pc := 205) dX12_freeOf_205 rfl rfl ?_
        refine r_getR (pc := 206) dX12_freeOf_206 (k9 := 29) CL_12 (by decide) (by decide) w_1444 rfl (okO_of (N := 42) (hL.sh (i := 0) rfl (by decide) (by decide)) (by decide)) ?_
        refine eqR (y := 2861) (hL.rf (i := 14) rfl) ?_
        refine r_iload (pc := 209) dX12_freeOf_209 rfl ?_
        obtain ⟨o4, h⟩ := h
        refine r_aaload (pc := 211) dX12_freeOf_211 (okB_of (c := 24) (n := 48) (hL.sh (i := 20) rfl (by decide) (by decide)) (by decide) o4) ?_
        refine nmR (fun b5 e9 => ?_)
        have q6 : (2862 ≤ b5 ∧ b5 < 2910) := e9 ▸ hL.rsw (i := 0) rfl (rowC o4 (by decide))
        replace h := h b5 e9 q6
        refine r_iload (pc := 212) dX12_freeOf_212 rfl ?_
        refine r_aload_n (pc := 214) dX12_freeOf_214 rfl rfl ?_
        refine r_aload_n (pc := 215) dX12_freeOf_215 rfl rfl ?_
        refine r_getR (pc := 216) dX12_freeOf_216 (k9 := 29) CL_12 (by decide) (by decide) w_1444 rfl (okO_of (N := 42) (hL.sh (i := 0) rfl (by decide) (by decide)) (by decide)) ?_
        refine eqR (y := 2861) (hL.rf (i := 14) rfl) ?_
        refine r_iload (pc := 219) dX12_freeOf_219 rfl ?_
        refine r_aaload (pc := 221) dX12_freeOf_221 (okB_of (c := 24) (n := 48) (hL.sh (i := 20) rfl (by decide) (by decide)) (by decide) o4) ?_
        refine nmR (fun b7 e9 => ?_)
        have q8 : (2862 ≤ b7 ∧ b7 < 2910) := e9 ▸ hL.rsw (i := 0) rfl (rowC o4 (by decide))
        replace h := h b7 e9 q8
        refine r_iload (pc := 222) dX12_freeOf_222 rfl ?_
        obtain ⟨o9, h⟩ := h
        refine r_iaload (pc := 224) dX12_freeOf_224 (okA_of (c := 20) (n := 48) (hL.sh (i := 21) rfl q8.1 q8.2) (Nat.le_trans (by decide) q8.1) o9) ?_
        refine r_i2l (pc := 225) dX12_freeOf_225 ?_
        refine r_iload (pc := 226) dX12_freeOf_226 rfl ?_
        refine r_i2l (pc := 228) dX12_freeOf_228 ?_
        refine r_aload_n (pc := 229) dX12_freeOf_229 rfl rfl ?_
        refine r_getR (pc := 230) dX12_freeOf_230 (k9 := 29) CL_12 (by decide) (by decide) w_1444 rfl (okO_of (N := 42) (hL.sh (i := 0) rfl (by decide) (by decide)) (by decide)) ?_
        refine eqR (y := 2861) (hL.rf (i := 14) rfl) ?_
        refine r_iload_n (pc := 233) dX12_freeOf_233 rfl rfl ?_
        obtain ⟨o10, h⟩ := h
        refine r_aaload (pc := 234) dX12_freeOf_234 (okB_of (c := 24) (n := 48) (hL.sh (i := 20) rfl (by decide) (by decide)) (by decide) o10) ?_
        refine nmR (fun b11 e9 => ?_)
        have q12 : (2862 ≤ b11 ∧ b11 < 2910) := e9 ▸ hL.rsw (i := 0) rfl (rowC o10 (by decide))
        replace h := h b11 e9 q12
        refine r_iload (pc := 235) dX12_freeOf_235 rfl ?_
        refine r_iaload (pc := 237) dX12_freeOf_237 (okA_of (c := 20) (n := 48) (hL.sh (i := 21) rfl q12.1 q12.2) (Nat.le_trans (by decide) q12.1) o9) ?_
        refine r_i2l (pc := 238) dX12_freeOf_238 ?_
        refine r_lmul (pc := 239) dX12_freeOf_239 ?_
        refine r_lsub (pc := 240) dX12_freeOf_240 ?_
        refine nmL (fun v13 e9 => ?_)
        replace h := h v13 e9
        refine c_VI0N (M := mX12_freeOf) (pc := 241) (As := [vl v13]) dX12_freeOf_241 K_X12_mod w_1666 ⟨by decide, by decide⟩ (Nat.le_of_ble_eq_true rfl) rfl rfl (ci := 12) rfl rfl (by decide) (okO_of (N := 42) (hL.sh (i := 0) rfl (by decide) (by decide)) (by decide)) (h hL) (fun r14 τ15 h8 hr9 => ?_) rfl
        replace hL := h8.1
        replace h := h8.2 hr9
        refine r_iastore (pc := 244) dX12_freeOf_244 (okB_of (c := 20) (n := 48) (hL.sh (i := 21) rfl q6.1 q6.2) (Nat.le_trans (by decide) q6.1) o9) ?_
        refine nmS (fun τ16 e16 => ?_)
        replace h := h τ16 e16
        have hL := hL.wI e16 (Nat.le_trans (by decide) q6.1) (.inl ⟨Nat.le_trans (by decide) q6.1, Nat.lt_of_lt_of_le q6.2 (by decide)⟩)
        obtain ⟨o17, h⟩ := h
        refine r_iinc (pc := 245) dX12_freeOf_245 rfl (by decide) o17 (l2 := [some (vr 172), some (vi x1), some (vi x2), some (vi x3), some (vi x4), none, none, none, some (vi x8), some (vi x9), some (vi (x10 + 1))]) rfl ?_
        refine r_goto (pc := 248) (tgt := 185) dX12_freeOf_248 (by decide) ?_
        exact (h hL)
theorem B_X12_freeOf_277 {g : Sg} {c t : Nat} (hL : Lay LM g c t σ) {x2 : Int} {x3 : Int} {x4 : Int} (h : (((gI σ 172 16) ≤ x4 → (Lay LM g c t σ → Q (.inl (some (vi x2))) σ)) ∧ (¬ ((gI σ 172 16) ≤ x4) → ((x3 = (-1) → (Lay LM g c t σ → Q (.inl (some (vi x2))) σ)) ∧ (¬ (x3 = (-1)) → ((x4 ≠ x3 → (0 ≤ x4 ∧ x4 < 48) ∧ (((gI σ 2912 x4.toNat) ≠ (-1) → (0 ≤ (gI σ 2912 x4.toNat) ∧ (gI σ 2912 x4.toNat) < 48) ∧ ∀ b3 : Nat, b3 = gR σ 2861 (gI σ 2912 x4.toNat).toNat → (2862 ≤ b3 ∧ b3 < 2910) → (0 ≤ x3 ∧ x3 < 48) ∧ inR (-(gI σ b3 x3.toNat)) ∧ (Lay LM g c t σ → CC E mX12_mod [vr 172, vl (-(gI σ b3 x3.toNat))] σ (KI (fun r7 τ8 => Lay LM g c t τ8 ∧ (inR r7 → ∀ τ9 : Sg, τ9 = sI τ8 2911 x4.toNat r7 → inR (x4 + 1) ∧ (Lay LM g c t τ9 → GG E mX12_freeOf 277 [some (vr 172), none, some (vi x2), some (vi x3), some (vi (x4 + 1)), none, none, none, none, none, none] [] τ9 rc rs Q))) (fun _ _ => False)))) ∧ ((gI σ 2912 x4.toNat) = (-1) → ∀ τ11 : Sg, τ11 = sI σ 2911 x4.toNat 0 → inR (x4 + 1) ∧ (Lay LM g c t τ11 → GG E mX12_freeOf 277 [some (vr 172), none, some (vi x2), some (vi x3), some (vi (x4 + 1)), none, none, none, none, none, none] [] τ11 rc rs Q)))) ∧ (x4 = x3 → (0 ≤ x4 ∧ x4 < 48) ∧ ∀ τ14 : Sg, τ14 = sI σ 2911 x4.toNat 1 → inR (x4 + 1) ∧ (Lay LM g c t τ14 → GG E mX12_freeOf 277 [some (vr 172), none, some (vi x2), some (vi x3), some (vi (x4 + 1)), none, none, none, none, none, none] [] τ14 rc rs Q)))))))) : GG E mX12_freeOf 277 [some (vr 172), none, some (vi x2), some (vi x3), some (vi x4), none, none, none, none, none, none] [] σ rc rs Q := by
  refine r_iload (pc := 277) dX12_freeOf_277 rfl ?_
  refine r_aload_n (pc := 279) dX12_freeOf_279 rfl rfl ?_
  refine r_getI (pc := 280) dX12_freeOf_280 (k9 := 16) CL_12 (by decide) (by decide) w_1431 rfl (okO_of (N := 42) (hL.sh (i := 0) rfl (by decide) (by decide)) (by decide)) (fun _ => ?_)
  refine r_icmp_ge (pc := 283) (tgt := 349) dX12_freeOf_283 (by decide) (fun c9 => ?_) (fun c9 => ?_)
  · replace h := h.1 c9
    refine r_iload_n (pc := 349) dX12_freeOf_349 rfl rfl ?_
    exact r_ireturn (pc := 350) (ty := .int) dX12_freeOf_350 (by decide +kernel) rfl (nar_i _) (h hL)
  · replace h := h.2 c9
    refine r_iload_n (pc := 286) dX12_freeOf_286 rfl rfl ?_
    refine r_iconst (pc := 287) dX12_freeOf_287 (inRk rfl) ?_
    refine r_icmp_eq (pc := 288) (tgt := 349) dX12_freeOf_288 (by decide) (fun c9 => ?_) (fun c9 => ?_)
    · replace h := h.1 c9
      refine r_iload_n (pc := 349) dX12_freeOf_349 rfl rfl ?_
      exact r_ireturn (pc := 350) (ty := .int) dX12_freeOf_350 (by decide +kernel) rfl (nar_i _) (h hL)
    · replace h := h.2 c9
      refine r_aload_n (pc := 291) dX12_freeOf_291 rfl rfl ?_
      refine r_getR (pc := 292) dX12_freeOf_292 (k9 := 31) CL_12 (by decide) (by decide) w_1446 rfl (okO_of (N := 42) (hL.sh (i := 0) rfl (by decide) (by decide)) (by decide)) ?_
      refine eqR (y := 2911) (hL.rf (i := 16) rfl) ?_
      refine r_iload (pc := 295) dX12_freeOf_295 rfl ?_
      refine r_iload (pc := 297) dX12_freeOf_297 rfl ?_
      refine r_iload_n (pc := 299) dX12_freeOf_299 rfl rfl ?_
      refine r_icmp_ne (pc := 300) (tgt := 307) dX12_freeOf_300 (by decide) (fun c9 => ?_) (fun c9 => ?_)
      · replace h := h.1 c9
        refine r_aload_n (pc := 307) dX12_freeOf_307 rfl rfl ?_
        refine r_getR (pc := 308) dX12_freeOf_308 (k9 := 32) CL_12 (by decide) (by decide) w_1447 rfl (okO_of (N := 42) (hL.sh (i := 0) rfl (by decide) (by decide)) (by decide)) ?_
        refine eqR (y := 2912) (hL.rf (i := 17) rfl) ?_
        refine r_iload (pc := 311) dX12_freeOf_311 rfl ?_
        obtain ⟨o1, h⟩ := h
        refine r_iaload (pc := 313) dX12_freeOf_313 (okA_of (c := 20) (n := 48) (hL.sh (i := 24) rfl (by decide) (by decide)) (by decide) o1) ?_
        refine r_iconst (pc := 314) dX12_freeOf_314 (inRk rfl) ?_
        refine r_icmp_ne (pc := 315) (tgt := 322) dX12_freeOf_315 (by decide) (fun c9 => ?_) (fun c9 => ?_)
        · replace h := h.1 c9
          refine r_aload_n (pc := 322) dX12_freeOf_322 rfl rfl ?_
          refine r_aload_n (pc := 323) dX12_freeOf_323 rfl rfl ?_
          refine r_getR (pc := 324) dX12_freeOf_324 (k9 := 29) CL_12 (by decide) (by decide) w_1444 rfl (okO_of (N := 42) (hL.sh (i := 0) rfl (by decide) (by decide)) (by decide)) ?_
          refine eqR (y := 2861) (hL.rf (i := 14) rfl) ?_
          refine r_aload_n (pc := 327) dX12_freeOf_327 rfl rfl ?_
          refine r_getR (pc := 328) dX12_freeOf_328 (k9 := 32) CL_12 (by decide) (by decide) w_1447 rfl (okO_of (N := 42) (hL.sh (i := 0) rfl (by decide) (by decide)) (by decide)) ?_
          refine eqR (y := 2912) (hL.rf (i := 17) rfl) ?_
          refine r_iload (pc := 331) dX12_freeOf_331 rfl ?_
          refine r_iaload (pc := 333) dX12_freeOf_333 (okA_of (c := 20) (n := 48) (hL.sh (i := 24) rfl (by decide) (by decide)) (by decide) o1) ?_
          obtain ⟨o2, h⟩ := h
          refine r_aaload (pc := 334) dX12_freeOf_334 (okB_of (c := 24) (n := 48) (hL.sh (i := 20) rfl (by decide) (by decide)) (by decide) o2) ?_
          refine nmR (fun b3 e9 => ?_)
          have q4 : (2862 ≤ b3 ∧ b3 < 2910) := e9 ▸ hL.rsw (i := 0) rfl (rowC o2 (by decide))
          replace h := h b3 e9 q4
          refine r_iload_n (pc := 335) dX12_freeOf_335 rfl rfl ?_
          obtain ⟨o5, h⟩ := h
          refine r_iaload (pc := 336) dX12_freeOf_336 (okA_of (c := 20) (n := 48) (hL.sh (i := 21) rfl q4.1 q4.2) (Nat.le_trans (by decide) q4.1) o5) ?_
          obtain ⟨o6, h⟩ := h
          refine r_ineg (pc := 337) dX12_freeOf_337 o6 ?_
          refine r_i2l (pc := 338) dX12_freeOf_338 ?_
          refine c_VI0N (M := mX12_freeOf) (pc := 339) (As := [vl (-(gI σ b3 x3.toNat))]) dX12_freeOf_339 K_X12_mod w_1666 ⟨by decide, by decide⟩ (Nat.le_of_ble_eq_true rfl) rfl rfl (ci := 12) rfl rfl (by decide) (okO_of (N := 42) (hL.sh (i := 0) rfl (by decide) (by decide)) (by decide)) (h hL) (fun r7 τ8 h8 hr9 => ?_) rfl
          replace hL := h8.1
          replace h := h8.2 hr9
          refine r_iastore (pc := 342) dX12_freeOf_342 (okB_of (c := 20) (n := 48) (hL.sh (i := 23) rfl (by decide) (by decide)) (by decide) o1) ?_
          refine nmS (fun τ9 e9 => ?_)
          replace h := h τ9 e9
          have hL := hL.wI e9 (by decide) (.inl (by decide))
          obtain ⟨o10, h⟩ := h
          refine r_iinc (pc := 343) dX12_freeOf_343 rfl (by decide) o10 (l2 := [some (vr 172), none, some (vi x2), some (vi x3), some (vi (x4 + 1)), none, none, none, none, none, none]) rfl ?_
          refine r_goto (pc := 346) (tgt := 277) dX12_freeOf_346 (by decide) ?_
          exact (h hL)
        · replace h := h.2 c9
          refine r_iconst (pc := 318) dX12_freeOf_318 (inRk rfl) ?_
          refine r_goto (pc := 319) (tgt := 342) dX12_freeOf_319 (by decide) ?_
          refine r_iastore (pc := 342) dX12_freeOf_342 (okB_of (c := 20) (n := 48) (hL.sh (i := 23) rfl (by decide) (by decide)) (by decide) o1) ?_
          refine nmS (fun τ11 e11 => ?_)
          replace h := h τ11 e11
          have hL := hL.wI e11 (by decide) (.inl (by decide))
          obtain ⟨o12, h⟩ := h
          refine r_iinc (pc := 343) dX12_freeOf_343 rfl (by decide) o12 (l2 := [some (vr 172), none, some (vi x2), some (vi x3), some (vi (x4 + 1)), none, none, none, none, none, none]) rfl ?_
          refine r_goto (pc := 346) (tgt := 277) dX12_freeOf_346 (by decide) ?_
          exact (h hL)
      · replace h := h.2 c9
        refine r_iconst (pc := 303) dX12_freeOf_303 (inRk rfl) ?_
        refine r_goto (pc := 304) (tgt := 342) dX12_freeOf_304 (by decide) ?_
        obtain ⟨o13, h⟩ := h
        refine r_iastore (pc := 342) dX12_freeOf_342 (okB_of (c := 20) (n := 48) (hL.sh (i := 23) rfl (by decide) (by decide)) (by decide) o13) ?_
        refine nmS (fun τ14 e14 => ?_)
        replace h := h τ14 e14
        have hL := hL.wI e14 (by decide) (.inl (by decide))
        obtain ⟨o15, h⟩ := h
        refine r_iinc (pc := 343) dX12_freeOf_343 rfl (by decide) o15 (l2 := [some (vr 172), none, some (vi x2), some (vi x3), some (vi (x4 + 1)), none, none, none, none, none, none]) rfl ?_
        refine r_goto (pc := 346) (tgt := 277) dX12_freeOf_346 (by decide) ?_
        exact (h hL)
theorem C_X12_freeOf {a0 : Nat} (h : GG E mX12_freeOf 0 [some (vr a0), none, none, none, none, none, none, none, none, none, none] [] σ 0 0 Q) : CC E mX12_freeOf [vr a0] σ Q := CC.of (by decide +kernel) rfl (by decide +kernel) (fun h9 => nomatch h9) (Nat.le_of_ble_eq_true rfl) h
theorem dX12_hasOrder_0 : decode cX12_hasOrder 0 = .ok (.iconst 0, 1) := by decide +kernel
theorem dX12_hasOrder_1 : decode cX12_hasOrder 1 = .ok (.istore_n 2, 1) := by decide +kernel
theorem dX12_hasOrder_2 : decode cX12_hasOrder 2 = .ok (.iload_n 2, 1) := by decide +kernel
theorem dX12_hasOrder_3 : decode cX12_hasOrder 3 = .ok (.aload_n 0, 1) := by decide +kernel
theorem dX12_hasOrder_4 : decode cX12_hasOrder 4 = .ok (.getfield 192, 3) := by decide +kernel
theorem dX12_hasOrder_7 : decode cX12_hasOrder 7 = .ok (.if_icmp .ge 21, 3) := by decide +kernel
theorem dX12_hasOrder_10 : decode cX12_hasOrder 10 = .ok (.aload_n 0, 1) := by decide +kernel
theorem dX12_hasOrder_11 : decode cX12_hasOrder 11 = .ok (.getfield 40, 3) := by decide +kernel
theorem dX12_hasOrder_14 : decode cX12_hasOrder 14 = .ok (.iload_n 2, 1) := by decide +kernel
theorem dX12_hasOrder_15 : decode cX12_hasOrder 15 = .ok (.iaload, 1) := by decide +kernel
theorem dX12_hasOrder_16 : decode cX12_hasOrder 16 = .ok (.iload_n 1, 1) := by decide +kernel
theorem dX12_hasOrder_17 : decode cX12_hasOrder 17 = .ok (.if_icmp .ne 5, 3) := by decide +kernel
theorem dX12_hasOrder_20 : decode cX12_hasOrder 20 = .ok (.iconst 1, 1) := by decide +kernel
theorem dX12_hasOrder_21 : decode cX12_hasOrder 21 = .ok (.ireturn, 1) := by decide +kernel
theorem dX12_hasOrder_22 : decode cX12_hasOrder 22 = .ok (.iinc 2 1, 3) := by decide +kernel
theorem dX12_hasOrder_25 : decode cX12_hasOrder 25 = .ok (.goto (-23), 3) := by decide +kernel
theorem dX12_hasOrder_28 : decode cX12_hasOrder 28 = .ok (.iconst 0, 1) := by decide +kernel
theorem dX12_hasOrder_29 : decode cX12_hasOrder 29 = .ok (.ireturn, 1) := by decide +kernel
theorem B_X12_hasOrder_0 {g : Sg} {c t : Nat} (hL : Lay LM g c t σ) {x1 : Int} (h : (Lay LM g c t σ → GG E mX12_hasOrder 2 [some (vr 172), some (vi x1), some (vi 0)] [] σ rc rs Q)) : GG E mX12_hasOrder 0 [some (vr 172), some (vi x1), none] [] σ rc rs Q := by
  refine r_iconst (pc := 0) dX12_hasOrder_0 (inRk rfl) ?_
  refine r_istore_n (pc := 1) dX12_hasOrder_1 rfl (by decide) (l2 := [some (vr 172), some (vi x1), some (vi 0)]) rfl ?_
  exact (h hL)
theorem B_X12_hasOrder_2 {g : Sg} {c t : Nat} (hL : Lay LM g c t σ) {x1 : Int} {x2 : Int} (h : (((gI σ 172 15) ≤ x2 → (Lay LM g c t σ → Q (.inl (some (vi 0))) σ)) ∧ (¬ ((gI σ 172 15) ≤ x2) → (0 ≤ x2 ∧ x2 < 120) ∧ (((gI σ 551 x2.toNat) ≠ x1 → inR (x2 + 1) ∧ (Lay LM g c t σ → GG E mX12_hasOrder 2 [some (vr 172), some (vi x1), some (vi (x2 + 1))] [] σ rc rs Q)) ∧ ((gI σ 551 x2.toNat) = x1 → (Lay LM g c t σ → Q (.inl (some (vi 1))) σ)))))) : GG E mX12_hasOrder 2 [some (vr 172), some (vi x1), some (vi x2)] [] σ rc rs Q := by
  refine r_iload_n (pc := 2) dX12_hasOrder_2 rfl rfl ?_
  refine r_aload_n (pc := 3) dX12_hasOrder_3 rfl rfl ?_
  refine r_getI (pc := 4) dX12_hasOrder_4 (k9 := 15) CL_12 (by decide) (by decide) w_1430 rfl (okO_of (N := 42) (hL.sh (i := 0) rfl (by decide) (by decide)) (by decide)) (fun _ => ?_)
  refine r_icmp_ge (pc := 7) (tgt := 28) dX12_hasOrder_7 (by decide) (fun c9 => ?_) (fun c9 => ?_)
  · replace h := h.1 c9
    refine r_iconst (pc := 28) dX12_hasOrder_28 (inRk rfl) ?_
    exact r_ireturn (pc := 29) (ty := .boolean) dX12_hasOrder_29 (by decide +kernel) rfl (nar_bool (by decide)) (h hL)
  · replace h := h.2 c9
    refine r_aload_n (pc := 10) dX12_hasOrder_10 rfl rfl ?_
    refine r_getR (pc := 11) dX12_hasOrder_11 (k9 := 22) CL_12 (by decide) (by decide) w_1437 rfl (okO_of (N := 42) (hL.sh (i := 0) rfl (by decide) (by decide)) (by decide)) ?_
    refine eqR (y := 551) (hL.rf (i := 8) rfl) ?_
    refine r_iload_n (pc := 14) dX12_hasOrder_14 rfl rfl ?_
    obtain ⟨o1, h⟩ := h
    refine r_iaload (pc := 15) dX12_hasOrder_15 (okA_of (c := 20) (n := 120) (hL.sh (i := 13) rfl (by decide) (by decide)) (by decide) o1) ?_
    refine r_iload_n (pc := 16) dX12_hasOrder_16 rfl rfl ?_
    refine r_icmp_ne (pc := 17) (tgt := 22) dX12_hasOrder_17 (by decide) (fun c9 => ?_) (fun c9 => ?_)
    · replace h := h.1 c9
      obtain ⟨o2, h⟩ := h
      refine r_iinc (pc := 22) dX12_hasOrder_22 rfl (by decide) o2 (l2 := [some (vr 172), some (vi x1), some (vi (x2 + 1))]) rfl ?_
      refine r_goto (pc := 25) (tgt := 2) dX12_hasOrder_25 (by decide) ?_
      exact (h hL)
    · replace h := h.2 c9
      refine r_iconst (pc := 20) dX12_hasOrder_20 (inRk rfl) ?_
      exact r_ireturn (pc := 21) (ty := .boolean) dX12_hasOrder_21 (by decide +kernel) rfl (nar_bool (by decide)) (h hL)
theorem C_X12_hasOrder {a0 : Nat} {x1 : Int} (h : GG E mX12_hasOrder 0 [some (vr a0), some (vi x1), none] [] σ 0 0 Q) : CC E mX12_hasOrder [vr a0, vi x1] σ Q := CC.of (by decide +kernel) rfl (by decide +kernel) (fun h9 => nomatch h9) (Nat.le_of_ble_eq_true rfl) h
theorem dX12_here_0 : decode cX12_here 0 = .ok (.aload_n 0, 1) := by decide +kernel
theorem dX12_here_1 : decode cX12_here 1 = .ok (.aload_n 0, 1) := by decide +kernel
theorem dX12_here_2 : decode cX12_here 2 = .ok (.getfield 108, 3) := by decide +kernel
theorem dX12_here_5 : decode cX12_here 5 = .ok (.invokevirtual 111, 3) := by decide +kernel
theorem dX12_here_8 : decode cX12_here 8 = .ok (.bipush 32, 2) := by decide +kernel
theorem dX12_here_10 : decode cX12_here 10 = .ok (.if_icmp .ne 16, 3) := by decide +kernel
theorem dX12_here_13 : decode cX12_here 13 = .ok (.aload_n 0, 1) := by decide +kernel
theorem dX12_here_14 : decode cX12_here 14 = .ok (.dup, 1) := by decide +kernel
theorem dX12_here_15 : decode cX12_here 15 = .ok (.getfield 108, 3) := by decide +kernel
theorem dX12_here_18 : decode cX12_here 18 = .ok (.iconst 1, 1) := by decide +kernel
theorem dX12_here_19 : decode cX12_here 19 = .ok (.iadd, 1) := by decide +kernel
theorem dX12_here_20 : decode cX12_here 20 = .ok (.putfield 108, 3) := by decide +kernel
theorem dX12_here_23 : decode cX12_here 23 = .ok (.goto (-23), 3) := by decide +kernel
theorem dX12_here_26 : decode cX12_here 26 = .ok (.aload_n 0, 1) := by decide +kernel
theorem dX12_here_27 : decode cX12_here 27 = .ok (.aload_n 0, 1) := by decide +kernel
theorem dX12_here_28 : decode cX12_here 28 = .ok (.getfield 108, 3) := by decide +kernel
theorem dX12_here_31 : decode cX12_here 31 = .ok (.invokevirtual 111, 3) := by decide +kernel
theorem dX12_here_34 : decode cX12_here 34 = .ok (.ireturn, 1) := by decide +kernel
theorem B_X12_here_0 {g : Sg} {c t : Nat} (hL : Lay LM g c t σ)  (h : (Lay LM g c t σ → CC E mX12_byteAt [vr 172, vi (gI σ 172 4)] σ (KI (fun r1 τ2 => Lay LM g c t τ2 ∧ (inR r1 → ((r1 ≠ 32 → (Lay LM g c t τ2 → CC E mX12_byteAt [vr 172, vi (gI τ2 172 4)] τ2 (KI (fun r3 τ4 => Lay LM g c t τ4 ∧ (inR r3 → (Lay LM g c t τ4 → Q (.inl (some (vi r3))) τ4))) (fun _ _ => False)))) ∧ (r1 = 32 → inR ((gI τ2 172 4) + 1) ∧ ∀ τ6 : Sg, τ6 = sI τ2 172 4 ((gI τ2 172 4) + 1) → (Lay LM g c t τ6 → GG E mX12_here 0 [some (vr 172)] [] τ6 rc rs Q))))) (fun _ _ => False)))) : GG E mX12_here 0 [some (vr 172)] [] σ rc rs Q := by
  refine r_aload_n (pc := 0) dX12_here_0 rfl rfl ?_
  refine r_aload_n (pc := 1) dX12_here_1 rfl rfl ?_
  refine r_getI (pc := 2) dX12_here_2 (k9 := 4) CL_12 (by decide) (by decide) w_1419 rfl (okO_of (N := 42) (hL.sh (i := 0) rfl (by decide) (by decide)) (by decide)) (fun _ => ?_)
  refine c_VI0N (M := mX12_here) (pc := 5) (As := [vi (gI σ 172 4)]) dX12_here_5 K_X12_byteAt w_1570 ⟨by decide, by decide⟩ (Nat.le_of_ble_eq_true rfl) rfl rfl (ci := 12) rfl rfl (by decide) (okO_of (N := 42) (hL.sh (i := 0) rfl (by decide) (by decide)) (by decide)) (h hL) (fun r1 τ2 h8 hr9 => ?_) rfl
  replace hL := h8.1
  replace h := h8.2 hr9
  refine r_bipush (pc := 8) dX12_here_8 (by decide) ?_
  refine r_icmp_ne (pc := 10) (tgt := 26) dX12_here_10 (by decide) (fun c9 => ?_) (fun c9 => ?_)
  · replace h := h.1 c9
    refine r_aload_n (pc := 26) dX12_here_26 rfl rfl ?_
    refine r_aload_n (pc := 27) dX12_here_27 rfl rfl ?_
    refine r_getI (pc := 28) dX12_here_28 (k9 := 4) CL_12 (by decide) (by decide) w_1419 rfl (okO_of (N := 42) (hL.sh (i := 0) rfl (by decide) (by decide)) (by decide)) (fun _ => ?_)
    refine c_VI0N (M := mX12_here) (pc := 31) (As := [vi (gI τ2 172 4)]) dX12_here_31 K_X12_byteAt w_1570 ⟨by decide, by decide⟩ (Nat.le_of_ble_eq_true rfl) rfl rfl (ci := 12) rfl rfl (by decide) (okO_of (N := 42) (hL.sh (i := 0) rfl (by decide) (by decide)) (by decide)) (h hL) (fun r3 τ4 h8 hr9 => ?_) rfl
    replace hL := h8.1
    replace h := h8.2 hr9
    exact r_ireturn (pc := 34) (ty := .int) dX12_here_34 (by decide +kernel) rfl (nar_i _) (h hL)
  · replace h := h.2 c9
    refine r_aload_n (pc := 13) dX12_here_13 rfl rfl ?_
    refine r_dup (pc := 14) dX12_here_14 (fun _ h9 => nomatch h9) ?_
    refine r_getI (pc := 15) dX12_here_15 (k9 := 4) CL_12 (by decide) (by decide) w_1419 rfl (okO_of (N := 42) (hL.sh (i := 0) rfl (by decide) (by decide)) (by decide)) (fun _ => ?_)
    refine r_iconst (pc := 18) dX12_here_18 (inRk rfl) ?_
    obtain ⟨o5, h⟩ := h
    refine r_iadd (pc := 19) dX12_here_19 o5 ?_
    refine r_putI (pc := 20) dX12_here_20 (k9 := 4) CL_12 (by decide) (by decide) w_1419 rfl rfl (fun h9 => absurd h9 (by decide +kernel)) (okO_of (N := 42) (hL.sh (i := 0) rfl (by decide) (by decide)) (by decide)) ?_
    refine nmS (fun τ6 e6 => ?_)
    replace h := h τ6 e6
    have hL := hL.wI e6 (by decide) (.inl (by decide))
    refine r_goto (pc := 23) (tgt := 0) dX12_here_23 (by decide) ?_
    exact (h hL)
theorem C_X12_here {a0 : Nat} (h : GG E mX12_here 0 [some (vr a0)] [] σ 0 0 Q) : CC E mX12_here [vr a0] σ Q := CC.of (by decide +kernel) rfl (by decide +kernel) (fun h9 => nomatch h9) (Nat.le_of_ble_eq_true rfl) h
theorem dX12_in_0 : decode cX12_in 0 = .ok (.iload_n 0, 1) := by decide +kernel
theorem dX12_in_1 : decode cX12_in 1 = .ok (.iload_n 1, 1) := by decide +kernel
theorem dX12_in_2 : decode cX12_in 2 = .ok (.if_icmp .lt 12, 3) := by decide +kernel
theorem dX12_in_5 : decode cX12_in 5 = .ok (.iload_n 0, 1) := by decide +kernel
theorem dX12_in_6 : decode cX12_in 6 = .ok (.iload_n 2, 1) := by decide +kernel
theorem dX12_in_7 : decode cX12_in 7 = .ok (.if_icmp .gt 7, 3) := by decide +kernel
theorem dX12_in_10 : decode cX12_in 10 = .ok (.iconst 1, 1) := by decide +kernel
theorem dX12_in_11 : decode cX12_in 11 = .ok (.goto 4, 3) := by decide +kernel
theorem dX12_in_14 : decode cX12_in 14 = .ok (.iconst 0, 1) := by decide +kernel
theorem dX12_in_15 : decode cX12_in 15 = .ok (.ireturn, 1) := by decide +kernel
theorem B_X12_in_0 {x0 : Int} {x1 : Int} {x2 : Int} (h : ((x0 < x1 → Q (.inl (some (vi 0))) σ) ∧ (¬ (x0 < x1) → ((x2 < x0 → Q (.inl (some (vi 0))) σ) ∧ (¬ (x2 < x0) → Q (.inl (some (vi 1))) σ))))) : GG E mX12_in 0 [some (vi x0), some (vi x1), some (vi x2)] [] σ rc rs Q := by
  refine r_iload_n (pc := 0) dX12_in_0 rfl rfl ?_
  refine r_iload_n (pc := 1) dX12_in_1 rfl rfl ?_
  refine r_icmp_lt (pc := 2) (tgt := 14) dX12_in_2 (by decide) (fun c9 => ?_) (fun c9 => ?_)
  · replace h := h.1 c9
    refine r_iconst (pc := 14) dX12_in_14 (inRk rfl) ?_
    exact r_ireturn (pc := 15) (ty := .boolean) dX12_in_15 (by decide +kernel) rfl (nar_bool (by decide)) h
  · replace h := h.2 c9
    refine r_iload_n (pc := 5) dX12_in_5 rfl rfl ?_
    refine r_iload_n (pc := 6) dX12_in_6 rfl rfl ?_
    refine r_icmp_gt (pc := 7) (tgt := 14) dX12_in_7 (by decide) (fun c9 => ?_) (fun c9 => ?_)
    · replace h := h.1 c9
      refine r_iconst (pc := 14) dX12_in_14 (inRk rfl) ?_
      exact r_ireturn (pc := 15) (ty := .boolean) dX12_in_15 (by decide +kernel) rfl (nar_bool (by decide)) h
    · replace h := h.2 c9
      refine r_iconst (pc := 10) dX12_in_10 (inRk rfl) ?_
      refine r_goto (pc := 11) (tgt := 15) dX12_in_11 (by decide) ?_
      exact r_ireturn (pc := 15) (ty := .boolean) dX12_in_15 (by decide +kernel) rfl (nar_bool (by decide)) h
theorem C_X12_in {x0 : Int} {x1 : Int} {x2 : Int} (h : GG E mX12_in 0 [some (vi x0), some (vi x1), some (vi x2)] [] σ 0 0 Q) : CC E mX12_in [vi x0, vi x1, vi x2] σ Q := CC.of (by decide +kernel) rfl (by decide +kernel) (fun h9 => nomatch h9) (Nat.le_of_ble_eq_true rfl) h
theorem dX12_inRow_0 : decode cX12_inRow 0 = .ok (.aload_n 0, 1) := by decide +kernel
theorem dX12_inRow_1 : decode cX12_inRow 1 = .ok (.iconst 0, 1) := by decide +kernel
theorem dX12_inRow_2 : decode cX12_inRow 2 = .ok (.putfield 99, 3) := by decide +kernel
theorem dX12_inRow_5 : decode cX12_inRow 5 = .ok (.aload_n 0, 1) := by decide +kernel
theorem dX12_inRow_6 : decode cX12_inRow 6 = .ok (.aload_n 0, 1) := by decide +kernel
theorem dX12_inRow_7 : decode cX12_inRow 7 = .ok (.iload_n 1, 1) := by decide +kernel
theorem dX12_inRow_8 : decode cX12_inRow 8 = .ok (.invokevirtual 335, 3) := by decide +kernel
theorem dX12_inRow_11 : decode cX12_inRow 11 = .ok (.ifCond .ne 7, 3) := by decide +kernel
theorem dX12_inRow_14 : decode cX12_inRow 14 = .ok (.iconst 1, 1) := by decide +kernel
theorem dX12_inRow_15 : decode cX12_inRow 15 = .ok (.goto 4, 3) := by decide +kernel
theorem dX12_inRow_18 : decode cX12_inRow 18 = .ok (.iconst 0, 1) := by decide +kernel
theorem dX12_inRow_19 : decode cX12_inRow 19 = .ok (.iconst 1, 1) := by decide +kernel
theorem dX12_inRow_20 : decode cX12_inRow 20 = .ok (.iconst 0, 1) := by decide +kernel
theorem dX12_inRow_21 : decode cX12_inRow 21 = .ok (.invokevirtual 177, 3) := by decide +kernel
theorem dX12_inRow_24 : decode cX12_inRow 24 = .ok (.ifCond .ne 28, 3) := by decide +kernel
theorem dX12_inRow_27 : decode cX12_inRow 27 = .ok (.aload_n 0, 1) := by decide +kernel
theorem dX12_inRow_28 : decode cX12_inRow 28 = .ok (.iload_n 2, 1) := by decide +kernel
theorem dX12_inRow_29 : decode cX12_inRow 29 = .ok (.iconst 0, 1) := by decide +kernel
theorem dX12_inRow_30 : decode cX12_inRow 30 = .ok (.sipush 200, 3) := by decide +kernel
theorem dX12_inRow_33 : decode cX12_inRow 33 = .ok (.invokestatic 141, 3) := by decide +kernel
theorem dX12_inRow_36 : decode cX12_inRow 36 = .ok (.ifCond .ne 7, 3) := by decide +kernel
theorem dX12_inRow_39 : decode cX12_inRow 39 = .ok (.iconst 1, 1) := by decide +kernel
theorem dX12_inRow_40 : decode cX12_inRow 40 = .ok (.goto 4, 3) := by decide +kernel
theorem dX12_inRow_43 : decode cX12_inRow 43 = .ok (.iconst 0, 1) := by decide +kernel
theorem dX12_inRow_44 : decode cX12_inRow 44 = .ok (.iconst 2, 1) := by decide +kernel
theorem dX12_inRow_45 : decode cX12_inRow 45 = .ok (.iconst 1, 1) := by decide +kernel
theorem dX12_inRow_46 : decode cX12_inRow 46 = .ok (.invokevirtual 177, 3) := by decide +kernel
theorem dX12_inRow_49 : decode cX12_inRow 49 = .ok (.ifCond .eq 5, 3) := by decide +kernel
theorem dX12_inRow_52 : decode cX12_inRow 52 = .ok (.iconst 0, 1) := by decide +kernel
theorem dX12_inRow_53 : decode cX12_inRow 53 = .ok (.ireturn, 1) := by decide +kernel
theorem dX12_inRow_54 : decode cX12_inRow 54 = .ok (.aload_n 0, 1) := by decide +kernel
theorem dX12_inRow_55 : decode cX12_inRow 55 = .ok (.invokevirtual 317, 3) := by decide +kernel
theorem dX12_inRow_58 : decode cX12_inRow 58 = .ok (.aload_n 0, 1) := by decide +kernel
theorem dX12_inRow_59 : decode cX12_inRow 59 = .ok (.iload_n 2, 1) := by decide +kernel
theorem dX12_inRow_60 : decode cX12_inRow 60 = .ok (.invokevirtual 350, 3) := by decide +kernel
theorem dX12_inRow_63 : decode cX12_inRow 63 = .ok (.aload_n 0, 1) := by decide +kernel
theorem dX12_inRow_64 : decode cX12_inRow 64 = .ok (.aload_n 0, 1) := by decide +kernel
theorem dX12_inRow_65 : decode cX12_inRow 65 = .ok (.getfield 76, 3) := by decide +kernel
theorem dX12_inRow_68 : decode cX12_inRow 68 = .ok (.iload_n 1, 1) := by decide +kernel
theorem dX12_inRow_69 : decode cX12_inRow 69 = .ok (.invokevirtual 286, 3) := by decide +kernel
theorem dX12_inRow_72 : decode cX12_inRow 72 = .ok (.ireturn, 1) := by decide +kernel
theorem B_X12_inRow_0 {g : Sg} {c t : Nat} (hL : Lay LM g c t σ) {x1 : Int} {x2 : Int} (h : ∀ τ1 : Sg, τ1 = sI σ 172 0 0 → (Lay LM g c t τ1 → CC E mX12_isClass [vr 172, vi x1] τ1 (KI (fun r2 τ3 => Lay LM g c t τ3 ∧ (inR r2 → ((r2 ≠ 0 → (Lay LM g c t τ3 → CC E mX12_bad [vr 172, vi 0, vi 1, vi 0] τ3 (KI (fun r4 τ5 => Lay LM g c t τ5 ∧ (inR r4 → ((r4 ≠ 0 → (Lay LM g c t τ5 → GG E mX12_inRow 52 [none, none, none] [] τ5 rc rs Q)) ∧ (r4 = 0 → (Lay LM g c t τ5 → GG E mX12_inRow 27 [some (vr 172), some (vi x1), some (vi x2)] [] τ5 rc rs Q))))) (fun _ _ => False)))) ∧ (r2 = 0 → (Lay LM g c t τ3 → CC E mX12_bad [vr 172, vi 1, vi 1, vi 0] τ3 (KI (fun r6 τ7 => Lay LM g c t τ7 ∧ (inR r6 → ((r6 ≠ 0 → (Lay LM g c t τ7 → GG E mX12_inRow 52 [none, none, none] [] τ7 rc rs Q)) ∧ (r6 = 0 → (Lay LM g c t τ7 → GG E mX12_inRow 27 [some (vr 172), some (vi x1), some (vi x2)] [] τ7 rc rs Q))))) (fun _ _ => False))))))) (fun _ _ => False)))) : GG E mX12_inRow 0 [some (vr 172), some (vi x1), some (vi x2)] [] σ rc rs Q := by
  refine r_aload_n (pc := 0) dX12_inRow_0 rfl rfl ?_
  refine r_iconst (pc := 1) dX12_inRow_1 (inRk rfl) ?_
  refine r_putI (pc := 2) dX12_inRow_2 (k9 := 0) CL_12 (by decide) (by decide) w_1415 rfl rfl (fun h9 => absurd h9 (by decide +kernel)) (okO_of (N := 42) (hL.sh (i := 0) rfl (by decide) (by decide)) (by decide)) ?_
  refine nmS (fun τ1 e1 => ?_)
  replace h := h τ1 e1
  have hL := hL.wI e1 (by decide) (.inl (by decide))
  refine r_aload_n (pc := 5) dX12_inRow_5 rfl rfl ?_
  refine r_aload_n (pc := 6) dX12_inRow_6 rfl rfl ?_
  refine r_iload_n (pc := 7) dX12_inRow_7 rfl rfl ?_
  refine c_VI0N (M := mX12_inRow) (pc := 8) (As := [vi x1]) dX12_inRow_8 K_X12_isClass w_1766 ⟨by decide, by decide⟩ (Nat.le_of_ble_eq_true rfl) rfl rfl (ci := 12) rfl rfl (by decide) (okO_of (N := 42) (hL.sh (i := 0) rfl (by decide) (by decide)) (by decide)) (h hL) (fun r2 τ3 h8 hr9 => ?_) rfl
  replace hL := h8.1
  replace h := h8.2 hr9
  refine r_if_ne (pc := 11) (tgt := 18) dX12_inRow_11 (by decide) (fun c9 => ?_) (fun c9 => ?_)
  · replace h := h.1 c9
    refine r_iconst (pc := 18) dX12_inRow_18 (inRk rfl) ?_
    refine r_iconst (pc := 19) dX12_inRow_19 (inRk rfl) ?_
    refine r_iconst (pc := 20) dX12_inRow_20 (inRk rfl) ?_
    refine c_VI0N (M := mX12_inRow) (pc := 21) (As := [vi 0, vi 1, vi 0]) dX12_inRow_21 K_X12_bad w_1562 ⟨by decide, by decide⟩ (Nat.le_of_ble_eq_true rfl) rfl rfl (ci := 12) rfl rfl (by decide) (okO_of (N := 42) (hL.sh (i := 0) rfl (by decide) (by decide)) (by decide)) (h hL) (fun r4 τ5 h8 hr9 => ?_) rfl
    replace hL := h8.1
    replace h := h8.2 hr9
    refine r_if_ne (pc := 24) (tgt := 52) dX12_inRow_24 (by decide) (fun c9 => ?_) (fun c9 => ?_)
    · replace h := h.1 c9
      exact GG.msk [false, false, false] (h hL)
    · replace h := h.2 c9
      exact (h hL)
  · replace h := h.2 c9
    refine r_iconst (pc := 14) dX12_inRow_14 (inRk rfl) ?_
    refine r_goto (pc := 15) (tgt := 19) dX12_inRow_15 (by decide) ?_
    refine r_iconst (pc := 19) dX12_inRow_19 (inRk rfl) ?_
    refine r_iconst (pc := 20) dX12_inRow_20 (inRk rfl) ?_
    refine c_VI0N (M := mX12_inRow) (pc := 21) (As := [vi 1, vi 1, vi 0]) dX12_inRow_21 K_X12_bad w_1562 ⟨by decide, by decide⟩ (Nat.le_of_ble_eq_true rfl) rfl rfl (ci := 12) rfl rfl (by decide) (okO_of (N := 42) (hL.sh (i := 0) rfl (by decide) (by decide)) (by decide)) (h hL) (fun r6 τ7 h8 hr9 => ?_) rfl
    replace hL := h8.1
    replace h := h8.2 hr9
    refine r_if_ne (pc := 24) (tgt := 52) dX12_inRow_24 (by decide) (fun c9 => ?_) (fun c9 => ?_)
    · replace h := h.1 c9
      exact GG.msk [false, false, false] (h hL)
    · replace h := h.2 c9
      exact (h hL)
theorem B_X12_inRow_27 {g : Sg} {c t : Nat} (hL : Lay LM g c t σ) {x1 : Int} {x2 : Int} (h : (Lay LM g c t σ → CC E mX12_in [vi x2, vi 0, vi 200] σ (KI (fun r1 τ2 => Lay LM g c t τ2 ∧ (inR r1 → ((r1 ≠ 0 → (Lay LM g c t τ2 → CC E mX12_bad [vr 172, vi 0, vi 2, vi 1] τ2 (KI (fun r3 τ4 => Lay LM g c t τ4 ∧ (inR r3 → ((r3 = 0 → (Lay LM g c t τ4 → CC E mX12_laysRows [vr 172] τ4 (KV (fun τ6 => Lay LM g c t τ6 ∧ (Lay LM g c t τ6 → CC E mX12_laysPower [vr 172, vi x2] τ6 (KV (fun τ8 => Lay LM g c t τ8 ∧ (Lay LM g c t τ8 → CC E mX12_oftenIn [vr 172, vr 2963, vi x1] τ8 (KI (fun r9 τ10 => Lay LM g c t τ10 ∧ (inR r9 → (Lay LM g c t τ10 → Q (.inl (some (vi r9))) τ10))) (fun _ _ => False)))) (fun _ _ => False)))) (fun _ _ => False)))) ∧ (¬ (r3 = 0) → (Lay LM g c t τ4 → GG E mX12_inRow 52 [none, none, none] [] τ4 rc rs Q))))) (fun _ _ => False)))) ∧ (r1 = 0 → (Lay LM g c t τ2 → CC E mX12_bad [vr 172, vi 1, vi 2, vi 1] τ2 (KI (fun r11 τ12 => Lay LM g c t τ12 ∧ (inR r11 → ((r11 = 0 → (Lay LM g c t τ12 → CC E mX12_laysRows [vr 172] τ12 (KV (fun τ14 => Lay LM g c t τ14 ∧ (Lay LM g c t τ14 → CC E mX12_laysPower [vr 172, vi x2] τ14 (KV (fun τ16 => Lay LM g c t τ16 ∧ (Lay LM g c t τ16 → CC E mX12_oftenIn [vr 172, vr 2963, vi x1] τ16 (KI (fun r17 τ18 => Lay LM g c t τ18 ∧ (inR r17 → (Lay LM g c t τ18 → Q (.inl (some (vi r17))) τ18))) (fun _ _ => False)))) (fun _ _ => False)))) (fun _ _ => False)))) ∧ (¬ (r11 = 0) → (Lay LM g c t τ12 → GG E mX12_inRow 52 [none, none, none] [] τ12 rc rs Q))))) (fun _ _ => False))))))) (fun _ _ => False)))) : GG E mX12_inRow 27 [some (vr 172), some (vi x1), some (vi x2)] [] σ rc rs Q := by
  refine r_aload_n (pc := 27) dX12_inRow_27 rfl rfl ?_
  refine r_iload_n (pc := 28) dX12_inRow_28 rfl rfl ?_
  refine r_iconst (pc := 29) dX12_inRow_29 (inRk rfl) ?_
  refine r_sipush (pc := 30) dX12_inRow_30 (by decide) ?_
  refine c_SI0N (M := mX12_inRow) (pc := 33) (As := [vi x2, vi 0, vi 200]) dX12_inRow_33 K_X12_in w_1559 ⟨by decide, by decide⟩ (Nat.le_of_ble_eq_true rfl) rfl rfl (h hL) (fun r1 τ2 h8 hr9 => ?_) rfl
  replace hL := h8.1
  replace h := h8.2 hr9
  refine r_if_ne (pc := 36) (tgt := 43) dX12_inRow_36 (by decide) (fun c9 => ?_) (fun c9 => ?_)
  · replace h := h.1 c9
    refine r_iconst (pc := 43) dX12_inRow_43 (inRk rfl) ?_
    refine r_iconst (pc := 44) dX12_inRow_44 (inRk rfl) ?_
    refine r_iconst (pc := 45) dX12_inRow_45 (inRk rfl) ?_
    refine c_VI0N (M := mX12_inRow) (pc := 46) (As := [vi 0, vi 2, vi 1]) dX12_inRow_46 K_X12_bad w_1562 ⟨by decide, by decide⟩ (Nat.le_of_ble_eq_true rfl) rfl rfl (ci := 12) rfl rfl (by decide) (okO_of (N := 42) (hL.sh (i := 0) rfl (by decide) (by decide)) (by decide)) (h hL) (fun r3 τ4 h8 hr9 => ?_) rfl
    replace hL := h8.1
    replace h := h8.2 hr9
    refine r_if_eq (pc := 49) (tgt := 54) dX12_inRow_49 (by decide) (fun c9 => ?_) (fun c9 => ?_)
    · replace h := h.1 c9
      refine r_aload_n (pc := 54) dX12_inRow_54 rfl rfl ?_
      refine c_VV0N (M := mX12_inRow) (pc := 55) (As := []) dX12_inRow_55 K_X12_laysRows w_1652 ⟨by decide, by decide⟩ (Nat.le_of_ble_eq_true rfl) rfl rfl (ci := 12) rfl rfl (by decide) (okO_of (N := 42) (hL.sh (i := 0) rfl (by decide) (by decide)) (by decide)) (h hL) (fun τ6 h8 => ?_) rfl
      replace hL := h8.1
      replace h := h8.2
      refine r_aload_n (pc := 58) dX12_inRow_58 rfl rfl ?_
      refine r_iload_n (pc := 59) dX12_inRow_59 rfl rfl ?_
      refine c_VV0N (M := mX12_inRow) (pc := 60) (As := [vi x2]) dX12_inRow_60 K_X12_laysPower w_1827 ⟨by decide, by decide⟩ (Nat.le_of_ble_eq_true rfl) rfl rfl (ci := 12) rfl rfl (by decide) (okO_of (N := 42) (hL.sh (i := 0) rfl (by decide) (by decide)) (by decide)) (h hL) (fun τ8 h8 => ?_) rfl
      replace hL := h8.1
      replace h := h8.2
      refine r_aload_n (pc := 63) dX12_inRow_63 rfl rfl ?_
      refine r_aload_n (pc := 64) dX12_inRow_64 rfl rfl ?_
      refine r_getR (pc := 65) dX12_inRow_65 (k9 := 36) CL_12 (by decide) (by decide) w_1451 rfl (okO_of (N := 42) (hL.sh (i := 0) rfl (by decide) (by decide)) (by decide)) ?_
      refine eqR (y := 2963) (hL.rf (i := 20) rfl) ?_
      refine r_iload_n (pc := 68) dX12_inRow_68 rfl rfl ?_
      refine c_VI0N (M := mX12_inRow) (pc := 69) (As := [vr 2963, vi x1]) dX12_inRow_69 K_X12_oftenIn w_1738 ⟨by decide, by decide⟩ (Nat.le_of_ble_eq_true rfl) rfl rfl (ci := 12) rfl rfl (by decide) (okO_of (N := 42) (hL.sh (i := 0) rfl (by decide) (by decide)) (by decide)) (h hL) (fun r9 τ10 h8 hr9 => ?_) rfl
      replace hL := h8.1
      replace h := h8.2 hr9
      exact r_ireturn (pc := 72) (ty := .int) dX12_inRow_72 (by decide +kernel) rfl (nar_i _) (h hL)
    · replace h := h.2 c9
      exact GG.msk [false, false, false] (h hL)
  · replace h := h.2 c9
    refine r_iconst (pc := 39) dX12_inRow_39 (inRk rfl) ?_
    refine r_goto (pc := 40) (tgt := 44) dX12_inRow_40 (by decide) ?_
    refine r_iconst (pc := 44) dX12_inRow_44 (inRk rfl) ?_
    refine r_iconst (pc := 45) dX12_inRow_45 (inRk rfl) ?_
    refine c_VI0N (M := mX12_inRow) (pc := 46) (As := [vi 1, vi 2, vi 1]) dX12_inRow_46 K_X12_bad w_1562 ⟨by decide, by decide⟩ (Nat.le_of_ble_eq_true rfl) rfl rfl (ci := 12) rfl rfl (by decide) (okO_of (N := 42) (hL.sh (i := 0) rfl (by decide) (by decide)) (by decide)) (h hL) (fun r11 τ12 h8 hr9 => ?_) rfl
    replace hL := h8.1
    replace h := h8.2 hr9
    refine r_if_eq (pc := 49) (tgt := 54) dX12_inRow_49 (by decide) (fun c9 => ?_) (fun c9 => ?_)
    · replace h := h.1 c9
      refine r_aload_n (pc := 54) dX12_inRow_54 rfl rfl ?_
      refine c_VV0N (M := mX12_inRow) (pc := 55) (As := []) dX12_inRow_55 K_X12_laysRows w_1652 ⟨by decide, by decide⟩ (Nat.le_of_ble_eq_true rfl) rfl rfl (ci := 12) rfl rfl (by decide) (okO_of (N := 42) (hL.sh (i := 0) rfl (by decide) (by decide)) (by decide)) (h hL) (fun τ14 h8 => ?_) rfl
      replace hL := h8.1
      replace h := h8.2
      refine r_aload_n (pc := 58) dX12_inRow_58 rfl rfl ?_
      refine r_iload_n (pc := 59) dX12_inRow_59 rfl rfl ?_
      refine c_VV0N (M := mX12_inRow) (pc := 60) (As := [vi x2]) dX12_inRow_60 K_X12_laysPower w_1827 ⟨by decide, by decide⟩ (Nat.le_of_ble_eq_true rfl) rfl rfl (ci := 12) rfl rfl (by decide) (okO_of (N := 42) (hL.sh (i := 0) rfl (by decide) (by decide)) (by decide)) (h hL) (fun τ16 h8 => ?_) rfl
      replace hL := h8.1
      replace h := h8.2
      refine r_aload_n (pc := 63) dX12_inRow_63 rfl rfl ?_
      refine r_aload_n (pc := 64) dX12_inRow_64 rfl rfl ?_
      refine r_getR (pc := 65) dX12_inRow_65 (k9 := 36) CL_12 (by decide) (by decide) w_1451 rfl (okO_of (N := 42) (hL.sh (i := 0) rfl (by decide) (by decide)) (by decide)) ?_
      refine eqR (y := 2963) (hL.rf (i := 20) rfl) ?_
      refine r_iload_n (pc := 68) dX12_inRow_68 rfl rfl ?_
      refine c_VI0N (M := mX12_inRow) (pc := 69) (As := [vr 2963, vi x1]) dX12_inRow_69 K_X12_oftenIn w_1738 ⟨by decide, by decide⟩ (Nat.le_of_ble_eq_true rfl) rfl rfl (ci := 12) rfl rfl (by decide) (okO_of (N := 42) (hL.sh (i := 0) rfl (by decide) (by decide)) (by decide)) (h hL) (fun r17 τ18 h8 hr9 => ?_) rfl
      replace hL := h8.1
      replace h := h8.2 hr9
      exact r_ireturn (pc := 72) (ty := .int) dX12_inRow_72 (by decide +kernel) rfl (nar_i _) (h hL)
    · replace h := h.2 c9
      exact GG.msk [false, false, false] (h hL)
theorem B_X12_inRow_52 {g : Sg} {c t : Nat} (hL : Lay LM g c t σ)  (h : (Lay LM g c t σ → Q (.inl (some (vi 0))) σ)) : GG E mX12_inRow 52 [none, none, none] [] σ rc rs Q := by
  refine r_iconst (pc := 52) dX12_inRow_52 (inRk rfl) ?_
  exact r_ireturn (pc := 53) (ty := .int) dX12_inRow_53 (by decide +kernel) rfl (nar_i _) (h hL)
theorem C_X12_inRow {a0 : Nat} {x1 : Int} {x2 : Int} (h : GG E mX12_inRow 0 [some (vr a0), some (vi x1), some (vi x2)] [] σ 0 0 Q) : CC E mX12_inRow [vr a0, vi x1, vi x2] σ Q := CC.of (by decide +kernel) rfl (by decide +kernel) (fun h9 => nomatch h9) (Nat.le_of_ble_eq_true rfl) h
theorem dX12_init_0 : decode cX12_init 0 = .ok (.aload_n 0, 1) := by decide +kernel
theorem dX12_init_1 : decode cX12_init 1 = .ok (.invokespecial 1, 3) := by decide +kernel
theorem dX12_init_4 : decode cX12_init 4 = .ok (.aload_n 0, 1) := by decide +kernel
theorem dX12_init_5 : decode cX12_init 5 = .ok (.iconst 3, 1) := by decide +kernel
theorem dX12_init_6 : decode cX12_init 6 = .ok (.newarray .int, 2) := by decide +kernel
theorem dX12_init_8 : decode cX12_init 8 = .ok (.putfield 7, 3) := by decide +kernel
theorem dX12_init_11 : decode cX12_init 11 = .ok (.aload_n 0, 1) := by decide +kernel
theorem dX12_init_12 : decode cX12_init 12 = .ok (.iconst (-1), 1) := by decide +kernel
theorem dX12_init_13 : decode cX12_init 13 = .ok (.putfield 13, 3) := by decide +kernel
theorem dX12_init_16 : decode cX12_init 16 = .ok (.aload_n 0, 1) := by decide +kernel
theorem dX12_init_17 : decode cX12_init 17 = .ok (.sipush 400, 3) := by decide +kernel
theorem dX12_init_20 : decode cX12_init 20 = .ok (.newarray .int, 2) := by decide +kernel
theorem dX12_init_22 : decode cX12_init 22 = .ok (.putfield 17, 3) := by decide +kernel
theorem dX12_init_25 : decode cX12_init 25 = .ok (.aload_n 0, 1) := by decide +kernel
theorem dX12_init_26 : decode cX12_init 26 = .ok (.bipush 10, 2) := by decide +kernel
theorem dX12_init_28 : decode cX12_init 28 = .ok (.bipush 34, 2) := by decide +kernel
theorem dX12_init_30 : decode cX12_init 30 = .ok (.multianewarray 20 2, 4) := by decide +kernel
theorem dX12_init_34 : decode cX12_init 34 = .ok (.putfield 22, 3) := by decide +kernel
theorem dX12_init_37 : decode cX12_init 37 = .ok (.aload_n 0, 1) := by decide +kernel
theorem dX12_init_38 : decode cX12_init 38 = .ok (.iconst 4, 1) := by decide +kernel
theorem dX12_init_39 : decode cX12_init 39 = .ok (.newarray .int, 2) := by decide +kernel
theorem dX12_init_41 : decode cX12_init 41 = .ok (.putfield 25, 3) := by decide +kernel
theorem dX12_init_44 : decode cX12_init 44 = .ok (.aload_n 0, 1) := by decide +kernel
theorem dX12_init_45 : decode cX12_init 45 = .ok (.bipush 120, 2) := by decide +kernel
theorem dX12_init_47 : decode cX12_init 47 = .ok (.bipush 8, 2) := by decide +kernel
theorem dX12_init_49 : decode cX12_init 49 = .ok (.multianewarray 20 2, 4) := by decide +kernel
theorem dX12_init_53 : decode cX12_init 53 = .ok (.putfield 28, 3) := by decide +kernel
theorem dX12_init_56 : decode cX12_init 56 = .ok (.aload_n 0, 1) := by decide +kernel
theorem dX12_init_57 : decode cX12_init 57 = .ok (.bipush 8, 2) := by decide +kernel
theorem dX12_init_59 : decode cX12_init 59 = .ok (.newarray .int, 2) := by decide +kernel
theorem dX12_init_61 : decode cX12_init 61 = .ok (.putfield 31, 3) := by decide +kernel
theorem dX12_init_64 : decode cX12_init 64 = .ok (.aload_n 0, 1) := by decide +kernel
theorem dX12_init_65 : decode cX12_init 65 = .ok (.bipush 120, 2) := by decide +kernel
theorem dX12_init_67 : decode cX12_init 67 = .ok (.bipush 8, 2) := by decide +kernel
theorem dX12_init_69 : decode cX12_init 69 = .ok (.multianewarray 20 2, 4) := by decide +kernel
theorem dX12_init_73 : decode cX12_init 73 = .ok (.putfield 34, 3) := by decide +kernel
theorem dX12_init_76 : decode cX12_init 76 = .ok (.aload_n 0, 1) := by decide +kernel
theorem dX12_init_77 : decode cX12_init 77 = .ok (.bipush 120, 2) := by decide +kernel
theorem dX12_init_79 : decode cX12_init 79 = .ok (.bipush 120, 2) := by decide +kernel
theorem dX12_init_81 : decode cX12_init 81 = .ok (.multianewarray 20 2, 4) := by decide +kernel
theorem dX12_init_85 : decode cX12_init 85 = .ok (.putfield 37, 3) := by decide +kernel
theorem dX12_init_88 : decode cX12_init 88 = .ok (.aload_n 0, 1) := by decide +kernel
theorem dX12_init_89 : decode cX12_init 89 = .ok (.bipush 120, 2) := by decide +kernel
theorem dX12_init_91 : decode cX12_init 91 = .ok (.newarray .int, 2) := by decide +kernel
theorem dX12_init_93 : decode cX12_init 93 = .ok (.putfield 40, 3) := by decide +kernel
theorem dX12_init_96 : decode cX12_init 96 = .ok (.aload_n 0, 1) := by decide +kernel
theorem dX12_init_97 : decode cX12_init 97 = .ok (.bipush 120, 2) := by decide +kernel
theorem dX12_init_99 : decode cX12_init 99 = .ok (.newarray .int, 2) := by decide +kernel
theorem dX12_init_101 : decode cX12_init 101 = .ok (.putfield 43, 3) := by decide +kernel
theorem dX12_init_104 : decode cX12_init 104 = .ok (.aload_n 0, 1) := by decide +kernel
theorem dX12_init_105 : decode cX12_init 105 = .ok (.bipush 120, 2) := by decide +kernel
theorem dX12_init_107 : decode cX12_init 107 = .ok (.newarray .int, 2) := by decide +kernel
theorem dX12_init_109 : decode cX12_init 109 = .ok (.putfield 46, 3) := by decide +kernel
theorem dX12_init_112 : decode cX12_init 112 = .ok (.aload_n 0, 1) := by decide +kernel
theorem dX12_init_113 : decode cX12_init 113 = .ok (.bipush 120, 2) := by decide +kernel
theorem dX12_init_115 : decode cX12_init 115 = .ok (.newarray .int, 2) := by decide +kernel
theorem dX12_init_117 : decode cX12_init 117 = .ok (.putfield 49, 3) := by decide +kernel
theorem dX12_init_120 : decode cX12_init 120 = .ok (.aload_n 0, 1) := by decide +kernel
theorem dX12_init_121 : decode cX12_init 121 = .ok (.bipush 120, 2) := by decide +kernel
theorem dX12_init_123 : decode cX12_init 123 = .ok (.newarray .int, 2) := by decide +kernel
theorem dX12_init_125 : decode cX12_init 125 = .ok (.putfield 52, 3) := by decide +kernel
theorem dX12_init_128 : decode cX12_init 128 = .ok (.aload_n 0, 1) := by decide +kernel
theorem dX12_init_129 : decode cX12_init 129 = .ok (.sipush 2304, 3) := by decide +kernel
theorem dX12_init_132 : decode cX12_init 132 = .ok (.bipush 48, 2) := by decide +kernel
theorem dX12_init_134 : decode cX12_init 134 = .ok (.multianewarray 20 2, 4) := by decide +kernel
theorem dX12_init_138 : decode cX12_init 138 = .ok (.putfield 55, 3) := by decide +kernel
theorem dX12_init_141 : decode cX12_init 141 = .ok (.aload_n 0, 1) := by decide +kernel
theorem dX12_init_142 : decode cX12_init 142 = .ok (.bipush 48, 2) := by decide +kernel
theorem dX12_init_144 : decode cX12_init 144 = .ok (.bipush 48, 2) := by decide +kernel
theorem dX12_init_146 : decode cX12_init 146 = .ok (.multianewarray 20 2, 4) := by decide +kernel
theorem dX12_init_150 : decode cX12_init 150 = .ok (.putfield 58, 3) := by decide +kernel
theorem dX12_init_153 : decode cX12_init 153 = .ok (.aload_n 0, 1) := by decide +kernel
theorem dX12_init_154 : decode cX12_init 154 = .ok (.bipush 48, 2) := by decide +kernel
theorem dX12_init_156 : decode cX12_init 156 = .ok (.newarray .int, 2) := by decide +kernel
theorem dX12_init_158 : decode cX12_init 158 = .ok (.putfield 61, 3) := by decide +kernel
theorem dX12_init_161 : decode cX12_init 161 = .ok (.aload_n 0, 1) := by decide +kernel
theorem dX12_init_162 : decode cX12_init 162 = .ok (.bipush 48, 2) := by decide +kernel
theorem dX12_init_164 : decode cX12_init 164 = .ok (.newarray .int, 2) := by decide +kernel
theorem dX12_init_166 : decode cX12_init 166 = .ok (.putfield 64, 3) := by decide +kernel
theorem dX12_init_169 : decode cX12_init 169 = .ok (.aload_n 0, 1) := by decide +kernel
theorem dX12_init_170 : decode cX12_init 170 = .ok (.bipush 48, 2) := by decide +kernel
theorem dX12_init_172 : decode cX12_init 172 = .ok (.newarray .int, 2) := by decide +kernel
theorem dX12_init_174 : decode cX12_init 174 = .ok (.putfield 67, 3) := by decide +kernel
theorem dX12_init_177 : decode cX12_init 177 = .ok (.aload_n 0, 1) := by decide +kernel
theorem dX12_init_178 : decode cX12_init 178 = .ok (.bipush 48, 2) := by decide +kernel
theorem dX12_init_180 : decode cX12_init 180 = .ok (.bipush 48, 2) := by decide +kernel
theorem dX12_init_182 : decode cX12_init 182 = .ok (.multianewarray 20 2, 4) := by decide +kernel
theorem dX12_init_186 : decode cX12_init 186 = .ok (.putfield 70, 3) := by decide +kernel
theorem dX12_init_189 : decode cX12_init 189 = .ok (.aload_n 0, 1) := by decide +kernel
theorem dX12_init_190 : decode cX12_init 190 = .ok (.bipush 48, 2) := by decide +kernel
theorem dX12_init_192 : decode cX12_init 192 = .ok (.newarray .int, 2) := by decide +kernel
theorem dX12_init_194 : decode cX12_init 194 = .ok (.putfield 73, 3) := by decide +kernel
theorem dX12_init_197 : decode cX12_init 197 = .ok (.aload_n 0, 1) := by decide +kernel
theorem dX12_init_198 : decode cX12_init 198 = .ok (.bipush 48, 2) := by decide +kernel
theorem dX12_init_200 : decode cX12_init 200 = .ok (.newarray .int, 2) := by decide +kernel
theorem dX12_init_202 : decode cX12_init 202 = .ok (.putfield 76, 3) := by decide +kernel
theorem dX12_init_205 : decode cX12_init 205 = .ok (.aload_n 0, 1) := by decide +kernel
theorem dX12_init_206 : decode cX12_init 206 = .ok (.bipush 48, 2) := by decide +kernel
theorem dX12_init_208 : decode cX12_init 208 = .ok (.newarray .int, 2) := by decide +kernel
theorem dX12_init_210 : decode cX12_init 210 = .ok (.putfield 79, 3) := by decide +kernel
theorem dX12_init_213 : decode cX12_init 213 = .ok (.aload_n 0, 1) := by decide +kernel
theorem dX12_init_214 : decode cX12_init 214 = .ok (.bipush 8, 2) := by decide +kernel
theorem dX12_init_216 : decode cX12_init 216 = .ok (.newarray .int, 2) := by decide +kernel
theorem dX12_init_218 : decode cX12_init 218 = .ok (.putfield 82, 3) := by decide +kernel
theorem dX12_init_221 : decode cX12_init 221 = .ok (.aload_n 0, 1) := by decide +kernel
theorem dX12_init_222 : decode cX12_init 222 = .ok (.bipush 48, 2) := by decide +kernel
theorem dX12_init_224 : decode cX12_init 224 = .ok (.newarray .int, 2) := by decide +kernel
theorem dX12_init_226 : decode cX12_init 226 = .ok (.putfield 85, 3) := by decide +kernel
theorem dX12_init_229 : decode cX12_init 229 = .ok (.aload_n 0, 1) := by decide +kernel
theorem dX12_init_230 : decode cX12_init 230 = .ok (.bipush 120, 2) := by decide +kernel
theorem dX12_init_232 : decode cX12_init 232 = .ok (.newarray .boolean, 2) := by decide +kernel
theorem dX12_init_234 : decode cX12_init 234 = .ok (.putfield 88, 3) := by decide +kernel
theorem dX12_init_237 : decode cX12_init 237 = .ok (.aload_n 0, 1) := by decide +kernel
theorem dX12_init_238 : decode cX12_init 238 = .ok (.getfield 22, 3) := by decide +kernel
theorem dX12_init_241 : decode cX12_init 241 = .ok (.iconst 0, 1) := by decide +kernel
theorem dX12_init_242 : decode cX12_init 242 = .ok (.aaload, 1) := by decide +kernel
theorem dX12_init_243 : decode cX12_init 243 = .ok (.iconst 0, 1) := by decide +kernel
theorem dX12_init_244 : decode cX12_init 244 = .ok (.iconst 2, 1) := by decide +kernel
theorem dX12_init_245 : decode cX12_init 245 = .ok (.iastore, 1) := by decide +kernel
theorem dX12_init_246 : decode cX12_init 246 = .ok (.aload_n 0, 1) := by decide +kernel
theorem dX12_init_247 : decode cX12_init 247 = .ok (.iconst 0, 1) := by decide +kernel
theorem dX12_init_248 : decode cX12_init 248 = .ok (.invokevirtual 92, 3) := by decide +kernel
theorem dX12_init_251 : decode cX12_init 251 = .ok (.istore_n 1, 1) := by decide +kernel
theorem dX12_init_252 : decode cX12_init 252 = .ok (.aload_n 0, 1) := by decide +kernel
theorem dX12_init_253 : decode cX12_init 253 = .ok (.invokevirtual 96, 3) := by decide +kernel
theorem dX12_init_256 : decode cX12_init 256 = .ok (.return_, 1) := by decide +kernel
theorem B_X12_init_0 {a0 : Nat} (h : 16 ≤ a0 ∧ 1 ≤ rc ∧ 3 ≤ rs ∧ ∀ b1 : Nat, b1 = gz σ → okO (nw σ (20, 3)) a0 12 ∧ ∀ τ3 : Sg, τ3 = sR (nw σ (20, 3)) a0 1 b1 → okO τ3 a0 12 ∧ ∀ τ5 : Sg, τ5 = sI τ3 a0 5 (-1) → 1 ≤ rc - 1 ∧ 400 ≤ rs - 3 ∧ ∀ b6 : Nat, b6 = gz τ5 → okO (nw τ5 (20, 400)) a0 12 ∧ ∀ τ8 : Sg, τ8 = sR (nw τ5 (20, 400)) a0 8 b6 → 11 ≤ rc - 1 - 1 ∧ 350 ≤ rs - 3 - 400 ∧ ∀ b9 : Nat, b9 = gz τ8 → okO (nm τ8 10 34) a0 12 ∧ ∀ τ11 : Sg, τ11 = sR (nm τ8 10 34) a0 9 b9 → 1 ≤ rc - 1 - 1 - 11 ∧ 4 ≤ rs - 3 - 400 - 350 ∧ ∀ b12 : Nat, b12 = gz τ11 → okO (nw τ11 (20, 4)) a0 12 ∧ ∀ τ14 : Sg, τ14 = sR (nw τ11 (20, 4)) a0 11 b12 → 121 ≤ rc - 1 - 1 - 11 - 1 ∧ 1080 ≤ rs - 3 - 400 - 350 - 4 ∧ ∀ b15 : Nat, b15 = gz τ14 → okO (nm τ14 120 8) a0 12 ∧ ∀ τ17 : Sg, τ17 = sR (nm τ14 120 8) a0 13 b15 → 1 ≤ rc - 1 - 1 - 11 - 1 - 121 ∧ 8 ≤ rs - 3 - 400 - 350 - 4 - 1080 ∧ ∀ b18 : Nat, b18 = gz τ17 → okO (nw τ17 (20, 8)) a0 12 ∧ ∀ τ20 : Sg, τ20 = sR (nw τ17 (20, 8)) a0 14 b18 → 121 ≤ rc - 1 - 1 - 11 - 1 - 121 - 1 ∧ 1080 ≤ rs - 3 - 400 - 350 - 4 - 1080 - 8 ∧ ∀ b21 : Nat, b21 = gz τ20 → okO (nm τ20 120 8) a0 12 ∧ ∀ τ23 : Sg, τ23 = sR (nm τ20 120 8) a0 20 b21 → 121 ≤ rc - 1 - 1 - 11 - 1 - 121 - 1 - 121 ∧ 14520 ≤ rs - 3 - 400 - 350 - 4 - 1080 - 8 - 1080 ∧ ∀ b24 : Nat, b24 = gz τ23 → okO (nm τ23 120 120) a0 12 ∧ ∀ τ26 : Sg, τ26 = sR (nm τ23 120 120) a0 21 b24 → 1 ≤ rc - 1 - 1 - 11 - 1 - 121 - 1 - 121 - 121 ∧ 120 ≤ rs - 3 - 400 - 350 - 4 - 1080 - 8 - 1080 - 14520 ∧ ∀ b27 : Nat, b27 = gz τ26 → okO (nw τ26 (20, 120)) a0 12 ∧ ∀ τ29 : Sg, τ29 = sR (nw τ26 (20, 120)) a0 22 b27 → 1 ≤ rc - 1 - 1 - 11 - 1 - 121 - 1 - 121 - 121 - 1 ∧ 120 ≤ rs - 3 - 400 - 350 - 4 - 1080 - 8 - 1080 - 14520 - 120 ∧ ∀ b30 : Nat, b30 = gz τ29 → okO (nw τ29 (20, 120)) a0 12 ∧ ∀ τ32 : Sg, τ32 = sR (nw τ29 (20, 120)) a0 23 b30 → 1 ≤ rc - 1 - 1 - 11 - 1 - 121 - 1 - 121 - 121 - 1 - 1 ∧ 120 ≤ rs - 3 - 400 - 350 - 4 - 1080 - 8 - 1080 - 14520 - 120 - 120 ∧ ∀ b33 : Nat, b33 = gz τ32 → okO (nw τ32 (20, 120)) a0 12 ∧ ∀ τ35 : Sg, τ35 = sR (nw τ32 (20, 120)) a0 24 b33 → 1 ≤ rc - 1 - 1 - 11 - 1 - 121 - 1 - 121 - 121 - 1 - 1 - 1 ∧ 120 ≤ rs - 3 - 400 - 350 - 4 - 1080 - 8 - 1080 - 14520 - 120 - 120 - 120 ∧ ∀ b36 : Nat, b36 = gz τ35 → okO (nw τ35 (20, 120)) a0 12 ∧ ∀ τ38 : Sg, τ38 = sR (nw τ35 (20, 120)) a0 25 b36 → 1 ≤ rc - 1 - 1 - 11 - 1 - 121 - 1 - 121 - 121 - 1 - 1 - 1 - 1 ∧ 120 ≤ rs - 3 - 400 - 350 - 4 - 1080 - 8 - 1080 - 14520 - 120 - 120 - 120 - 120 ∧ ∀ b39 : Nat, b39 = gz τ38 → okO (nw τ38 (20, 120)) a0 12 ∧ ∀ τ41 : Sg, τ41 = sR (nw τ38 (20, 120)) a0 26 b39 → 2305 ≤ rc - 1 - 1 - 11 - 1 - 121 - 1 - 121 - 121 - 1 - 1 - 1 - 1 - 1 ∧ 112896 ≤ rs - 3 - 400 - 350 - 4 - 1080 - 8 - 1080 - 14520 - 120 - 120 - 120 - 120 - 120 ∧ ∀ b42 : Nat, b42 = gz τ41 → okO (nm τ41 2304 48) a0 12 ∧ ∀ τ44 : Sg, τ44 = sR (nm τ41 2304 48) a0 28 b42 → 49 ≤ rc - 1 - 1 - 11 - 1 - 121 - 1 - 121 - 121 - 1 - 1 - 1 - 1 - 1 - 2305 ∧ 2352 ≤ rs - 3 - 400 - 350 - 4 - 1080 - 8 - 1080 - 14520 - 120 - 120 - 120 - 120 - 120 - 112896 ∧ ∀ b45 : Nat, b45 = gz τ44 → okO (nm τ44 48 48) a0 12 ∧ ∀ τ47 : Sg, τ47 = sR (nm τ44 48 48) a0 29 b45 → 1 ≤ rc - 1 - 1 - 11 - 1 - 121 - 1 - 121 - 121 - 1 - 1 - 1 - 1 - 1 - 2305 - 49 ∧ 48 ≤ rs - 3 - 400 - 350 - 4 - 1080 - 8 - 1080 - 14520 - 120 - 120 - 120 - 120 - 120 - 112896 - 2352 ∧ ∀ b48 : Nat, b48 = gz τ47 → okO (nw τ47 (20, 48)) a0 12 ∧ ∀ τ50 : Sg, τ50 = sR (nw τ47 (20, 48)) a0 30 b48 → 1 ≤ rc - 1 - 1 - 11 - 1 - 121 - 1 - 121 - 121 - 1 - 1 - 1 - 1 - 1 - 2305 - 49 - 1 ∧ 48 ≤ rs - 3 - 400 - 350 - 4 - 1080 - 8 - 1080 - 14520 - 120 - 120 - 120 - 120 - 120 - 112896 - 2352 - 48 ∧ ∀ b51 : Nat, b51 = gz τ50 → okO (nw τ50 (20, 48)) a0 12 ∧ ∀ τ53 : Sg, τ53 = sR (nw τ50 (20, 48)) a0 31 b51 → 1 ≤ rc - 1 - 1 - 11 - 1 - 121 - 1 - 121 - 121 - 1 - 1 - 1 - 1 - 1 - 2305 - 49 - 1 - 1 ∧ 48 ≤ rs - 3 - 400 - 350 - 4 - 1080 - 8 - 1080 - 14520 - 120 - 120 - 120 - 120 - 120 - 112896 - 2352 - 48 - 48 ∧ ∀ b54 : Nat, b54 = gz τ53 → okO (nw τ53 (20, 48)) a0 12 ∧ ∀ τ56 : Sg, τ56 = sR (nw τ53 (20, 48)) a0 32 b54 → 49 ≤ rc - 1 - 1 - 11 - 1 - 121 - 1 - 121 - 121 - 1 - 1 - 1 - 1 - 1 - 2305 - 49 - 1 - 1 - 1 ∧ 2352 ≤ rs - 3 - 400 - 350 - 4 - 1080 - 8 - 1080 - 14520 - 120 - 120 - 120 - 120 - 120 - 112896 - 2352 - 48 - 48 - 48 ∧ ∀ b57 : Nat, b57 = gz τ56 → okO (nm τ56 48 48) a0 12 ∧ ∀ τ59 : Sg, τ59 = sR (nm τ56 48 48) a0 33 b57 → 1 ≤ rc - 1 - 1 - 11 - 1 - 121 - 1 - 121 - 121 - 1 - 1 - 1 - 1 - 1 - 2305 - 49 - 1 - 1 - 1 - 49 ∧ 48 ≤ rs - 3 - 400 - 350 - 4 - 1080 - 8 - 1080 - 14520 - 120 - 120 - 120 - 120 - 120 - 112896 - 2352 - 48 - 48 - 48 - 2352 ∧ ∀ b60 : Nat, b60 = gz τ59 → okO (nw τ59 (20, 48)) a0 12 ∧ ∀ τ62 : Sg, τ62 = sR (nw τ59 (20, 48)) a0 34 b60 → 1 ≤ rc - 1 - 1 - 11 - 1 - 121 - 1 - 121 - 121 - 1 - 1 - 1 - 1 - 1 - 2305 - 49 - 1 - 1 - 1 - 49 - 1 ∧ 48 ≤ rs - 3 - 400 - 350 - 4 - 1080 - 8 - 1080 - 14520 - 120 - 120 - 120 - 120 - 120 - 112896 - 2352 - 48 - 48 - 48 - 2352 - 48 ∧ ∀ b63 : Nat, b63 = gz τ62 → okO (nw τ62 (20, 48)) a0 12 ∧ ∀ τ65 : Sg, τ65 = sR (nw τ62 (20, 48)) a0 36 b63 → 1 ≤ rc - 1 - 1 - 11 - 1 - 121 - 1 - 121 - 121 - 1 - 1 - 1 - 1 - 1 - 2305 - 49 - 1 - 1 - 1 - 49 - 1 - 1 ∧ 48 ≤ rs - 3 - 400 - 350 - 4 - 1080 - 8 - 1080 - 14520 - 120 - 120 - 120 - 120 - 120 - 112896 - 2352 - 48 - 48 - 48 - 2352 - 48 - 48 ∧ ∀ b66 : Nat, b66 = gz τ65 → okO (nw τ65 (20, 48)) a0 12 ∧ ∀ τ68 : Sg, τ68 = sR (nw τ65 (20, 48)) a0 37 b66 → 1 ≤ rc - 1 - 1 - 11 - 1 - 121 - 1 - 121 - 121 - 1 - 1 - 1 - 1 - 1 - 2305 - 49 - 1 - 1 - 1 - 49 - 1 - 1 - 1 ∧ 8 ≤ rs - 3 - 400 - 350 - 4 - 1080 - 8 - 1080 - 14520 - 120 - 120 - 120 - 120 - 120 - 112896 - 2352 - 48 - 48 - 48 - 2352 - 48 - 48 - 48 ∧ ∀ b69 : Nat, b69 = gz τ68 → okO (nw τ68 (20, 8)) a0 12 ∧ ∀ τ71 : Sg, τ71 = sR (nw τ68 (20, 8)) a0 38 b69 → 1 ≤ rc - 1 - 1 - 11 - 1 - 121 - 1 - 121 - 121 - 1 - 1 - 1 - 1 - 1 - 2305 - 49 - 1 - 1 - 1 - 49 - 1 - 1 - 1 - 1 ∧ 48 ≤ rs - 3 - 400 - 350 - 4 - 1080 - 8 - 1080 - 14520 - 120 - 120 - 120 - 120 - 120 - 112896 - 2352 - 48 - 48 - 48 - 2352 - 48 - 48 - 48 - 8 ∧ ∀ b72 : Nat, b72 = gz τ71 → okO (nw τ71 (20, 48)) a0 12 ∧ ∀ τ74 : Sg, τ74 = sR (nw τ71 (20, 48)) a0 39 b72 → 1 ≤ rc - 1 - 1 - 11 - 1 - 121 - 1 - 121 - 121 - 1 - 1 - 1 - 1 - 1 - 2305 - 49 - 1 - 1 - 1 - 49 - 1 - 1 - 1 - 1 - 1 ∧ 120 ≤ rs - 3 - 400 - 350 - 4 - 1080 - 8 - 1080 - 14520 - 120 - 120 - 120 - 120 - 120 - 112896 - 2352 - 48 - 48 - 48 - 2352 - 48 - 48 - 48 - 8 - 48 ∧ ∀ b75 : Nat, b75 = gz τ74 → okO (nw τ74 (22, 120)) a0 12 ∧ ∀ τ77 : Sg, τ77 = sR (nw τ74 (22, 120)) a0 40 b75 → okO τ77 a0 12 ∧ okB 24 τ77 (gR τ77 a0 9) 0 ∧ okB 20 τ77 (gR τ77 (gR τ77 a0 9) 0) 0 ∧ ∀ τ81 : Sg, τ81 = sI τ77 (gR τ77 (gR τ77 a0 9) 0) 0 2 → okO τ81 a0 12 ∧ CC E mX12_closes [vr a0, vi 0] τ81 (KI (fun r82 τ83 => inR r82 → okO τ83 a0 12 ∧ CC E mX12_keepsGroup [vr a0] τ83 (KV (fun τ85 => Q (.inl none) τ85) (fun _ _ => False))) (fun _ _ => False))) : GG E mX12_init 0 [some (vr a0), none] [] σ rc rs Q := by
  refine r_aload_n (pc := 0) dX12_init_0 rfl rfl ?_
  refine r_objInit (pc := 1) dX12_init_1 w_1371 w_129 w_130 (by decide) (Nat.le_of_ble_eq_true rfl) h.1 ?_
  replace h := h.2
  refine r_aload_n (pc := 4) dX12_init_4 rfl rfl ?_
  refine r_iconst (pc := 5) dX12_init_5 (inRk rfl) ?_
  refine r_newarray (pc := 6) dX12_init_6 (cc := 20) rfl (by decide) (by decide) w_175 (by decide) (by decide) h.1 h.2.1 ?_
  replace h := h.2.2
  change GG _ _ _ _ (vr _ :: _) (nw _ (20, 3)) (_ - 1) (_ - 3) _
  refine nmR (fun b1 e9 => ?_)
  replace h := h b1 e9
  obtain ⟨o2, h⟩ := h
  refine r_putRF (pc := 8) dX12_init_8 (k9 := 1) CL_12 (by decide) (by decide) w_1416 rfl rfl rfl rfl o2 ?_
  refine nmS (fun τ3 e3 => ?_)
  replace h := h τ3 e3
  refine r_aload_n (pc := 11) dX12_init_11 rfl rfl ?_
  refine r_iconst (pc := 12) dX12_init_12 (inRk rfl) ?_
  obtain ⟨o4, h⟩ := h
  refine r_putI (pc := 13) dX12_init_13 (k9 := 5) CL_12 (by decide) (by decide) w_1420 rfl rfl (fun h9 => absurd h9 (by decide +kernel)) o4 ?_
  refine nmS (fun τ5 e5 => ?_)
  replace h := h τ5 e5
  refine r_aload_n (pc := 16) dX12_init_16 rfl rfl ?_
  refine r_sipush (pc := 17) dX12_init_17 (by decide) ?_
  refine r_newarray (pc := 20) dX12_init_20 (cc := 20) rfl (by decide) (by decide) w_175 (by decide) (by decide) h.1 h.2.1 ?_
  replace h := h.2.2
  change GG _ _ _ _ (vr _ :: _) (nw _ (20, 400)) (_ - 1) (_ - 400) _
  refine nmR (fun b6 e9 => ?_)
  replace h := h b6 e9
  obtain ⟨o7, h⟩ := h
  refine r_putRF (pc := 22) dX12_init_22 (k9 := 8) CL_12 (by decide) (by decide) w_1423 rfl rfl rfl rfl o7 ?_
  refine nmS (fun τ8 e8 => ?_)
  replace h := h τ8 e8
  refine r_aload_n (pc := 25) dX12_init_25 rfl rfl ?_
  refine r_bipush (pc := 26) dX12_init_26 (by decide) ?_
  refine r_bipush (pc := 28) dX12_init_28 (by decide) ?_
  refine r_mna (pc := 30) dX12_init_30 w_1372 w_175 (by decide) (by decide) (by decide) (by decide) h.1 h.2.1 ?_
  replace h := h.2.2
  change GG _ _ _ _ (vr _ :: _) (nm _ 10 34) (_ - 11) (_ - 350) _
  refine nmR (fun b9 e9 => ?_)
  replace h := h b9 e9
  obtain ⟨o10, h⟩ := h
  refine r_putRF (pc := 34) dX12_init_34 (k9 := 9) CL_12 (by decide) (by decide) w_1424 rfl rfl rfl rfl o10 ?_
  refine nmS (fun τ11 e11 => ?_)
  replace h := h τ11 e11
  refine r_aload_n (pc := 37) dX12_init_37 rfl rfl ?_
  refine r_iconst (pc := 38) dX12_init_38 (inRk rfl) ?_
  refine r_newarray (pc := 39) dX12_init_39 (cc := 20) rfl (by decide) (by decide) w_175 (by decide) (by decide) h.1 h.2.1 ?_
  replace h := h.2.2
  change GG _ _ _ _ (vr _ :: _) (nw _ (20, 4)) (_ - 1) (_ - 4) _
  refine nmR (fun b12 e9 => ?_)
  replace h := h b12 e9
  obtain ⟨o13, h⟩ := h
  refine r_putRF (pc := 41) dX12_init_41 (k9 := 11) CL_12 (by decide) (by decide) w_1426 rfl rfl rfl rfl o13 ?_
  refine nmS (fun τ14 e14 => ?_)
  replace h := h τ14 e14
  refine r_aload_n (pc := 44) dX12_init_44 rfl rfl ?_
  refine r_bipush (pc := 45) dX12_init_45 (by decide) ?_
  refine r_bipush (pc := 47) dX12_init_47 (by decide) ?_
  refine r_mna (pc := 49) dX12_init_49 w_1372 w_175 (by decide) (by decide) (by decide) (by decide) h.1 h.2.1 ?_
  replace h := h.2.2
  change GG _ _ _ _ (vr _ :: _) (nm _ 120 8) (_ - 121) (_ - 1080) _
  refine nmR (fun b15 e9 => ?_)
  replace h := h b15 e9
  obtain ⟨o16, h⟩ := h
  refine r_putRF (pc := 53) dX12_init_53 (k9 := 13) CL_12 (by decide) (by decide) w_1428 rfl rfl rfl rfl o16 ?_
  refine nmS (fun τ17 e17 => ?_)
  replace h := h τ17 e17
  refine r_aload_n (pc := 56) dX12_init_56 rfl rfl ?_
  refine r_bipush (pc := 57) dX12_init_57 (by decide) ?_
  refine r_newarray (pc := 59) dX12_init_59 (cc := 20) rfl (by decide) (by decide) w_175 (by decide) (by decide) h.1 h.2.1 ?_
  replace h := h.2.2
  change GG _ _ _ _ (vr _ :: _) (nw _ (20, 8)) (_ - 1) (_ - 8) _
  refine nmR (fun b18 e9 => ?_)
  replace h := h b18 e9
  obtain ⟨o19, h⟩ := h
  refine r_putRF (pc := 61) dX12_init_61 (k9 := 14) CL_12 (by decide) (by decide) w_1429 rfl rfl rfl rfl o19 ?_
  refine nmS (fun τ20 e20 => ?_)
  replace h := h τ20 e20
  refine r_aload_n (pc := 64) dX12_init_64 rfl rfl ?_
  refine r_bipush (pc := 65) dX12_init_65 (by decide) ?_
  refine r_bipush (pc := 67) dX12_init_67 (by decide) ?_
  refine r_mna (pc := 69) dX12_init_69 w_1372 w_175 (by decide) (by decide) (by decide) (by decide) h.1 h.2.1 ?_
  replace h := h.2.2
  change GG _ _ _ _ (vr _ :: _) (nm _ 120 8) (_ - 121) (_ - 1080) _
  refine nmR (fun b21 e9 => ?_)
  replace h := h b21 e9
  obtain ⟨o22, h⟩ := h
  refine r_putRF (pc := 73) dX12_init_73 (k9 := 20) CL_12 (by decide) (by decide) w_1435 rfl rfl rfl rfl o22 ?_
  refine nmS (fun τ23 e23 => ?_)
  replace h := h τ23 e23
  refine r_aload_n (pc := 76) dX12_init_76 rfl rfl ?_
  refine r_bipush (pc := 77) dX12_init_77 (by decide) ?_
  refine r_bipush (pc := 79) dX12_init_79 (by decide) ?_
  refine r_mna (pc := 81) dX12_init_81 w_1372 w_175 (by decide) (by decide) (by decide) (by decide) h.1 h.2.1 ?_
  replace h := h.2.2
  change GG _ _ _ _ (vr _ :: _) (nm _ 120 120) (_ - 121) (_ - 14520) _
  refine nmR (fun b24 e9 => ?_)
  replace h := h b24 e9
  obtain ⟨o25, h⟩ := h
  refine r_putRF (pc := 85) dX12_init_85 (k9 := 21) CL_12 (by decide) (by decide) w_1436 rfl rfl rfl rfl o25 ?_
  refine nmS (fun τ26 e26 => ?_)
  replace h := h τ26 e26
  refine r_aload_n (pc := 88) dX12_init_88 rfl rfl ?_
  refine r_bipush (pc := 89) dX12_init_89 (by decide) ?_
  refine r_newarray (pc := 91) dX12_init_91 (cc := 20) rfl (by decide) (by decide) w_175 (by decide) (by decide) h.1 h.2.1 ?_
  replace h := h.2.2
  change GG _ _ _ _ (vr _ :: _) (nw _ (20, 120)) (_ - 1) (_ - 120) _
  refine nmR (fun b27 e9 => ?_)
  replace h := h b27 e9
  obtain ⟨o28, h⟩ := h
  refine r_putRF (pc := 93) dX12_init_93 (k9 := 22) CL_12 (by decide) (by decide) w_1437 rfl rfl rfl rfl o28 ?_
  refine nmS (fun τ29 e29 => ?_)
  replace h := h τ29 e29
  refine r_aload_n (pc := 96) dX12_init_96 rfl rfl ?_
  refine r_bipush (pc := 97) dX12_init_97 (by decide) ?_
  refine r_newarray (pc := 99) dX12_init_99 (cc := 20) rfl (by decide) (by decide) w_175 (by decide) (by decide) h.1 h.2.1 ?_
  replace h := h.2.2
  change GG _ _ _ _ (vr _ :: _) (nw _ (20, 120)) (_ - 1) (_ - 120) _
  refine nmR (fun b30 e9 => ?_)
  replace h := h b30 e9
  obtain ⟨o31, h⟩ := h
  refine r_putRF (pc := 101) dX12_init_101 (k9 := 23) CL_12 (by decide) (by decide) w_1438 rfl rfl rfl rfl o31 ?_
  refine nmS (fun τ32 e32 => ?_)
  replace h := h τ32 e32
  refine r_aload_n (pc := 104) dX12_init_104 rfl rfl ?_
  refine r_bipush (pc := 105) dX12_init_105 (by decide) ?_
  refine r_newarray (pc := 107) dX12_init_107 (cc := 20) rfl (by decide) (by decide) w_175 (by decide) (by decide) h.1 h.2.1 ?_
  replace h := h.2.2
  change GG _ _ _ _ (vr _ :: _) (nw _ (20, 120)) (_ - 1) (_ - 120) _
  refine nmR (fun b33 e9 => ?_)
  replace h := h b33 e9
  obtain ⟨o34, h⟩ := h
  refine r_putRF (pc := 109) dX12_init_109 (k9 := 24) CL_12 (by decide) (by decide) w_1439 rfl rfl rfl rfl o34 ?_
  refine nmS (fun τ35 e35 => ?_)
  replace h := h τ35 e35
  refine r_aload_n (pc := 112) dX12_init_112 rfl rfl ?_
  refine r_bipush (pc := 113) dX12_init_113 (by decide) ?_
  refine r_newarray (pc := 115) dX12_init_115 (cc := 20) rfl (by decide) (by decide) w_175 (by decide) (by decide) h.1 h.2.1 ?_
  replace h := h.2.2
  change GG _ _ _ _ (vr _ :: _) (nw _ (20, 120)) (_ - 1) (_ - 120) _
  refine nmR (fun b36 e9 => ?_)
  replace h := h b36 e9
  obtain ⟨o37, h⟩ := h
  refine r_putRF (pc := 117) dX12_init_117 (k9 := 25) CL_12 (by decide) (by decide) w_1440 rfl rfl rfl rfl o37 ?_
  refine nmS (fun τ38 e38 => ?_)
  replace h := h τ38 e38
  refine r_aload_n (pc := 120) dX12_init_120 rfl rfl ?_
  refine r_bipush (pc := 121) dX12_init_121 (by decide) ?_
  refine r_newarray (pc := 123) dX12_init_123 (cc := 20) rfl (by decide) (by decide) w_175 (by decide) (by decide) h.1 h.2.1 ?_
  replace h := h.2.2
  change GG _ _ _ _ (vr _ :: _) (nw _ (20, 120)) (_ - 1) (_ - 120) _
  refine nmR (fun b39 e9 => ?_)
  replace h := h b39 e9
  obtain ⟨o40, h⟩ := h
  refine r_putRF (pc := 125) dX12_init_125 (k9 := 26) CL_12 (by decide) (by decide) w_1441 rfl rfl rfl rfl o40 ?_
  refine nmS (fun τ41 e41 => ?_)
  replace h := h τ41 e41
  refine r_aload_n (pc := 128) dX12_init_128 rfl rfl ?_
  refine r_sipush (pc := 129) dX12_init_129 (by decide) ?_
  refine r_bipush (pc := 132) dX12_init_132 (by decide) ?_
  refine r_mna (pc := 134) dX12_init_134 w_1372 w_175 (by decide) (by decide) (by decide) (by decide) h.1 h.2.1 ?_
  replace h := h.2.2
  change GG _ _ _ _ (vr _ :: _) (nm _ 2304 48) (_ - 2305) (_ - 112896) _
  refine nmR (fun b42 e9 => ?_)
  replace h := h b42 e9
  obtain ⟨o43, h⟩ := h
  refine r_putRF (pc := 138) dX12_init_138 (k9 := 28) CL_12 (by decide) (by decide) w_1443 rfl rfl rfl rfl o43 ?_
  refine nmS (fun τ44 e44 => ?_)
  replace h := h τ44 e44
  refine r_aload_n (pc := 141) dX12_init_141 rfl rfl ?_
  refine r_bipush (pc := 142) dX12_init_142 (by decide) ?_
  refine r_bipush (pc := 144) dX12_init_144 (by decide) ?_
  refine r_mna (pc := 146) dX12_init_146 w_1372 w_175 (by decide) (by decide) (by decide) (by decide) h.1 h.2.1 ?_
  replace h := h.2.2
  change GG _ _ _ _ (vr _ :: _) (nm _ 48 48) (_ - 49) (_ - 2352) _
  refine nmR (fun b45 e9 => ?_)
  replace h := h b45 e9
  obtain ⟨o46, h⟩ := h
  refine r_putRF (pc := 150) dX12_init_150 (k9 := 29) CL_12 (by decide) (by decide) w_1444 rfl rfl rfl rfl o46 ?_
  refine nmS (fun τ47 e47 => ?_)
  replace h := h τ47 e47
  refine r_aload_n (pc := 153) dX12_init_153 rfl rfl ?_
  refine r_bipush (pc := 154) dX12_init_154 (by decide) ?_
  refine r_newarray (pc := 156) dX12_init_156 (cc := 20) rfl (by decide) (by decide) w_175 (by decide) (by decide) h.1 h.2.1 ?_
  replace h := h.2.2
  change GG _ _ _ _ (vr _ :: _) (nw _ (20, 48)) (_ - 1) (_ - 48) _
  refine nmR (fun b48 e9 => ?_)
  replace h := h b48 e9
  obtain ⟨o49, h⟩ := h
  refine r_putRF (pc := 158) dX12_init_158 (k9 := 30) CL_12 (by decide) (by decide) w_1445 rfl rfl rfl rfl o49 ?_
  refine nmS (fun τ50 e50 => ?_)
  replace h := h τ50 e50
  refine r_aload_n (pc := 161) dX12_init_161 rfl rfl ?_
  refine r_bipush (pc := 162) dX12_init_162 (by decide) ?_
  refine r_newarray (pc := 164) dX12_init_164 (cc := 20) rfl (by decide) (by decide) w_175 (by decide) (by decide) h.1 h.2.1 ?_
  replace h := h.2.2
  change GG _ _ _ _ (vr _ :: _) (nw _ (20, 48)) (_ - 1) (_ - 48) _
  refine nmR (fun b51 e9 => ?_)
  replace h := h b51 e9
  obtain ⟨o52, h⟩ := h
  refine r_putRF (pc := 166) dX12_init_166 (k9 := 31) CL_12 (by decide) (by decide) w_1446 rfl rfl rfl rfl o52 ?_
  refine nmS (fun τ53 e53 => ?_)
  replace h := h τ53 e53
  refine r_aload_n (pc := 169) dX12_init_169 rfl rfl ?_
  refine r_bipush (pc := 170) dX12_init_170 (by decide) ?_
  refine r_newarray (pc := 172) dX12_init_172 (cc := 20) rfl (by decide) (by decide) w_175 (by decide) (by decide) h.1 h.2.1 ?_
  replace h := h.2.2
  change GG _ _ _ _ (vr _ :: _) (nw _ (20, 48)) (_ - 1) (_ - 48) _
  refine nmR (fun b54 e9 => ?_)
  replace h := h b54 e9
  obtain ⟨o55, h⟩ := h
  refine r_putRF (pc := 174) dX12_init_174 (k9 := 32) CL_12 (by decide) (by decide) w_1447 rfl rfl rfl rfl o55 ?_
  refine nmS (fun τ56 e56 => ?_)
  replace h := h τ56 e56
  refine r_aload_n (pc := 177) dX12_init_177 rfl rfl ?_
  refine r_bipush (pc := 178) dX12_init_178 (by decide) ?_
  refine r_bipush (pc := 180) dX12_init_180 (by decide) ?_
  refine r_mna (pc := 182) dX12_init_182 w_1372 w_175 (by decide) (by decide) (by decide) (by decide) h.1 h.2.1 ?_
  replace h := h.2.2
  change GG _ _ _ _ (vr _ :: _) (nm _ 48 48) (_ - 49) (_ - 2352) _
  refine nmR (fun b57 e9 => ?_)
  replace h := h b57 e9
  obtain ⟨o58, h⟩ := h
  refine r_putRF (pc := 186) dX12_init_186 (k9 := 33) CL_12 (by decide) (by decide) w_1448 rfl rfl rfl rfl o58 ?_
  refine nmS (fun τ59 e59 => ?_)
  replace h := h τ59 e59
  refine r_aload_n (pc := 189) dX12_init_189 rfl rfl ?_
  refine r_bipush (pc := 190) dX12_init_190 (by decide) ?_
  refine r_newarray (pc := 192) dX12_init_192 (cc := 20) rfl (by decide) (by decide) w_175 (by decide) (by decide) h.1 h.2.1 ?_
  replace h := h.2.2
  change GG _ _ _ _ (vr _ :: _) (nw _ (20, 48)) (_ - 1) (_ - 48) _
  refine nmR (fun b60 e9 => ?_)
  replace h := h b60 e9
  obtain ⟨o61, h⟩ := h
  refine r_putRF (pc := 194) dX12_init_194 (k9 := 34) CL_12 (by decide) (by decide) w_1449 rfl rfl rfl rfl o61 ?_
  refine nmS (fun τ62 e62 => ?_)
  replace h := h τ62 e62
  refine r_aload_n (pc := 197) dX12_init_197 rfl rfl ?_
  refine r_bipush (pc := 198) dX12_init_198 (by decide) ?_
  refine r_newarray (pc := 200) dX12_init_200 (cc := 20) rfl (by decide) (by decide) w_175 (by decide) (by decide) h.1 h.2.1 ?_
  replace h := h.2.2
  change GG _ _ _ _ (vr _ :: _) (nw _ (20, 48)) (_ - 1) (_ - 48) _
  refine nmR (fun b63 e9 => ?_)
  replace h := h b63 e9
  obtain ⟨o64, h⟩ := h
  refine r_putRF (pc := 202) dX12_init_202 (k9 := 36) CL_12 (by decide) (by decide) w_1451 rfl rfl rfl rfl o64 ?_
  refine nmS (fun τ65 e65 => ?_)
  replace h := h τ65 e65
  refine r_aload_n (pc := 205) dX12_init_205 rfl rfl ?_
  refine r_bipush (pc := 206) dX12_init_206 (by decide) ?_
  refine r_newarray (pc := 208) dX12_init_208 (cc := 20) rfl (by decide) (by decide) w_175 (by decide) (by decide) h.1 h.2.1 ?_
  replace h := h.2.2
  change GG _ _ _ _ (vr _ :: _) (nw _ (20, 48)) (_ - 1) (_ - 48) _
  refine nmR (fun b66 e9 => ?_)
  replace h := h b66 e9
  obtain ⟨o67, h⟩ := h
  refine r_putRF (pc := 210) dX12_init_210 (k9 := 37) CL_12 (by decide) (by decide) w_1452 rfl rfl rfl rfl o67 ?_
  refine nmS (fun τ68 e68 => ?_)
  replace h := h τ68 e68
  refine r_aload_n (pc := 213) dX12_init_213 rfl rfl ?_
  refine r_bipush (pc := 214) dX12_init_214 (by decide) ?_
  refine r_newarray (pc := 216) dX12_init_216 (cc := 20) rfl (by decide) (by decide) w_175 (by decide) (by decide) h.1 h.2.1 ?_
  replace h := h.2.2
  change GG _ _ _ _ (vr _ :: _) (nw _ (20, 8)) (_ - 1) (_ - 8) _
  refine nmR (fun b69 e9 => ?_)
  replace h := h b69 e9
  obtain ⟨o70, h⟩ := h
  refine r_putRF (pc := 218) dX12_init_218 (k9 := 38) CL_12 (by decide) (by decide) w_1453 rfl rfl rfl rfl o70 ?_
  refine nmS (fun τ71 e71 => ?_)
  replace h := h τ71 e71
  refine r_aload_n (pc := 221) dX12_init_221 rfl rfl ?_
  refine r_bipush (pc := 222) dX12_init_222 (by decide) ?_
  refine r_newarray (pc := 224) dX12_init_224 (cc := 20) rfl (by decide) (by decide) w_175 (by decide) (by decide) h.1 h.2.1 ?_
  replace h := h.2.2
  change GG _ _ _ _ (vr _ :: _) (nw _ (20, 48)) (_ - 1) (_ - 48) _
  refine nmR (fun b72 e9 => ?_)
  replace h := h b72 e9
  obtain ⟨o73, h⟩ := h
  refine r_putRF (pc := 226) dX12_init_226 (k9 := 39) CL_12 (by decide) (by decide) w_1454 rfl rfl rfl rfl o73 ?_
  refine nmS (fun τ74 e74 => ?_)
  replace h := h τ74 e74
  refine r_aload_n (pc := 229) dX12_init_229 rfl rfl ?_
  refine r_bipush (pc := 230) dX12_init_230 (by decide) ?_
  refine r_newarray (pc := 232) dX12_init_232 (cc := 22) rfl (by decide) (by decide) w_1542 (by decide) (by decide) h.1 h.2.1 ?_
  replace h := h.2.2
  change GG _ _ _ _ (vr _ :: _) (nw _ (22, 120)) (_ - 1) (_ - 120) _
  refine nmR (fun b75 e9 => ?_)
  replace h := h b75 e9
  obtain ⟨o76, h⟩ := h
  refine r_putRF (pc := 234) dX12_init_234 (k9 := 40) CL_12 (by decide) (by decide) w_1455 rfl rfl rfl rfl o76 ?_
  refine nmS (fun τ77 e77 => ?_)
  replace h := h τ77 e77
  refine r_aload_n (pc := 237) dX12_init_237 rfl rfl ?_
  obtain ⟨o78, h⟩ := h
  refine r_getR (pc := 238) dX12_init_238 (k9 := 9) CL_12 (by decide) (by decide) w_1424 rfl o78 ?_
  refine r_iconst (pc := 241) dX12_init_241 (inRk rfl) ?_
  obtain ⟨o79, h⟩ := h
  refine r_aaload (pc := 242) dX12_init_242 o79 ?_
  refine r_iconst (pc := 243) dX12_init_243 (inRk rfl) ?_
  refine r_iconst (pc := 244) dX12_init_244 (inRk rfl) ?_
  obtain ⟨o80, h⟩ := h
  refine r_iastore (pc := 245) dX12_init_245 o80 ?_
  refine nmS (fun τ81 e81 => ?_)
  replace h := h τ81 e81
  refine r_aload_n (pc := 246) dX12_init_246 rfl rfl ?_
  refine r_iconst (pc := 247) dX12_init_247 (inRk rfl) ?_
  refine c_VI0N (M := mX12_init) (pc := 248) (As := [vi 0]) dX12_init_248 K_X12_closes w_1373 ⟨by decide, by decide⟩ (Nat.le_of_ble_eq_true rfl) rfl rfl (ci := 12) rfl rfl (by decide) h.1 h.2 (fun r82 τ83 h8 hr9 => ?_) rfl
  replace h := h8 hr9
  refine r_istore_n (pc := 251) dX12_init_251 rfl (by decide) (l2 := [some (vr a0), some (vi r82)]) rfl ?_
  refine r_aload_n (pc := 252) dX12_init_252 rfl rfl ?_
  refine c_VV0N (M := mX12_init) (pc := 253) (As := []) dX12_init_253 K_X12_keepsGroup w_1401 ⟨by decide, by decide⟩ (Nat.le_of_ble_eq_true rfl) rfl rfl (ci := 12) rfl rfl (by decide) h.1 h.2 (fun τ85 h8 => ?_) rfl
  replace h := h8
  exact r_return (pc := 256) dX12_init_256 (by decide +kernel) rfl h
theorem C_X12_init {a0 : Nat} (h : GG E mX12_init 0 [some (vr a0), none] [] σ 2795 136109 Q) : CC E mX12_init [vr a0] σ Q := CC.of (by decide +kernel) rfl (by decide +kernel) (fun h9 => rfl) (Nat.le_of_ble_eq_true rfl) h
theorem dX12_invariants_0 : decode cX12_invariants 0 = .ok (.aload_n 0, 1) := by decide +kernel
theorem dX12_invariants_1 : decode cX12_invariants 1 = .ok (.iconst 0, 1) := by decide +kernel
theorem dX12_invariants_2 : decode cX12_invariants 2 = .ok (.putfield 99, 3) := by decide +kernel
theorem dX12_invariants_5 : decode cX12_invariants 5 = .ok (.aload_n 0, 1) := by decide +kernel
theorem dX12_invariants_6 : decode cX12_invariants 6 = .ok (.iload_n 1, 1) := by decide +kernel
theorem dX12_invariants_7 : decode cX12_invariants 7 = .ok (.iconst 0, 1) := by decide +kernel
theorem dX12_invariants_8 : decode cX12_invariants 8 = .ok (.sipush 200, 3) := by decide +kernel
theorem dX12_invariants_11 : decode cX12_invariants 11 = .ok (.invokestatic 141, 3) := by decide +kernel
theorem dX12_invariants_14 : decode cX12_invariants 14 = .ok (.ifCond .ne 7, 3) := by decide +kernel
theorem dX12_invariants_17 : decode cX12_invariants 17 = .ok (.iconst 1, 1) := by decide +kernel
theorem dX12_invariants_18 : decode cX12_invariants 18 = .ok (.goto 4, 3) := by decide +kernel
theorem dX12_invariants_21 : decode cX12_invariants 21 = .ok (.iconst 0, 1) := by decide +kernel
theorem dX12_invariants_22 : decode cX12_invariants 22 = .ok (.iconst 1, 1) := by decide +kernel
theorem dX12_invariants_23 : decode cX12_invariants 23 = .ok (.iconst 1, 1) := by decide +kernel
theorem dX12_invariants_24 : decode cX12_invariants 24 = .ok (.invokevirtual 177, 3) := by decide +kernel
theorem dX12_invariants_27 : decode cX12_invariants 27 = .ok (.ifCond .eq 5, 3) := by decide +kernel
theorem dX12_invariants_30 : decode cX12_invariants 30 = .ok (.iconst 0, 1) := by decide +kernel
theorem dX12_invariants_31 : decode cX12_invariants 31 = .ok (.ireturn, 1) := by decide +kernel
theorem dX12_invariants_32 : decode cX12_invariants 32 = .ok (.lconst 0, 1) := by decide +kernel
theorem dX12_invariants_33 : decode cX12_invariants 33 = .ok (.lstore_n 2, 1) := by decide +kernel
theorem dX12_invariants_34 : decode cX12_invariants 34 = .ok (.iconst 0, 1) := by decide +kernel
theorem dX12_invariants_35 : decode cX12_invariants 35 = .ok (.istore 4, 2) := by decide +kernel
theorem dX12_invariants_37 : decode cX12_invariants 37 = .ok (.iload 4, 2) := by decide +kernel
theorem dX12_invariants_39 : decode cX12_invariants 39 = .ok (.aload_n 0, 1) := by decide +kernel
theorem dX12_invariants_40 : decode cX12_invariants 40 = .ok (.getfield 231, 3) := by decide +kernel
theorem dX12_invariants_43 : decode cX12_invariants 43 = .ok (.if_icmp .ge 149, 3) := by decide +kernel
theorem dX12_invariants_46 : decode cX12_invariants 46 = .ok (.aload_n 0, 1) := by decide +kernel
theorem dX12_invariants_47 : decode cX12_invariants 47 = .ok (.getfield 34, 3) := by decide +kernel
theorem dX12_invariants_50 : decode cX12_invariants 50 = .ok (.aload_n 0, 1) := by decide +kernel
theorem dX12_invariants_51 : decode cX12_invariants 51 = .ok (.getfield 49, 3) := by decide +kernel
theorem dX12_invariants_54 : decode cX12_invariants 54 = .ok (.iload 4, 2) := by decide +kernel
theorem dX12_invariants_56 : decode cX12_invariants 56 = .ok (.iaload, 1) := by decide +kernel
theorem dX12_invariants_57 : decode cX12_invariants 57 = .ok (.aaload, 1) := by decide +kernel
theorem dX12_invariants_58 : decode cX12_invariants 58 = .ok (.iconst 0, 1) := by decide +kernel
theorem dX12_invariants_59 : decode cX12_invariants 59 = .ok (.iaload, 1) := by decide +kernel
theorem dX12_invariants_60 : decode cX12_invariants 60 = .ok (.i2l, 1) := by decide +kernel
theorem dX12_invariants_61 : decode cX12_invariants 61 = .ok (.lstore 5, 2) := by decide +kernel
theorem dX12_invariants_63 : decode cX12_invariants 63 = .ok (.aload_n 0, 1) := by decide +kernel
theorem dX12_invariants_64 : decode cX12_invariants 64 = .ok (.getfield 34, 3) := by decide +kernel
theorem dX12_invariants_67 : decode cX12_invariants 67 = .ok (.aload_n 0, 1) := by decide +kernel
theorem dX12_invariants_68 : decode cX12_invariants 68 = .ok (.getfield 49, 3) := by decide +kernel
theorem dX12_invariants_71 : decode cX12_invariants 71 = .ok (.iload 4, 2) := by decide +kernel
theorem dX12_invariants_73 : decode cX12_invariants 73 = .ok (.iaload, 1) := by decide +kernel
theorem dX12_invariants_74 : decode cX12_invariants 74 = .ok (.aaload, 1) := by decide +kernel
theorem dX12_invariants_75 : decode cX12_invariants 75 = .ok (.iconst 1, 1) := by decide +kernel
theorem dX12_invariants_76 : decode cX12_invariants 76 = .ok (.iaload, 1) := by decide +kernel
theorem dX12_invariants_77 : decode cX12_invariants 77 = .ok (.i2l, 1) := by decide +kernel
theorem dX12_invariants_78 : decode cX12_invariants 78 = .ok (.lstore 7, 2) := by decide +kernel
theorem dX12_invariants_80 : decode cX12_invariants 80 = .ok (.ldc2_w 348, 3) := by decide +kernel
theorem dX12_invariants_83 : decode cX12_invariants 83 = .ok (.lstore 9, 2) := by decide +kernel
theorem dX12_invariants_85 : decode cX12_invariants 85 = .ok (.lconst 0, 1) := by decide +kernel
theorem dX12_invariants_86 : decode cX12_invariants 86 = .ok (.lstore 11, 2) := by decide +kernel
theorem dX12_invariants_88 : decode cX12_invariants 88 = .ok (.lconst 0, 1) := by decide +kernel
theorem dX12_invariants_89 : decode cX12_invariants 89 = .ok (.lstore 13, 2) := by decide +kernel
theorem dX12_invariants_91 : decode cX12_invariants 91 = .ok (.lconst 0, 1) := by decide +kernel
theorem dX12_invariants_92 : decode cX12_invariants 92 = .ok (.lstore 15, 2) := by decide +kernel
theorem dX12_invariants_94 : decode cX12_invariants 94 = .ok (.iconst 0, 1) := by decide +kernel
theorem dX12_invariants_95 : decode cX12_invariants 95 = .ok (.istore 17, 2) := by decide +kernel
theorem dX12_invariants_97 : decode cX12_invariants 97 = .ok (.iload 17, 2) := by decide +kernel
theorem dX12_invariants_99 : decode cX12_invariants 99 = .ok (.iload_n 1, 1) := by decide +kernel
theorem dX12_invariants_100 : decode cX12_invariants 100 = .ok (.if_icmp .ge 72, 3) := by decide +kernel
theorem dX12_invariants_103 : decode cX12_invariants 103 = .ok (.lload 5, 2) := by decide +kernel
theorem dX12_invariants_105 : decode cX12_invariants 105 = .ok (.lload 9, 2) := by decide +kernel
theorem dX12_invariants_107 : decode cX12_invariants 107 = .ok (.lmul, 1) := by decide +kernel
theorem dX12_invariants_108 : decode cX12_invariants 108 = .ok (.aload_n 0, 1) := by decide +kernel
theorem dX12_invariants_109 : decode cX12_invariants 109 = .ok (.iconst 0, 1) := by decide +kernel
theorem dX12_invariants_110 : decode cX12_invariants 110 = .ok (.invokevirtual 195, 3) := by decide +kernel
theorem dX12_invariants_113 : decode cX12_invariants 113 = .ok (.i2l, 1) := by decide +kernel
theorem dX12_invariants_114 : decode cX12_invariants 114 = .ok (.lload 7, 2) := by decide +kernel
theorem dX12_invariants_116 : decode cX12_invariants 116 = .ok (.lmul, 1) := by decide +kernel
theorem dX12_invariants_117 : decode cX12_invariants 117 = .ok (.lload 11, 2) := by decide +kernel
theorem dX12_invariants_119 : decode cX12_invariants 119 = .ok (.lmul, 1) := by decide +kernel
theorem dX12_invariants_120 : decode cX12_invariants 120 = .ok (.ladd, 1) := by decide +kernel
theorem dX12_invariants_121 : decode cX12_invariants 121 = .ok (.ldc2_w 348, 3) := by decide +kernel
theorem dX12_invariants_124 : decode cX12_invariants 124 = .ok (.ldiv, 1) := by decide +kernel
theorem dX12_invariants_125 : decode cX12_invariants 125 = .ok (.lload 13, 2) := by decide +kernel
theorem dX12_invariants_127 : decode cX12_invariants 127 = .ok (.lsub, 1) := by decide +kernel
theorem dX12_invariants_128 : decode cX12_invariants 128 = .ok (.lstore 18, 2) := by decide +kernel
theorem dX12_invariants_130 : decode cX12_invariants 130 = .ok (.lload 5, 2) := by decide +kernel
theorem dX12_invariants_132 : decode cX12_invariants 132 = .ok (.lload 11, 2) := by decide +kernel
theorem dX12_invariants_134 : decode cX12_invariants 134 = .ok (.lmul, 1) := by decide +kernel
theorem dX12_invariants_135 : decode cX12_invariants 135 = .ok (.lload 7, 2) := by decide +kernel
theorem dX12_invariants_137 : decode cX12_invariants 137 = .ok (.lload 9, 2) := by decide +kernel
theorem dX12_invariants_139 : decode cX12_invariants 139 = .ok (.lmul, 1) := by decide +kernel
theorem dX12_invariants_140 : decode cX12_invariants 140 = .ok (.ladd, 1) := by decide +kernel
theorem dX12_invariants_141 : decode cX12_invariants 141 = .ok (.ldc2_w 348, 3) := by decide +kernel
theorem dX12_invariants_144 : decode cX12_invariants 144 = .ok (.ldiv, 1) := by decide +kernel
theorem dX12_invariants_145 : decode cX12_invariants 145 = .ok (.lload 15, 2) := by decide +kernel
theorem dX12_invariants_147 : decode cX12_invariants 147 = .ok (.lsub, 1) := by decide +kernel
theorem dX12_invariants_148 : decode cX12_invariants 148 = .ok (.lstore 20, 2) := by decide +kernel
theorem dX12_invariants_150 : decode cX12_invariants 150 = .ok (.lload 9, 2) := by decide +kernel
theorem dX12_invariants_152 : decode cX12_invariants 152 = .ok (.lstore 13, 2) := by decide +kernel
theorem dX12_invariants_154 : decode cX12_invariants 154 = .ok (.lload 11, 2) := by decide +kernel
theorem dX12_invariants_156 : decode cX12_invariants 156 = .ok (.lstore 15, 2) := by decide +kernel
theorem dX12_invariants_158 : decode cX12_invariants 158 = .ok (.lload 18, 2) := by decide +kernel
theorem dX12_invariants_160 : decode cX12_invariants 160 = .ok (.lstore 9, 2) := by decide +kernel
theorem dX12_invariants_162 : decode cX12_invariants 162 = .ok (.lload 20, 2) := by decide +kernel
theorem dX12_invariants_164 : decode cX12_invariants 164 = .ok (.lstore 11, 2) := by decide +kernel
theorem dX12_invariants_166 : decode cX12_invariants 166 = .ok (.iinc 17 1, 3) := by decide +kernel
theorem dX12_invariants_169 : decode cX12_invariants 169 = .ok (.goto (-72), 3) := by decide +kernel
theorem dX12_invariants_172 : decode cX12_invariants 172 = .ok (.lload_n 2, 1) := by decide +kernel
theorem dX12_invariants_173 : decode cX12_invariants 173 = .ok (.aload_n 0, 1) := by decide +kernel
theorem dX12_invariants_174 : decode cX12_invariants 174 = .ok (.getfield 52, 3) := by decide +kernel
theorem dX12_invariants_177 : decode cX12_invariants 177 = .ok (.iload 4, 2) := by decide +kernel
theorem dX12_invariants_179 : decode cX12_invariants 179 = .ok (.iaload, 1) := by decide +kernel
theorem dX12_invariants_180 : decode cX12_invariants 180 = .ok (.i2l, 1) := by decide +kernel
theorem dX12_invariants_181 : decode cX12_invariants 181 = .ok (.lload 9, 2) := by decide +kernel
theorem dX12_invariants_183 : decode cX12_invariants 183 = .ok (.lmul, 1) := by decide +kernel
theorem dX12_invariants_184 : decode cX12_invariants 184 = .ok (.ladd, 1) := by decide +kernel
theorem dX12_invariants_185 : decode cX12_invariants 185 = .ok (.lstore_n 2, 1) := by decide +kernel
theorem dX12_invariants_186 : decode cX12_invariants 186 = .ok (.iinc 4 1, 3) := by decide +kernel
theorem dX12_invariants_189 : decode cX12_invariants 189 = .ok (.goto (-152), 3) := by decide +kernel
theorem dX12_invariants_192 : decode cX12_invariants 192 = .ok (.lload_n 2, 1) := by decide +kernel
theorem dX12_invariants_193 : decode cX12_invariants 193 = .ok (.ldc2_w 348, 3) := by decide +kernel
theorem dX12_invariants_196 : decode cX12_invariants 196 = .ok (.aload_n 0, 1) := by decide +kernel
theorem dX12_invariants_197 : decode cX12_invariants 197 = .ok (.getfield 192, 3) := by decide +kernel
theorem dX12_invariants_200 : decode cX12_invariants 200 = .ok (.i2l, 1) := by decide +kernel
theorem dX12_invariants_201 : decode cX12_invariants 201 = .ok (.lmul, 1) := by decide +kernel
theorem dX12_invariants_202 : decode cX12_invariants 202 = .ok (.ldiv, 1) := by decide +kernel
theorem dX12_invariants_203 : decode cX12_invariants 203 = .ok (.l2i, 1) := by decide +kernel
theorem dX12_invariants_204 : decode cX12_invariants 204 = .ok (.ireturn, 1) := by decide +kernel
theorem B_X12_invariants_0 {g : Sg} {c t : Nat} (hL : Lay LM g c t σ) {x1 : Int} (h : ∀ τ1 : Sg, τ1 = sI σ 172 0 0 → (Lay LM g c t τ1 → CC E mX12_in [vi x1, vi 0, vi 200] τ1 (KI (fun r2 τ3 => Lay LM g c t τ3 ∧ (inR r2 → ((r2 ≠ 0 → (Lay LM g c t τ3 → CC E mX12_bad [vr 172, vi 0, vi 1, vi 1] τ3 (KI (fun r4 τ5 => Lay LM g c t τ5 ∧ (inR r4 → ((r4 = 0 → (Lay LM g c t τ5 → GG E mX12_invariants 37 [some (vr 172), some (vi x1), some (vl 0), none, some (vi 0), none, none, none, none, none, none, none, none, none, none, none, none, none, none, none, none, none] [] τ5 rc rs Q)) ∧ (¬ (r4 = 0) → (Lay LM g c t τ5 → Q (.inl (some (vi 0))) τ5))))) (fun _ _ => False)))) ∧ (r2 = 0 → (Lay LM g c t τ3 → CC E mX12_bad [vr 172, vi 1, vi 1, vi 1] τ3 (KI (fun r6 τ7 => Lay LM g c t τ7 ∧ (inR r6 → ((r6 = 0 → (Lay LM g c t τ7 → GG E mX12_invariants 37 [some (vr 172), some (vi x1), some (vl 0), none, some (vi 0), none, none, none, none, none, none, none, none, none, none, none, none, none, none, none, none, none] [] τ7 rc rs Q)) ∧ (¬ (r6 = 0) → (Lay LM g c t τ7 → Q (.inl (some (vi 0))) τ7))))) (fun _ _ => False))))))) (fun _ _ => False)))) : GG E mX12_invariants 0 [some (vr 172), some (vi x1), none, none, none, none, none, none, none, none, none, none, none, none, none, none, none, none, none, none, none, none] [] σ rc rs Q := by
  refine r_aload_n (pc := 0) dX12_invariants_0 rfl rfl ?_
  refine r_iconst (pc := 1) dX12_invariants_1 (inRk rfl) ?_
  refine r_putI (pc := 2) dX12_invariants_2 (k9 := 0) CL_12 (by decide) (by decide) w_1415 rfl rfl (fun h9 => absurd h9 (by decide +kernel)) (okO_of (N := 42) (hL.sh (i := 0) rfl (by decide) (by decide)) (by decide)) ?_
  refine nmS (fun τ1 e1 => ?_)
  replace h := h τ1 e1
  have hL := hL.wI e1 (by decide) (.inl (by decide))
  refine r_aload_n (pc := 5) dX12_invariants_5 rfl rfl ?_
  refine r_iload_n (pc := 6) dX12_invariants_6 rfl rfl ?_
  refine r_iconst (pc := 7) dX12_invariants_7 (inRk rfl) ?_
  refine r_sipush (pc := 8) dX12_invariants_8 (by decide) ?_
  refine c_SI0N (M := mX12_invariants) (pc := 11) (As := [vi x1, vi 0, vi 200]) dX12_invariants_11 K_X12_in w_1559 ⟨by decide, by decide⟩ (Nat.le_of_ble_eq_true rfl) rfl rfl (h hL) (fun r2 τ3 h8 hr9 => ?_) rfl
  replace hL := h8.1
  replace h := h8.2 hr9
  refine r_if_ne (pc := 14) (tgt := 21) dX12_invariants_14 (by decide) (fun c9 => ?_) (fun c9 => ?_)
  · replace h := h.1 c9
    refine r_iconst (pc := 21) dX12_invariants_21 (inRk rfl) ?_
    refine r_iconst (pc := 22) dX12_invariants_22 (inRk rfl) ?_
    refine r_iconst (pc := 23) dX12_invariants_23 (inRk rfl) ?_
    refine c_VI0N (M := mX12_invariants) (pc := 24) (As := [vi 0, vi 1, vi 1]) dX12_invariants_24 K_X12_bad w_1562 ⟨by decide, by decide⟩ (Nat.le_of_ble_eq_true rfl) rfl rfl (ci := 12) rfl rfl (by decide) (okO_of (N := 42) (hL.sh (i := 0) rfl (by decide) (by decide)) (by decide)) (h hL) (fun r4 τ5 h8 hr9 => ?_) rfl
    replace hL := h8.1
    replace h := h8.2 hr9
    refine r_if_eq (pc := 27) (tgt := 32) dX12_invariants_27 (by decide) (fun c9 => ?_) (fun c9 => ?_)
    · replace h := h.1 c9
      refine r_lconst (pc := 32) (x := 0) dX12_invariants_32 rfl ?_
      refine r_lstore_n (pc := 33) dX12_invariants_33 rfl (by decide) (l2 := [some (vr 172), some (vi x1), some (vl 0), none, none, none, none, none, none, none, none, none, none, none, none, none, none, none, none, none, none, none]) rfl ?_
      refine r_iconst (pc := 34) dX12_invariants_34 (inRk rfl) ?_
      refine r_istore (pc := 35) dX12_invariants_35 (by decide) (l2 := [some (vr 172), some (vi x1), some (vl 0), none, some (vi 0), none, none, none, none, none, none, none, none, none, none, none, none, none, none, none, none, none]) rfl ?_
      exact (h hL)
    · replace h := h.2 c9
      refine r_iconst (pc := 30) dX12_invariants_30 (inRk rfl) ?_
      exact r_ireturn (pc := 31) (ty := .int) dX12_invariants_31 (by decide +kernel) rfl (nar_i _) (h hL)
  · replace h := h.2 c9
    refine r_iconst (pc := 17) dX12_invariants_17 (inRk rfl) ?_
    refine r_goto (pc := 18) (tgt := 22) dX12_invariants_18 (by decide) ?_
    refine r_iconst (pc := 22) dX12_invariants_22 (inRk rfl) ?_
    refine r_iconst (pc := 23) dX12_invariants_23 (inRk rfl) ?_
    refine c_VI0N (M := mX12_invariants) (pc := 24) (As := [vi 1, vi 1, vi 1]) dX12_invariants_24 K_X12_bad w_1562 ⟨by decide, by decide⟩ (Nat.le_of_ble_eq_true rfl) rfl rfl (ci := 12) rfl rfl (by decide) (okO_of (N := 42) (hL.sh (i := 0) rfl (by decide) (by decide)) (by decide)) (h hL) (fun r6 τ7 h8 hr9 => ?_) rfl
    replace hL := h8.1
    replace h := h8.2 hr9
    refine r_if_eq (pc := 27) (tgt := 32) dX12_invariants_27 (by decide) (fun c9 => ?_) (fun c9 => ?_)
    · replace h := h.1 c9
      refine r_lconst (pc := 32) (x := 0) dX12_invariants_32 rfl ?_
      refine r_lstore_n (pc := 33) dX12_invariants_33 rfl (by decide) (l2 := [some (vr 172), some (vi x1), some (vl 0), none, none, none, none, none, none, none, none, none, none, none, none, none, none, none, none, none, none, none]) rfl ?_
      refine r_iconst (pc := 34) dX12_invariants_34 (inRk rfl) ?_
      refine r_istore (pc := 35) dX12_invariants_35 (by decide) (l2 := [some (vr 172), some (vi x1), some (vl 0), none, some (vi 0), none, none, none, none, none, none, none, none, none, none, none, none, none, none, none, none, none]) rfl ?_
      exact (h hL)
    · replace h := h.2 c9
      refine r_iconst (pc := 30) dX12_invariants_30 (inRk rfl) ?_
      exact r_ireturn (pc := 31) (ty := .int) dX12_invariants_31 (by decide +kernel) rfl (nar_i _) (h hL)
theorem B_X12_invariants_37 {g : Sg} {c t : Nat} (hL : Lay LM g c t σ) {x1 : Int} {y2 : Int} {x4 : Int} (h : (((gI σ 172 16) ≤ x4 → (wL (2 * (gI σ 172 15))) ≠ 0 ∧ inR (wL (y2.tdiv (wL (2 * (gI σ 172 15))))) ∧ (Lay LM g c t σ → Q (.inl (some (vi (wL (y2.tdiv (wL (2 * (gI σ 172 15)))))))) σ)) ∧ (¬ ((gI σ 172 16) ≤ x4) → (0 ≤ x4 ∧ x4 < 120) ∧ (0 ≤ (gI σ 554 x4.toNat) ∧ (gI σ 554 x4.toNat) < 120) ∧ (Lay LM g c t σ → GG E mX12_invariants 97 [some (vr 172), some (vi x1), some (vl y2), none, some (vi x4), some (vl (gI σ (310 + (gI σ 554 x4.toNat).toNat) 0)), none, some (vl (gI σ (310 + (gI σ 554 x4.toNat).toNat) 1)), none, some (vl 2), none, some (vl 0), none, some (vl 0), none, some (vl 0), none, some (vi 0), none, none, none, none] [] σ rc rs Q)))) : GG E mX12_invariants 37 [some (vr 172), some (vi x1), some (vl y2), none, some (vi x4), none, none, none, none, none, none, none, none, none, none, none, none, none, none, none, none, none] [] σ rc rs Q := by
  refine r_iload (pc := 37) dX12_invariants_37 rfl ?_
  refine r_aload_n (pc := 39) dX12_invariants_39 rfl rfl ?_
  refine r_getI (pc := 40) dX12_invariants_40 (k9 := 16) CL_12 (by decide) (by decide) w_1431 rfl (okO_of (N := 42) (hL.sh (i := 0) rfl (by decide) (by decide)) (by decide)) (fun _ => ?_)
  refine r_icmp_ge (pc := 43) (tgt := 192) dX12_invariants_43 (by decide) (fun c9 => ?_) (fun c9 => ?_)
  · replace h := h.1 c9
    refine r_lload_n (pc := 192) dX12_invariants_192 rfl rfl ?_
    refine r_ldc2 (pc := 193) dX12_invariants_193 w_1822 ?_
    change GG _ _ _ _ (vl 2 :: _) _ _ _ _
    refine r_aload_n (pc := 196) dX12_invariants_196 rfl rfl ?_
    refine r_getI (pc := 197) dX12_invariants_197 (k9 := 15) CL_12 (by decide) (by decide) w_1430 rfl (okO_of (N := 42) (hL.sh (i := 0) rfl (by decide) (by decide)) (by decide)) (fun _ => ?_)
    refine r_i2l (pc := 200) dX12_invariants_200 ?_
    refine r_lmul (pc := 201) dX12_invariants_201 ?_
    obtain ⟨o1, h⟩ := h
    refine r_ldiv (pc := 202) dX12_invariants_202 o1 ?_
    obtain ⟨o2, h⟩ := h
    refine r_l2i (pc := 203) dX12_invariants_203 o2 ?_
    exact r_ireturn (pc := 204) (ty := .int) dX12_invariants_204 (by decide +kernel) rfl (nar_i _) (h hL)
  · replace h := h.2 c9
    refine r_aload_n (pc := 46) dX12_invariants_46 rfl rfl ?_
    refine r_getR (pc := 47) dX12_invariants_47 (k9 := 20) CL_12 (by decide) (by decide) w_1435 rfl (okO_of (N := 42) (hL.sh (i := 0) rfl (by decide) (by decide)) (by decide)) ?_
    refine eqR (y := 309) (hL.rf (i := 6) rfl) ?_
    refine r_aload_n (pc := 50) dX12_invariants_50 rfl rfl ?_
    refine r_getR (pc := 51) dX12_invariants_51 (k9 := 25) CL_12 (by decide) (by decide) w_1440 rfl (okO_of (N := 42) (hL.sh (i := 0) rfl (by decide) (by decide)) (by decide)) ?_
    refine eqR (y := 554) (hL.rf (i := 11) rfl) ?_
    refine r_iload (pc := 54) dX12_invariants_54 rfl ?_
    obtain ⟨o3, h⟩ := h
    refine r_iaload (pc := 56) dX12_invariants_56 (okA_of (c := 20) (n := 120) (hL.sh (i := 16) rfl (by decide) (by decide)) (by decide) o3) ?_
    obtain ⟨o4, h⟩ := h
    refine r_aaload (pc := 57) dX12_invariants_57 (okB_of (c := 24) (n := 120) (hL.sh (i := 9) rfl (by decide) (by decide)) (by decide) o4) ?_
    have q5 : 310 ≤ 310 + (gI σ 554 x4.toNat).toNat ∧ 310 + (gI σ 554 x4.toNat).toNat < 430 := ⟨Nat.le_add_right _ _, rowB o4 (by decide)⟩
    refine eqR (y := 310 + (gI σ 554 x4.toNat).toNat) (hL.rx (i := 2) rfl (rowC o4 (by decide))) ?_
    refine r_iconst (pc := 58) dX12_invariants_58 (inRk rfl) ?_
    refine r_iaload (pc := 59) dX12_invariants_59 (okA_of (c := 20) (n := 8) (hL.sh (i := 10) rfl q5.1 q5.2) (Nat.le_trans (by decide) q5.1) (by decide)) ?_
    refine r_i2l (pc := 60) dX12_invariants_60 ?_
    refine r_lstore (pc := 61) dX12_invariants_61 (by decide) (l2 := [some (vr 172), some (vi x1), some (vl y2), none, some (vi x4), some (vl (gI σ (310 + (gI σ 554 x4.toNat).toNat) 0)), none, none, none, none, none, none, none, none, none, none, none, none, none, none, none, none]) rfl ?_
    refine r_aload_n (pc := 63) dX12_invariants_63 rfl rfl ?_
    refine r_getR (pc := 64) dX12_invariants_64 (k9 := 20) CL_12 (by decide) (by decide) w_1435 rfl (okO_of (N := 42) (hL.sh (i := 0) rfl (by decide) (by decide)) (by decide)) ?_
    refine eqR (y := 309) (hL.rf (i := 6) rfl) ?_
    refine r_aload_n (pc := 67) dX12_invariants_67 rfl rfl ?_
    refine r_getR (pc := 68) dX12_invariants_68 (k9 := 25) CL_12 (by decide) (by decide) w_1440 rfl (okO_of (N := 42) (hL.sh (i := 0) rfl (by decide) (by decide)) (by decide)) ?_
    refine eqR (y := 554) (hL.rf (i := 11) rfl) ?_
    refine r_iload (pc := 71) dX12_invariants_71 rfl ?_
    refine r_iaload (pc := 73) dX12_invariants_73 (okA_of (c := 20) (n := 120) (hL.sh (i := 16) rfl (by decide) (by decide)) (by decide) o3) ?_
    refine r_aaload (pc := 74) dX12_invariants_74 (okB_of (c := 24) (n := 120) (hL.sh (i := 9) rfl (by decide) (by decide)) (by decide) o4) ?_
    have q6 : 310 ≤ 310 + (gI σ 554 x4.toNat).toNat ∧ 310 + (gI σ 554 x4.toNat).toNat < 430 := ⟨Nat.le_add_right _ _, rowB o4 (by decide)⟩
    refine eqR (y := 310 + (gI σ 554 x4.toNat).toNat) (hL.rx (i := 2) rfl (rowC o4 (by decide))) ?_
    refine r_iconst (pc := 75) dX12_invariants_75 (inRk rfl) ?_
    refine r_iaload (pc := 76) dX12_invariants_76 (okA_of (c := 20) (n := 8) (hL.sh (i := 10) rfl q6.1 q6.2) (Nat.le_trans (by decide) q6.1) (by decide)) ?_
    refine r_i2l (pc := 77) dX12_invariants_77 ?_
    refine r_lstore (pc := 78) dX12_invariants_78 (by decide) (l2 := [some (vr 172), some (vi x1), some (vl y2), none, some (vi x4), some (vl (gI σ (310 + (gI σ 554 x4.toNat).toNat) 0)), none, some (vl (gI σ (310 + (gI σ 554 x4.toNat).toNat) 1)), none, none, none, none, none, none, none, none, none, none, none, none, none, none]) rfl ?_
    refine r_ldc2 (pc := 80) dX12_invariants_80 w_1822 ?_
    change GG _ _ _ _ (vl 2 :: _) _ _ _ _
    refine r_lstore (pc := 83) dX12_invariants_83 (by decide) (l2 := [some (vr 172), some (vi x1), some (vl y2), none, some (vi x4), some (vl (gI σ (310 + (gI σ 554 x4.toNat).toNat) 0)), none, some (vl (gI σ (310 + (gI σ 554 x4.toNat).toNat) 1)), none, some (vl 2), none, none, none, none, none, none, none, none, none, none, none, none]) rfl ?_
    refine r_lconst (pc := 85) (x := 0) dX12_invariants_85 rfl ?_
    refine r_lstore (pc := 86) dX12_invariants_86 (by decide) (l2 := [some (vr 172), some (vi x1), some (vl y2), none, some (vi x4), some (vl (gI σ (310 + (gI σ 554 x4.toNat).toNat) 0)), none, some (vl (gI σ (310 + (gI σ 554 x4.toNat).toNat) 1)), none, some (vl 2), none, some (vl 0), none, none, none, none, none, none, none, none, none, none]) rfl ?_
    refine r_lconst (pc := 88) (x := 0) dX12_invariants_88 rfl ?_
    refine r_lstore (pc := 89) dX12_invariants_89 (by decide) (l2 := [some (vr 172), some (vi x1), some (vl y2), none, some (vi x4), some (vl (gI σ (310 + (gI σ 554 x4.toNat).toNat) 0)), none, some (vl (gI σ (310 + (gI σ 554 x4.toNat).toNat) 1)), none, some (vl 2), none, some (vl 0), none, some (vl 0), none, none, none, none, none, none, none, none]) rfl ?_
    refine r_lconst (pc := 91) (x := 0) dX12_invariants_91 rfl ?_
    refine r_lstore (pc := 92) dX12_invariants_92 (by decide) (l2 := [some (vr 172), some (vi x1), some (vl y2), none, some (vi x4), some (vl (gI σ (310 + (gI σ 554 x4.toNat).toNat) 0)), none, some (vl (gI σ (310 + (gI σ 554 x4.toNat).toNat) 1)), none, some (vl 2), none, some (vl 0), none, some (vl 0), none, some (vl 0), none, none, none, none, none, none]) rfl ?_
    refine r_iconst (pc := 94) dX12_invariants_94 (inRk rfl) ?_
    refine r_istore (pc := 95) dX12_invariants_95 (by decide) (l2 := [some (vr 172), some (vi x1), some (vl y2), none, some (vi x4), some (vl (gI σ (310 + (gI σ 554 x4.toNat).toNat) 0)), none, some (vl (gI σ (310 + (gI σ 554 x4.toNat).toNat) 1)), none, some (vl 2), none, some (vl 0), none, some (vl 0), none, some (vl 0), none, some (vi 0), none, none, none, none]) rfl ?_
    exact (h hL)
theorem B_X12_invariants_97 {g : Sg} {c t : Nat} (hL : Lay LM g c t σ) {x1 : Int} {y2 : Int} {x4 : Int} {y5 : Int} {y7 : Int} {y9 : Int} {y11 : Int} {y13 : Int} {y15 : Int} {x17 : Int} (h : ((x1 ≤ x17 → (0 ≤ x4 ∧ x4 < 120) ∧ inR (x4 + 1) ∧ (Lay LM g c t σ → GG E mX12_invariants 37 [some (vr 172), some (vi x1), some (vl (wL (y2 + (wL ((gI σ 555 x4.toNat) * y9))))), none, some (vi (x4 + 1)), none, none, none, none, none, none, none, none, none, none, none, none, none, none, none, none, none] [] σ rc rs Q)) ∧ (¬ (x1 ≤ x17) → (Lay LM g c t σ → CC E mX12_root [vr 172, vi 0] σ (KI (fun r3 τ4 => Lay LM g c t τ4 ∧ (inR r3 → ∀ v5 : Int, v5 = wL ((wL (y5 * y9)) + (wL ((wL (r3 * y7)) * y11))) → ∀ v6 : Int, v6 = wL ((wL ((wL (y5 * y11)) + (wL (y7 * y9)))).tdiv 2) → inR (x17 + 1) ∧ (Lay LM g c t τ4 → GG E mX12_invariants 97 [some (vr 172), some (vi x1), some (vl y2), none, some (vi x4), some (vl y5), none, some (vl y7), none, some (vl (wL ((wL (v5.tdiv 2)) - y13))), none, some (vl (wL (v6 - y15))), none, some (vl y9), none, some (vl y11), none, some (vi (x17 + 1)), none, none, none, none] [] τ4 rc rs Q))) (fun _ _ => False)))))) : GG E mX12_invariants 97 [some (vr 172), some (vi x1), some (vl y2), none, some (vi x4), some (vl y5), none, some (vl y7), none, some (vl y9), none, some (vl y11), none, some (vl y13), none, some (vl y15), none, some (vi x17), none, none, none, none] [] σ rc rs Q := by
  refine r_iload (pc := 97) dX12_invariants_97 rfl ?_
  refine r_iload_n (pc := 99) dX12_invariants_99 rfl rfl ?_
  refine r_icmp_ge (pc := 100) (tgt := 172) dX12_invariants_100 (by decide) (fun c9 => ?_) (fun c9 => ?_)
  · replace h := h.1 c9
    refine r_lload_n (pc := 172) dX12_invariants_172 rfl rfl ?_
    refine r_aload_n (pc := 173) dX12_invariants_173 rfl rfl ?_
    refine r_getR (pc := 174) dX12_invariants_174 (k9 := 26) CL_12 (by decide) (by decide) w_1441 rfl (okO_of (N := 42) (hL.sh (i := 0) rfl (by decide) (by decide)) (by decide)) ?_
    refine eqR (y := 555) (hL.rf (i := 12) rfl) ?_
    refine r_iload (pc := 177) dX12_invariants_177 rfl ?_
    obtain ⟨o1, h⟩ := h
    refine r_iaload (pc := 179) dX12_invariants_179 (okA_of (c := 20) (n := 120) (hL.sh (i := 17) rfl (by decide) (by decide)) (by decide) o1) ?_
    refine r_i2l (pc := 180) dX12_invariants_180 ?_
    refine r_lload (pc := 181) dX12_invariants_181 rfl ?_
    refine r_lmul (pc := 183) dX12_invariants_183 ?_
    refine r_ladd (pc := 184) dX12_invariants_184 ?_
    refine r_lstore_n (pc := 185) dX12_invariants_185 rfl (by decide) (l2 := [some (vr 172), some (vi x1), some (vl (wL (y2 + (wL ((gI σ 555 x4.toNat) * y9))))), none, some (vi x4), some (vl y5), none, some (vl y7), none, some (vl y9), none, some (vl y11), none, some (vl y13), none, some (vl y15), none, some (vi x17), none, none, none, none]) rfl ?_
    obtain ⟨o2, h⟩ := h
    refine r_iinc (pc := 186) dX12_invariants_186 rfl (by decide) o2 (l2 := [some (vr 172), some (vi x1), some (vl (wL (y2 + (wL ((gI σ 555 x4.toNat) * y9))))), none, some (vi (x4 + 1)), some (vl y5), none, some (vl y7), none, some (vl y9), none, some (vl y11), none, some (vl y13), none, some (vl y15), none, some (vi x17), none, none, none, none]) rfl ?_
    refine r_goto (pc := 189) (tgt := 37) dX12_invariants_189 (by decide) ?_
    exact GG.msk [true, true, true, false, true, false, false, false, false, false, false, false, false, false, false, false, false, false, false, false, false, false] (h hL)
  · replace h := h.2 c9
    refine r_lload (pc := 103) dX12_invariants_103 rfl ?_
    refine r_lload (pc := 105) dX12_invariants_105 rfl ?_
    refine r_lmul (pc := 107) dX12_invariants_107 ?_
    refine r_aload_n (pc := 108) dX12_invariants_108 rfl rfl ?_
    refine r_iconst (pc := 109) dX12_invariants_109 (inRk rfl) ?_
    refine c_VI0N (M := mX12_invariants) (pc := 110) (As := [vi 0]) dX12_invariants_110 K_X12_root w_1377 ⟨by decide, by decide⟩ (Nat.le_of_ble_eq_true rfl) rfl rfl (ci := 12) rfl rfl (by decide) (okO_of (N := 42) (hL.sh (i := 0) rfl (by decide) (by decide)) (by decide)) (h hL) (fun r3 τ4 h8 hr9 => ?_) rfl
    replace hL := h8.1
    replace h := h8.2 hr9
    refine r_i2l (pc := 113) dX12_invariants_113 ?_
    refine r_lload (pc := 114) dX12_invariants_114 rfl ?_
    refine r_lmul (pc := 116) dX12_invariants_116 ?_
    refine r_lload (pc := 117) dX12_invariants_117 rfl ?_
    refine r_lmul (pc := 119) dX12_invariants_119 ?_
    refine r_ladd (pc := 120) dX12_invariants_120 ?_
    refine nmL (fun v5 e9 => ?_)
    replace h := h v5 e9
    refine r_ldc2 (pc := 121) dX12_invariants_121 w_1822 ?_
    change GG _ _ _ _ (vl 2 :: _) _ _ _ _
    refine r_ldiv (pc := 124) dX12_invariants_124 (by decide) ?_
    refine r_lload (pc := 125) dX12_invariants_125 rfl ?_
    refine r_lsub (pc := 127) dX12_invariants_127 ?_
    refine r_lstore (pc := 128) dX12_invariants_128 (by decide) (l2 := [some (vr 172), some (vi x1), some (vl y2), none, some (vi x4), some (vl y5), none, some (vl y7), none, some (vl y9), none, some (vl y11), none, some (vl y13), none, some (vl y15), none, some (vi x17), some (vl (wL ((wL (v5.tdiv 2)) - y13))), none, none, none]) rfl ?_
    refine r_lload (pc := 130) dX12_invariants_130 rfl ?_
    refine r_lload (pc := 132) dX12_invariants_132 rfl ?_
    refine r_lmul (pc := 134) dX12_invariants_134 ?_
    refine r_lload (pc := 135) dX12_invariants_135 rfl ?_
    refine r_lload (pc := 137) dX12_invariants_137 rfl ?_
    refine r_lmul (pc := 139) dX12_invariants_139 ?_
    refine r_ladd (pc := 140) dX12_invariants_140 ?_
    refine r_ldc2 (pc := 141) dX12_invariants_141 w_1822 ?_
    change GG _ _ _ _ (vl 2 :: _) _ _ _ _
    refine r_ldiv (pc := 144) dX12_invariants_144 (by decide) ?_
    refine nmL (fun v6 e9 => ?_)
    replace h := h v6 e9
    refine r_lload (pc := 145) dX12_invariants_145 rfl ?_
    refine r_lsub (pc := 147) dX12_invariants_147 ?_
    refine r_lstore (pc := 148) dX12_invariants_148 (by decide) (l2 := [some (vr 172), some (vi x1), some (vl y2), none, some (vi x4), some (vl y5), none, some (vl y7), none, some (vl y9), none, some (vl y11), none, some (vl y13), none, some (vl y15), none, some (vi x17), some (vl (wL ((wL (v5.tdiv 2)) - y13))), none, some (vl (wL (v6 - y15))), none]) rfl ?_
    refine r_lload (pc := 150) dX12_invariants_150 rfl ?_
    refine r_lstore (pc := 152) dX12_invariants_152 (by decide) (l2 := [some (vr 172), some (vi x1), some (vl y2), none, some (vi x4), some (vl y5), none, some (vl y7), none, some (vl y9), none, some (vl y11), none, some (vl y9), none, some (vl y15), none, some (vi x17), some (vl (wL ((wL (v5.tdiv 2)) - y13))), none, some (vl (wL (v6 - y15))), none]) rfl ?_
    refine r_lload (pc := 154) dX12_invariants_154 rfl ?_
    refine r_lstore (pc := 156) dX12_invariants_156 (by decide) (l2 := [some (vr 172), some (vi x1), some (vl y2), none, some (vi x4), some (vl y5), none, some (vl y7), none, some (vl y9), none, some (vl y11), none, some (vl y9), none, some (vl y11), none, some (vi x17), some (vl (wL ((wL (v5.tdiv 2)) - y13))), none, some (vl (wL (v6 - y15))), none]) rfl ?_
    refine r_lload (pc := 158) dX12_invariants_158 rfl ?_
    refine r_lstore (pc := 160) dX12_invariants_160 (by decide) (l2 := [some (vr 172), some (vi x1), some (vl y2), none, some (vi x4), some (vl y5), none, some (vl y7), none, some (vl (wL ((wL (v5.tdiv 2)) - y13))), none, some (vl y11), none, some (vl y9), none, some (vl y11), none, some (vi x17), some (vl (wL ((wL (v5.tdiv 2)) - y13))), none, some (vl (wL (v6 - y15))), none]) rfl ?_
    refine r_lload (pc := 162) dX12_invariants_162 rfl ?_
    refine r_lstore (pc := 164) dX12_invariants_164 (by decide) (l2 := [some (vr 172), some (vi x1), some (vl y2), none, some (vi x4), some (vl y5), none, some (vl y7), none, some (vl (wL ((wL (v5.tdiv 2)) - y13))), none, some (vl (wL (v6 - y15))), none, some (vl y9), none, some (vl y11), none, some (vi x17), some (vl (wL ((wL (v5.tdiv 2)) - y13))), none, some (vl (wL (v6 - y15))), none]) rfl ?_
    obtain ⟨o7, h⟩ := h
    refine r_iinc (pc := 166) dX12_invariants_166 rfl (by decide) o7 (l2 := [some (vr 172), some (vi x1), some (vl y2), none, some (vi x4), some (vl y5), none, some (vl y7), none, some (vl (wL ((wL (v5.tdiv 2)) - y13))), none, some (vl (wL (v6 - y15))), none, some (vl y9), none, some (vl y11), none, some (vi (x17 + 1)), some (vl (wL ((wL (v5.tdiv 2)) - y13))), none, some (vl (wL (v6 - y15))), none]) rfl ?_
    refine r_goto (pc := 169) (tgt := 97) dX12_invariants_169 (by decide) ?_
    exact GG.msk [true, true, true, false, true, true, false, true, false, true, false, true, false, true, false, true, false, true, false, false, false, false] (h hL)
theorem C_X12_invariants {a0 : Nat} {x1 : Int} (h : GG E mX12_invariants 0 [some (vr a0), some (vi x1), none, none, none, none, none, none, none, none, none, none, none, none, none, none, none, none, none, none, none, none] [] σ 0 0 Q) : CC E mX12_invariants [vr a0, vi x1] σ Q := CC.of (by decide +kernel) rfl (by decide +kernel) (fun h9 => nomatch h9) (Nat.le_of_ble_eq_true rfl) h
theorem dX12_isAhead_0 : decode cX12_isAhead 0 = .ok (.aload_n 0, 1) := by decide +kernel
theorem dX12_isAhead_1 : decode cX12_isAhead 1 = .ok (.iload_n 1, 1) := by decide +kernel
theorem dX12_isAhead_2 : decode cX12_isAhead 2 = .ok (.invokevirtual 260, 3) := by decide +kernel
theorem dX12_isAhead_5 : decode cX12_isAhead 5 = .ok (.ifCond .ne 11, 3) := by decide +kernel
theorem dX12_isAhead_8 : decode cX12_isAhead 8 = .ok (.aload_n 0, 1) := by decide +kernel
theorem dX12_isAhead_9 : decode cX12_isAhead 9 = .ok (.iload_n 2, 1) := by decide +kernel
theorem dX12_isAhead_10 : decode cX12_isAhead 10 = .ok (.invokevirtual 260, 3) := by decide +kernel
theorem dX12_isAhead_13 : decode cX12_isAhead 13 = .ok (.ifCond .eq 9, 3) := by decide +kernel
theorem dX12_isAhead_16 : decode cX12_isAhead 16 = .ok (.aload_n 0, 1) := by decide +kernel
theorem dX12_isAhead_17 : decode cX12_isAhead 17 = .ok (.iload_n 1, 1) := by decide +kernel
theorem dX12_isAhead_18 : decode cX12_isAhead 18 = .ok (.invokevirtual 260, 3) := by decide +kernel
theorem dX12_isAhead_21 : decode cX12_isAhead 21 = .ok (.ireturn, 1) := by decide +kernel
theorem dX12_isAhead_22 : decode cX12_isAhead 22 = .ok (.aload_n 0, 1) := by decide +kernel
theorem dX12_isAhead_23 : decode cX12_isAhead 23 = .ok (.getfield 73, 3) := by decide +kernel
theorem dX12_isAhead_26 : decode cX12_isAhead 26 = .ok (.iload_n 1, 1) := by decide +kernel
theorem dX12_isAhead_27 : decode cX12_isAhead 27 = .ok (.iaload, 1) := by decide +kernel
theorem dX12_isAhead_28 : decode cX12_isAhead 28 = .ok (.aload_n 0, 1) := by decide +kernel
theorem dX12_isAhead_29 : decode cX12_isAhead 29 = .ok (.getfield 73, 3) := by decide +kernel
theorem dX12_isAhead_32 : decode cX12_isAhead 32 = .ok (.iload_n 2, 1) := by decide +kernel
theorem dX12_isAhead_33 : decode cX12_isAhead 33 = .ok (.iaload, 1) := by decide +kernel
theorem dX12_isAhead_34 : decode cX12_isAhead 34 = .ok (.if_icmp .eq 24, 3) := by decide +kernel
theorem dX12_isAhead_37 : decode cX12_isAhead 37 = .ok (.aload_n 0, 1) := by decide +kernel
theorem dX12_isAhead_38 : decode cX12_isAhead 38 = .ok (.getfield 73, 3) := by decide +kernel
theorem dX12_isAhead_41 : decode cX12_isAhead 41 = .ok (.iload_n 1, 1) := by decide +kernel
theorem dX12_isAhead_42 : decode cX12_isAhead 42 = .ok (.iaload, 1) := by decide +kernel
theorem dX12_isAhead_43 : decode cX12_isAhead 43 = .ok (.aload_n 0, 1) := by decide +kernel
theorem dX12_isAhead_44 : decode cX12_isAhead 44 = .ok (.getfield 73, 3) := by decide +kernel
theorem dX12_isAhead_47 : decode cX12_isAhead 47 = .ok (.iload_n 2, 1) := by decide +kernel
theorem dX12_isAhead_48 : decode cX12_isAhead 48 = .ok (.iaload, 1) := by decide +kernel
theorem dX12_isAhead_49 : decode cX12_isAhead 49 = .ok (.if_icmp .ge 7, 3) := by decide +kernel
theorem dX12_isAhead_52 : decode cX12_isAhead 52 = .ok (.iconst 1, 1) := by decide +kernel
theorem dX12_isAhead_53 : decode cX12_isAhead 53 = .ok (.goto 4, 3) := by decide +kernel
theorem dX12_isAhead_56 : decode cX12_isAhead 56 = .ok (.iconst 0, 1) := by decide +kernel
theorem dX12_isAhead_57 : decode cX12_isAhead 57 = .ok (.ireturn, 1) := by decide +kernel
theorem dX12_isAhead_58 : decode cX12_isAhead 58 = .ok (.iconst 0, 1) := by decide +kernel
theorem dX12_isAhead_59 : decode cX12_isAhead 59 = .ok (.istore_n 3, 1) := by decide +kernel
theorem dX12_isAhead_60 : decode cX12_isAhead 60 = .ok (.iload_n 3, 1) := by decide +kernel
theorem dX12_isAhead_61 : decode cX12_isAhead 61 = .ok (.aload_n 0, 1) := by decide +kernel
theorem dX12_isAhead_62 : decode cX12_isAhead 62 = .ok (.getfield 231, 3) := by decide +kernel
theorem dX12_isAhead_65 : decode cX12_isAhead 65 = .ok (.if_icmp .ge 53, 3) := by decide +kernel
theorem dX12_isAhead_68 : decode cX12_isAhead 68 = .ok (.aload_n 0, 1) := by decide +kernel
theorem dX12_isAhead_69 : decode cX12_isAhead 69 = .ok (.getfield 70, 3) := by decide +kernel
theorem dX12_isAhead_72 : decode cX12_isAhead 72 = .ok (.iload_n 1, 1) := by decide +kernel
theorem dX12_isAhead_73 : decode cX12_isAhead 73 = .ok (.aaload, 1) := by decide +kernel
theorem dX12_isAhead_74 : decode cX12_isAhead 74 = .ok (.iload_n 3, 1) := by decide +kernel
theorem dX12_isAhead_75 : decode cX12_isAhead 75 = .ok (.iaload, 1) := by decide +kernel
theorem dX12_isAhead_76 : decode cX12_isAhead 76 = .ok (.aload_n 0, 1) := by decide +kernel
theorem dX12_isAhead_77 : decode cX12_isAhead 77 = .ok (.getfield 70, 3) := by decide +kernel
theorem dX12_isAhead_80 : decode cX12_isAhead 80 = .ok (.iload_n 2, 1) := by decide +kernel
theorem dX12_isAhead_81 : decode cX12_isAhead 81 = .ok (.aaload, 1) := by decide +kernel
theorem dX12_isAhead_82 : decode cX12_isAhead 82 = .ok (.iload_n 3, 1) := by decide +kernel
theorem dX12_isAhead_83 : decode cX12_isAhead 83 = .ok (.iaload, 1) := by decide +kernel
theorem dX12_isAhead_84 : decode cX12_isAhead 84 = .ok (.if_icmp .eq 28, 3) := by decide +kernel
theorem dX12_isAhead_87 : decode cX12_isAhead 87 = .ok (.aload_n 0, 1) := by decide +kernel
theorem dX12_isAhead_88 : decode cX12_isAhead 88 = .ok (.getfield 70, 3) := by decide +kernel
theorem dX12_isAhead_91 : decode cX12_isAhead 91 = .ok (.iload_n 1, 1) := by decide +kernel
theorem dX12_isAhead_92 : decode cX12_isAhead 92 = .ok (.aaload, 1) := by decide +kernel
theorem dX12_isAhead_93 : decode cX12_isAhead 93 = .ok (.iload_n 3, 1) := by decide +kernel
theorem dX12_isAhead_94 : decode cX12_isAhead 94 = .ok (.iaload, 1) := by decide +kernel
theorem dX12_isAhead_95 : decode cX12_isAhead 95 = .ok (.aload_n 0, 1) := by decide +kernel
theorem dX12_isAhead_96 : decode cX12_isAhead 96 = .ok (.getfield 70, 3) := by decide +kernel
theorem dX12_isAhead_99 : decode cX12_isAhead 99 = .ok (.iload_n 2, 1) := by decide +kernel
theorem dX12_isAhead_100 : decode cX12_isAhead 100 = .ok (.aaload, 1) := by decide +kernel
theorem dX12_isAhead_101 : decode cX12_isAhead 101 = .ok (.iload_n 3, 1) := by decide +kernel
theorem dX12_isAhead_102 : decode cX12_isAhead 102 = .ok (.iaload, 1) := by decide +kernel
theorem dX12_isAhead_103 : decode cX12_isAhead 103 = .ok (.if_icmp .ge 7, 3) := by decide +kernel
theorem dX12_isAhead_106 : decode cX12_isAhead 106 = .ok (.iconst 1, 1) := by decide +kernel
theorem dX12_isAhead_107 : decode cX12_isAhead 107 = .ok (.goto 4, 3) := by decide +kernel
theorem dX12_isAhead_110 : decode cX12_isAhead 110 = .ok (.iconst 0, 1) := by decide +kernel
theorem dX12_isAhead_111 : decode cX12_isAhead 111 = .ok (.ireturn, 1) := by decide +kernel
theorem dX12_isAhead_112 : decode cX12_isAhead 112 = .ok (.iinc 3 1, 3) := by decide +kernel
theorem dX12_isAhead_115 : decode cX12_isAhead 115 = .ok (.goto (-55), 3) := by decide +kernel
theorem dX12_isAhead_118 : decode cX12_isAhead 118 = .ok (.iconst 0, 1) := by decide +kernel
theorem dX12_isAhead_119 : decode cX12_isAhead 119 = .ok (.ireturn, 1) := by decide +kernel
theorem B_X12_isAhead_0 {g : Sg} {c t : Nat} (hL : Lay LM g c t σ) {x1 : Int} {x2 : Int} (h : (Lay LM g c t σ → CC E mX12_isOneAll [vr 172, vi x1] σ (KI (fun r1 τ2 => Lay LM g c t τ2 ∧ (inR r1 → ((r1 ≠ 0 → (Lay LM g c t τ2 → CC E mX12_isOneAll [vr 172, vi x1] τ2 (KI (fun r3 τ4 => Lay LM g c t τ4 ∧ (inR r3 → (r3 = 0 ∨ r3 = 1) ∧ (Lay LM g c t τ4 → Q (.inl (some (vi r3))) τ4))) (fun _ _ => False)))) ∧ (r1 = 0 → (Lay LM g c t τ2 → CC E mX12_isOneAll [vr 172, vi x2] τ2 (KI (fun r5 τ6 => Lay LM g c t τ6 ∧ (inR r5 → ((r5 = 0 → (0 ≤ x1 ∧ x1 < 48) ∧ (0 ≤ x2 ∧ x2 < 48) ∧ (((gI τ6 2962 x1.toNat) = (gI τ6 2962 x2.toNat) → (Lay LM g c t τ6 → GG E mX12_isAhead 60 [some (vr 172), some (vi x1), some (vi x2), some (vi 0)] [] τ6 rc rs Q)) ∧ (¬ ((gI τ6 2962 x1.toNat) = (gI τ6 2962 x2.toNat)) → (((gI τ6 2962 x2.toNat) ≤ (gI τ6 2962 x1.toNat) → (Lay LM g c t τ6 → Q (.inl (some (vi 0))) τ6)) ∧ (¬ ((gI τ6 2962 x2.toNat) ≤ (gI τ6 2962 x1.toNat)) → (Lay LM g c t τ6 → Q (.inl (some (vi 1))) τ6)))))) ∧ (¬ (r5 = 0) → (Lay LM g c t τ6 → CC E mX12_isOneAll [vr 172, vi x1] τ6 (KI (fun r9 τ10 => Lay LM g c t τ10 ∧ (inR r9 → (r9 = 0 ∨ r9 = 1) ∧ (Lay LM g c t τ10 → Q (.inl (some (vi r9))) τ10))) (fun _ _ => False))))))) (fun _ _ => False))))))) (fun _ _ => False)))) : GG E mX12_isAhead 0 [some (vr 172), some (vi x1), some (vi x2), none] [] σ rc rs Q := by
  refine r_aload_n (pc := 0) dX12_isAhead_0 rfl rfl ?_
  refine r_iload_n (pc := 1) dX12_isAhead_1 rfl rfl ?_
  refine c_VI0N (M := mX12_isAhead) (pc := 2) (As := [vi x1]) dX12_isAhead_2 K_X12_isOneAll w_1690 ⟨by decide, by decide⟩ (Nat.le_of_ble_eq_true rfl) rfl rfl (ci := 12) rfl rfl (by decide) (okO_of (N := 42) (hL.sh (i := 0) rfl (by decide) (by decide)) (by decide)) (h hL) (fun r1 τ2 h8 hr9 => ?_) rfl
  replace hL := h8.1
  replace h := h8.2 hr9
  refine r_if_ne (pc := 5) (tgt := 16) dX12_isAhead_5 (by decide) (fun c9 => ?_) (fun c9 => ?_)
  · replace h := h.1 c9
    refine r_aload_n (pc := 16) dX12_isAhead_16 rfl rfl ?_
    refine r_iload_n (pc := 17) dX12_isAhead_17 rfl rfl ?_
    refine c_VI0N (M := mX12_isAhead) (pc := 18) (As := [vi x1]) dX12_isAhead_18 K_X12_isOneAll w_1690 ⟨by decide, by decide⟩ (Nat.le_of_ble_eq_true rfl) rfl rfl (ci := 12) rfl rfl (by decide) (okO_of (N := 42) (hL.sh (i := 0) rfl (by decide) (by decide)) (by decide)) (h hL) (fun r3 τ4 h8 hr9 => ?_) rfl
    replace hL := h8.1
    replace h := h8.2 hr9
    exact r_ireturn (pc := 21) (ty := .boolean) dX12_isAhead_21 (by decide +kernel) rfl (nar_bool h.1) (h.2 hL)
  · replace h := h.2 c9
    refine r_aload_n (pc := 8) dX12_isAhead_8 rfl rfl ?_
    refine r_iload_n (pc := 9) dX12_isAhead_9 rfl rfl ?_
    refine c_VI0N (M := mX12_isAhead) (pc := 10) (As := [vi x2]) dX12_isAhead_10 K_X12_isOneAll w_1690 ⟨by decide, by decide⟩ (Nat.le_of_ble_eq_true rfl) rfl rfl (ci := 12) rfl rfl (by decide) (okO_of (N := 42) (hL.sh (i := 0) rfl (by decide) (by decide)) (by decide)) (h hL) (fun r5 τ6 h8 hr9 => ?_) rfl
    replace hL := h8.1
    replace h := h8.2 hr9
    refine r_if_eq (pc := 13) (tgt := 22) dX12_isAhead_13 (by decide) (fun c9 => ?_) (fun c9 => ?_)
    · replace h := h.1 c9
      refine r_aload_n (pc := 22) dX12_isAhead_22 rfl rfl ?_
      refine r_getR (pc := 23) dX12_isAhead_23 (k9 := 34) CL_12 (by decide) (by decide) w_1449 rfl (okO_of (N := 42) (hL.sh (i := 0) rfl (by decide) (by decide)) (by decide)) ?_
      refine eqR (y := 2962) (hL.rf (i := 19) rfl) ?_
      refine r_iload_n (pc := 26) dX12_isAhead_26 rfl rfl ?_
      obtain ⟨o7, h⟩ := h
      refine r_iaload (pc := 27) dX12_isAhead_27 (okA_of (c := 20) (n := 48) (hL.sh (i := 27) rfl (by decide) (by decide)) (by decide) o7) ?_
      refine r_aload_n (pc := 28) dX12_isAhead_28 rfl rfl ?_
      refine r_getR (pc := 29) dX12_isAhead_29 (k9 := 34) CL_12 (by decide) (by decide) w_1449 rfl (okO_of (N := 42) (hL.sh (i := 0) rfl (by decide) (by decide)) (by decide)) ?_
      refine eqR (y := 2962) (hL.rf (i := 19) rfl) ?_
      refine r_iload_n (pc := 32) dX12_isAhead_32 rfl rfl ?_
      obtain ⟨o8, h⟩ := h
      refine r_iaload (pc := 33) dX12_isAhead_33 (okA_of (c := 20) (n := 48) (hL.sh (i := 27) rfl (by decide) (by decide)) (by decide) o8) ?_
      refine r_icmp_eq (pc := 34) (tgt := 58) dX12_isAhead_34 (by decide) (fun c9 => ?_) (fun c9 => ?_)
      · replace h := h.1 c9
        refine r_iconst (pc := 58) dX12_isAhead_58 (inRk rfl) ?_
        refine r_istore_n (pc := 59) dX12_isAhead_59 rfl (by decide) (l2 := [some (vr 172), some (vi x1), some (vi x2), some (vi 0)]) rfl ?_
        exact (h hL)
      · replace h := h.2 c9
        refine r_aload_n (pc := 37) dX12_isAhead_37 rfl rfl ?_
        refine r_getR (pc := 38) dX12_isAhead_38 (k9 := 34) CL_12 (by decide) (by decide) w_1449 rfl (okO_of (N := 42) (hL.sh (i := 0) rfl (by decide) (by decide)) (by decide)) ?_
        refine eqR (y := 2962) (hL.rf (i := 19) rfl) ?_
        refine r_iload_n (pc := 41) dX12_isAhead_41 rfl rfl ?_
        refine r_iaload (pc := 42) dX12_isAhead_42 (okA_of (c := 20) (n := 48) (hL.sh (i := 27) rfl (by decide) (by decide)) (by decide) o7) ?_
        refine r_aload_n (pc := 43) dX12_isAhead_43 rfl rfl ?_
        refine r_getR (pc := 44) dX12_isAhead_44 (k9 := 34) CL_12 (by decide) (by decide) w_1449 rfl (okO_of (N := 42) (hL.sh (i := 0) rfl (by decide) (by decide)) (by decide)) ?_
        refine eqR (y := 2962) (hL.rf (i := 19) rfl) ?_
        refine r_iload_n (pc := 47) dX12_isAhead_47 rfl rfl ?_
        refine r_iaload (pc := 48) dX12_isAhead_48 (okA_of (c := 20) (n := 48) (hL.sh (i := 27) rfl (by decide) (by decide)) (by decide) o8) ?_
        refine r_icmp_ge (pc := 49) (tgt := 56) dX12_isAhead_49 (by decide) (fun c9 => ?_) (fun c9 => ?_)
        · replace h := h.1 c9
          refine r_iconst (pc := 56) dX12_isAhead_56 (inRk rfl) ?_
          exact r_ireturn (pc := 57) (ty := .boolean) dX12_isAhead_57 (by decide +kernel) rfl (nar_bool (by decide)) (h hL)
        · replace h := h.2 c9
          refine r_iconst (pc := 52) dX12_isAhead_52 (inRk rfl) ?_
          refine r_goto (pc := 53) (tgt := 57) dX12_isAhead_53 (by decide) ?_
          exact r_ireturn (pc := 57) (ty := .boolean) dX12_isAhead_57 (by decide +kernel) rfl (nar_bool (by decide)) (h hL)
    · replace h := h.2 c9
      refine r_aload_n (pc := 16) dX12_isAhead_16 rfl rfl ?_
      refine r_iload_n (pc := 17) dX12_isAhead_17 rfl rfl ?_
      refine c_VI0N (M := mX12_isAhead) (pc := 18) (As := [vi x1]) dX12_isAhead_18 K_X12_isOneAll w_1690 ⟨by decide, by decide⟩ (Nat.le_of_ble_eq_true rfl) rfl rfl (ci := 12) rfl rfl (by decide) (okO_of (N := 42) (hL.sh (i := 0) rfl (by decide) (by decide)) (by decide)) (h hL) (fun r9 τ10 h8 hr9 => ?_) rfl
      replace hL := h8.1
      replace h := h8.2 hr9
      exact r_ireturn (pc := 21) (ty := .boolean) dX12_isAhead_21 (by decide +kernel) rfl (nar_bool h.1) (h.2 hL)
theorem B_X12_isAhead_60 {g : Sg} {c t : Nat} (hL : Lay LM g c t σ) {x1 : Int} {x2 : Int} {x3 : Int} (h : (((gI σ 172 16) ≤ x3 → (Lay LM g c t σ → Q (.inl (some (vi 0))) σ)) ∧ (¬ ((gI σ 172 16) ≤ x3) → (0 ≤ x1 ∧ x1 < 48) ∧ ∀ b2 : Nat, b2 = gR σ 2913 x1.toNat → (2914 ≤ b2 ∧ b2 < 2962) → (0 ≤ x3 ∧ x3 < 48) ∧ (0 ≤ x2 ∧ x2 < 48) ∧ ∀ b6 : Nat, b6 = gR σ 2913 x2.toNat → (2914 ≤ b6 ∧ b6 < 2962) → (((gI σ b2 x3.toNat) = (gI σ b6 x3.toNat) → inR (x3 + 1) ∧ (Lay LM g c t σ → GG E mX12_isAhead 60 [some (vr 172), some (vi x1), some (vi x2), some (vi (x3 + 1))] [] σ rc rs Q)) ∧ (¬ ((gI σ b2 x3.toNat) = (gI σ b6 x3.toNat)) → ∀ b9 : Nat, b9 = gR σ 2913 x1.toNat → (2914 ≤ b9 ∧ b9 < 2962) → ∀ b11 : Nat, b11 = gR σ 2913 x2.toNat → (2914 ≤ b11 ∧ b11 < 2962) → (((gI σ b11 x3.toNat) ≤ (gI σ b9 x3.toNat) → (Lay LM g c t σ → Q (.inl (some (vi 0))) σ)) ∧ (¬ ((gI σ b11 x3.toNat) ≤ (gI σ b9 x3.toNat)) → (Lay LM g c t σ → Q (.inl (some (vi 1))) σ)))))))) : GG E mX12_isAhead 60 [some (vr 172), some (vi x1), some (vi x2), some (vi x3)] [] σ rc rs Q := by
  refine r_iload_n (pc := 60) dX12_isAhead_60 rfl rfl ?_
  refine r_aload_n (pc := 61) dX12_isAhead_61 rfl rfl ?_
  refine r_getI (pc := 62) dX12_isAhead_62 (k9 := 16) CL_12 (by decide) (by decide) w_1431 rfl (okO_of (N := 42) (hL.sh (i := 0) rfl (by decide) (by decide)) (by decide)) (fun _ => ?_)
  refine r_icmp_ge (pc := 65) (tgt := 118) dX12_isAhead_65 (by decide) (fun c9 => ?_) (fun c9 => ?_)
  · replace h := h.1 c9
    refine r_iconst (pc := 118) dX12_isAhead_118 (inRk rfl) ?_
    exact r_ireturn (pc := 119) (ty := .boolean) dX12_isAhead_119 (by decide +kernel) rfl (nar_bool (by decide)) (h hL)
  · replace h := h.2 c9
    refine r_aload_n (pc := 68) dX12_isAhead_68 rfl rfl ?_
    refine r_getR (pc := 69) dX12_isAhead_69 (k9 := 33) CL_12 (by decide) (by decide) w_1448 rfl (okO_of (N := 42) (hL.sh (i := 0) rfl (by decide) (by decide)) (by decide)) ?_
    refine eqR (y := 2913) (hL.rf (i := 18) rfl) ?_
    refine r_iload_n (pc := 72) dX12_isAhead_72 rfl rfl ?_
    obtain ⟨o1, h⟩ := h
    refine r_aaload (pc := 73) dX12_isAhead_73 (okB_of (c := 24) (n := 48) (hL.sh (i := 25) rfl (by decide) (by decide)) (by decide) o1) ?_
    refine nmR (fun b2 e9 => ?_)
    have q3 : (2914 ≤ b2 ∧ b2 < 2962) := e9 ▸ hL.rsw (i := 1) rfl (rowC o1 (by decide))
    replace h := h b2 e9 q3
    refine r_iload_n (pc := 74) dX12_isAhead_74 rfl rfl ?_
    obtain ⟨o4, h⟩ := h
    refine r_iaload (pc := 75) dX12_isAhead_75 (okA_of (c := 20) (n := 48) (hL.sh (i := 26) rfl q3.1 q3.2) (Nat.le_trans (by decide) q3.1) o4) ?_
    refine r_aload_n (pc := 76) dX12_isAhead_76 rfl rfl ?_
    refine r_getR (pc := 77) dX12_isAhead_77 (k9 := 33) CL_12 (by decide) (by decide) w_1448 rfl (okO_of (N := 42) (hL.sh (i := 0) rfl (by decide) (by decide)) (by decide)) ?_
    refine eqR (y := 2913) (hL.rf (i := 18) rfl) ?_
    refine r_iload_n (pc := 80) dX12_isAhead_80 rfl rfl ?_
    obtain ⟨o5, h⟩ := h
    refine r_aaload (pc := 81) dX12_isAhead_81 (okB_of (c := 24) (n := 48) (hL.sh (i := 25) rfl (by decide) (by decide)) (by decide) o5) ?_
    refine nmR (fun b6 e9 => ?_)
    have q7 : (2914 ≤ b6 ∧ b6 < 2962) := e9 ▸ hL.rsw (i := 1) rfl (rowC o5 (by decide))
    replace h := h b6 e9 q7
    refine r_iload_n (pc := 82) dX12_isAhead_82 rfl rfl ?_
    refine r_iaload (pc := 83) dX12_isAhead_83 (okA_of (c := 20) (n := 48) (hL.sh (i := 26) rfl q7.1 q7.2) (Nat.le_trans (by decide) q7.1) o4) ?_
    refine r_icmp_eq (pc := 84) (tgt := 112) dX12_isAhead_84 (by decide) (fun c9 => ?_) (fun c9 => ?_)
    · replace h := h.1 c9
      obtain ⟨o8, h⟩ := h
      refine r_iinc (pc := 112) dX12_isAhead_112 rfl (by decide) o8 (l2 := [some (vr 172), some (vi x1), some (vi x2), some (vi (x3 + 1))]) rfl ?_
      refine r_goto (pc := 115) (tgt := 60) dX12_isAhead_115 (by decide) ?_
      exact (h hL)
    · replace h := h.2 c9
      refine r_aload_n (pc := 87) dX12_isAhead_87 rfl rfl ?_
      refine r_getR (pc := 88) dX12_isAhead_88 (k9 := 33) CL_12 (by decide) (by decide) w_1448 rfl (okO_of (N := 42) (hL.sh (i := 0) rfl (by decide) (by decide)) (by decide)) ?_
      refine eqR (y := 2913) (hL.rf (i := 18) rfl) ?_
      refine r_iload_n (pc := 91) dX12_isAhead_91 rfl rfl ?_
      refine r_aaload (pc := 92) dX12_isAhead_92 (okB_of (c := 24) (n := 48) (hL.sh (i := 25) rfl (by decide) (by decide)) (by decide) o1) ?_
      refine nmR (fun b9 e9 => ?_)
      have q10 : (2914 ≤ b9 ∧ b9 < 2962) := e9 ▸ hL.rsw (i := 1) rfl (rowC o1 (by decide))
      replace h := h b9 e9 q10
      refine r_iload_n (pc := 93) dX12_isAhead_93 rfl rfl ?_
      refine r_iaload (pc := 94) dX12_isAhead_94 (okA_of (c := 20) (n := 48) (hL.sh (i := 26) rfl q10.1 q10.2) (Nat.le_trans (by decide) q10.1) o4) ?_
      refine r_aload_n (pc := 95) dX12_isAhead_95 rfl rfl ?_
      refine r_getR (pc := 96) dX12_isAhead_96 (k9 := 33) CL_12 (by decide) (by decide) w_1448 rfl (okO_of (N := 42) (hL.sh (i := 0) rfl (by decide) (by decide)) (by decide)) ?_
      refine eqR (y := 2913) (hL.rf (i := 18) rfl) ?_
      refine r_iload_n (pc := 99) dX12_isAhead_99 rfl rfl ?_
      refine r_aaload (pc := 100) dX12_isAhead_100 (okB_of (c := 24) (n := 48) (hL.sh (i := 25) rfl (by decide) (by decide)) (by decide) o5) ?_
      refine nmR (fun b11 e9 => ?_)
      have q12 : (2914 ≤ b11 ∧ b11 < 2962) := e9 ▸ hL.rsw (i := 1) rfl (rowC o5 (by decide))
      replace h := h b11 e9 q12
      refine r_iload_n (pc := 101) dX12_isAhead_101 rfl rfl ?_
      refine r_iaload (pc := 102) dX12_isAhead_102 (okA_of (c := 20) (n := 48) (hL.sh (i := 26) rfl q12.1 q12.2) (Nat.le_trans (by decide) q12.1) o4) ?_
      refine r_icmp_ge (pc := 103) (tgt := 110) dX12_isAhead_103 (by decide) (fun c9 => ?_) (fun c9 => ?_)
      · replace h := h.1 c9
        refine r_iconst (pc := 110) dX12_isAhead_110 (inRk rfl) ?_
        exact r_ireturn (pc := 111) (ty := .boolean) dX12_isAhead_111 (by decide +kernel) rfl (nar_bool (by decide)) (h hL)
      · replace h := h.2 c9
        refine r_iconst (pc := 106) dX12_isAhead_106 (inRk rfl) ?_
        refine r_goto (pc := 107) (tgt := 111) dX12_isAhead_107 (by decide) ?_
        exact r_ireturn (pc := 111) (ty := .boolean) dX12_isAhead_111 (by decide +kernel) rfl (nar_bool (by decide)) (h hL)
theorem C_X12_isAhead {a0 : Nat} {x1 : Int} {x2 : Int} (h : GG E mX12_isAhead 0 [some (vr a0), some (vi x1), some (vi x2), none] [] σ 0 0 Q) : CC E mX12_isAhead [vr a0, vi x1, vi x2] σ Q := CC.of (by decide +kernel) rfl (by decide +kernel) (fun h9 => nomatch h9) (Nat.le_of_ble_eq_true rfl) h
theorem dX12_isClass_0 : decode cX12_isClass 0 = .ok (.iload_n 1, 1) := by decide +kernel
theorem dX12_isClass_1 : decode cX12_isClass 1 = .ok (.iconst 0, 1) := by decide +kernel
theorem dX12_isClass_2 : decode cX12_isClass 2 = .ok (.aload_n 0, 1) := by decide +kernel
theorem dX12_isClass_3 : decode cX12_isClass 3 = .ok (.getfield 231, 3) := by decide +kernel
theorem dX12_isClass_6 : decode cX12_isClass 6 = .ok (.iconst 1, 1) := by decide +kernel
theorem dX12_isClass_7 : decode cX12_isClass 7 = .ok (.isub, 1) := by decide +kernel
theorem dX12_isClass_8 : decode cX12_isClass 8 = .ok (.invokestatic 141, 3) := by decide +kernel
theorem dX12_isClass_11 : decode cX12_isClass 11 = .ok (.ireturn, 1) := by decide +kernel
theorem B_X12_isClass_0 {g : Sg} {c t : Nat} (hL : Lay LM g c t σ) {x1 : Int} (h : inR ((gI σ 172 16) - 1) ∧ (Lay LM g c t σ → CC E mX12_in [vi x1, vi 0, vi ((gI σ 172 16) - 1)] σ (KI (fun r2 τ3 => Lay LM g c t τ3 ∧ (inR r2 → (r2 = 0 ∨ r2 = 1) ∧ (Lay LM g c t τ3 → Q (.inl (some (vi r2))) τ3))) (fun _ _ => False)))) : GG E mX12_isClass 0 [some (vr 172), some (vi x1)] [] σ rc rs Q := by
  refine r_iload_n (pc := 0) dX12_isClass_0 rfl rfl ?_
  refine r_iconst (pc := 1) dX12_isClass_1 (inRk rfl) ?_
  refine r_aload_n (pc := 2) dX12_isClass_2 rfl rfl ?_
  refine r_getI (pc := 3) dX12_isClass_3 (k9 := 16) CL_12 (by decide) (by decide) w_1431 rfl (okO_of (N := 42) (hL.sh (i := 0) rfl (by decide) (by decide)) (by decide)) (fun _ => ?_)
  refine r_iconst (pc := 6) dX12_isClass_6 (inRk rfl) ?_
  obtain ⟨o1, h⟩ := h
  refine r_isub (pc := 7) dX12_isClass_7 o1 ?_
  refine c_SI0N (M := mX12_isClass) (pc := 8) (As := [vi x1, vi 0, vi ((gI σ 172 16) - 1)]) dX12_isClass_8 K_X12_in w_1559 ⟨by decide, by decide⟩ (Nat.le_of_ble_eq_true rfl) rfl rfl (h hL) (fun r2 τ3 h8 hr9 => ?_) rfl
  replace hL := h8.1
  replace h := h8.2 hr9
  exact r_ireturn (pc := 11) (ty := .boolean) dX12_isClass_11 (by decide +kernel) rfl (nar_bool h.1) (h.2 hL)
theorem C_X12_isClass {a0 : Nat} {x1 : Int} (h : GG E mX12_isClass 0 [some (vr a0), some (vi x1)] [] σ 0 0 Q) : CC E mX12_isClass [vr a0, vi x1] σ Q := CC.of (by decide +kernel) rfl (by decide +kernel) (fun h9 => nomatch h9) (Nat.le_of_ble_eq_true rfl) h
theorem dX12_isDigit_0 : decode cX12_isDigit 0 = .ok (.iload_n 0, 1) := by decide +kernel
theorem dX12_isDigit_1 : decode cX12_isDigit 1 = .ok (.bipush 48, 2) := by decide +kernel
theorem dX12_isDigit_3 : decode cX12_isDigit 3 = .ok (.if_icmp .lt 13, 3) := by decide +kernel
theorem dX12_isDigit_6 : decode cX12_isDigit 6 = .ok (.iload_n 0, 1) := by decide +kernel
theorem dX12_isDigit_7 : decode cX12_isDigit 7 = .ok (.bipush 57, 2) := by decide +kernel
theorem dX12_isDigit_9 : decode cX12_isDigit 9 = .ok (.if_icmp .gt 7, 3) := by decide +kernel
theorem dX12_isDigit_12 : decode cX12_isDigit 12 = .ok (.iconst 1, 1) := by decide +kernel
theorem dX12_isDigit_13 : decode cX12_isDigit 13 = .ok (.goto 4, 3) := by decide +kernel
theorem dX12_isDigit_16 : decode cX12_isDigit 16 = .ok (.iconst 0, 1) := by decide +kernel
theorem dX12_isDigit_17 : decode cX12_isDigit 17 = .ok (.ireturn, 1) := by decide +kernel
theorem B_X12_isDigit_0 {x0 : Int} (h : ((x0 < 48 → Q (.inl (some (vi 0))) σ) ∧ (¬ (x0 < 48) → ((57 < x0 → Q (.inl (some (vi 0))) σ) ∧ (¬ (57 < x0) → Q (.inl (some (vi 1))) σ))))) : GG E mX12_isDigit 0 [some (vi x0)] [] σ rc rs Q := by
  refine r_iload_n (pc := 0) dX12_isDigit_0 rfl rfl ?_
  refine r_bipush (pc := 1) dX12_isDigit_1 (by decide) ?_
  refine r_icmp_lt (pc := 3) (tgt := 16) dX12_isDigit_3 (by decide) (fun c9 => ?_) (fun c9 => ?_)
  · replace h := h.1 c9
    refine r_iconst (pc := 16) dX12_isDigit_16 (inRk rfl) ?_
    exact r_ireturn (pc := 17) (ty := .boolean) dX12_isDigit_17 (by decide +kernel) rfl (nar_bool (by decide)) h
  · replace h := h.2 c9
    refine r_iload_n (pc := 6) dX12_isDigit_6 rfl rfl ?_
    refine r_bipush (pc := 7) dX12_isDigit_7 (by decide) ?_
    refine r_icmp_gt (pc := 9) (tgt := 16) dX12_isDigit_9 (by decide) (fun c9 => ?_) (fun c9 => ?_)
    · replace h := h.1 c9
      refine r_iconst (pc := 16) dX12_isDigit_16 (inRk rfl) ?_
      exact r_ireturn (pc := 17) (ty := .boolean) dX12_isDigit_17 (by decide +kernel) rfl (nar_bool (by decide)) h
    · replace h := h.2 c9
      refine r_iconst (pc := 12) dX12_isDigit_12 (inRk rfl) ?_
      refine r_goto (pc := 13) (tgt := 17) dX12_isDigit_13 (by decide) ?_
      exact r_ireturn (pc := 17) (ty := .boolean) dX12_isDigit_17 (by decide +kernel) rfl (nar_bool (by decide)) h
theorem C_X12_isDigit {x0 : Int} (h : GG E mX12_isDigit 0 [some (vi x0)] [] σ 0 0 Q) : CC E mX12_isDigit [vi x0] σ Q := CC.of (by decide +kernel) rfl (by decide +kernel) (fun h9 => nomatch h9) (Nat.le_of_ble_eq_true rfl) h
theorem dX12_isElement_0 : decode cX12_isElement 0 = .ok (.iload_n 1, 1) := by decide +kernel
theorem dX12_isElement_1 : decode cX12_isElement 1 = .ok (.iconst 0, 1) := by decide +kernel
theorem dX12_isElement_2 : decode cX12_isElement 2 = .ok (.aload_n 0, 1) := by decide +kernel
theorem dX12_isElement_3 : decode cX12_isElement 3 = .ok (.getfield 192, 3) := by decide +kernel
theorem dX12_isElement_6 : decode cX12_isElement 6 = .ok (.iconst 1, 1) := by decide +kernel
theorem dX12_isElement_7 : decode cX12_isElement 7 = .ok (.isub, 1) := by decide +kernel
theorem dX12_isElement_8 : decode cX12_isElement 8 = .ok (.invokestatic 141, 3) := by decide +kernel
theorem dX12_isElement_11 : decode cX12_isElement 11 = .ok (.ireturn, 1) := by decide +kernel
theorem B_X12_isElement_0 {g : Sg} {c t : Nat} (hL : Lay LM g c t σ) {x1 : Int} (h : inR ((gI σ 172 15) - 1) ∧ (Lay LM g c t σ → CC E mX12_in [vi x1, vi 0, vi ((gI σ 172 15) - 1)] σ (KI (fun r2 τ3 => Lay LM g c t τ3 ∧ (inR r2 → (r2 = 0 ∨ r2 = 1) ∧ (Lay LM g c t τ3 → Q (.inl (some (vi r2))) τ3))) (fun _ _ => False)))) : GG E mX12_isElement 0 [some (vr 172), some (vi x1)] [] σ rc rs Q := by
  refine r_iload_n (pc := 0) dX12_isElement_0 rfl rfl ?_
  refine r_iconst (pc := 1) dX12_isElement_1 (inRk rfl) ?_
  refine r_aload_n (pc := 2) dX12_isElement_2 rfl rfl ?_
  refine r_getI (pc := 3) dX12_isElement_3 (k9 := 15) CL_12 (by decide) (by decide) w_1430 rfl (okO_of (N := 42) (hL.sh (i := 0) rfl (by decide) (by decide)) (by decide)) (fun _ => ?_)
  refine r_iconst (pc := 6) dX12_isElement_6 (inRk rfl) ?_
  obtain ⟨o1, h⟩ := h
  refine r_isub (pc := 7) dX12_isElement_7 o1 ?_
  refine c_SI0N (M := mX12_isElement) (pc := 8) (As := [vi x1, vi 0, vi ((gI σ 172 15) - 1)]) dX12_isElement_8 K_X12_in w_1559 ⟨by decide, by decide⟩ (Nat.le_of_ble_eq_true rfl) rfl rfl (h hL) (fun r2 τ3 h8 hr9 => ?_) rfl
  replace hL := h8.1
  replace h := h8.2 hr9
  exact r_ireturn (pc := 11) (ty := .boolean) dX12_isElement_11 (by decide +kernel) rfl (nar_bool h.1) (h.2 hL)
theorem C_X12_isElement {a0 : Nat} {x1 : Int} (h : GG E mX12_isElement 0 [some (vr a0), some (vi x1)] [] σ 0 0 Q) : CC E mX12_isElement [vr a0, vi x1] σ Q := CC.of (by decide +kernel) rfl (by decide +kernel) (fun h9 => nomatch h9) (Nat.le_of_ble_eq_true rfl) h
theorem dX12_isKept_0 : decode cX12_isKept 0 = .ok (.aload_n 0, 1) := by decide +kernel
theorem dX12_isKept_1 : decode cX12_isKept 1 = .ok (.iconst 0, 1) := by decide +kernel
theorem dX12_isKept_2 : decode cX12_isKept 2 = .ok (.putfield 99, 3) := by decide +kernel
theorem dX12_isKept_5 : decode cX12_isKept 5 = .ok (.aload_n 0, 1) := by decide +kernel
theorem dX12_isKept_6 : decode cX12_isKept 6 = .ok (.aload_n 0, 1) := by decide +kernel
theorem dX12_isKept_7 : decode cX12_isKept 7 = .ok (.iload_n 1, 1) := by decide +kernel
theorem dX12_isKept_8 : decode cX12_isKept 8 = .ok (.invokevirtual 332, 3) := by decide +kernel
theorem dX12_isKept_11 : decode cX12_isKept 11 = .ok (.ifCond .eq 11, 3) := by decide +kernel
theorem dX12_isKept_14 : decode cX12_isKept 14 = .ok (.aload_n 0, 1) := by decide +kernel
theorem dX12_isKept_15 : decode cX12_isKept 15 = .ok (.iload_n 2, 1) := by decide +kernel
theorem dX12_isKept_16 : decode cX12_isKept 16 = .ok (.invokevirtual 332, 3) := by decide +kernel
theorem dX12_isKept_19 : decode cX12_isKept 19 = .ok (.ifCond .ne 7, 3) := by decide +kernel
theorem dX12_isKept_22 : decode cX12_isKept 22 = .ok (.iconst 1, 1) := by decide +kernel
theorem dX12_isKept_23 : decode cX12_isKept 23 = .ok (.goto 4, 3) := by decide +kernel
theorem dX12_isKept_26 : decode cX12_isKept 26 = .ok (.iconst 0, 1) := by decide +kernel
theorem dX12_isKept_27 : decode cX12_isKept 27 = .ok (.iconst 1, 1) := by decide +kernel
theorem dX12_isKept_28 : decode cX12_isKept 28 = .ok (.iconst 0, 1) := by decide +kernel
theorem dX12_isKept_29 : decode cX12_isKept 29 = .ok (.invokevirtual 177, 3) := by decide +kernel
theorem dX12_isKept_32 : decode cX12_isKept 32 = .ok (.ifCond .eq 5, 3) := by decide +kernel
theorem dX12_isKept_35 : decode cX12_isKept 35 = .ok (.iconst 0, 1) := by decide +kernel
theorem dX12_isKept_36 : decode cX12_isKept 36 = .ok (.ireturn, 1) := by decide +kernel
theorem dX12_isKept_37 : decode cX12_isKept 37 = .ok (.aload_n 0, 1) := by decide +kernel
theorem dX12_isKept_38 : decode cX12_isKept 38 = .ok (.iload_n 1, 1) := by decide +kernel
theorem dX12_isKept_39 : decode cX12_isKept 39 = .ok (.iload_n 2, 1) := by decide +kernel
theorem dX12_isKept_40 : decode cX12_isKept 40 = .ok (.invokevirtual 356, 3) := by decide +kernel
theorem dX12_isKept_43 : decode cX12_isKept 43 = .ok (.iconst 0, 1) := by decide +kernel
theorem dX12_isKept_44 : decode cX12_isKept 44 = .ok (.istore_n 3, 1) := by decide +kernel
theorem dX12_isKept_45 : decode cX12_isKept 45 = .ok (.iload_n 3, 1) := by decide +kernel
theorem dX12_isKept_46 : decode cX12_isKept 46 = .ok (.aload_n 0, 1) := by decide +kernel
theorem dX12_isKept_47 : decode cX12_isKept 47 = .ok (.getfield 192, 3) := by decide +kernel
theorem dX12_isKept_50 : decode cX12_isKept 50 = .ok (.if_icmp .ge 68, 3) := by decide +kernel
theorem dX12_isKept_53 : decode cX12_isKept 53 = .ok (.iconst 0, 1) := by decide +kernel
theorem dX12_isKept_54 : decode cX12_isKept 54 = .ok (.istore 4, 2) := by decide +kernel
theorem dX12_isKept_56 : decode cX12_isKept 56 = .ok (.iload 4, 2) := by decide +kernel
theorem dX12_isKept_58 : decode cX12_isKept 58 = .ok (.aload_n 0, 1) := by decide +kernel
theorem dX12_isKept_59 : decode cX12_isKept 59 = .ok (.getfield 192, 3) := by decide +kernel
theorem dX12_isKept_62 : decode cX12_isKept 62 = .ok (.if_icmp .ge 50, 3) := by decide +kernel
theorem dX12_isKept_65 : decode cX12_isKept 65 = .ok (.aload_n 0, 1) := by decide +kernel
theorem dX12_isKept_66 : decode cX12_isKept 66 = .ok (.getfield 88, 3) := by decide +kernel
theorem dX12_isKept_69 : decode cX12_isKept 69 = .ok (.iload_n 3, 1) := by decide +kernel
theorem dX12_isKept_70 : decode cX12_isKept 70 = .ok (.baload, 1) := by decide +kernel
theorem dX12_isKept_71 : decode cX12_isKept 71 = .ok (.ifCond .eq 35, 3) := by decide +kernel
theorem dX12_isKept_74 : decode cX12_isKept 74 = .ok (.aload_n 0, 1) := by decide +kernel
theorem dX12_isKept_75 : decode cX12_isKept 75 = .ok (.getfield 88, 3) := by decide +kernel
theorem dX12_isKept_78 : decode cX12_isKept 78 = .ok (.aload_n 0, 1) := by decide +kernel
theorem dX12_isKept_79 : decode cX12_isKept 79 = .ok (.getfield 37, 3) := by decide +kernel
theorem dX12_isKept_82 : decode cX12_isKept 82 = .ok (.aload_n 0, 1) := by decide +kernel
theorem dX12_isKept_83 : decode cX12_isKept 83 = .ok (.getfield 37, 3) := by decide +kernel
theorem dX12_isKept_86 : decode cX12_isKept 86 = .ok (.aload_n 0, 1) := by decide +kernel
theorem dX12_isKept_87 : decode cX12_isKept 87 = .ok (.getfield 43, 3) := by decide +kernel
theorem dX12_isKept_90 : decode cX12_isKept 90 = .ok (.iload 4, 2) := by decide +kernel
theorem dX12_isKept_92 : decode cX12_isKept 92 = .ok (.iaload, 1) := by decide +kernel
theorem dX12_isKept_93 : decode cX12_isKept 93 = .ok (.aaload, 1) := by decide +kernel
theorem dX12_isKept_94 : decode cX12_isKept 94 = .ok (.iload_n 3, 1) := by decide +kernel
theorem dX12_isKept_95 : decode cX12_isKept 95 = .ok (.iaload, 1) := by decide +kernel
theorem dX12_isKept_96 : decode cX12_isKept 96 = .ok (.aaload, 1) := by decide +kernel
theorem dX12_isKept_97 : decode cX12_isKept 97 = .ok (.iload 4, 2) := by decide +kernel
theorem dX12_isKept_99 : decode cX12_isKept 99 = .ok (.iaload, 1) := by decide +kernel
theorem dX12_isKept_100 : decode cX12_isKept 100 = .ok (.baload, 1) := by decide +kernel
theorem dX12_isKept_101 : decode cX12_isKept 101 = .ok (.ifCond .ne 5, 3) := by decide +kernel
theorem dX12_isKept_104 : decode cX12_isKept 104 = .ok (.iconst 0, 1) := by decide +kernel
theorem dX12_isKept_105 : decode cX12_isKept 105 = .ok (.ireturn, 1) := by decide +kernel
theorem dX12_isKept_106 : decode cX12_isKept 106 = .ok (.iinc 4 1, 3) := by decide +kernel
theorem dX12_isKept_109 : decode cX12_isKept 109 = .ok (.goto (-53), 3) := by decide +kernel
theorem dX12_isKept_112 : decode cX12_isKept 112 = .ok (.iinc 3 1, 3) := by decide +kernel
theorem dX12_isKept_115 : decode cX12_isKept 115 = .ok (.goto (-70), 3) := by decide +kernel
theorem dX12_isKept_118 : decode cX12_isKept 118 = .ok (.iconst 1, 1) := by decide +kernel
theorem dX12_isKept_119 : decode cX12_isKept 119 = .ok (.ireturn, 1) := by decide +kernel
theorem B_X12_isKept_0 {g : Sg} {c t : Nat} (hL : Lay LM g c t σ) {x1 : Int} {x2 : Int} (h : ∀ τ1 : Sg, τ1 = sI σ 172 0 0 → (Lay LM g c t τ1 → CC E mX12_isElement [vr 172, vi x1] τ1 (KI (fun r2 τ3 => Lay LM g c t τ3 ∧ (inR r2 → ((r2 = 0 → (Lay LM g c t τ3 → CC E mX12_bad [vr 172, vi 1, vi 1, vi 0] τ3 (KI (fun r4 τ5 => Lay LM g c t τ5 ∧ (inR r4 → ((r4 = 0 → (Lay LM g c t τ5 → CC E mX12_makes [vr 172, vi x1, vi x2] τ5 (KV (fun τ7 => Lay LM g c t τ7 ∧ (Lay LM g c t τ7 → GG E mX12_isKept 45 [some (vr 172), none, none, some (vi 0), none] [] τ7 rc rs Q)) (fun _ _ => False)))) ∧ (¬ (r4 = 0) → (Lay LM g c t τ5 → Q (.inl (some (vi 0))) τ5))))) (fun _ _ => False)))) ∧ (¬ (r2 = 0) → (Lay LM g c t τ3 → CC E mX12_isElement [vr 172, vi x2] τ3 (KI (fun r8 τ9 => Lay LM g c t τ9 ∧ (inR r8 → ((r8 ≠ 0 → (Lay LM g c t τ9 → CC E mX12_bad [vr 172, vi 0, vi 1, vi 0] τ9 (KI (fun r10 τ11 => Lay LM g c t τ11 ∧ (inR r10 → ((r10 = 0 → (Lay LM g c t τ11 → CC E mX12_makes [vr 172, vi x1, vi x2] τ11 (KV (fun τ13 => Lay LM g c t τ13 ∧ (Lay LM g c t τ13 → GG E mX12_isKept 45 [some (vr 172), none, none, some (vi 0), none] [] τ13 rc rs Q)) (fun _ _ => False)))) ∧ (¬ (r10 = 0) → (Lay LM g c t τ11 → Q (.inl (some (vi 0))) τ11))))) (fun _ _ => False)))) ∧ (r8 = 0 → (Lay LM g c t τ9 → CC E mX12_bad [vr 172, vi 1, vi 1, vi 0] τ9 (KI (fun r14 τ15 => Lay LM g c t τ15 ∧ (inR r14 → ((r14 = 0 → (Lay LM g c t τ15 → CC E mX12_makes [vr 172, vi x1, vi x2] τ15 (KV (fun τ17 => Lay LM g c t τ17 ∧ (Lay LM g c t τ17 → GG E mX12_isKept 45 [some (vr 172), none, none, some (vi 0), none] [] τ17 rc rs Q)) (fun _ _ => False)))) ∧ (¬ (r14 = 0) → (Lay LM g c t τ15 → Q (.inl (some (vi 0))) τ15))))) (fun _ _ => False))))))) (fun _ _ => False))))))) (fun _ _ => False)))) : GG E mX12_isKept 0 [some (vr 172), some (vi x1), some (vi x2), none, none] [] σ rc rs Q := by
  refine r_aload_n (pc := 0) dX12_isKept_0 rfl rfl ?_
  refine r_iconst (pc := 1) dX12_isKept_1 (inRk rfl) ?_
  refine r_putI (pc := 2) dX12_isKept_2 (k9 := 0) CL_12 (by decide) (by decide) w_1415 rfl rfl (fun h9 => absurd h9 (by decide +kernel)) (okO_of (N := 42) (hL.sh (i := 0) rfl (by decide) (by decide)) (by decide)) ?_
  refine nmS (fun τ1 e1 => ?_)
  replace h := h τ1 e1
  have hL := hL.wI e1 (by decide) (.inl (by decide))
  refine r_aload_n (pc := 5) dX12_isKept_5 rfl rfl ?_
  refine r_aload_n (pc := 6) dX12_isKept_6 rfl rfl ?_
  refine r_iload_n (pc := 7) dX12_isKept_7 rfl rfl ?_
  refine c_VI0N (M := mX12_isKept) (pc := 8) (As := [vi x1]) dX12_isKept_8 K_X12_isElement w_1746 ⟨by decide, by decide⟩ (Nat.le_of_ble_eq_true rfl) rfl rfl (ci := 12) rfl rfl (by decide) (okO_of (N := 42) (hL.sh (i := 0) rfl (by decide) (by decide)) (by decide)) (h hL) (fun r2 τ3 h8 hr9 => ?_) rfl
  replace hL := h8.1
  replace h := h8.2 hr9
  refine r_if_eq (pc := 11) (tgt := 22) dX12_isKept_11 (by decide) (fun c9 => ?_) (fun c9 => ?_)
  · replace h := h.1 c9
    refine r_iconst (pc := 22) dX12_isKept_22 (inRk rfl) ?_
    refine r_goto (pc := 23) (tgt := 27) dX12_isKept_23 (by decide) ?_
    refine r_iconst (pc := 27) dX12_isKept_27 (inRk rfl) ?_
    refine r_iconst (pc := 28) dX12_isKept_28 (inRk rfl) ?_
    refine c_VI0N (M := mX12_isKept) (pc := 29) (As := [vi 1, vi 1, vi 0]) dX12_isKept_29 K_X12_bad w_1562 ⟨by decide, by decide⟩ (Nat.le_of_ble_eq_true rfl) rfl rfl (ci := 12) rfl rfl (by decide) (okO_of (N := 42) (hL.sh (i := 0) rfl (by decide) (by decide)) (by decide)) (h hL) (fun r4 τ5 h8 hr9 => ?_) rfl
    replace hL := h8.1
    replace h := h8.2 hr9
    refine r_if_eq (pc := 32) (tgt := 37) dX12_isKept_32 (by decide) (fun c9 => ?_) (fun c9 => ?_)
    · replace h := h.1 c9
      refine r_aload_n (pc := 37) dX12_isKept_37 rfl rfl ?_
      refine r_iload_n (pc := 38) dX12_isKept_38 rfl rfl ?_
      refine r_iload_n (pc := 39) dX12_isKept_39 rfl rfl ?_
      refine c_VV0N (M := mX12_isKept) (pc := 40) (As := [vi x1, vi x2]) dX12_isKept_40 K_X12_makes w_1839 ⟨by decide, by decide⟩ (Nat.le_of_ble_eq_true rfl) rfl rfl (ci := 12) rfl rfl (by decide) (okO_of (N := 42) (hL.sh (i := 0) rfl (by decide) (by decide)) (by decide)) (h hL) (fun τ7 h8 => ?_) rfl
      replace hL := h8.1
      replace h := h8.2
      refine r_iconst (pc := 43) dX12_isKept_43 (inRk rfl) ?_
      refine r_istore_n (pc := 44) dX12_isKept_44 rfl (by decide) (l2 := [some (vr 172), some (vi x1), some (vi x2), some (vi 0), none]) rfl ?_
      exact GG.msk [true, false, false, true, false] (h hL)
    · replace h := h.2 c9
      refine r_iconst (pc := 35) dX12_isKept_35 (inRk rfl) ?_
      exact r_ireturn (pc := 36) (ty := .boolean) dX12_isKept_36 (by decide +kernel) rfl (nar_bool (by decide)) (h hL)
  · replace h := h.2 c9
    refine r_aload_n (pc := 14) dX12_isKept_14 rfl rfl ?_
    refine r_iload_n (pc := 15) dX12_isKept_15 rfl rfl ?_
    refine c_VI0N (M := mX12_isKept) (pc := 16) (As := [vi x2]) dX12_isKept_16 K_X12_isElement w_1746 ⟨by decide, by decide⟩ (Nat.le_of_ble_eq_true rfl) rfl rfl (ci := 12) rfl rfl (by decide) (okO_of (N := 42) (hL.sh (i := 0) rfl (by decide) (by decide)) (by decide)) (h hL) (fun r8 τ9 h8 hr9 => ?_) rfl
    replace hL := h8.1
    replace h := h8.2 hr9
    refine r_if_ne (pc := 19) (tgt := 26) dX12_isKept_19 (by decide) (fun c9 => ?_) (fun c9 => ?_)
    · replace h := h.1 c9
      refine r_iconst (pc := 26) dX12_isKept_26 (inRk rfl) ?_
      refine r_iconst (pc := 27) dX12_isKept_27 (inRk rfl) ?_
      refine r_iconst (pc := 28) dX12_isKept_28 (inRk rfl) ?_
      refine c_VI0N (M := mX12_isKept) (pc := 29) (As := [vi 0, vi 1, vi 0]) dX12_isKept_29 K_X12_bad w_1562 ⟨by decide, by decide⟩ (Nat.le_of_ble_eq_true rfl) rfl rfl (ci := 12) rfl rfl (by decide) (okO_of (N := 42) (hL.sh (i := 0) rfl (by decide) (by decide)) (by decide)) (h hL) (fun r10 τ11 h8 hr9 => ?_) rfl
      replace hL := h8.1
      replace h := h8.2 hr9
      refine r_if_eq (pc := 32) (tgt := 37) dX12_isKept_32 (by decide) (fun c9 => ?_) (fun c9 => ?_)
      · replace h := h.1 c9
        refine r_aload_n (pc := 37) dX12_isKept_37 rfl rfl ?_
        refine r_iload_n (pc := 38) dX12_isKept_38 rfl rfl ?_
        refine r_iload_n (pc := 39) dX12_isKept_39 rfl rfl ?_
        refine c_VV0N (M := mX12_isKept) (pc := 40) (As := [vi x1, vi x2]) dX12_isKept_40 K_X12_makes w_1839 ⟨by decide, by decide⟩ (Nat.le_of_ble_eq_true rfl) rfl rfl (ci := 12) rfl rfl (by decide) (okO_of (N := 42) (hL.sh (i := 0) rfl (by decide) (by decide)) (by decide)) (h hL) (fun τ13 h8 => ?_) rfl
        replace hL := h8.1
        replace h := h8.2
        refine r_iconst (pc := 43) dX12_isKept_43 (inRk rfl) ?_
        refine r_istore_n (pc := 44) dX12_isKept_44 rfl (by decide) (l2 := [some (vr 172), some (vi x1), some (vi x2), some (vi 0), none]) rfl ?_
        exact GG.msk [true, false, false, true, false] (h hL)
      · replace h := h.2 c9
        refine r_iconst (pc := 35) dX12_isKept_35 (inRk rfl) ?_
        exact r_ireturn (pc := 36) (ty := .boolean) dX12_isKept_36 (by decide +kernel) rfl (nar_bool (by decide)) (h hL)
    · replace h := h.2 c9
      refine r_iconst (pc := 22) dX12_isKept_22 (inRk rfl) ?_
      refine r_goto (pc := 23) (tgt := 27) dX12_isKept_23 (by decide) ?_
      refine r_iconst (pc := 27) dX12_isKept_27 (inRk rfl) ?_
      refine r_iconst (pc := 28) dX12_isKept_28 (inRk rfl) ?_
      refine c_VI0N (M := mX12_isKept) (pc := 29) (As := [vi 1, vi 1, vi 0]) dX12_isKept_29 K_X12_bad w_1562 ⟨by decide, by decide⟩ (Nat.le_of_ble_eq_true rfl) rfl rfl (ci := 12) rfl rfl (by decide) (okO_of (N := 42) (hL.sh (i := 0) rfl (by decide) (by decide)) (by decide)) (h hL) (fun r14 τ15 h8 hr9 => ?_) rfl
      replace hL := h8.1
      replace h := h8.2 hr9
      refine r_if_eq (pc := 32) (tgt := 37) dX12_isKept_32 (by decide) (fun c9 => ?_) (fun c9 => ?_)
      · replace h := h.1 c9
        refine r_aload_n (pc := 37) dX12_isKept_37 rfl rfl ?_
        refine r_iload_n (pc := 38) dX12_isKept_38 rfl rfl ?_
        refine r_iload_n (pc := 39) dX12_isKept_39 rfl rfl ?_
        refine c_VV0N (M := mX12_isKept) (pc := 40) (As := [vi x1, vi x2]) dX12_isKept_40 K_X12_makes w_1839 ⟨by decide, by decide⟩ (Nat.le_of_ble_eq_true rfl) rfl rfl (ci := 12) rfl rfl (by decide) (okO_of (N := 42) (hL.sh (i := 0) rfl (by decide) (by decide)) (by decide)) (h hL) (fun τ17 h8 => ?_) rfl
        replace hL := h8.1
        replace h := h8.2
        refine r_iconst (pc := 43) dX12_isKept_43 (inRk rfl) ?_
        refine r_istore_n (pc := 44) dX12_isKept_44 rfl (by decide) (l2 := [some (vr 172), some (vi x1), some (vi x2), some (vi 0), none]) rfl ?_
        exact GG.msk [true, false, false, true, false] (h hL)
      · replace h := h.2 c9
        refine r_iconst (pc := 35) dX12_isKept_35 (inRk rfl) ?_
        exact r_ireturn (pc := 36) (ty := .boolean) dX12_isKept_36 (by decide +kernel) rfl (nar_bool (by decide)) (h hL)
theorem B_X12_isKept_45 {g : Sg} {c t : Nat} (hL : Lay LM g c t σ) {x3 : Int} (h : (((gI σ 172 15) ≤ x3 → (Lay LM g c t σ → Q (.inl (some (vi 1))) σ)) ∧ (¬ ((gI σ 172 15) ≤ x3) → (Lay LM g c t σ → GG E mX12_isKept 56 [some (vr 172), none, none, some (vi x3), some (vi 0)] [] σ rc rs Q)))) : GG E mX12_isKept 45 [some (vr 172), none, none, some (vi x3), none] [] σ rc rs Q := by
  refine r_iload_n (pc := 45) dX12_isKept_45 rfl rfl ?_
  refine r_aload_n (pc := 46) dX12_isKept_46 rfl rfl ?_
  refine r_getI (pc := 47) dX12_isKept_47 (k9 := 15) CL_12 (by decide) (by decide) w_1430 rfl (okO_of (N := 42) (hL.sh (i := 0) rfl (by decide) (by decide)) (by decide)) (fun _ => ?_)
  refine r_icmp_ge (pc := 50) (tgt := 118) dX12_isKept_50 (by decide) (fun c9 => ?_) (fun c9 => ?_)
  · replace h := h.1 c9
    refine r_iconst (pc := 118) dX12_isKept_118 (inRk rfl) ?_
    exact r_ireturn (pc := 119) (ty := .boolean) dX12_isKept_119 (by decide +kernel) rfl (nar_bool (by decide)) (h hL)
  · replace h := h.2 c9
    refine r_iconst (pc := 53) dX12_isKept_53 (inRk rfl) ?_
    refine r_istore (pc := 54) dX12_isKept_54 (by decide) (l2 := [some (vr 172), none, none, some (vi x3), some (vi 0)]) rfl ?_
    exact (h hL)
theorem B_X12_isKept_56 {g : Sg} {c t : Nat} (hL : Lay LM g c t σ) {x3 : Int} {x4 : Int} (h : (((gI σ 172 15) ≤ x4 → inR (x3 + 1) ∧ (Lay LM g c t σ → GG E mX12_isKept 45 [some (vr 172), none, none, some (vi (x3 + 1)), none] [] σ rc rs Q)) ∧ (¬ ((gI σ 172 15) ≤ x4) → (0 ≤ x3 ∧ x3 < 120) ∧ ((gI σ 2967 x3.toNat = 0 ∨ gI σ 2967 x3.toNat = 1) → (((gI σ 2967 x3.toNat) = 0 → inR (x4 + 1) ∧ (Lay LM g c t σ → GG E mX12_isKept 56 [some (vr 172), none, none, some (vi x3), some (vi (x4 + 1))] [] σ rc rs Q)) ∧ (¬ ((gI σ 2967 x3.toNat) = 0) → (0 ≤ x4 ∧ x4 < 120) ∧ (0 ≤ (gI σ 552 x4.toNat) ∧ (gI σ 552 x4.toNat) < 120) ∧ (0 ≤ (gI σ (431 + (gI σ 552 x4.toNat).toNat) x3.toNat) ∧ (gI σ (431 + (gI σ 552 x4.toNat).toNat) x3.toNat) < 120) ∧ ∀ v10 : Int, v10 = gI σ (431 + (gI σ (431 + (gI σ 552 x4.toNat).toNat) x3.toNat).toNat) x4.toNat → (0 ≤ v10 ∧ v10 < 120) ∧ ((gI σ 2967 v10.toNat = 0 ∨ gI σ 2967 v10.toNat = 1) → (((gI σ 2967 v10.toNat) ≠ 0 → inR (x4 + 1) ∧ (Lay LM g c t σ → GG E mX12_isKept 56 [some (vr 172), none, none, some (vi x3), some (vi (x4 + 1))] [] σ rc rs Q)) ∧ ((gI σ 2967 v10.toNat) = 0 → (Lay LM g c t σ → Q (.inl (some (vi 0))) σ)))))))))) : GG E mX12_isKept 56 [some (vr 172), none, none, some (vi x3), some (vi x4)] [] σ rc rs Q := by
  refine r_iload (pc := 56) dX12_isKept_56 rfl ?_
  refine r_aload_n (pc := 58) dX12_isKept_58 rfl rfl ?_
  refine r_getI (pc := 59) dX12_isKept_59 (k9 := 15) CL_12 (by decide) (by decide) w_1430 rfl (okO_of (N := 42) (hL.sh (i := 0) rfl (by decide) (by decide)) (by decide)) (fun _ => ?_)
  refine r_icmp_ge (pc := 62) (tgt := 112) dX12_isKept_62 (by decide) (fun c9 => ?_) (fun c9 => ?_)
  · replace h := h.1 c9
    obtain ⟨o1, h⟩ := h
    refine r_iinc (pc := 112) dX12_isKept_112 rfl (by decide) o1 (l2 := [some (vr 172), none, none, some (vi (x3 + 1)), some (vi x4)]) rfl ?_
    refine r_goto (pc := 115) (tgt := 45) dX12_isKept_115 (by decide) ?_
    exact GG.msk [true, false, false, true, false] (h hL)
  · replace h := h.2 c9
    refine r_aload_n (pc := 65) dX12_isKept_65 rfl rfl ?_
    refine r_getR (pc := 66) dX12_isKept_66 (k9 := 40) CL_12 (by decide) (by decide) w_1455 rfl (okO_of (N := 42) (hL.sh (i := 0) rfl (by decide) (by decide)) (by decide)) ?_
    refine eqR (y := 2967) (hL.rf (i := 24) rfl) ?_
    refine r_iload_n (pc := 69) dX12_isKept_69 rfl rfl ?_
    obtain ⟨o2, h⟩ := h
    refine r_zaload (pc := 70) dX12_isKept_70 (okB_of (c := 22) (n := 120) (hL.sh (i := 32) rfl (by decide) (by decide)) (by decide) o2) (fun z3 => ?_)
    replace h := h z3
    refine r_if_eq (pc := 71) (tgt := 106) dX12_isKept_71 (by decide) (fun c9 => ?_) (fun c9 => ?_)
    · replace h := h.1 c9
      obtain ⟨o4, h⟩ := h
      refine r_iinc (pc := 106) dX12_isKept_106 rfl (by decide) o4 (l2 := [some (vr 172), none, none, some (vi x3), some (vi (x4 + 1))]) rfl ?_
      refine r_goto (pc := 109) (tgt := 56) dX12_isKept_109 (by decide) ?_
      exact (h hL)
    · replace h := h.2 c9
      refine r_aload_n (pc := 74) dX12_isKept_74 rfl rfl ?_
      refine r_getR (pc := 75) dX12_isKept_75 (k9 := 40) CL_12 (by decide) (by decide) w_1455 rfl (okO_of (N := 42) (hL.sh (i := 0) rfl (by decide) (by decide)) (by decide)) ?_
      refine eqR (y := 2967) (hL.rf (i := 24) rfl) ?_
      refine r_aload_n (pc := 78) dX12_isKept_78 rfl rfl ?_
      refine r_getR (pc := 79) dX12_isKept_79 (k9 := 21) CL_12 (by decide) (by decide) w_1436 rfl (okO_of (N := 42) (hL.sh (i := 0) rfl (by decide) (by decide)) (by decide)) ?_
      refine eqR (y := 430) (hL.rf (i := 7) rfl) ?_
      refine r_aload_n (pc := 82) dX12_isKept_82 rfl rfl ?_
      refine r_getR (pc := 83) dX12_isKept_83 (k9 := 21) CL_12 (by decide) (by decide) w_1436 rfl (okO_of (N := 42) (hL.sh (i := 0) rfl (by decide) (by decide)) (by decide)) ?_
      refine eqR (y := 430) (hL.rf (i := 7) rfl) ?_
      refine r_aload_n (pc := 86) dX12_isKept_86 rfl rfl ?_
      refine r_getR (pc := 87) dX12_isKept_87 (k9 := 23) CL_12 (by decide) (by decide) w_1438 rfl (okO_of (N := 42) (hL.sh (i := 0) rfl (by decide) (by decide)) (by decide)) ?_
      refine eqR (y := 552) (hL.rf (i := 9) rfl) ?_
      refine r_iload (pc := 90) dX12_isKept_90 rfl ?_
      obtain ⟨o5, h⟩ := h
      refine r_iaload (pc := 92) dX12_isKept_92 (okA_of (c := 20) (n := 120) (hL.sh (i := 14) rfl (by decide) (by decide)) (by decide) o5) ?_
      obtain ⟨o6, h⟩ := h
      refine r_aaload (pc := 93) dX12_isKept_93 (okB_of (c := 24) (n := 120) (hL.sh (i := 11) rfl (by decide) (by decide)) (by decide) o6) ?_
      have q7 : 431 ≤ 431 + (gI σ 552 x4.toNat).toNat ∧ 431 + (gI σ 552 x4.toNat).toNat < 551 := ⟨Nat.le_add_right _ _, rowB o6 (by decide)⟩
      refine eqR (y := 431 + (gI σ 552 x4.toNat).toNat) (hL.rx (i := 3) rfl (rowC o6 (by decide))) ?_
      refine r_iload_n (pc := 94) dX12_isKept_94 rfl rfl ?_
      refine r_iaload (pc := 95) dX12_isKept_95 (okA_of (c := 20) (n := 120) (hL.sh (i := 12) rfl q7.1 q7.2) (Nat.le_trans (by decide) q7.1) o2) ?_
      obtain ⟨o8, h⟩ := h
      refine r_aaload (pc := 96) dX12_isKept_96 (okB_of (c := 24) (n := 120) (hL.sh (i := 11) rfl (by decide) (by decide)) (by decide) o8) ?_
      have q9 : 431 ≤ 431 + (gI σ (431 + (gI σ 552 x4.toNat).toNat) x3.toNat).toNat ∧ 431 + (gI σ (431 + (gI σ 552 x4.toNat).toNat) x3.toNat).toNat < 551 := ⟨Nat.le_add_right _ _, rowB o8 (by decide)⟩
      refine eqR (y := 431 + (gI σ (431 + (gI σ 552 x4.toNat).toNat) x3.toNat).toNat) (hL.rx (i := 3) rfl (rowC o8 (by decide))) ?_
      refine r_iload (pc := 97) dX12_isKept_97 rfl ?_
      refine r_iaload (pc := 99) dX12_isKept_99 (okA_of (c := 20) (n := 120) (hL.sh (i := 12) rfl q9.1 q9.2) (Nat.le_trans (by decide) q9.1) o5) ?_
      refine nmI (fun v10 e9 => ?_)
      replace h := h v10 e9
      obtain ⟨o11, h⟩ := h
      refine r_zaload (pc := 100) dX12_isKept_100 (okB_of (c := 22) (n := 120) (hL.sh (i := 32) rfl (by decide) (by decide)) (by decide) o11) (fun z12 => ?_)
      replace h := h z12
      refine r_if_ne (pc := 101) (tgt := 106) dX12_isKept_101 (by decide) (fun c9 => ?_) (fun c9 => ?_)
      · replace h := h.1 c9
        obtain ⟨o13, h⟩ := h
        refine r_iinc (pc := 106) dX12_isKept_106 rfl (by decide) o13 (l2 := [some (vr 172), none, none, some (vi x3), some (vi (x4 + 1))]) rfl ?_
        refine r_goto (pc := 109) (tgt := 56) dX12_isKept_109 (by decide) ?_
        exact (h hL)
      · replace h := h.2 c9
        refine r_iconst (pc := 104) dX12_isKept_104 (inRk rfl) ?_
        exact r_ireturn (pc := 105) (ty := .boolean) dX12_isKept_105 (by decide +kernel) rfl (nar_bool (by decide)) (h hL)
theorem C_X12_isKept {a0 : Nat} {x1 : Int} {x2 : Int} (h : GG E mX12_isKept 0 [some (vr a0), some (vi x1), some (vi x2), none, none] [] σ 0 0 Q) : CC E mX12_isKept [vr a0, vi x1, vi x2] σ Q := CC.of (by decide +kernel) rfl (by decide +kernel) (fun h9 => nomatch h9) (Nat.le_of_ble_eq_true rfl) h
theorem dX12_isMade_0 : decode cX12_isMade 0 = .ok (.aload_n 0, 1) := by decide +kernel
theorem dX12_isMade_1 : decode cX12_isMade 1 = .ok (.iconst 0, 1) := by decide +kernel
theorem dX12_isMade_2 : decode cX12_isMade 2 = .ok (.putfield 99, 3) := by decide +kernel
theorem dX12_isMade_5 : decode cX12_isMade 5 = .ok (.aload_n 0, 1) := by decide +kernel
theorem dX12_isMade_6 : decode cX12_isMade 6 = .ok (.aload_n 0, 1) := by decide +kernel
theorem dX12_isMade_7 : decode cX12_isMade 7 = .ok (.iload_n 1, 1) := by decide +kernel
theorem dX12_isMade_8 : decode cX12_isMade 8 = .ok (.invokevirtual 332, 3) := by decide +kernel
theorem dX12_isMade_11 : decode cX12_isMade 11 = .ok (.ifCond .eq 19, 3) := by decide +kernel
theorem dX12_isMade_14 : decode cX12_isMade 14 = .ok (.aload_n 0, 1) := by decide +kernel
theorem dX12_isMade_15 : decode cX12_isMade 15 = .ok (.iload_n 2, 1) := by decide +kernel
theorem dX12_isMade_16 : decode cX12_isMade 16 = .ok (.invokevirtual 332, 3) := by decide +kernel
theorem dX12_isMade_19 : decode cX12_isMade 19 = .ok (.ifCond .eq 11, 3) := by decide +kernel
theorem dX12_isMade_22 : decode cX12_isMade 22 = .ok (.aload_n 0, 1) := by decide +kernel
theorem dX12_isMade_23 : decode cX12_isMade 23 = .ok (.iload_n 3, 1) := by decide +kernel
theorem dX12_isMade_24 : decode cX12_isMade 24 = .ok (.invokevirtual 332, 3) := by decide +kernel
theorem dX12_isMade_27 : decode cX12_isMade 27 = .ok (.ifCond .ne 7, 3) := by decide +kernel
theorem dX12_isMade_30 : decode cX12_isMade 30 = .ok (.iconst 1, 1) := by decide +kernel
theorem dX12_isMade_31 : decode cX12_isMade 31 = .ok (.goto 4, 3) := by decide +kernel
theorem dX12_isMade_34 : decode cX12_isMade 34 = .ok (.iconst 0, 1) := by decide +kernel
theorem dX12_isMade_35 : decode cX12_isMade 35 = .ok (.iconst 1, 1) := by decide +kernel
theorem dX12_isMade_36 : decode cX12_isMade 36 = .ok (.iconst 0, 1) := by decide +kernel
theorem dX12_isMade_37 : decode cX12_isMade 37 = .ok (.invokevirtual 177, 3) := by decide +kernel
theorem dX12_isMade_40 : decode cX12_isMade 40 = .ok (.ifCond .eq 5, 3) := by decide +kernel
theorem dX12_isMade_43 : decode cX12_isMade 43 = .ok (.iconst 0, 1) := by decide +kernel
theorem dX12_isMade_44 : decode cX12_isMade 44 = .ok (.ireturn, 1) := by decide +kernel
theorem dX12_isMade_45 : decode cX12_isMade 45 = .ok (.aload_n 0, 1) := by decide +kernel
theorem dX12_isMade_46 : decode cX12_isMade 46 = .ok (.iload_n 1, 1) := by decide +kernel
theorem dX12_isMade_47 : decode cX12_isMade 47 = .ok (.iload_n 2, 1) := by decide +kernel
theorem dX12_isMade_48 : decode cX12_isMade 48 = .ok (.invokevirtual 356, 3) := by decide +kernel
theorem dX12_isMade_51 : decode cX12_isMade 51 = .ok (.aload_n 0, 1) := by decide +kernel
theorem dX12_isMade_52 : decode cX12_isMade 52 = .ok (.getfield 88, 3) := by decide +kernel
theorem dX12_isMade_55 : decode cX12_isMade 55 = .ok (.iload_n 3, 1) := by decide +kernel
theorem dX12_isMade_56 : decode cX12_isMade 56 = .ok (.baload, 1) := by decide +kernel
theorem dX12_isMade_57 : decode cX12_isMade 57 = .ok (.ireturn, 1) := by decide +kernel
theorem B_X12_isMade_0 {g : Sg} {c t : Nat} (hL : Lay LM g c t σ) {x1 : Int} {x2 : Int} {x3 : Int} (h : ∀ τ1 : Sg, τ1 = sI σ 172 0 0 → (Lay LM g c t τ1 → CC E mX12_isElement [vr 172, vi x1] τ1 (KI (fun r2 τ3 => Lay LM g c t τ3 ∧ (inR r2 → ((r2 = 0 → (Lay LM g c t τ3 → CC E mX12_bad [vr 172, vi 1, vi 1, vi 0] τ3 (KI (fun r4 τ5 => Lay LM g c t τ5 ∧ (inR r4 → ((r4 = 0 → (Lay LM g c t τ5 → GG E mX12_isMade 45 [some (vr 172), some (vi x1), some (vi x2), some (vi x3)] [] τ5 rc rs Q)) ∧ (¬ (r4 = 0) → (Lay LM g c t τ5 → GG E mX12_isMade 43 [none, none, none, none] [] τ5 rc rs Q))))) (fun _ _ => False)))) ∧ (¬ (r2 = 0) → (Lay LM g c t τ3 → CC E mX12_isElement [vr 172, vi x2] τ3 (KI (fun r6 τ7 => Lay LM g c t τ7 ∧ (inR r6 → ((r6 = 0 → (Lay LM g c t τ7 → CC E mX12_bad [vr 172, vi 1, vi 1, vi 0] τ7 (KI (fun r8 τ9 => Lay LM g c t τ9 ∧ (inR r8 → ((r8 = 0 → (Lay LM g c t τ9 → GG E mX12_isMade 45 [some (vr 172), some (vi x1), some (vi x2), some (vi x3)] [] τ9 rc rs Q)) ∧ (¬ (r8 = 0) → (Lay LM g c t τ9 → GG E mX12_isMade 43 [none, none, none, none] [] τ9 rc rs Q))))) (fun _ _ => False)))) ∧ (¬ (r6 = 0) → (Lay LM g c t τ7 → CC E mX12_isElement [vr 172, vi x3] τ7 (KI (fun r10 τ11 => Lay LM g c t τ11 ∧ (inR r10 → ((r10 ≠ 0 → (Lay LM g c t τ11 → CC E mX12_bad [vr 172, vi 0, vi 1, vi 0] τ11 (KI (fun r12 τ13 => Lay LM g c t τ13 ∧ (inR r12 → ((r12 = 0 → (Lay LM g c t τ13 → GG E mX12_isMade 45 [some (vr 172), some (vi x1), some (vi x2), some (vi x3)] [] τ13 rc rs Q)) ∧ (¬ (r12 = 0) → (Lay LM g c t τ13 → GG E mX12_isMade 43 [none, none, none, none] [] τ13 rc rs Q))))) (fun _ _ => False)))) ∧ (r10 = 0 → (Lay LM g c t τ11 → CC E mX12_bad [vr 172, vi 1, vi 1, vi 0] τ11 (KI (fun r14 τ15 => Lay LM g c t τ15 ∧ (inR r14 → ((r14 = 0 → (Lay LM g c t τ15 → GG E mX12_isMade 45 [some (vr 172), some (vi x1), some (vi x2), some (vi x3)] [] τ15 rc rs Q)) ∧ (¬ (r14 = 0) → (Lay LM g c t τ15 → GG E mX12_isMade 43 [none, none, none, none] [] τ15 rc rs Q))))) (fun _ _ => False))))))) (fun _ _ => False))))))) (fun _ _ => False))))))) (fun _ _ => False)))) : GG E mX12_isMade 0 [some (vr 172), some (vi x1), some (vi x2), some (vi x3)] [] σ rc rs Q := by
  refine r_aload_n (pc := 0) dX12_isMade_0 rfl rfl ?_
  refine r_iconst (pc := 1) dX12_isMade_1 (inRk rfl) ?_
  refine r_putI (pc := 2) dX12_isMade_2 (k9 := 0) CL_12 (by decide) (by decide) w_1415 rfl rfl (fun h9 => absurd h9 (by decide +kernel)) (okO_of (N := 42) (hL.sh (i := 0) rfl (by decide) (by decide)) (by decide)) ?_
  refine nmS (fun τ1 e1 => ?_)
  replace h := h τ1 e1
  have hL := hL.wI e1 (by decide) (.inl (by decide))
  refine r_aload_n (pc := 5) dX12_isMade_5 rfl rfl ?_
  refine r_aload_n (pc := 6) dX12_isMade_6 rfl rfl ?_
  refine r_iload_n (pc := 7) dX12_isMade_7 rfl rfl ?_
  refine c_VI0N (M := mX12_isMade) (pc := 8) (As := [vi x1]) dX12_isMade_8 K_X12_isElement w_1746 ⟨by decide, by decide⟩ (Nat.le_of_ble_eq_true rfl) rfl rfl (ci := 12) rfl rfl (by decide) (okO_of (N := 42) (hL.sh (i := 0) rfl (by decide) (by decide)) (by decide)) (h hL) (fun r2 τ3 h8 hr9 => ?_) rfl
  replace hL := h8.1
  replace h := h8.2 hr9
  refine r_if_eq (pc := 11) (tgt := 30) dX12_isMade_11 (by decide) (fun c9 => ?_) (fun c9 => ?_)
  · replace h := h.1 c9
    refine r_iconst (pc := 30) dX12_isMade_30 (inRk rfl) ?_
    refine r_goto (pc := 31) (tgt := 35) dX12_isMade_31 (by decide) ?_
    refine r_iconst (pc := 35) dX12_isMade_35 (inRk rfl) ?_
    refine r_iconst (pc := 36) dX12_isMade_36 (inRk rfl) ?_
    refine c_VI0N (M := mX12_isMade) (pc := 37) (As := [vi 1, vi 1, vi 0]) dX12_isMade_37 K_X12_bad w_1562 ⟨by decide, by decide⟩ (Nat.le_of_ble_eq_true rfl) rfl rfl (ci := 12) rfl rfl (by decide) (okO_of (N := 42) (hL.sh (i := 0) rfl (by decide) (by decide)) (by decide)) (h hL) (fun r4 τ5 h8 hr9 => ?_) rfl
    replace hL := h8.1
    replace h := h8.2 hr9
    refine r_if_eq (pc := 40) (tgt := 45) dX12_isMade_40 (by decide) (fun c9 => ?_) (fun c9 => ?_)
    · replace h := h.1 c9
      exact (h hL)
    · replace h := h.2 c9
      exact GG.msk [false, false, false, false] (h hL)
  · replace h := h.2 c9
    refine r_aload_n (pc := 14) dX12_isMade_14 rfl rfl ?_
    refine r_iload_n (pc := 15) dX12_isMade_15 rfl rfl ?_
    refine c_VI0N (M := mX12_isMade) (pc := 16) (As := [vi x2]) dX12_isMade_16 K_X12_isElement w_1746 ⟨by decide, by decide⟩ (Nat.le_of_ble_eq_true rfl) rfl rfl (ci := 12) rfl rfl (by decide) (okO_of (N := 42) (hL.sh (i := 0) rfl (by decide) (by decide)) (by decide)) (h hL) (fun r6 τ7 h8 hr9 => ?_) rfl
    replace hL := h8.1
    replace h := h8.2 hr9
    refine r_if_eq (pc := 19) (tgt := 30) dX12_isMade_19 (by decide) (fun c9 => ?_) (fun c9 => ?_)
    · replace h := h.1 c9
      refine r_iconst (pc := 30) dX12_isMade_30 (inRk rfl) ?_
      refine r_goto (pc := 31) (tgt := 35) dX12_isMade_31 (by decide) ?_
      refine r_iconst (pc := 35) dX12_isMade_35 (inRk rfl) ?_
      refine r_iconst (pc := 36) dX12_isMade_36 (inRk rfl) ?_
      refine c_VI0N (M := mX12_isMade) (pc := 37) (As := [vi 1, vi 1, vi 0]) dX12_isMade_37 K_X12_bad w_1562 ⟨by decide, by decide⟩ (Nat.le_of_ble_eq_true rfl) rfl rfl (ci := 12) rfl rfl (by decide) (okO_of (N := 42) (hL.sh (i := 0) rfl (by decide) (by decide)) (by decide)) (h hL) (fun r8 τ9 h8 hr9 => ?_) rfl
      replace hL := h8.1
      replace h := h8.2 hr9
      refine r_if_eq (pc := 40) (tgt := 45) dX12_isMade_40 (by decide) (fun c9 => ?_) (fun c9 => ?_)
      · replace h := h.1 c9
        exact (h hL)
      · replace h := h.2 c9
        exact GG.msk [false, false, false, false] (h hL)
    · replace h := h.2 c9
      refine r_aload_n (pc := 22) dX12_isMade_22 rfl rfl ?_
      refine r_iload_n (pc := 23) dX12_isMade_23 rfl rfl ?_
      refine c_VI0N (M := mX12_isMade) (pc := 24) (As := [vi x3]) dX12_isMade_24 K_X12_isElement w_1746 ⟨by decide, by decide⟩ (Nat.le_of_ble_eq_true rfl) rfl rfl (ci := 12) rfl rfl (by decide) (okO_of (N := 42) (hL.sh (i := 0) rfl (by decide) (by decide)) (by decide)) (h hL) (fun r10 τ11 h8 hr9 => ?_) rfl
      replace hL := h8.1
      replace h := h8.2 hr9
      refine r_if_ne (pc := 27) (tgt := 34) dX12_isMade_27 (by decide) (fun c9 => ?_) (fun c9 => ?_)
      · replace h := h.1 c9
        refine r_iconst (pc := 34) dX12_isMade_34 (inRk rfl) ?_
        refine r_iconst (pc := 35) dX12_isMade_35 (inRk rfl) ?_
        refine r_iconst (pc := 36) dX12_isMade_36 (inRk rfl) ?_
        refine c_VI0N (M := mX12_isMade) (pc := 37) (As := [vi 0, vi 1, vi 0]) dX12_isMade_37 K_X12_bad w_1562 ⟨by decide, by decide⟩ (Nat.le_of_ble_eq_true rfl) rfl rfl (ci := 12) rfl rfl (by decide) (okO_of (N := 42) (hL.sh (i := 0) rfl (by decide) (by decide)) (by decide)) (h hL) (fun r12 τ13 h8 hr9 => ?_) rfl
        replace hL := h8.1
        replace h := h8.2 hr9
        refine r_if_eq (pc := 40) (tgt := 45) dX12_isMade_40 (by decide) (fun c9 => ?_) (fun c9 => ?_)
        · replace h := h.1 c9
          exact (h hL)
        · replace h := h.2 c9
          exact GG.msk [false, false, false, false] (h hL)
      · replace h := h.2 c9
        refine r_iconst (pc := 30) dX12_isMade_30 (inRk rfl) ?_
        refine r_goto (pc := 31) (tgt := 35) dX12_isMade_31 (by decide) ?_
        refine r_iconst (pc := 35) dX12_isMade_35 (inRk rfl) ?_
        refine r_iconst (pc := 36) dX12_isMade_36 (inRk rfl) ?_
        refine c_VI0N (M := mX12_isMade) (pc := 37) (As := [vi 1, vi 1, vi 0]) dX12_isMade_37 K_X12_bad w_1562 ⟨by decide, by decide⟩ (Nat.le_of_ble_eq_true rfl) rfl rfl (ci := 12) rfl rfl (by decide) (okO_of (N := 42) (hL.sh (i := 0) rfl (by decide) (by decide)) (by decide)) (h hL) (fun r14 τ15 h8 hr9 => ?_) rfl
        replace hL := h8.1
        replace h := h8.2 hr9
        refine r_if_eq (pc := 40) (tgt := 45) dX12_isMade_40 (by decide) (fun c9 => ?_) (fun c9 => ?_)
        · replace h := h.1 c9
          exact (h hL)
        · replace h := h.2 c9
          exact GG.msk [false, false, false, false] (h hL)
theorem B_X12_isMade_43 {g : Sg} {c t : Nat} (hL : Lay LM g c t σ)  (h : (Lay LM g c t σ → Q (.inl (some (vi 0))) σ)) : GG E mX12_isMade 43 [none, none, none, none] [] σ rc rs Q := by
  refine r_iconst (pc := 43) dX12_isMade_43 (inRk rfl) ?_
  exact r_ireturn (pc := 44) (ty := .boolean) dX12_isMade_44 (by decide +kernel) rfl (nar_bool (by decide)) (h hL)
theorem B_X12_isMade_45 {g : Sg} {c t : Nat} (hL : Lay LM g c t σ) {x1 : Int} {x2 : Int} {x3 : Int} (h : (Lay LM g c t σ → CC E mX12_makes [vr 172, vi x1, vi x2] σ (KV (fun τ2 => Lay LM g c t τ2 ∧ (0 ≤ x3 ∧ x3 < 120) ∧ ((gI τ2 2967 x3.toNat = 0 ∨ gI τ2 2967 x3.toNat = 1) → (Lay LM g c t τ2 → Q (.inl (some (vi (gI τ2 2967 x3.toNat)))) τ2))) (fun _ _ => False)))) : GG E mX12_isMade 45 [some (vr 172), some (vi x1), some (vi x2), some (vi x3)] [] σ rc rs Q := by
  refine r_aload_n (pc := 45) dX12_isMade_45 rfl rfl ?_
  refine r_iload_n (pc := 46) dX12_isMade_46 rfl rfl ?_
  refine r_iload_n (pc := 47) dX12_isMade_47 rfl rfl ?_
  refine c_VV0N (M := mX12_isMade) (pc := 48) (As := [vi x1, vi x2]) dX12_isMade_48 K_X12_makes w_1839 ⟨by decide, by decide⟩ (Nat.le_of_ble_eq_true rfl) rfl rfl (ci := 12) rfl rfl (by decide) (okO_of (N := 42) (hL.sh (i := 0) rfl (by decide) (by decide)) (by decide)) (h hL) (fun τ2 h8 => ?_) rfl
  replace hL := h8.1
  replace h := h8.2
  refine r_aload_n (pc := 51) dX12_isMade_51 rfl rfl ?_
  refine r_getR (pc := 52) dX12_isMade_52 (k9 := 40) CL_12 (by decide) (by decide) w_1455 rfl (okO_of (N := 42) (hL.sh (i := 0) rfl (by decide) (by decide)) (by decide)) ?_
  refine eqR (y := 2967) (hL.rf (i := 24) rfl) ?_
  refine r_iload_n (pc := 55) dX12_isMade_55 rfl rfl ?_
  obtain ⟨o3, h⟩ := h
  refine r_zaload (pc := 56) dX12_isMade_56 (okB_of (c := 22) (n := 120) (hL.sh (i := 32) rfl (by decide) (by decide)) (by decide) o3) (fun z4 => ?_)
  replace h := h z4
  exact r_ireturn (pc := 57) (ty := .boolean) dX12_isMade_57 (by decide +kernel) rfl (nar_bool z4) (h hL)
theorem C_X12_isMade {a0 : Nat} {x1 : Int} {x2 : Int} {x3 : Int} (h : GG E mX12_isMade 0 [some (vr a0), some (vi x1), some (vi x2), some (vi x3)] [] σ 0 0 Q) : CC E mX12_isMade [vr a0, vi x1, vi x2, vi x3] σ Q := CC.of (by decide +kernel) rfl (by decide +kernel) (fun h9 => nomatch h9) (Nat.le_of_ble_eq_true rfl) h
theorem dX12_isOneAll_0 : decode cX12_isOneAll 0 = .ok (.iconst 0, 1) := by decide +kernel
theorem dX12_isOneAll_1 : decode cX12_isOneAll 1 = .ok (.istore_n 2, 1) := by decide +kernel
theorem dX12_isOneAll_2 : decode cX12_isOneAll 2 = .ok (.iload_n 2, 1) := by decide +kernel
theorem dX12_isOneAll_3 : decode cX12_isOneAll 3 = .ok (.aload_n 0, 1) := by decide +kernel
theorem dX12_isOneAll_4 : decode cX12_isOneAll 4 = .ok (.getfield 231, 3) := by decide +kernel
theorem dX12_isOneAll_7 : decode cX12_isOneAll 7 = .ok (.if_icmp .ge 23, 3) := by decide +kernel
theorem dX12_isOneAll_10 : decode cX12_isOneAll 10 = .ok (.aload_n 0, 1) := by decide +kernel
theorem dX12_isOneAll_11 : decode cX12_isOneAll 11 = .ok (.getfield 70, 3) := by decide +kernel
theorem dX12_isOneAll_14 : decode cX12_isOneAll 14 = .ok (.iload_n 1, 1) := by decide +kernel
theorem dX12_isOneAll_15 : decode cX12_isOneAll 15 = .ok (.aaload, 1) := by decide +kernel
theorem dX12_isOneAll_16 : decode cX12_isOneAll 16 = .ok (.iload_n 2, 1) := by decide +kernel
theorem dX12_isOneAll_17 : decode cX12_isOneAll 17 = .ok (.iaload, 1) := by decide +kernel
theorem dX12_isOneAll_18 : decode cX12_isOneAll 18 = .ok (.iconst 1, 1) := by decide +kernel
theorem dX12_isOneAll_19 : decode cX12_isOneAll 19 = .ok (.if_icmp .eq 5, 3) := by decide +kernel
theorem dX12_isOneAll_22 : decode cX12_isOneAll 22 = .ok (.iconst 0, 1) := by decide +kernel
theorem dX12_isOneAll_23 : decode cX12_isOneAll 23 = .ok (.ireturn, 1) := by decide +kernel
theorem dX12_isOneAll_24 : decode cX12_isOneAll 24 = .ok (.iinc 2 1, 3) := by decide +kernel
theorem dX12_isOneAll_27 : decode cX12_isOneAll 27 = .ok (.goto (-25), 3) := by decide +kernel
theorem dX12_isOneAll_30 : decode cX12_isOneAll 30 = .ok (.iconst 1, 1) := by decide +kernel
theorem dX12_isOneAll_31 : decode cX12_isOneAll 31 = .ok (.ireturn, 1) := by decide +kernel
theorem B_X12_isOneAll_0 {g : Sg} {c t : Nat} (hL : Lay LM g c t σ) {x1 : Int} (h : (Lay LM g c t σ → GG E mX12_isOneAll 2 [some (vr 172), some (vi x1), some (vi 0)] [] σ rc rs Q)) : GG E mX12_isOneAll 0 [some (vr 172), some (vi x1), none] [] σ rc rs Q := by
  refine r_iconst (pc := 0) dX12_isOneAll_0 (inRk rfl) ?_
  refine r_istore_n (pc := 1) dX12_isOneAll_1 rfl (by decide) (l2 := [some (vr 172), some (vi x1), some (vi 0)]) rfl ?_
  exact (h hL)
theorem B_X12_isOneAll_2 {g : Sg} {c t : Nat} (hL : Lay LM g c t σ) {x1 : Int} {x2 : Int} (h : (((gI σ 172 16) ≤ x2 → (Lay LM g c t σ → Q (.inl (some (vi 1))) σ)) ∧ (¬ ((gI σ 172 16) ≤ x2) → (0 ≤ x1 ∧ x1 < 48) ∧ ∀ b2 : Nat, b2 = gR σ 2913 x1.toNat → (2914 ≤ b2 ∧ b2 < 2962) → (0 ≤ x2 ∧ x2 < 48) ∧ (((gI σ b2 x2.toNat) = 1 → inR (x2 + 1) ∧ (Lay LM g c t σ → GG E mX12_isOneAll 2 [some (vr 172), some (vi x1), some (vi (x2 + 1))] [] σ rc rs Q)) ∧ (¬ ((gI σ b2 x2.toNat) = 1) → (Lay LM g c t σ → Q (.inl (some (vi 0))) σ)))))) : GG E mX12_isOneAll 2 [some (vr 172), some (vi x1), some (vi x2)] [] σ rc rs Q := by
  refine r_iload_n (pc := 2) dX12_isOneAll_2 rfl rfl ?_
  refine r_aload_n (pc := 3) dX12_isOneAll_3 rfl rfl ?_
  refine r_getI (pc := 4) dX12_isOneAll_4 (k9 := 16) CL_12 (by decide) (by decide) w_1431 rfl (okO_of (N := 42) (hL.sh (i := 0) rfl (by decide) (by decide)) (by decide)) (fun _ => ?_)
  refine r_icmp_ge (pc := 7) (tgt := 30) dX12_isOneAll_7 (by decide) (fun c9 => ?_) (fun c9 => ?_)
  · replace h := h.1 c9
    refine r_iconst (pc := 30) dX12_isOneAll_30 (inRk rfl) ?_
    exact r_ireturn (pc := 31) (ty := .boolean) dX12_isOneAll_31 (by decide +kernel) rfl (nar_bool (by decide)) (h hL)
  · replace h := h.2 c9
    refine r_aload_n (pc := 10) dX12_isOneAll_10 rfl rfl ?_
    refine r_getR (pc := 11) dX12_isOneAll_11 (k9 := 33) CL_12 (by decide) (by decide) w_1448 rfl (okO_of (N := 42) (hL.sh (i := 0) rfl (by decide) (by decide)) (by decide)) ?_
    refine eqR (y := 2913) (hL.rf (i := 18) rfl) ?_
    refine r_iload_n (pc := 14) dX12_isOneAll_14 rfl rfl ?_
    obtain ⟨o1, h⟩ := h
    refine r_aaload (pc := 15) dX12_isOneAll_15 (okB_of (c := 24) (n := 48) (hL.sh (i := 25) rfl (by decide) (by decide)) (by decide) o1) ?_
    refine nmR (fun b2 e9 => ?_)
    have q3 : (2914 ≤ b2 ∧ b2 < 2962) := e9 ▸ hL.rsw (i := 1) rfl (rowC o1 (by decide))
    replace h := h b2 e9 q3
    refine r_iload_n (pc := 16) dX12_isOneAll_16 rfl rfl ?_
    obtain ⟨o4, h⟩ := h
    refine r_iaload (pc := 17) dX12_isOneAll_17 (okA_of (c := 20) (n := 48) (hL.sh (i := 26) rfl q3.1 q3.2) (Nat.le_trans (by decide) q3.1) o4) ?_
    refine r_iconst (pc := 18) dX12_isOneAll_18 (inRk rfl) ?_
    refine r_icmp_eq (pc := 19) (tgt := 24) dX12_isOneAll_19 (by decide) (fun c9 => ?_) (fun c9 => ?_)
    · replace h := h.1 c9
      obtain ⟨o5, h⟩ := h
      refine r_iinc (pc := 24) dX12_isOneAll_24 rfl (by decide) o5 (l2 := [some (vr 172), some (vi x1), some (vi (x2 + 1))]) rfl ?_
      refine r_goto (pc := 27) (tgt := 2) dX12_isOneAll_27 (by decide) ?_
      exact (h hL)
    · replace h := h.2 c9
      refine r_iconst (pc := 22) dX12_isOneAll_22 (inRk rfl) ?_
      exact r_ireturn (pc := 23) (ty := .boolean) dX12_isOneAll_23 (by decide +kernel) rfl (nar_bool (by decide)) (h hL)
theorem C_X12_isOneAll {a0 : Nat} {x1 : Int} (h : GG E mX12_isOneAll 0 [some (vr a0), some (vi x1), none] [] σ 0 0 Q) : CC E mX12_isOneAll [vr a0, vi x1] σ Q := CC.of (by decide +kernel) rfl (by decide +kernel) (fun h9 => nomatch h9) (Nat.le_of_ble_eq_true rfl) h
theorem dX12_isPrime_0 : decode cX12_isPrime 0 = .ok (.iconst 2, 1) := by decide +kernel
theorem dX12_isPrime_1 : decode cX12_isPrime 1 = .ok (.istore_n 1, 1) := by decide +kernel
theorem dX12_isPrime_2 : decode cX12_isPrime 2 = .ok (.iload_n 1, 1) := by decide +kernel
theorem dX12_isPrime_3 : decode cX12_isPrime 3 = .ok (.iload_n 1, 1) := by decide +kernel
theorem dX12_isPrime_4 : decode cX12_isPrime 4 = .ok (.imul, 1) := by decide +kernel
theorem dX12_isPrime_5 : decode cX12_isPrime 5 = .ok (.iload_n 0, 1) := by decide +kernel
theorem dX12_isPrime_6 : decode cX12_isPrime 6 = .ok (.if_icmp .gt 17, 3) := by decide +kernel
theorem dX12_isPrime_9 : decode cX12_isPrime 9 = .ok (.iload_n 0, 1) := by decide +kernel
theorem dX12_isPrime_10 : decode cX12_isPrime 10 = .ok (.iload_n 1, 1) := by decide +kernel
theorem dX12_isPrime_11 : decode cX12_isPrime 11 = .ok (.irem, 1) := by decide +kernel
theorem dX12_isPrime_12 : decode cX12_isPrime 12 = .ok (.ifCond .ne 5, 3) := by decide +kernel
theorem dX12_isPrime_15 : decode cX12_isPrime 15 = .ok (.iconst 0, 1) := by decide +kernel
theorem dX12_isPrime_16 : decode cX12_isPrime 16 = .ok (.ireturn, 1) := by decide +kernel
theorem dX12_isPrime_17 : decode cX12_isPrime 17 = .ok (.iinc 1 1, 3) := by decide +kernel
theorem dX12_isPrime_20 : decode cX12_isPrime 20 = .ok (.goto (-18), 3) := by decide +kernel
theorem dX12_isPrime_23 : decode cX12_isPrime 23 = .ok (.iload_n 0, 1) := by decide +kernel
theorem dX12_isPrime_24 : decode cX12_isPrime 24 = .ok (.iconst 1, 1) := by decide +kernel
theorem dX12_isPrime_25 : decode cX12_isPrime 25 = .ok (.if_icmp .le 7, 3) := by decide +kernel
theorem dX12_isPrime_28 : decode cX12_isPrime 28 = .ok (.iconst 1, 1) := by decide +kernel
theorem dX12_isPrime_29 : decode cX12_isPrime 29 = .ok (.goto 4, 3) := by decide +kernel
theorem dX12_isPrime_32 : decode cX12_isPrime 32 = .ok (.iconst 0, 1) := by decide +kernel
theorem dX12_isPrime_33 : decode cX12_isPrime 33 = .ok (.ireturn, 1) := by decide +kernel
theorem B_X12_isPrime_0 {x0 : Int} (h : GG E mX12_isPrime 2 [some (vi x0), some (vi 2)] [] σ rc rs Q) : GG E mX12_isPrime 0 [some (vi x0), none] [] σ rc rs Q := by
  refine r_iconst (pc := 0) dX12_isPrime_0 (inRk rfl) ?_
  refine r_istore_n (pc := 1) dX12_isPrime_1 rfl (by decide) (l2 := [some (vi x0), some (vi 2)]) rfl ?_
  exact h
theorem B_X12_isPrime_2 {x0 : Int} {x1 : Int} (h : inR (x1 * x1) ∧ ((x0 < (x1 * x1) → ((x0 ≤ 1 → Q (.inl (some (vi 0))) σ) ∧ (¬ (x0 ≤ 1) → Q (.inl (some (vi 1))) σ))) ∧ (¬ (x0 < (x1 * x1)) → x1 ≠ 0 ∧ (((x0.tmod x1) ≠ 0 → inR (x1 + 1) ∧ GG E mX12_isPrime 2 [some (vi x0), some (vi (x1 + 1))] [] σ rc rs Q) ∧ ((x0.tmod x1) = 0 → Q (.inl (some (vi 0))) σ))))) : GG E mX12_isPrime 2 [some (vi x0), some (vi x1)] [] σ rc rs Q := by
  refine r_iload_n (pc := 2) dX12_isPrime_2 rfl rfl ?_
  refine r_iload_n (pc := 3) dX12_isPrime_3 rfl rfl ?_
  obtain ⟨o1, h⟩ := h
  refine r_imul (pc := 4) dX12_isPrime_4 o1 ?_
  refine r_iload_n (pc := 5) dX12_isPrime_5 rfl rfl ?_
  refine r_icmp_gt (pc := 6) (tgt := 23) dX12_isPrime_6 (by decide) (fun c9 => ?_) (fun c9 => ?_)
  · replace h := h.1 c9
    refine r_iload_n (pc := 23) dX12_isPrime_23 rfl rfl ?_
    refine r_iconst (pc := 24) dX12_isPrime_24 (inRk rfl) ?_
    refine r_icmp_le (pc := 25) (tgt := 32) dX12_isPrime_25 (by decide) (fun c9 => ?_) (fun c9 => ?_)
    · replace h := h.1 c9
      refine r_iconst (pc := 32) dX12_isPrime_32 (inRk rfl) ?_
      exact r_ireturn (pc := 33) (ty := .boolean) dX12_isPrime_33 (by decide +kernel) rfl (nar_bool (by decide)) h
    · replace h := h.2 c9
      refine r_iconst (pc := 28) dX12_isPrime_28 (inRk rfl) ?_
      refine r_goto (pc := 29) (tgt := 33) dX12_isPrime_29 (by decide) ?_
      exact r_ireturn (pc := 33) (ty := .boolean) dX12_isPrime_33 (by decide +kernel) rfl (nar_bool (by decide)) h
  · replace h := h.2 c9
    refine r_iload_n (pc := 9) dX12_isPrime_9 rfl rfl ?_
    refine r_iload_n (pc := 10) dX12_isPrime_10 rfl rfl ?_
    obtain ⟨o2, h⟩ := h
    refine r_irem (pc := 11) dX12_isPrime_11 o2 ?_
    refine r_if_ne (pc := 12) (tgt := 17) dX12_isPrime_12 (by decide) (fun c9 => ?_) (fun c9 => ?_)
    · replace h := h.1 c9
      obtain ⟨o3, h⟩ := h
      refine r_iinc (pc := 17) dX12_isPrime_17 rfl (by decide) o3 (l2 := [some (vi x0), some (vi (x1 + 1))]) rfl ?_
      refine r_goto (pc := 20) (tgt := 2) dX12_isPrime_20 (by decide) ?_
      exact h
    · replace h := h.2 c9
      refine r_iconst (pc := 15) dX12_isPrime_15 (inRk rfl) ?_
      exact r_ireturn (pc := 16) (ty := .boolean) dX12_isPrime_16 (by decide +kernel) rfl (nar_bool (by decide)) h
theorem C_X12_isPrime {x0 : Int} (h : GG E mX12_isPrime 0 [some (vi x0), none] [] σ 0 0 Q) : CC E mX12_isPrime [vi x0] σ Q := CC.of (by decide +kernel) rfl (by decide +kernel) (fun h9 => nomatch h9) (Nat.le_of_ble_eq_true rfl) h
theorem dX12_isSmall_0 : decode cX12_isSmall 0 = .ok (.iload_n 0, 1) := by decide +kernel
theorem dX12_isSmall_1 : decode cX12_isSmall 1 = .ok (.bipush 97, 2) := by decide +kernel
theorem dX12_isSmall_3 : decode cX12_isSmall 3 = .ok (.if_icmp .lt 13, 3) := by decide +kernel
theorem dX12_isSmall_6 : decode cX12_isSmall 6 = .ok (.iload_n 0, 1) := by decide +kernel
theorem dX12_isSmall_7 : decode cX12_isSmall 7 = .ok (.bipush 122, 2) := by decide +kernel
theorem dX12_isSmall_9 : decode cX12_isSmall 9 = .ok (.if_icmp .gt 7, 3) := by decide +kernel
theorem dX12_isSmall_12 : decode cX12_isSmall 12 = .ok (.iconst 1, 1) := by decide +kernel
theorem dX12_isSmall_13 : decode cX12_isSmall 13 = .ok (.goto 4, 3) := by decide +kernel
theorem dX12_isSmall_16 : decode cX12_isSmall 16 = .ok (.iconst 0, 1) := by decide +kernel
theorem dX12_isSmall_17 : decode cX12_isSmall 17 = .ok (.ireturn, 1) := by decide +kernel
theorem B_X12_isSmall_0 {x0 : Int} (h : ((x0 < 97 → Q (.inl (some (vi 0))) σ) ∧ (¬ (x0 < 97) → ((122 < x0 → Q (.inl (some (vi 0))) σ) ∧ (¬ (122 < x0) → Q (.inl (some (vi 1))) σ))))) : GG E mX12_isSmall 0 [some (vi x0)] [] σ rc rs Q := by
  refine r_iload_n (pc := 0) dX12_isSmall_0 rfl rfl ?_
  refine r_bipush (pc := 1) dX12_isSmall_1 (by decide) ?_
  refine r_icmp_lt (pc := 3) (tgt := 16) dX12_isSmall_3 (by decide) (fun c9 => ?_) (fun c9 => ?_)
  · replace h := h.1 c9
    refine r_iconst (pc := 16) dX12_isSmall_16 (inRk rfl) ?_
    exact r_ireturn (pc := 17) (ty := .boolean) dX12_isSmall_17 (by decide +kernel) rfl (nar_bool (by decide)) h
  · replace h := h.2 c9
    refine r_iload_n (pc := 6) dX12_isSmall_6 rfl rfl ?_
    refine r_bipush (pc := 7) dX12_isSmall_7 (by decide) ?_
    refine r_icmp_gt (pc := 9) (tgt := 16) dX12_isSmall_9 (by decide) (fun c9 => ?_) (fun c9 => ?_)
    · replace h := h.1 c9
      refine r_iconst (pc := 16) dX12_isSmall_16 (inRk rfl) ?_
      exact r_ireturn (pc := 17) (ty := .boolean) dX12_isSmall_17 (by decide +kernel) rfl (nar_bool (by decide)) h
    · replace h := h.2 c9
      refine r_iconst (pc := 12) dX12_isSmall_12 (inRk rfl) ?_
      refine r_goto (pc := 13) (tgt := 17) dX12_isSmall_13 (by decide) ?_
      exact r_ireturn (pc := 17) (ty := .boolean) dX12_isSmall_17 (by decide +kernel) rfl (nar_bool (by decide)) h
theorem C_X12_isSmall {x0 : Int} (h : GG E mX12_isSmall 0 [some (vi x0)] [] σ 0 0 Q) : CC E mX12_isSmall [vi x0] σ Q := CC.of (by decide +kernel) rfl (by decide +kernel) (fun h9 => nomatch h9) (Nat.le_of_ble_eq_true rfl) h
theorem dX12_isStill_0 : decode cX12_isStill 0 = .ok (.iload_n 1, 1) := by decide +kernel
theorem dX12_isStill_1 : decode cX12_isStill 1 = .ok (.ifCond .eq 11, 3) := by decide +kernel
theorem dX12_isStill_4 : decode cX12_isStill 4 = .ok (.iload_n 1, 1) := by decide +kernel
theorem dX12_isStill_5 : decode cX12_isStill 5 = .ok (.aload_n 0, 1) := by decide +kernel
theorem dX12_isStill_6 : decode cX12_isStill 6 = .ok (.invokevirtual 314, 3) := by decide +kernel
theorem dX12_isStill_9 : decode cX12_isStill 9 = .ok (.if_icmp .ne 7, 3) := by decide +kernel
theorem dX12_isStill_12 : decode cX12_isStill 12 = .ok (.iconst 1, 1) := by decide +kernel
theorem dX12_isStill_13 : decode cX12_isStill 13 = .ok (.goto 4, 3) := by decide +kernel
theorem dX12_isStill_16 : decode cX12_isStill 16 = .ok (.iconst 0, 1) := by decide +kernel
theorem dX12_isStill_17 : decode cX12_isStill 17 = .ok (.ireturn, 1) := by decide +kernel
theorem B_X12_isStill_0 {g : Sg} {c t : Nat} (hL : Lay LM g c t σ) {x1 : Int} (h : ((x1 = 0 → (Lay LM g c t σ → Q (.inl (some (vi 1))) σ)) ∧ (¬ (x1 = 0) → (Lay LM g c t σ → CC E mX12_minus [vr 172] σ (KI (fun r1 τ2 => Lay LM g c t τ2 ∧ (inR r1 → ((x1 ≠ r1 → (Lay LM g c t τ2 → Q (.inl (some (vi 0))) τ2)) ∧ (x1 = r1 → (Lay LM g c t τ2 → Q (.inl (some (vi 1))) τ2))))) (fun _ _ => False)))))) : GG E mX12_isStill 0 [some (vr 172), some (vi x1)] [] σ rc rs Q := by
  refine r_iload_n (pc := 0) dX12_isStill_0 rfl rfl ?_
  refine r_if_eq (pc := 1) (tgt := 12) dX12_isStill_1 (by decide) (fun c9 => ?_) (fun c9 => ?_)
  · replace h := h.1 c9
    refine r_iconst (pc := 12) dX12_isStill_12 (inRk rfl) ?_
    refine r_goto (pc := 13) (tgt := 17) dX12_isStill_13 (by decide) ?_
    exact r_ireturn (pc := 17) (ty := .boolean) dX12_isStill_17 (by decide +kernel) rfl (nar_bool (by decide)) (h hL)
  · replace h := h.2 c9
    refine r_iload_n (pc := 4) dX12_isStill_4 rfl rfl ?_
    refine r_aload_n (pc := 5) dX12_isStill_5 rfl rfl ?_
    refine c_VI0N (M := mX12_isStill) (pc := 6) (As := []) dX12_isStill_6 K_X12_minus w_1714 ⟨by decide, by decide⟩ (Nat.le_of_ble_eq_true rfl) rfl rfl (ci := 12) rfl rfl (by decide) (okO_of (N := 42) (hL.sh (i := 0) rfl (by decide) (by decide)) (by decide)) (h hL) (fun r1 τ2 h8 hr9 => ?_) rfl
    replace hL := h8.1
    replace h := h8.2 hr9
    refine r_icmp_ne (pc := 9) (tgt := 16) dX12_isStill_9 (by decide) (fun c9 => ?_) (fun c9 => ?_)
    · replace h := h.1 c9
      refine r_iconst (pc := 16) dX12_isStill_16 (inRk rfl) ?_
      exact r_ireturn (pc := 17) (ty := .boolean) dX12_isStill_17 (by decide +kernel) rfl (nar_bool (by decide)) (h hL)
    · replace h := h.2 c9
      refine r_iconst (pc := 12) dX12_isStill_12 (inRk rfl) ?_
      refine r_goto (pc := 13) (tgt := 17) dX12_isStill_13 (by decide) ?_
      exact r_ireturn (pc := 17) (ty := .boolean) dX12_isStill_17 (by decide +kernel) rfl (nar_bool (by decide)) (h hL)
theorem C_X12_isStill {a0 : Nat} {x1 : Int} (h : GG E mX12_isStill 0 [some (vr a0), some (vi x1)] [] σ 0 0 Q) : CC E mX12_isStill [vr a0, vi x1] σ Q := CC.of (by decide +kernel) rfl (by decide +kernel) (fun h9 => nomatch h9) (Nat.le_of_ble_eq_true rfl) h
theorem dX12_isTurn_0 : decode cX12_isTurn 0 = .ok (.iconst 0, 1) := by decide +kernel
theorem dX12_isTurn_1 : decode cX12_isTurn 1 = .ok (.istore_n 3, 1) := by decide +kernel
theorem dX12_isTurn_2 : decode cX12_isTurn 2 = .ok (.iconst 0, 1) := by decide +kernel
theorem dX12_isTurn_3 : decode cX12_isTurn 3 = .ok (.istore 4, 2) := by decide +kernel
theorem dX12_isTurn_5 : decode cX12_isTurn 5 = .ok (.iconst 0, 1) := by decide +kernel
theorem dX12_isTurn_6 : decode cX12_isTurn 6 = .ok (.istore 5, 2) := by decide +kernel
theorem dX12_isTurn_8 : decode cX12_isTurn 8 = .ok (.iload 5, 2) := by decide +kernel
theorem dX12_isTurn_10 : decode cX12_isTurn 10 = .ok (.iconst 4, 1) := by decide +kernel
theorem dX12_isTurn_11 : decode cX12_isTurn 11 = .ok (.if_icmp .ge 73, 3) := by decide +kernel
theorem dX12_isTurn_14 : decode cX12_isTurn 14 = .ok (.aload_n 0, 1) := by decide +kernel
theorem dX12_isTurn_15 : decode cX12_isTurn 15 = .ok (.getfield 22, 3) := by decide +kernel
theorem dX12_isTurn_18 : decode cX12_isTurn 18 = .ok (.iload_n 1, 1) := by decide +kernel
theorem dX12_isTurn_19 : decode cX12_isTurn 19 = .ok (.aaload, 1) := by decide +kernel
theorem dX12_isTurn_20 : decode cX12_isTurn 20 = .ok (.iload_n 2, 1) := by decide +kernel
theorem dX12_isTurn_21 : decode cX12_isTurn 21 = .ok (.iconst 2, 1) := by decide +kernel
theorem dX12_isTurn_22 : decode cX12_isTurn 22 = .ok (.iload 5, 2) := by decide +kernel
theorem dX12_isTurn_24 : decode cX12_isTurn 24 = .ok (.imul, 1) := by decide +kernel
theorem dX12_isTurn_25 : decode cX12_isTurn 25 = .ok (.iadd, 1) := by decide +kernel
theorem dX12_isTurn_26 : decode cX12_isTurn 26 = .ok (.iaload, 1) := by decide +kernel
theorem dX12_isTurn_27 : decode cX12_isTurn 27 = .ok (.istore 6, 2) := by decide +kernel
theorem dX12_isTurn_29 : decode cX12_isTurn 29 = .ok (.aload_n 0, 1) := by decide +kernel
theorem dX12_isTurn_30 : decode cX12_isTurn 30 = .ok (.getfield 22, 3) := by decide +kernel
theorem dX12_isTurn_33 : decode cX12_isTurn 33 = .ok (.iload_n 1, 1) := by decide +kernel
theorem dX12_isTurn_34 : decode cX12_isTurn 34 = .ok (.aaload, 1) := by decide +kernel
theorem dX12_isTurn_35 : decode cX12_isTurn 35 = .ok (.iload_n 2, 1) := by decide +kernel
theorem dX12_isTurn_36 : decode cX12_isTurn 36 = .ok (.iconst 2, 1) := by decide +kernel
theorem dX12_isTurn_37 : decode cX12_isTurn 37 = .ok (.iload 5, 2) := by decide +kernel
theorem dX12_isTurn_39 : decode cX12_isTurn 39 = .ok (.imul, 1) := by decide +kernel
theorem dX12_isTurn_40 : decode cX12_isTurn 40 = .ok (.iadd, 1) := by decide +kernel
theorem dX12_isTurn_41 : decode cX12_isTurn 41 = .ok (.iconst 1, 1) := by decide +kernel
theorem dX12_isTurn_42 : decode cX12_isTurn 42 = .ok (.iadd, 1) := by decide +kernel
theorem dX12_isTurn_43 : decode cX12_isTurn 43 = .ok (.iaload, 1) := by decide +kernel
theorem dX12_isTurn_44 : decode cX12_isTurn 44 = .ok (.istore 7, 2) := by decide +kernel
theorem dX12_isTurn_46 : decode cX12_isTurn 46 = .ok (.iload_n 3, 1) := by decide +kernel
theorem dX12_isTurn_47 : decode cX12_isTurn 47 = .ok (.iload 6, 2) := by decide +kernel
theorem dX12_isTurn_49 : decode cX12_isTurn 49 = .ok (.iload 6, 2) := by decide +kernel
theorem dX12_isTurn_51 : decode cX12_isTurn 51 = .ok (.imul, 1) := by decide +kernel
theorem dX12_isTurn_52 : decode cX12_isTurn 52 = .ok (.aload_n 0, 1) := by decide +kernel
theorem dX12_isTurn_53 : decode cX12_isTurn 53 = .ok (.iload_n 1, 1) := by decide +kernel
theorem dX12_isTurn_54 : decode cX12_isTurn 54 = .ok (.invokevirtual 195, 3) := by decide +kernel
theorem dX12_isTurn_57 : decode cX12_isTurn 57 = .ok (.iload 7, 2) := by decide +kernel
theorem dX12_isTurn_59 : decode cX12_isTurn 59 = .ok (.imul, 1) := by decide +kernel
theorem dX12_isTurn_60 : decode cX12_isTurn 60 = .ok (.iload 7, 2) := by decide +kernel
theorem dX12_isTurn_62 : decode cX12_isTurn 62 = .ok (.imul, 1) := by decide +kernel
theorem dX12_isTurn_63 : decode cX12_isTurn 63 = .ok (.iadd, 1) := by decide +kernel
theorem dX12_isTurn_64 : decode cX12_isTurn 64 = .ok (.iadd, 1) := by decide +kernel
theorem dX12_isTurn_65 : decode cX12_isTurn 65 = .ok (.istore_n 3, 1) := by decide +kernel
theorem dX12_isTurn_66 : decode cX12_isTurn 66 = .ok (.iload 4, 2) := by decide +kernel
theorem dX12_isTurn_68 : decode cX12_isTurn 68 = .ok (.iconst 2, 1) := by decide +kernel
theorem dX12_isTurn_69 : decode cX12_isTurn 69 = .ok (.iload 6, 2) := by decide +kernel
theorem dX12_isTurn_71 : decode cX12_isTurn 71 = .ok (.imul, 1) := by decide +kernel
theorem dX12_isTurn_72 : decode cX12_isTurn 72 = .ok (.iload 7, 2) := by decide +kernel
theorem dX12_isTurn_74 : decode cX12_isTurn 74 = .ok (.imul, 1) := by decide +kernel
theorem dX12_isTurn_75 : decode cX12_isTurn 75 = .ok (.iadd, 1) := by decide +kernel
theorem dX12_isTurn_76 : decode cX12_isTurn 76 = .ok (.istore 4, 2) := by decide +kernel
theorem dX12_isTurn_78 : decode cX12_isTurn 78 = .ok (.iinc 5 1, 3) := by decide +kernel
theorem dX12_isTurn_81 : decode cX12_isTurn 81 = .ok (.goto (-73), 3) := by decide +kernel
theorem dX12_isTurn_84 : decode cX12_isTurn 84 = .ok (.iload_n 3, 1) := by decide +kernel
theorem dX12_isTurn_85 : decode cX12_isTurn 85 = .ok (.bipush 16, 2) := by decide +kernel
theorem dX12_isTurn_87 : decode cX12_isTurn 87 = .ok (.if_icmp .ne 12, 3) := by decide +kernel
theorem dX12_isTurn_90 : decode cX12_isTurn 90 = .ok (.iload 4, 2) := by decide +kernel
theorem dX12_isTurn_92 : decode cX12_isTurn 92 = .ok (.ifCond .ne 7, 3) := by decide +kernel
theorem dX12_isTurn_95 : decode cX12_isTurn 95 = .ok (.iconst 1, 1) := by decide +kernel
theorem dX12_isTurn_96 : decode cX12_isTurn 96 = .ok (.goto 4, 3) := by decide +kernel
theorem dX12_isTurn_99 : decode cX12_isTurn 99 = .ok (.iconst 0, 1) := by decide +kernel
theorem dX12_isTurn_100 : decode cX12_isTurn 100 = .ok (.ireturn, 1) := by decide +kernel
theorem B_X12_isTurn_0 {g : Sg} {c t : Nat} (hL : Lay LM g c t σ) {x1 : Int} {x2 : Int} (h : (Lay LM g c t σ → GG E mX12_isTurn 8 [some (vr 172), some (vi x1), some (vi x2), some (vi 0), some (vi 0), some (vi 0), none, none] [] σ rc rs Q)) : GG E mX12_isTurn 0 [some (vr 172), some (vi x1), some (vi x2), none, none, none, none, none] [] σ rc rs Q := by
  refine r_iconst (pc := 0) dX12_isTurn_0 (inRk rfl) ?_
  refine r_istore_n (pc := 1) dX12_isTurn_1 rfl (by decide) (l2 := [some (vr 172), some (vi x1), some (vi x2), some (vi 0), none, none, none, none]) rfl ?_
  refine r_iconst (pc := 2) dX12_isTurn_2 (inRk rfl) ?_
  refine r_istore (pc := 3) dX12_isTurn_3 (by decide) (l2 := [some (vr 172), some (vi x1), some (vi x2), some (vi 0), some (vi 0), none, none, none]) rfl ?_
  refine r_iconst (pc := 5) dX12_isTurn_5 (inRk rfl) ?_
  refine r_istore (pc := 6) dX12_isTurn_6 (by decide) (l2 := [some (vr 172), some (vi x1), some (vi x2), some (vi 0), some (vi 0), some (vi 0), none, none]) rfl ?_
  exact (h hL)
theorem B_X12_isTurn_8 {g : Sg} {c t : Nat} (hL : Lay LM g c t σ) {x1 : Int} {x2 : Int} {x3 : Int} {x4 : Int} {x5 : Int} (h : ((4 ≤ x5 → ((x3 ≠ 16 → (Lay LM g c t σ → Q (.inl (some (vi 0))) σ)) ∧ (x3 = 16 → ((x4 ≠ 0 → (Lay LM g c t σ → Q (.inl (some (vi 0))) σ)) ∧ (x4 = 0 → (Lay LM g c t σ → Q (.inl (some (vi 1))) σ)))))) ∧ (¬ (4 ≤ x5) → (0 ≤ x1 ∧ x1 < 10) ∧ inR (2 * x5) ∧ inR (x2 + (2 * x5)) ∧ (0 ≤ (x2 + (2 * x5)) ∧ (x2 + (2 * x5)) < 34) ∧ inR ((x2 + (2 * x5)) + 1) ∧ (0 ≤ ((x2 + (2 * x5)) + 1) ∧ ((x2 + (2 * x5)) + 1) < 34) ∧ inR ((gI σ (176 + x1.toNat) (x2 + (2 * x5)).toNat) * (gI σ (176 + x1.toNat) (x2 + (2 * x5)).toNat)) ∧ ∀ v10 : Int, v10 = (gI σ (176 + x1.toNat) (x2 + (2 * x5)).toNat) * (gI σ (176 + x1.toNat) (x2 + (2 * x5)).toNat) → (Lay LM g c t σ → CC E mX12_root [vr 172, vi x1] σ (KI (fun r11 τ12 => Lay LM g c t τ12 ∧ (inR r11 → inR (r11 * (gI σ (176 + x1.toNat) ((x2 + (2 * x5)) + 1).toNat)) ∧ ∀ v14 : Int, v14 = r11 * (gI σ (176 + x1.toNat) ((x2 + (2 * x5)) + 1).toNat) → inR (v14 * (gI σ (176 + x1.toNat) ((x2 + (2 * x5)) + 1).toNat)) ∧ ∀ v16 : Int, v16 = v14 * (gI σ (176 + x1.toNat) ((x2 + (2 * x5)) + 1).toNat) → inR (v10 + v16) ∧ inR (x3 + (v10 + v16)) ∧ inR (2 * (gI σ (176 + x1.toNat) (x2 + (2 * x5)).toNat)) ∧ ∀ v20 : Int, v20 = 2 * (gI σ (176 + x1.toNat) (x2 + (2 * x5)).toNat) → inR (v20 * (gI σ (176 + x1.toNat) ((x2 + (2 * x5)) + 1).toNat)) ∧ ∀ v22 : Int, v22 = v20 * (gI σ (176 + x1.toNat) ((x2 + (2 * x5)) + 1).toNat) → inR (x4 + v22) ∧ inR (x5 + 1) ∧ (Lay LM g c t τ12 → GG E mX12_isTurn 8 [some (vr 172), some (vi x1), some (vi x2), some (vi (x3 + (v10 + v16))), some (vi (x4 + v22)), some (vi (x5 + 1)), none, none] [] τ12 rc rs Q))) (fun _ _ => False)))))) : GG E mX12_isTurn 8 [some (vr 172), some (vi x1), some (vi x2), some (vi x3), some (vi x4), some (vi x5), none, none] [] σ rc rs Q := by
  refine r_iload (pc := 8) dX12_isTurn_8 rfl ?_
  refine r_iconst (pc := 10) dX12_isTurn_10 (inRk rfl) ?_
  refine r_icmp_ge (pc := 11) (tgt := 84) dX12_isTurn_11 (by decide) (fun c9 => ?_) (fun c9 => ?_)
  · replace h := h.1 c9
    refine r_iload_n (pc := 84) dX12_isTurn_84 rfl rfl ?_
    refine r_bipush (pc := 85) dX12_isTurn_85 (by decide) ?_
    refine r_icmp_ne (pc := 87) (tgt := 99) dX12_isTurn_87 (by decide) (fun c9 => ?_) (fun c9 => ?_)
    · replace h := h.1 c9
      refine r_iconst (pc := 99) dX12_isTurn_99 (inRk rfl) ?_
      exact r_ireturn (pc := 100) (ty := .boolean) dX12_isTurn_100 (by decide +kernel) rfl (nar_bool (by decide)) (h hL)
    · replace h := h.2 c9
      refine r_iload (pc := 90) dX12_isTurn_90 rfl ?_
      refine r_if_ne (pc := 92) (tgt := 99) dX12_isTurn_92 (by decide) (fun c9 => ?_) (fun c9 => ?_)
      · replace h := h.1 c9
        refine r_iconst (pc := 99) dX12_isTurn_99 (inRk rfl) ?_
        exact r_ireturn (pc := 100) (ty := .boolean) dX12_isTurn_100 (by decide +kernel) rfl (nar_bool (by decide)) (h hL)
      · replace h := h.2 c9
        refine r_iconst (pc := 95) dX12_isTurn_95 (inRk rfl) ?_
        refine r_goto (pc := 96) (tgt := 100) dX12_isTurn_96 (by decide) ?_
        exact r_ireturn (pc := 100) (ty := .boolean) dX12_isTurn_100 (by decide +kernel) rfl (nar_bool (by decide)) (h hL)
  · replace h := h.2 c9
    refine r_aload_n (pc := 14) dX12_isTurn_14 rfl rfl ?_
    refine r_getR (pc := 15) dX12_isTurn_15 (k9 := 9) CL_12 (by decide) (by decide) w_1424 rfl (okO_of (N := 42) (hL.sh (i := 0) rfl (by decide) (by decide)) (by decide)) ?_
    refine eqR (y := 175) (hL.rf (i := 2) rfl) ?_
    refine r_iload_n (pc := 18) dX12_isTurn_18 rfl rfl ?_
    obtain ⟨o1, h⟩ := h
    refine r_aaload (pc := 19) dX12_isTurn_19 (okB_of (c := 24) (n := 10) (hL.sh (i := 3) rfl (by decide) (by decide)) (by decide) o1) ?_
    have q2 : 176 ≤ 176 + x1.toNat ∧ 176 + x1.toNat < 186 := ⟨Nat.le_add_right _ _, rowB o1 (by decide)⟩
    refine eqR (y := 176 + x1.toNat) (hL.rx (i := 0) rfl (rowC o1 (by decide))) ?_
    refine r_iload_n (pc := 20) dX12_isTurn_20 rfl rfl ?_
    refine r_iconst (pc := 21) dX12_isTurn_21 (inRk rfl) ?_
    refine r_iload (pc := 22) dX12_isTurn_22 rfl ?_
    obtain ⟨o3, h⟩ := h
    refine r_imul (pc := 24) dX12_isTurn_24 o3 ?_
    obtain ⟨o4, h⟩ := h
    refine r_iadd (pc := 25) dX12_isTurn_25 o4 ?_
    obtain ⟨o5, h⟩ := h
    refine r_iaload (pc := 26) dX12_isTurn_26 (okA_of (c := 20) (n := 34) (hL.sh (i := 4) rfl q2.1 q2.2) (Nat.le_trans (by decide) q2.1) o5) ?_
    refine r_istore (pc := 27) dX12_isTurn_27 (by decide) (l2 := [some (vr 172), some (vi x1), some (vi x2), some (vi x3), some (vi x4), some (vi x5), some (vi (gI σ (176 + x1.toNat) (x2 + (2 * x5)).toNat)), none]) rfl ?_
    refine r_aload_n (pc := 29) dX12_isTurn_29 rfl rfl ?_
    refine r_getR (pc := 30) dX12_isTurn_30 (k9 := 9) CL_12 (by decide) (by decide) w_1424 rfl (okO_of (N := 42) (hL.sh (i := 0) rfl (by decide) (by decide)) (by decide)) ?_
    refine eqR (y := 175) (hL.rf (i := 2) rfl) ?_
    refine r_iload_n (pc := 33) dX12_isTurn_33 rfl rfl ?_
    refine r_aaload (pc := 34) dX12_isTurn_34 (okB_of (c := 24) (n := 10) (hL.sh (i := 3) rfl (by decide) (by decide)) (by decide) o1) ?_
    have q6 : 176 ≤ 176 + x1.toNat ∧ 176 + x1.toNat < 186 := ⟨Nat.le_add_right _ _, rowB o1 (by decide)⟩
    refine eqR (y := 176 + x1.toNat) (hL.rx (i := 0) rfl (rowC o1 (by decide))) ?_
    refine r_iload_n (pc := 35) dX12_isTurn_35 rfl rfl ?_
    refine r_iconst (pc := 36) dX12_isTurn_36 (inRk rfl) ?_
    refine r_iload (pc := 37) dX12_isTurn_37 rfl ?_
    refine r_imul (pc := 39) dX12_isTurn_39 o3 ?_
    refine r_iadd (pc := 40) dX12_isTurn_40 o4 ?_
    refine r_iconst (pc := 41) dX12_isTurn_41 (inRk rfl) ?_
    obtain ⟨o7, h⟩ := h
    refine r_iadd (pc := 42) dX12_isTurn_42 o7 ?_
    obtain ⟨o8, h⟩ := h
    refine r_iaload (pc := 43) dX12_isTurn_43 (okA_of (c := 20) (n := 34) (hL.sh (i := 4) rfl q6.1 q6.2) (Nat.le_trans (by decide) q6.1) o8) ?_
    refine r_istore (pc := 44) dX12_isTurn_44 (by decide) (l2 := [some (vr 172), some (vi x1), some (vi x2), some (vi x3), some (vi x4), some (vi x5), some (vi (gI σ (176 + x1.toNat) (x2 + (2 * x5)).toNat)), some (vi (gI σ (176 + x1.toNat) ((x2 + (2 * x5)) + 1).toNat))]) rfl ?_
    refine r_iload_n (pc := 46) dX12_isTurn_46 rfl rfl ?_
    refine r_iload (pc := 47) dX12_isTurn_47 rfl ?_
    refine r_iload (pc := 49) dX12_isTurn_49 rfl ?_
    obtain ⟨o9, h⟩ := h
    refine r_imul (pc := 51) dX12_isTurn_51 o9 ?_
    refine nmI (fun v10 e9 => ?_)
    replace h := h v10 e9
    refine r_aload_n (pc := 52) dX12_isTurn_52 rfl rfl ?_
    refine r_iload_n (pc := 53) dX12_isTurn_53 rfl rfl ?_
    refine c_VI0N (M := mX12_isTurn) (pc := 54) (As := [vi x1]) dX12_isTurn_54 K_X12_root w_1377 ⟨by decide, by decide⟩ (Nat.le_of_ble_eq_true rfl) rfl rfl (ci := 12) rfl rfl (by decide) (okO_of (N := 42) (hL.sh (i := 0) rfl (by decide) (by decide)) (by decide)) (h hL) (fun r11 τ12 h8 hr9 => ?_) rfl
    replace hL := h8.1
    replace h := h8.2 hr9
    refine r_iload (pc := 57) dX12_isTurn_57 rfl ?_
    obtain ⟨o13, h⟩ := h
    refine r_imul (pc := 59) dX12_isTurn_59 o13 ?_
    refine nmI (fun v14 e9 => ?_)
    replace h := h v14 e9
    refine r_iload (pc := 60) dX12_isTurn_60 rfl ?_
    obtain ⟨o15, h⟩ := h
    refine r_imul (pc := 62) dX12_isTurn_62 o15 ?_
    refine nmI (fun v16 e9 => ?_)
    replace h := h v16 e9
    obtain ⟨o17, h⟩ := h
    refine r_iadd (pc := 63) dX12_isTurn_63 o17 ?_
    obtain ⟨o18, h⟩ := h
    refine r_iadd (pc := 64) dX12_isTurn_64 o18 ?_
    refine r_istore_n (pc := 65) dX12_isTurn_65 rfl (by decide) (l2 := [some (vr 172), some (vi x1), some (vi x2), some (vi (x3 + (v10 + v16))), some (vi x4), some (vi x5), some (vi (gI σ (176 + x1.toNat) (x2 + (2 * x5)).toNat)), some (vi (gI σ (176 + x1.toNat) ((x2 + (2 * x5)) + 1).toNat))]) rfl ?_
    refine r_iload (pc := 66) dX12_isTurn_66 rfl ?_
    refine r_iconst (pc := 68) dX12_isTurn_68 (inRk rfl) ?_
    refine r_iload (pc := 69) dX12_isTurn_69 rfl ?_
    obtain ⟨o19, h⟩ := h
    refine r_imul (pc := 71) dX12_isTurn_71 o19 ?_
    refine nmI (fun v20 e9 => ?_)
    replace h := h v20 e9
    refine r_iload (pc := 72) dX12_isTurn_72 rfl ?_
    obtain ⟨o21, h⟩ := h
    refine r_imul (pc := 74) dX12_isTurn_74 o21 ?_
    refine nmI (fun v22 e9 => ?_)
    replace h := h v22 e9
    obtain ⟨o23, h⟩ := h
    refine r_iadd (pc := 75) dX12_isTurn_75 o23 ?_
    refine r_istore (pc := 76) dX12_isTurn_76 (by decide) (l2 := [some (vr 172), some (vi x1), some (vi x2), some (vi (x3 + (v10 + v16))), some (vi (x4 + v22)), some (vi x5), some (vi (gI σ (176 + x1.toNat) (x2 + (2 * x5)).toNat)), some (vi (gI σ (176 + x1.toNat) ((x2 + (2 * x5)) + 1).toNat))]) rfl ?_
    obtain ⟨o24, h⟩ := h
    refine r_iinc (pc := 78) dX12_isTurn_78 rfl (by decide) o24 (l2 := [some (vr 172), some (vi x1), some (vi x2), some (vi (x3 + (v10 + v16))), some (vi (x4 + v22)), some (vi (x5 + 1)), some (vi (gI σ (176 + x1.toNat) (x2 + (2 * x5)).toNat)), some (vi (gI σ (176 + x1.toNat) ((x2 + (2 * x5)) + 1).toNat))]) rfl ?_
    refine r_goto (pc := 81) (tgt := 8) dX12_isTurn_81 (by decide) ?_
    exact GG.msk [true, true, true, true, true, true, false, false] (h hL)
theorem C_X12_isTurn {a0 : Nat} {x1 : Int} {x2 : Int} (h : GG E mX12_isTurn 0 [some (vr a0), some (vi x1), some (vi x2), none, none, none, none, none] [] σ 0 0 Q) : CC E mX12_isTurn [vr a0, vi x1, vi x2] σ Q := CC.of (by decide +kernel) rfl (by decide +kernel) (fun h9 => nomatch h9) (Nat.le_of_ble_eq_true rfl) h
end G28
