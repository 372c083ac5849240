/-! ===== decode rows and trees: 29.model2 ===== -/
section G29
variable {E : Ev} {σ : Sg} {rc rs : Nat} {Q : NO → Sg → Prop}
theorem dX12_keepsGroup_0 : decode cX12_keepsGroup 0 = .ok (.aload_n 0, 1) := by decide +kernel
theorem dX12_keepsGroup_1 : decode cX12_keepsGroup 1 = .ok (.aload_n 0, 1) := by decide +kernel
theorem dX12_keepsGroup_2 : decode cX12_keepsGroup 2 = .ok (.getfield 214, 3) := by decide +kernel
theorem dX12_keepsGroup_5 : decode cX12_keepsGroup 5 = .ok (.putfield 192, 3) := by decide +kernel
theorem dX12_keepsGroup_8 : decode cX12_keepsGroup 8 = .ok (.iconst 0, 1) := by decide +kernel
theorem dX12_keepsGroup_9 : decode cX12_keepsGroup 9 = .ok (.istore_n 1, 1) := by decide +kernel
theorem dX12_keepsGroup_10 : decode cX12_keepsGroup 10 = .ok (.iload_n 1, 1) := by decide +kernel
theorem dX12_keepsGroup_11 : decode cX12_keepsGroup 11 = .ok (.aload_n 0, 1) := by decide +kernel
theorem dX12_keepsGroup_12 : decode cX12_keepsGroup 12 = .ok (.getfield 192, 3) := by decide +kernel
theorem dX12_keepsGroup_15 : decode cX12_keepsGroup 15 = .ok (.if_icmp .ge 39, 3) := by decide +kernel
theorem dX12_keepsGroup_18 : decode cX12_keepsGroup 18 = .ok (.iconst 0, 1) := by decide +kernel
theorem dX12_keepsGroup_19 : decode cX12_keepsGroup 19 = .ok (.istore_n 2, 1) := by decide +kernel
theorem dX12_keepsGroup_20 : decode cX12_keepsGroup 20 = .ok (.iload_n 2, 1) := by decide +kernel
theorem dX12_keepsGroup_21 : decode cX12_keepsGroup 21 = .ok (.bipush 8, 2) := by decide +kernel
theorem dX12_keepsGroup_23 : decode cX12_keepsGroup 23 = .ok (.if_icmp .ge 25, 3) := by decide +kernel
theorem dX12_keepsGroup_26 : decode cX12_keepsGroup 26 = .ok (.aload_n 0, 1) := by decide +kernel
theorem dX12_keepsGroup_27 : decode cX12_keepsGroup 27 = .ok (.getfield 34, 3) := by decide +kernel
theorem dX12_keepsGroup_30 : decode cX12_keepsGroup 30 = .ok (.iload_n 1, 1) := by decide +kernel
theorem dX12_keepsGroup_31 : decode cX12_keepsGroup 31 = .ok (.aaload, 1) := by decide +kernel
theorem dX12_keepsGroup_32 : decode cX12_keepsGroup 32 = .ok (.iload_n 2, 1) := by decide +kernel
theorem dX12_keepsGroup_33 : decode cX12_keepsGroup 33 = .ok (.aload_n 0, 1) := by decide +kernel
theorem dX12_keepsGroup_34 : decode cX12_keepsGroup 34 = .ok (.getfield 28, 3) := by decide +kernel
theorem dX12_keepsGroup_37 : decode cX12_keepsGroup 37 = .ok (.iload_n 1, 1) := by decide +kernel
theorem dX12_keepsGroup_38 : decode cX12_keepsGroup 38 = .ok (.aaload, 1) := by decide +kernel
theorem dX12_keepsGroup_39 : decode cX12_keepsGroup 39 = .ok (.iload_n 2, 1) := by decide +kernel
theorem dX12_keepsGroup_40 : decode cX12_keepsGroup 40 = .ok (.iaload, 1) := by decide +kernel
theorem dX12_keepsGroup_41 : decode cX12_keepsGroup 41 = .ok (.iastore, 1) := by decide +kernel
theorem dX12_keepsGroup_42 : decode cX12_keepsGroup 42 = .ok (.iinc 2 1, 3) := by decide +kernel
theorem dX12_keepsGroup_45 : decode cX12_keepsGroup 45 = .ok (.goto (-25), 3) := by decide +kernel
theorem dX12_keepsGroup_48 : decode cX12_keepsGroup 48 = .ok (.iinc 1 1, 3) := by decide +kernel
theorem dX12_keepsGroup_51 : decode cX12_keepsGroup 51 = .ok (.goto (-41), 3) := by decide +kernel
theorem dX12_keepsGroup_54 : decode cX12_keepsGroup 54 = .ok (.iconst 0, 1) := by decide +kernel
theorem dX12_keepsGroup_55 : decode cX12_keepsGroup 55 = .ok (.istore_n 1, 1) := by decide +kernel
theorem dX12_keepsGroup_56 : decode cX12_keepsGroup 56 = .ok (.iload_n 1, 1) := by decide +kernel
theorem dX12_keepsGroup_57 : decode cX12_keepsGroup 57 = .ok (.aload_n 0, 1) := by decide +kernel
theorem dX12_keepsGroup_58 : decode cX12_keepsGroup 58 = .ok (.getfield 192, 3) := by decide +kernel
theorem dX12_keepsGroup_61 : decode cX12_keepsGroup 61 = .ok (.if_icmp .ge 72, 3) := by decide +kernel
theorem dX12_keepsGroup_64 : decode cX12_keepsGroup 64 = .ok (.iconst 0, 1) := by decide +kernel
theorem dX12_keepsGroup_65 : decode cX12_keepsGroup 65 = .ok (.istore_n 2, 1) := by decide +kernel
theorem dX12_keepsGroup_66 : decode cX12_keepsGroup 66 = .ok (.iload_n 2, 1) := by decide +kernel
theorem dX12_keepsGroup_67 : decode cX12_keepsGroup 67 = .ok (.aload_n 0, 1) := by decide +kernel
theorem dX12_keepsGroup_68 : decode cX12_keepsGroup 68 = .ok (.getfield 192, 3) := by decide +kernel
theorem dX12_keepsGroup_71 : decode cX12_keepsGroup 71 = .ok (.if_icmp .ge 56, 3) := by decide +kernel
theorem dX12_keepsGroup_74 : decode cX12_keepsGroup 74 = .ok (.aload_n 0, 1) := by decide +kernel
theorem dX12_keepsGroup_75 : decode cX12_keepsGroup 75 = .ok (.aload_n 0, 1) := by decide +kernel
theorem dX12_keepsGroup_76 : decode cX12_keepsGroup 76 = .ok (.getfield 34, 3) := by decide +kernel
theorem dX12_keepsGroup_79 : decode cX12_keepsGroup 79 = .ok (.iload_n 1, 1) := by decide +kernel
theorem dX12_keepsGroup_80 : decode cX12_keepsGroup 80 = .ok (.aaload, 1) := by decide +kernel
theorem dX12_keepsGroup_81 : decode cX12_keepsGroup 81 = .ok (.iconst 0, 1) := by decide +kernel
theorem dX12_keepsGroup_82 : decode cX12_keepsGroup 82 = .ok (.aload_n 0, 1) := by decide +kernel
theorem dX12_keepsGroup_83 : decode cX12_keepsGroup 83 = .ok (.getfield 34, 3) := by decide +kernel
theorem dX12_keepsGroup_86 : decode cX12_keepsGroup 86 = .ok (.iload_n 2, 1) := by decide +kernel
theorem dX12_keepsGroup_87 : decode cX12_keepsGroup 87 = .ok (.aaload, 1) := by decide +kernel
theorem dX12_keepsGroup_88 : decode cX12_keepsGroup 88 = .ok (.iconst 0, 1) := by decide +kernel
theorem dX12_keepsGroup_89 : decode cX12_keepsGroup 89 = .ok (.aload_n 0, 1) := by decide +kernel
theorem dX12_keepsGroup_90 : decode cX12_keepsGroup 90 = .ok (.iconst 0, 1) := by decide +kernel
theorem dX12_keepsGroup_91 : decode cX12_keepsGroup 91 = .ok (.invokevirtual 195, 3) := by decide +kernel
theorem dX12_keepsGroup_94 : decode cX12_keepsGroup 94 = .ok (.invokevirtual 217, 3) := by decide +kernel
theorem dX12_keepsGroup_97 : decode cX12_keepsGroup 97 = .ok (.istore_n 3, 1) := by decide +kernel
theorem dX12_keepsGroup_98 : decode cX12_keepsGroup 98 = .ok (.aload_n 0, 1) := by decide +kernel
theorem dX12_keepsGroup_99 : decode cX12_keepsGroup 99 = .ok (.getfield 37, 3) := by decide +kernel
theorem dX12_keepsGroup_102 : decode cX12_keepsGroup 102 = .ok (.iload_n 1, 1) := by decide +kernel
theorem dX12_keepsGroup_103 : decode cX12_keepsGroup 103 = .ok (.aaload, 1) := by decide +kernel
theorem dX12_keepsGroup_104 : decode cX12_keepsGroup 104 = .ok (.iload_n 2, 1) := by decide +kernel
theorem dX12_keepsGroup_105 : decode cX12_keepsGroup 105 = .ok (.aload_n 0, 1) := by decide +kernel
theorem dX12_keepsGroup_106 : decode cX12_keepsGroup 106 = .ok (.getfield 34, 3) := by decide +kernel
theorem dX12_keepsGroup_109 : decode cX12_keepsGroup 109 = .ok (.aload_n 0, 1) := by decide +kernel
theorem dX12_keepsGroup_110 : decode cX12_keepsGroup 110 = .ok (.getfield 192, 3) := by decide +kernel
theorem dX12_keepsGroup_113 : decode cX12_keepsGroup 113 = .ok (.aload_n 0, 1) := by decide +kernel
theorem dX12_keepsGroup_114 : decode cX12_keepsGroup 114 = .ok (.getfield 31, 3) := by decide +kernel
theorem dX12_keepsGroup_117 : decode cX12_keepsGroup 117 = .ok (.invokestatic 221, 3) := by decide +kernel
theorem dX12_keepsGroup_120 : decode cX12_keepsGroup 120 = .ok (.iastore, 1) := by decide +kernel
theorem dX12_keepsGroup_121 : decode cX12_keepsGroup 121 = .ok (.iinc 2 1, 3) := by decide +kernel
theorem dX12_keepsGroup_124 : decode cX12_keepsGroup 124 = .ok (.goto (-58), 3) := by decide +kernel
theorem dX12_keepsGroup_127 : decode cX12_keepsGroup 127 = .ok (.iinc 1 1, 3) := by decide +kernel
theorem dX12_keepsGroup_130 : decode cX12_keepsGroup 130 = .ok (.goto (-74), 3) := by decide +kernel
theorem dX12_keepsGroup_133 : decode cX12_keepsGroup 133 = .ok (.aload_n 0, 1) := by decide +kernel
theorem dX12_keepsGroup_134 : decode cX12_keepsGroup 134 = .ok (.iconst 1, 1) := by decide +kernel
theorem dX12_keepsGroup_135 : decode cX12_keepsGroup 135 = .ok (.putfield 225, 3) := by decide +kernel
theorem dX12_keepsGroup_138 : decode cX12_keepsGroup 138 = .ok (.iconst 0, 1) := by decide +kernel
theorem dX12_keepsGroup_139 : decode cX12_keepsGroup 139 = .ok (.istore_n 1, 1) := by decide +kernel
theorem dX12_keepsGroup_140 : decode cX12_keepsGroup 140 = .ok (.iload_n 1, 1) := by decide +kernel
theorem dX12_keepsGroup_141 : decode cX12_keepsGroup 141 = .ok (.aload_n 0, 1) := by decide +kernel
theorem dX12_keepsGroup_142 : decode cX12_keepsGroup 142 = .ok (.getfield 192, 3) := by decide +kernel
theorem dX12_keepsGroup_145 : decode cX12_keepsGroup 145 = .ok (.if_icmp .ge 103, 3) := by decide +kernel
theorem dX12_keepsGroup_148 : decode cX12_keepsGroup 148 = .ok (.iconst 1, 1) := by decide +kernel
theorem dX12_keepsGroup_149 : decode cX12_keepsGroup 149 = .ok (.istore_n 2, 1) := by decide +kernel
theorem dX12_keepsGroup_150 : decode cX12_keepsGroup 150 = .ok (.iload_n 1, 1) := by decide +kernel
theorem dX12_keepsGroup_151 : decode cX12_keepsGroup 151 = .ok (.istore_n 3, 1) := by decide +kernel
theorem dX12_keepsGroup_152 : decode cX12_keepsGroup 152 = .ok (.iload_n 3, 1) := by decide +kernel
theorem dX12_keepsGroup_153 : decode cX12_keepsGroup 153 = .ok (.ifCond .eq 18, 3) := by decide +kernel
theorem dX12_keepsGroup_156 : decode cX12_keepsGroup 156 = .ok (.aload_n 0, 1) := by decide +kernel
theorem dX12_keepsGroup_157 : decode cX12_keepsGroup 157 = .ok (.getfield 37, 3) := by decide +kernel
theorem dX12_keepsGroup_160 : decode cX12_keepsGroup 160 = .ok (.iload_n 3, 1) := by decide +kernel
theorem dX12_keepsGroup_161 : decode cX12_keepsGroup 161 = .ok (.aaload, 1) := by decide +kernel
theorem dX12_keepsGroup_162 : decode cX12_keepsGroup 162 = .ok (.iload_n 1, 1) := by decide +kernel
theorem dX12_keepsGroup_163 : decode cX12_keepsGroup 163 = .ok (.iaload, 1) := by decide +kernel
theorem dX12_keepsGroup_164 : decode cX12_keepsGroup 164 = .ok (.istore_n 3, 1) := by decide +kernel
theorem dX12_keepsGroup_165 : decode cX12_keepsGroup 165 = .ok (.iinc 2 1, 3) := by decide +kernel
theorem dX12_keepsGroup_168 : decode cX12_keepsGroup 168 = .ok (.goto (-16), 3) := by decide +kernel
theorem dX12_keepsGroup_171 : decode cX12_keepsGroup 171 = .ok (.aload_n 0, 1) := by decide +kernel
theorem dX12_keepsGroup_172 : decode cX12_keepsGroup 172 = .ok (.getfield 40, 3) := by decide +kernel
theorem dX12_keepsGroup_175 : decode cX12_keepsGroup 175 = .ok (.iload_n 1, 1) := by decide +kernel
theorem dX12_keepsGroup_176 : decode cX12_keepsGroup 176 = .ok (.iload_n 2, 1) := by decide +kernel
theorem dX12_keepsGroup_177 : decode cX12_keepsGroup 177 = .ok (.iastore, 1) := by decide +kernel
theorem dX12_keepsGroup_178 : decode cX12_keepsGroup 178 = .ok (.aload_n 0, 1) := by decide +kernel
theorem dX12_keepsGroup_179 : decode cX12_keepsGroup 179 = .ok (.aload_n 0, 1) := by decide +kernel
theorem dX12_keepsGroup_180 : decode cX12_keepsGroup 180 = .ok (.getfield 225, 3) := by decide +kernel
theorem dX12_keepsGroup_183 : decode cX12_keepsGroup 183 = .ok (.aload_n 0, 1) := by decide +kernel
theorem dX12_keepsGroup_184 : decode cX12_keepsGroup 184 = .ok (.getfield 225, 3) := by decide +kernel
theorem dX12_keepsGroup_187 : decode cX12_keepsGroup 187 = .ok (.iload_n 2, 1) := by decide +kernel
theorem dX12_keepsGroup_188 : decode cX12_keepsGroup 188 = .ok (.invokestatic 228, 3) := by decide +kernel
theorem dX12_keepsGroup_191 : decode cX12_keepsGroup 191 = .ok (.idiv, 1) := by decide +kernel
theorem dX12_keepsGroup_192 : decode cX12_keepsGroup 192 = .ok (.iload_n 2, 1) := by decide +kernel
theorem dX12_keepsGroup_193 : decode cX12_keepsGroup 193 = .ok (.imul, 1) := by decide +kernel
theorem dX12_keepsGroup_194 : decode cX12_keepsGroup 194 = .ok (.putfield 225, 3) := by decide +kernel
theorem dX12_keepsGroup_197 : decode cX12_keepsGroup 197 = .ok (.iconst 0, 1) := by decide +kernel
theorem dX12_keepsGroup_198 : decode cX12_keepsGroup 198 = .ok (.istore 4, 2) := by decide +kernel
theorem dX12_keepsGroup_200 : decode cX12_keepsGroup 200 = .ok (.iload 4, 2) := by decide +kernel
theorem dX12_keepsGroup_202 : decode cX12_keepsGroup 202 = .ok (.aload_n 0, 1) := by decide +kernel
theorem dX12_keepsGroup_203 : decode cX12_keepsGroup 203 = .ok (.getfield 192, 3) := by decide +kernel
theorem dX12_keepsGroup_206 : decode cX12_keepsGroup 206 = .ok (.if_icmp .ge 29, 3) := by decide +kernel
theorem dX12_keepsGroup_209 : decode cX12_keepsGroup 209 = .ok (.aload_n 0, 1) := by decide +kernel
theorem dX12_keepsGroup_210 : decode cX12_keepsGroup 210 = .ok (.getfield 37, 3) := by decide +kernel
theorem dX12_keepsGroup_213 : decode cX12_keepsGroup 213 = .ok (.iload_n 1, 1) := by decide +kernel
theorem dX12_keepsGroup_214 : decode cX12_keepsGroup 214 = .ok (.aaload, 1) := by decide +kernel
theorem dX12_keepsGroup_215 : decode cX12_keepsGroup 215 = .ok (.iload 4, 2) := by decide +kernel
theorem dX12_keepsGroup_217 : decode cX12_keepsGroup 217 = .ok (.iaload, 1) := by decide +kernel
theorem dX12_keepsGroup_218 : decode cX12_keepsGroup 218 = .ok (.ifCond .ne 11, 3) := by decide +kernel
theorem dX12_keepsGroup_221 : decode cX12_keepsGroup 221 = .ok (.aload_n 0, 1) := by decide +kernel
theorem dX12_keepsGroup_222 : decode cX12_keepsGroup 222 = .ok (.getfield 43, 3) := by decide +kernel
theorem dX12_keepsGroup_225 : decode cX12_keepsGroup 225 = .ok (.iload_n 1, 1) := by decide +kernel
theorem dX12_keepsGroup_226 : decode cX12_keepsGroup 226 = .ok (.iload 4, 2) := by decide +kernel
theorem dX12_keepsGroup_228 : decode cX12_keepsGroup 228 = .ok (.iastore, 1) := by decide +kernel
theorem dX12_keepsGroup_229 : decode cX12_keepsGroup 229 = .ok (.iinc 4 1, 3) := by decide +kernel
theorem dX12_keepsGroup_232 : decode cX12_keepsGroup 232 = .ok (.goto (-32), 3) := by decide +kernel
theorem dX12_keepsGroup_235 : decode cX12_keepsGroup 235 = .ok (.aload_n 0, 1) := by decide +kernel
theorem dX12_keepsGroup_236 : decode cX12_keepsGroup 236 = .ok (.getfield 46, 3) := by decide +kernel
theorem dX12_keepsGroup_239 : decode cX12_keepsGroup 239 = .ok (.iload_n 1, 1) := by decide +kernel
theorem dX12_keepsGroup_240 : decode cX12_keepsGroup 240 = .ok (.iconst (-1), 1) := by decide +kernel
theorem dX12_keepsGroup_241 : decode cX12_keepsGroup 241 = .ok (.iastore, 1) := by decide +kernel
theorem dX12_keepsGroup_242 : decode cX12_keepsGroup 242 = .ok (.iinc 1 1, 3) := by decide +kernel
theorem dX12_keepsGroup_245 : decode cX12_keepsGroup 245 = .ok (.goto (-105), 3) := by decide +kernel
theorem dX12_keepsGroup_248 : decode cX12_keepsGroup 248 = .ok (.aload_n 0, 1) := by decide +kernel
theorem dX12_keepsGroup_249 : decode cX12_keepsGroup 249 = .ok (.iconst 0, 1) := by decide +kernel
theorem dX12_keepsGroup_250 : decode cX12_keepsGroup 250 = .ok (.putfield 231, 3) := by decide +kernel
theorem dX12_keepsGroup_253 : decode cX12_keepsGroup 253 = .ok (.iconst 0, 1) := by decide +kernel
theorem dX12_keepsGroup_254 : decode cX12_keepsGroup 254 = .ok (.istore_n 1, 1) := by decide +kernel
theorem dX12_keepsGroup_255 : decode cX12_keepsGroup 255 = .ok (.iload_n 1, 1) := by decide +kernel
theorem dX12_keepsGroup_256 : decode cX12_keepsGroup 256 = .ok (.aload_n 0, 1) := by decide +kernel
theorem dX12_keepsGroup_257 : decode cX12_keepsGroup 257 = .ok (.getfield 192, 3) := by decide +kernel
theorem dX12_keepsGroup_260 : decode cX12_keepsGroup 260 = .ok (.if_icmp .ge 125, 3) := by decide +kernel
theorem dX12_keepsGroup_263 : decode cX12_keepsGroup 263 = .ok (.aload_n 0, 1) := by decide +kernel
theorem dX12_keepsGroup_264 : decode cX12_keepsGroup 264 = .ok (.getfield 46, 3) := by decide +kernel
theorem dX12_keepsGroup_267 : decode cX12_keepsGroup 267 = .ok (.iload_n 1, 1) := by decide +kernel
theorem dX12_keepsGroup_268 : decode cX12_keepsGroup 268 = .ok (.iaload, 1) := by decide +kernel
theorem dX12_keepsGroup_269 : decode cX12_keepsGroup 269 = .ok (.iconst (-1), 1) := by decide +kernel
theorem dX12_keepsGroup_270 : decode cX12_keepsGroup 270 = .ok (.if_icmp .eq 6, 3) := by decide +kernel
theorem dX12_keepsGroup_273 : decode cX12_keepsGroup 273 = .ok (.goto 106, 3) := by decide +kernel
theorem dX12_keepsGroup_276 : decode cX12_keepsGroup 276 = .ok (.aload_n 0, 1) := by decide +kernel
theorem dX12_keepsGroup_277 : decode cX12_keepsGroup 277 = .ok (.getfield 49, 3) := by decide +kernel
theorem dX12_keepsGroup_280 : decode cX12_keepsGroup 280 = .ok (.aload_n 0, 1) := by decide +kernel
theorem dX12_keepsGroup_281 : decode cX12_keepsGroup 281 = .ok (.getfield 231, 3) := by decide +kernel
theorem dX12_keepsGroup_284 : decode cX12_keepsGroup 284 = .ok (.iload_n 1, 1) := by decide +kernel
theorem dX12_keepsGroup_285 : decode cX12_keepsGroup 285 = .ok (.iastore, 1) := by decide +kernel
theorem dX12_keepsGroup_286 : decode cX12_keepsGroup 286 = .ok (.aload_n 0, 1) := by decide +kernel
theorem dX12_keepsGroup_287 : decode cX12_keepsGroup 287 = .ok (.getfield 52, 3) := by decide +kernel
theorem dX12_keepsGroup_290 : decode cX12_keepsGroup 290 = .ok (.aload_n 0, 1) := by decide +kernel
theorem dX12_keepsGroup_291 : decode cX12_keepsGroup 291 = .ok (.getfield 231, 3) := by decide +kernel
theorem dX12_keepsGroup_294 : decode cX12_keepsGroup 294 = .ok (.iconst 0, 1) := by decide +kernel
theorem dX12_keepsGroup_295 : decode cX12_keepsGroup 295 = .ok (.iastore, 1) := by decide +kernel
theorem dX12_keepsGroup_296 : decode cX12_keepsGroup 296 = .ok (.iconst 0, 1) := by decide +kernel
theorem dX12_keepsGroup_297 : decode cX12_keepsGroup 297 = .ok (.istore_n 2, 1) := by decide +kernel
theorem dX12_keepsGroup_298 : decode cX12_keepsGroup 298 = .ok (.iload_n 2, 1) := by decide +kernel
theorem dX12_keepsGroup_299 : decode cX12_keepsGroup 299 = .ok (.aload_n 0, 1) := by decide +kernel
theorem dX12_keepsGroup_300 : decode cX12_keepsGroup 300 = .ok (.getfield 192, 3) := by decide +kernel
theorem dX12_keepsGroup_303 : decode cX12_keepsGroup 303 = .ok (.if_icmp .ge 66, 3) := by decide +kernel
theorem dX12_keepsGroup_306 : decode cX12_keepsGroup 306 = .ok (.aload_n 0, 1) := by decide +kernel
theorem dX12_keepsGroup_307 : decode cX12_keepsGroup 307 = .ok (.getfield 37, 3) := by decide +kernel
theorem dX12_keepsGroup_310 : decode cX12_keepsGroup 310 = .ok (.aload_n 0, 1) := by decide +kernel
theorem dX12_keepsGroup_311 : decode cX12_keepsGroup 311 = .ok (.getfield 37, 3) := by decide +kernel
theorem dX12_keepsGroup_314 : decode cX12_keepsGroup 314 = .ok (.aload_n 0, 1) := by decide +kernel
theorem dX12_keepsGroup_315 : decode cX12_keepsGroup 315 = .ok (.getfield 43, 3) := by decide +kernel
theorem dX12_keepsGroup_318 : decode cX12_keepsGroup 318 = .ok (.iload_n 2, 1) := by decide +kernel
theorem dX12_keepsGroup_319 : decode cX12_keepsGroup 319 = .ok (.iaload, 1) := by decide +kernel
theorem dX12_keepsGroup_320 : decode cX12_keepsGroup 320 = .ok (.aaload, 1) := by decide +kernel
theorem dX12_keepsGroup_321 : decode cX12_keepsGroup 321 = .ok (.iload_n 1, 1) := by decide +kernel
theorem dX12_keepsGroup_322 : decode cX12_keepsGroup 322 = .ok (.iaload, 1) := by decide +kernel
theorem dX12_keepsGroup_323 : decode cX12_keepsGroup 323 = .ok (.aaload, 1) := by decide +kernel
theorem dX12_keepsGroup_324 : decode cX12_keepsGroup 324 = .ok (.iload_n 2, 1) := by decide +kernel
theorem dX12_keepsGroup_325 : decode cX12_keepsGroup 325 = .ok (.iaload, 1) := by decide +kernel
theorem dX12_keepsGroup_326 : decode cX12_keepsGroup 326 = .ok (.istore_n 3, 1) := by decide +kernel
theorem dX12_keepsGroup_327 : decode cX12_keepsGroup 327 = .ok (.aload_n 0, 1) := by decide +kernel
theorem dX12_keepsGroup_328 : decode cX12_keepsGroup 328 = .ok (.getfield 46, 3) := by decide +kernel
theorem dX12_keepsGroup_331 : decode cX12_keepsGroup 331 = .ok (.iload_n 3, 1) := by decide +kernel
theorem dX12_keepsGroup_332 : decode cX12_keepsGroup 332 = .ok (.iaload, 1) := by decide +kernel
theorem dX12_keepsGroup_333 : decode cX12_keepsGroup 333 = .ok (.iconst (-1), 1) := by decide +kernel
theorem dX12_keepsGroup_334 : decode cX12_keepsGroup 334 = .ok (.if_icmp .eq 6, 3) := by decide +kernel
theorem dX12_keepsGroup_337 : decode cX12_keepsGroup 337 = .ok (.goto 26, 3) := by decide +kernel
theorem dX12_keepsGroup_340 : decode cX12_keepsGroup 340 = .ok (.aload_n 0, 1) := by decide +kernel
theorem dX12_keepsGroup_341 : decode cX12_keepsGroup 341 = .ok (.getfield 46, 3) := by decide +kernel
theorem dX12_keepsGroup_344 : decode cX12_keepsGroup 344 = .ok (.iload_n 3, 1) := by decide +kernel
theorem dX12_keepsGroup_345 : decode cX12_keepsGroup 345 = .ok (.aload_n 0, 1) := by decide +kernel
theorem dX12_keepsGroup_346 : decode cX12_keepsGroup 346 = .ok (.getfield 231, 3) := by decide +kernel
theorem dX12_keepsGroup_349 : decode cX12_keepsGroup 349 = .ok (.iastore, 1) := by decide +kernel
theorem dX12_keepsGroup_350 : decode cX12_keepsGroup 350 = .ok (.aload_n 0, 1) := by decide +kernel
theorem dX12_keepsGroup_351 : decode cX12_keepsGroup 351 = .ok (.getfield 52, 3) := by decide +kernel
theorem dX12_keepsGroup_354 : decode cX12_keepsGroup 354 = .ok (.aload_n 0, 1) := by decide +kernel
theorem dX12_keepsGroup_355 : decode cX12_keepsGroup 355 = .ok (.getfield 231, 3) := by decide +kernel
theorem dX12_keepsGroup_358 : decode cX12_keepsGroup 358 = .ok (.dup2, 1) := by decide +kernel
theorem dX12_keepsGroup_359 : decode cX12_keepsGroup 359 = .ok (.iaload, 1) := by decide +kernel
theorem dX12_keepsGroup_360 : decode cX12_keepsGroup 360 = .ok (.iconst 1, 1) := by decide +kernel
theorem dX12_keepsGroup_361 : decode cX12_keepsGroup 361 = .ok (.iadd, 1) := by decide +kernel
theorem dX12_keepsGroup_362 : decode cX12_keepsGroup 362 = .ok (.iastore, 1) := by decide +kernel
theorem dX12_keepsGroup_363 : decode cX12_keepsGroup 363 = .ok (.iinc 2 1, 3) := by decide +kernel
theorem dX12_keepsGroup_366 : decode cX12_keepsGroup 366 = .ok (.goto (-68), 3) := by decide +kernel
theorem dX12_keepsGroup_369 : decode cX12_keepsGroup 369 = .ok (.aload_n 0, 1) := by decide +kernel
theorem dX12_keepsGroup_370 : decode cX12_keepsGroup 370 = .ok (.dup, 1) := by decide +kernel
theorem dX12_keepsGroup_371 : decode cX12_keepsGroup 371 = .ok (.getfield 231, 3) := by decide +kernel
theorem dX12_keepsGroup_374 : decode cX12_keepsGroup 374 = .ok (.iconst 1, 1) := by decide +kernel
theorem dX12_keepsGroup_375 : decode cX12_keepsGroup 375 = .ok (.iadd, 1) := by decide +kernel
theorem dX12_keepsGroup_376 : decode cX12_keepsGroup 376 = .ok (.putfield 231, 3) := by decide +kernel
theorem dX12_keepsGroup_379 : decode cX12_keepsGroup 379 = .ok (.iinc 1 1, 3) := by decide +kernel
theorem dX12_keepsGroup_382 : decode cX12_keepsGroup 382 = .ok (.goto (-127), 3) := by decide +kernel
theorem dX12_keepsGroup_385 : decode cX12_keepsGroup 385 = .ok (.aload_n 0, 1) := by decide +kernel
theorem dX12_keepsGroup_386 : decode cX12_keepsGroup 386 = .ok (.invokevirtual 234, 3) := by decide +kernel
theorem dX12_keepsGroup_389 : decode cX12_keepsGroup 389 = .ok (.aload_n 0, 1) := by decide +kernel
theorem dX12_keepsGroup_390 : decode cX12_keepsGroup 390 = .ok (.iconst 0, 1) := by decide +kernel
theorem dX12_keepsGroup_391 : decode cX12_keepsGroup 391 = .ok (.putfield 237, 3) := by decide +kernel
theorem dX12_keepsGroup_394 : decode cX12_keepsGroup 394 = .ok (.return_, 1) := by decide +kernel
theorem B_X12_keepsGroup_0 {g : Sg} {c t : Nat} (hL : Lay LM g c t σ)  (h : ∀ τ1 : Sg, τ1 = sI σ 172 15 (gI σ 172 12) → (Lay LM g c t τ1 → GG E mX12_keepsGroup 10 [some (vr 172), some (vi 0), none, none, none] [] τ1 rc rs Q)) : GG E mX12_keepsGroup 0 [some (vr 172), none, none, none, none] [] σ rc rs Q := by
  refine r_aload_n (pc := 0) dX12_keepsGroup_0 rfl rfl ?_
  refine r_aload_n (pc := 1) dX12_keepsGroup_1 rfl rfl ?_
  refine r_getI (pc := 2) dX12_keepsGroup_2 (k9 := 12) CL_12 (by decide) (by decide) w_1427 rfl (okO_of (N := 42) (hL.sh (i := 0) rfl (by decide) (by decide)) (by decide)) (fun _ => ?_)
  refine r_putI (pc := 5) dX12_keepsGroup_5 (k9 := 15) CL_12 (by decide) (by decide) w_1430 rfl rfl (fun h9 => absurd h9 (by decide +kernel)) (okO_of (N := 42) (hL.sh (i := 0) rfl (by decide) (by decide)) (by decide)) ?_
  refine nmS (fun τ1 e1 => ?_)
  replace h := h τ1 e1
  have hL := hL.wI e1 (by decide) (.inl (by decide))
  refine r_iconst (pc := 8) dX12_keepsGroup_8 (inRk rfl) ?_
  refine r_istore_n (pc := 9) dX12_keepsGroup_9 rfl (by decide) (l2 := [some (vr 172), some (vi 0), none, none, none]) rfl ?_
  exact (h hL)
theorem B_X12_keepsGroup_10 {g : Sg} {c t : Nat} (hL : Lay LM g c t σ) {x1 : Int} (h : (((gI σ 172 15) ≤ x1 → (Lay LM g c t σ → GG E mX12_keepsGroup 56 [some (vr 172), some (vi 0), none, none, none] [] σ rc rs Q)) ∧ (¬ ((gI σ 172 15) ≤ x1) → (Lay LM g c t σ → GG E mX12_keepsGroup 20 [some (vr 172), some (vi x1), some (vi 0), none, none] [] σ rc rs Q)))) : GG E mX12_keepsGroup 10 [some (vr 172), some (vi x1), none, none, none] [] σ rc rs Q := by
  refine r_iload_n (pc := 10) dX12_keepsGroup_10 rfl rfl ?_
  refine r_aload_n (pc := 11) dX12_keepsGroup_11 rfl rfl ?_
  refine r_getI (pc := 12) dX12_keepsGroup_12 (k9 := 15) CL_12 (by decide) (by decide) w_1430 rfl (okO_of (N := 42) (hL.sh (i := 0) rfl (by decide) (by decide)) (by decide)) (fun _ => ?_)
  refine r_icmp_ge (pc := 15) (tgt := 54) dX12_keepsGroup_15 (by decide) (fun c9 => ?_) (fun c9 => ?_)
  · replace h := h.1 c9
    refine r_iconst (pc := 54) dX12_keepsGroup_54 (inRk rfl) ?_
    refine r_istore_n (pc := 55) dX12_keepsGroup_55 rfl (by decide) (l2 := [some (vr 172), some (vi 0), none, none, none]) rfl ?_
    exact (h hL)
  · replace h := h.2 c9
    refine r_iconst (pc := 18) dX12_keepsGroup_18 (inRk rfl) ?_
    refine r_istore_n (pc := 19) dX12_keepsGroup_19 rfl (by decide) (l2 := [some (vr 172), some (vi x1), some (vi 0), none, none]) rfl ?_
    exact (h hL)
theorem B_X12_keepsGroup_20 {g : Sg} {c t : Nat} (hL : Lay LM g c t σ) {x1 : Int} {x2 : Int} (h : ((8 ≤ x2 → inR (x1 + 1) ∧ (Lay LM g c t σ → GG E mX12_keepsGroup 10 [some (vr 172), some (vi (x1 + 1)), none, none, none] [] σ rc rs Q)) ∧ (¬ (8 ≤ x2) → (0 ≤ x1 ∧ x1 < 120) ∧ (0 ≤ x2 ∧ x2 < 8) ∧ ∀ τ6 : Sg, τ6 = sI σ (310 + x1.toNat) x2.toNat (gI σ (188 + x1.toNat) x2.toNat) → inR (x2 + 1) ∧ (Lay LM g c t τ6 → GG E mX12_keepsGroup 20 [some (vr 172), some (vi x1), some (vi (x2 + 1)), none, none] [] τ6 rc rs Q)))) : GG E mX12_keepsGroup 20 [some (vr 172), some (vi x1), some (vi x2), none, none] [] σ rc rs Q := by
  refine r_iload_n (pc := 20) dX12_keepsGroup_20 rfl rfl ?_
  refine r_bipush (pc := 21) dX12_keepsGroup_21 (by decide) ?_
  refine r_icmp_ge (pc := 23) (tgt := 48) dX12_keepsGroup_23 (by decide) (fun c9 => ?_) (fun c9 => ?_)
  · replace h := h.1 c9
    obtain ⟨o1, h⟩ := h
    refine r_iinc (pc := 48) dX12_keepsGroup_48 rfl (by decide) o1 (l2 := [some (vr 172), some (vi (x1 + 1)), some (vi x2), none, none]) rfl ?_
    refine r_goto (pc := 51) (tgt := 10) dX12_keepsGroup_51 (by decide) ?_
    exact GG.msk [true, true, false, false, false] (h hL)
  · replace h := h.2 c9
    refine r_aload_n (pc := 26) dX12_keepsGroup_26 rfl rfl ?_
    refine r_getR (pc := 27) dX12_keepsGroup_27 (k9 := 20) CL_12 (by decide) (by decide) w_1435 rfl (okO_of (N := 42) (hL.sh (i := 0) rfl (by decide) (by decide)) (by decide)) ?_
    refine eqR (y := 309) (hL.rf (i := 6) rfl) ?_
    refine r_iload_n (pc := 30) dX12_keepsGroup_30 rfl rfl ?_
    obtain ⟨o2, h⟩ := h
    refine r_aaload (pc := 31) dX12_keepsGroup_31 (okB_of (c := 24) (n := 120) (hL.sh (i := 9) rfl (by decide) (by decide)) (by decide) o2) ?_
    have q3 : 310 ≤ 310 + x1.toNat ∧ 310 + x1.toNat < 430 := ⟨Nat.le_add_right _ _, rowB o2 (by decide)⟩
    refine eqR (y := 310 + x1.toNat) (hL.rx (i := 2) rfl (rowC o2 (by decide))) ?_
    refine r_iload_n (pc := 32) dX12_keepsGroup_32 rfl rfl ?_
    refine r_aload_n (pc := 33) dX12_keepsGroup_33 rfl rfl ?_
    refine r_getR (pc := 34) dX12_keepsGroup_34 (k9 := 13) CL_12 (by decide) (by decide) w_1428 rfl (okO_of (N := 42) (hL.sh (i := 0) rfl (by decide) (by decide)) (by decide)) ?_
    refine eqR (y := 187) (hL.rf (i := 4) rfl) ?_
    refine r_iload_n (pc := 37) dX12_keepsGroup_37 rfl rfl ?_
    refine r_aaload (pc := 38) dX12_keepsGroup_38 (okB_of (c := 24) (n := 120) (hL.sh (i := 6) rfl (by decide) (by decide)) (by decide) o2) ?_
    have q4 : 188 ≤ 188 + x1.toNat ∧ 188 + x1.toNat < 308 := ⟨Nat.le_add_right _ _, rowB o2 (by decide)⟩
    refine eqR (y := 188 + x1.toNat) (hL.rx (i := 1) rfl (rowC o2 (by decide))) ?_
    refine r_iload_n (pc := 39) dX12_keepsGroup_39 rfl rfl ?_
    obtain ⟨o5, h⟩ := h
    refine r_iaload (pc := 40) dX12_keepsGroup_40 (okA_of (c := 20) (n := 8) (hL.sh (i := 7) rfl q4.1 q4.2) (Nat.le_trans (by decide) q4.1) o5) ?_
    refine r_iastore (pc := 41) dX12_keepsGroup_41 (okB_of (c := 20) (n := 8) (hL.sh (i := 10) rfl q3.1 q3.2) (Nat.le_trans (by decide) q3.1) o5) ?_
    refine nmS (fun τ6 e6 => ?_)
    replace h := h τ6 e6
    have hL := hL.wI e6 (Nat.le_trans (by decide) q3.1) (.inl ⟨Nat.le_trans (by decide) q3.1, Nat.lt_of_lt_of_le q3.2 (by decide)⟩)
    obtain ⟨o7, h⟩ := h
    refine r_iinc (pc := 42) dX12_keepsGroup_42 rfl (by decide) o7 (l2 := [some (vr 172), some (vi x1), some (vi (x2 + 1)), none, none]) rfl ?_
    refine r_goto (pc := 45) (tgt := 20) dX12_keepsGroup_45 (by decide) ?_
    exact (h hL)
theorem B_X12_keepsGroup_56 {g : Sg} {c t : Nat} (hL : Lay LM g c t σ) {x1 : Int} (h : (((gI σ 172 15) ≤ x1 → ∀ τ1 : Sg, τ1 = sI σ 172 17 1 → (Lay LM g c t τ1 → GG E mX12_keepsGroup 140 [some (vr 172), some (vi 0), none, none, none] [] τ1 rc rs Q)) ∧ (¬ ((gI σ 172 15) ≤ x1) → (Lay LM g c t σ → GG E mX12_keepsGroup 66 [some (vr 172), some (vi x1), some (vi 0), none, none] [] σ rc rs Q)))) : GG E mX12_keepsGroup 56 [some (vr 172), some (vi x1), none, none, none] [] σ rc rs Q := by
  refine r_iload_n (pc := 56) dX12_keepsGroup_56 rfl rfl ?_
  refine r_aload_n (pc := 57) dX12_keepsGroup_57 rfl rfl ?_
  refine r_getI (pc := 58) dX12_keepsGroup_58 (k9 := 15) CL_12 (by decide) (by decide) w_1430 rfl (okO_of (N := 42) (hL.sh (i := 0) rfl (by decide) (by decide)) (by decide)) (fun _ => ?_)
  refine r_icmp_ge (pc := 61) (tgt := 133) dX12_keepsGroup_61 (by decide) (fun c9 => ?_) (fun c9 => ?_)
  · replace h := h.1 c9
    refine r_aload_n (pc := 133) dX12_keepsGroup_133 rfl rfl ?_
    refine r_iconst (pc := 134) dX12_keepsGroup_134 (inRk rfl) ?_
    refine r_putI (pc := 135) dX12_keepsGroup_135 (k9 := 17) CL_12 (by decide) (by decide) w_1432 rfl rfl (fun h9 => absurd h9 (by decide +kernel)) (okO_of (N := 42) (hL.sh (i := 0) rfl (by decide) (by decide)) (by decide)) ?_
    refine nmS (fun τ1 e1 => ?_)
    replace h := h τ1 e1
    have hL := hL.wI e1 (by decide) (.inl (by decide))
    refine r_iconst (pc := 138) dX12_keepsGroup_138 (inRk rfl) ?_
    refine r_istore_n (pc := 139) dX12_keepsGroup_139 rfl (by decide) (l2 := [some (vr 172), some (vi 0), none, none, none]) rfl ?_
    exact (h hL)
  · replace h := h.2 c9
    refine r_iconst (pc := 64) dX12_keepsGroup_64 (inRk rfl) ?_
    refine r_istore_n (pc := 65) dX12_keepsGroup_65 rfl (by decide) (l2 := [some (vr 172), some (vi x1), some (vi 0), none, none]) rfl ?_
    exact (h hL)
theorem B_X12_keepsGroup_66 {g : Sg} {c t : Nat} (hL : Lay LM g c t σ) {x1 : Int} {x2 : Int} (h : (((gI σ 172 15) ≤ x2 → inR (x1 + 1) ∧ (Lay LM g c t σ → GG E mX12_keepsGroup 56 [some (vr 172), some (vi (x1 + 1)), none, none, none] [] σ rc rs Q)) ∧ (¬ ((gI σ 172 15) ≤ x2) → (0 ≤ x1 ∧ x1 < 120) ∧ (0 ≤ x2 ∧ x2 < 120) ∧ (Lay LM g c t σ → CC E mX12_root [vr 172, vi 0] σ (KI (fun r6 τ7 => Lay LM g c t τ7 ∧ (inR r6 → (Lay LM g c t τ7 → CC E mX12_multiplies [vr 172, vr (310 + x1.toNat), vi 0, vr (310 + x2.toNat), vi 0, vi r6] τ7 (KI (fun r8 τ9 => Lay LM g c t τ9 ∧ (inR r8 → (Lay LM g c t τ9 → CC E mX12_placeIn [vr 309, vi (gI τ9 172 15), vr 308] τ9 (KI (fun r11 τ12 => Lay LM g c t τ12 ∧ (inR r11 → ∀ τ13 : Sg, τ13 = sI τ12 (431 + x1.toNat) x2.toNat r11 → inR (x2 + 1) ∧ (Lay LM g c t τ13 → GG E mX12_keepsGroup 66 [some (vr 172), some (vi x1), some (vi (x2 + 1)), none, none] [] τ13 rc rs Q))) (fun _ _ => False))))) (fun _ _ => False))))) (fun _ _ => False)))))) : GG E mX12_keepsGroup 66 [some (vr 172), some (vi x1), some (vi x2), none, none] [] σ rc rs Q := by
  refine r_iload_n (pc := 66) dX12_keepsGroup_66 rfl rfl ?_
  refine r_aload_n (pc := 67) dX12_keepsGroup_67 rfl rfl ?_
  refine r_getI (pc := 68) dX12_keepsGroup_68 (k9 := 15) CL_12 (by decide) (by decide) w_1430 rfl (okO_of (N := 42) (hL.sh (i := 0) rfl (by decide) (by decide)) (by decide)) (fun _ => ?_)
  refine r_icmp_ge (pc := 71) (tgt := 127) dX12_keepsGroup_71 (by decide) (fun c9 => ?_) (fun c9 => ?_)
  · replace h := h.1 c9
    obtain ⟨o1, h⟩ := h
    refine r_iinc (pc := 127) dX12_keepsGroup_127 rfl (by decide) o1 (l2 := [some (vr 172), some (vi (x1 + 1)), some (vi x2), none, none]) rfl ?_
    refine r_goto (pc := 130) (tgt := 56) dX12_keepsGroup_130 (by decide) ?_
    exact GG.msk [true, true, false, false, false] (h hL)
  · replace h := h.2 c9
    refine r_aload_n (pc := 74) dX12_keepsGroup_74 rfl rfl ?_
    refine r_aload_n (pc := 75) dX12_keepsGroup_75 rfl rfl ?_
    refine r_getR (pc := 76) dX12_keepsGroup_76 (k9 := 20) CL_12 (by decide) (by decide) w_1435 rfl (okO_of (N := 42) (hL.sh (i := 0) rfl (by decide) (by decide)) (by decide)) ?_
    refine eqR (y := 309) (hL.rf (i := 6) rfl) ?_
    refine r_iload_n (pc := 79) dX12_keepsGroup_79 rfl rfl ?_
    obtain ⟨o2, h⟩ := h
    refine r_aaload (pc := 80) dX12_keepsGroup_80 (okB_of (c := 24) (n := 120) (hL.sh (i := 9) rfl (by decide) (by decide)) (by decide) o2) ?_
    have q3 : 310 ≤ 310 + x1.toNat ∧ 310 + x1.toNat < 430 := ⟨Nat.le_add_right _ _, rowB o2 (by decide)⟩
    refine eqR (y := 310 + x1.toNat) (hL.rx (i := 2) rfl (rowC o2 (by decide))) ?_
    refine r_iconst (pc := 81) dX12_keepsGroup_81 (inRk rfl) ?_
    refine r_aload_n (pc := 82) dX12_keepsGroup_82 rfl rfl ?_
    refine r_getR (pc := 83) dX12_keepsGroup_83 (k9 := 20) CL_12 (by decide) (by decide) w_1435 rfl (okO_of (N := 42) (hL.sh (i := 0) rfl (by decide) (by decide)) (by decide)) ?_
    refine eqR (y := 309) (hL.rf (i := 6) rfl) ?_
    refine r_iload_n (pc := 86) dX12_keepsGroup_86 rfl rfl ?_
    obtain ⟨o4, h⟩ := h
    refine r_aaload (pc := 87) dX12_keepsGroup_87 (okB_of (c := 24) (n := 120) (hL.sh (i := 9) rfl (by decide) (by decide)) (by decide) o4) ?_
    have q5 : 310 ≤ 310 + x2.toNat ∧ 310 + x2.toNat < 430 := ⟨Nat.le_add_right _ _, rowB o4 (by decide)⟩
    refine eqR (y := 310 + x2.toNat) (hL.rx (i := 2) rfl (rowC o4 (by decide))) ?_
    refine r_iconst (pc := 88) dX12_keepsGroup_88 (inRk rfl) ?_
    refine r_aload_n (pc := 89) dX12_keepsGroup_89 rfl rfl ?_
    refine r_iconst (pc := 90) dX12_keepsGroup_90 (inRk rfl) ?_
    refine c_VI0N (M := mX12_keepsGroup) (pc := 91) (As := [vi 0]) dX12_keepsGroup_91 K_X12_root w_1377 ⟨by decide, by decide⟩ (Nat.le_of_ble_eq_true rfl) rfl rfl (ci := 12) rfl rfl (by decide) (okO_of (N := 42) (hL.sh (i := 0) rfl (by decide) (by decide)) (by decide)) (h hL) (fun r6 τ7 h8 hr9 => ?_) rfl
    replace hL := h8.1
    replace h := h8.2 hr9
    refine c_VI0N (M := mX12_keepsGroup) (pc := 94) (As := [vr (310 + x1.toNat), vi 0, vr (310 + x2.toNat), vi 0, vi r6]) dX12_keepsGroup_94 K_X12_multiplies w_1381 ⟨by decide, by decide⟩ (Nat.le_of_ble_eq_true rfl) rfl rfl (ci := 12) rfl rfl (by decide) (okO_of (N := 42) (hL.sh (i := 0) rfl (by decide) (by decide)) (by decide)) (h hL) (fun r8 τ9 h8 hr9 => ?_) rfl
    replace hL := h8.1
    replace h := h8.2 hr9
    refine r_istore_n (pc := 97) dX12_keepsGroup_97 rfl (by decide) (l2 := [some (vr 172), some (vi x1), some (vi x2), some (vi r8), none]) rfl ?_
    refine r_aload_n (pc := 98) dX12_keepsGroup_98 rfl rfl ?_
    refine r_getR (pc := 99) dX12_keepsGroup_99 (k9 := 21) CL_12 (by decide) (by decide) w_1436 rfl (okO_of (N := 42) (hL.sh (i := 0) rfl (by decide) (by decide)) (by decide)) ?_
    refine eqR (y := 430) (hL.rf (i := 7) rfl) ?_
    refine r_iload_n (pc := 102) dX12_keepsGroup_102 rfl rfl ?_
    refine r_aaload (pc := 103) dX12_keepsGroup_103 (okB_of (c := 24) (n := 120) (hL.sh (i := 11) rfl (by decide) (by decide)) (by decide) o2) ?_
    have q10 : 431 ≤ 431 + x1.toNat ∧ 431 + x1.toNat < 551 := ⟨Nat.le_add_right _ _, rowB o2 (by decide)⟩
    refine eqR (y := 431 + x1.toNat) (hL.rx (i := 3) rfl (rowC o2 (by decide))) ?_
    refine r_iload_n (pc := 104) dX12_keepsGroup_104 rfl rfl ?_
    refine r_aload_n (pc := 105) dX12_keepsGroup_105 rfl rfl ?_
    refine r_getR (pc := 106) dX12_keepsGroup_106 (k9 := 20) CL_12 (by decide) (by decide) w_1435 rfl (okO_of (N := 42) (hL.sh (i := 0) rfl (by decide) (by decide)) (by decide)) ?_
    refine eqR (y := 309) (hL.rf (i := 6) rfl) ?_
    refine r_aload_n (pc := 109) dX12_keepsGroup_109 rfl rfl ?_
    refine r_getI (pc := 110) dX12_keepsGroup_110 (k9 := 15) CL_12 (by decide) (by decide) w_1430 rfl (okO_of (N := 42) (hL.sh (i := 0) rfl (by decide) (by decide)) (by decide)) (fun _ => ?_)
    refine r_aload_n (pc := 113) dX12_keepsGroup_113 rfl rfl ?_
    refine r_getR (pc := 114) dX12_keepsGroup_114 (k9 := 14) CL_12 (by decide) (by decide) w_1429 rfl (okO_of (N := 42) (hL.sh (i := 0) rfl (by decide) (by decide)) (by decide)) ?_
    refine eqR (y := 308) (hL.rf (i := 5) rfl) ?_
    refine c_SI0N (M := mX12_keepsGroup) (pc := 117) (As := [vr 309, vi (gI τ9 172 15), vr 308]) dX12_keepsGroup_117 K_X12_placeIn w_1395 ⟨by decide, by decide⟩ (Nat.le_of_ble_eq_true rfl) rfl rfl (h hL) (fun r11 τ12 h8 hr9 => ?_) rfl
    replace hL := h8.1
    replace h := h8.2 hr9
    refine r_iastore (pc := 120) dX12_keepsGroup_120 (okB_of (c := 20) (n := 120) (hL.sh (i := 12) rfl q10.1 q10.2) (Nat.le_trans (by decide) q10.1) o4) ?_
    refine nmS (fun τ13 e13 => ?_)
    replace h := h τ13 e13
    have hL := hL.wI e13 (Nat.le_trans (by decide) q10.1) (.inl ⟨Nat.le_trans (by decide) q10.1, Nat.lt_of_lt_of_le q10.2 (by decide)⟩)
    obtain ⟨o14, h⟩ := h
    refine r_iinc (pc := 121) dX12_keepsGroup_121 rfl (by decide) o14 (l2 := [some (vr 172), some (vi x1), some (vi (x2 + 1)), some (vi r8), none]) rfl ?_
    refine r_goto (pc := 124) (tgt := 66) dX12_keepsGroup_124 (by decide) ?_
    exact GG.msk [true, true, true, false, false] (h hL)
theorem B_X12_keepsGroup_140 {g : Sg} {c t : Nat} (hL : Lay LM g c t σ) {x1 : Int} (h : (((gI σ 172 15) ≤ x1 → ∀ τ1 : Sg, τ1 = sI σ 172 16 0 → (Lay LM g c t τ1 → GG E mX12_keepsGroup 255 [some (vr 172), some (vi 0), none, none, none] [] τ1 rc rs Q)) ∧ (¬ ((gI σ 172 15) ≤ x1) → (Lay LM g c t σ → GG E mX12_keepsGroup 152 [some (vr 172), some (vi x1), some (vi 1), some (vi x1), none] [] σ rc rs Q)))) : GG E mX12_keepsGroup 140 [some (vr 172), some (vi x1), none, none, none] [] σ rc rs Q := by
  refine r_iload_n (pc := 140) dX12_keepsGroup_140 rfl rfl ?_
  refine r_aload_n (pc := 141) dX12_keepsGroup_141 rfl rfl ?_
  refine r_getI (pc := 142) dX12_keepsGroup_142 (k9 := 15) CL_12 (by decide) (by decide) w_1430 rfl (okO_of (N := 42) (hL.sh (i := 0) rfl (by decide) (by decide)) (by decide)) (fun _ => ?_)
  refine r_icmp_ge (pc := 145) (tgt := 248) dX12_keepsGroup_145 (by decide) (fun c9 => ?_) (fun c9 => ?_)
  · replace h := h.1 c9
    refine r_aload_n (pc := 248) dX12_keepsGroup_248 rfl rfl ?_
    refine r_iconst (pc := 249) dX12_keepsGroup_249 (inRk rfl) ?_
    refine r_putI (pc := 250) dX12_keepsGroup_250 (k9 := 16) CL_12 (by decide) (by decide) w_1431 rfl rfl (fun h9 => absurd h9 (by decide +kernel)) (okO_of (N := 42) (hL.sh (i := 0) rfl (by decide) (by decide)) (by decide)) ?_
    refine nmS (fun τ1 e1 => ?_)
    replace h := h τ1 e1
    have hL := hL.wI e1 (by decide) (.inl (by decide))
    refine r_iconst (pc := 253) dX12_keepsGroup_253 (inRk rfl) ?_
    refine r_istore_n (pc := 254) dX12_keepsGroup_254 rfl (by decide) (l2 := [some (vr 172), some (vi 0), none, none, none]) rfl ?_
    exact (h hL)
  · replace h := h.2 c9
    refine r_iconst (pc := 148) dX12_keepsGroup_148 (inRk rfl) ?_
    refine r_istore_n (pc := 149) dX12_keepsGroup_149 rfl (by decide) (l2 := [some (vr 172), some (vi x1), some (vi 1), none, none]) rfl ?_
    refine r_iload_n (pc := 150) dX12_keepsGroup_150 rfl rfl ?_
    refine r_istore_n (pc := 151) dX12_keepsGroup_151 rfl (by decide) (l2 := [some (vr 172), some (vi x1), some (vi 1), some (vi x1), none]) rfl ?_
    exact (h hL)
theorem B_X12_keepsGroup_152 {g : Sg} {c t : Nat} (hL : Lay LM g c t σ) {x1 : Int} {x2 : Int} {x3 : Int} (h : ((x3 = 0 → (0 ≤ x1 ∧ x1 < 120) ∧ ∀ τ2 : Sg, τ2 = sI σ 551 x1.toNat x2 → (Lay LM g c t τ2 → CC E mX12_common [vi (gI τ2 172 17), vi x2] τ2 (KI (fun r3 τ4 => Lay LM g c t τ4 ∧ (inR r3 → r3 ≠ 0 ∧ inR ((gI τ2 172 17).tdiv r3) ∧ inR (((gI τ2 172 17).tdiv r3) * x2) ∧ ∀ τ8 : Sg, τ8 = sI τ4 172 17 (((gI τ2 172 17).tdiv r3) * x2) → (Lay LM g c t τ8 → GG E mX12_keepsGroup 200 [some (vr 172), some (vi x1), none, none, some (vi 0)] [] τ8 rc rs Q))) (fun _ _ => False)))) ∧ (¬ (x3 = 0) → (0 ≤ x3 ∧ x3 < 120) ∧ (0 ≤ x1 ∧ x1 < 120) ∧ inR (x2 + 1) ∧ (Lay LM g c t σ → GG E mX12_keepsGroup 152 [some (vr 172), some (vi x1), some (vi (x2 + 1)), some (vi (gI σ (431 + x3.toNat) x1.toNat)), none] [] σ rc rs Q)))) : GG E mX12_keepsGroup 152 [some (vr 172), some (vi x1), some (vi x2), some (vi x3), none] [] σ rc rs Q := by
  refine r_iload_n (pc := 152) dX12_keepsGroup_152 rfl rfl ?_
  refine r_if_eq (pc := 153) (tgt := 171) dX12_keepsGroup_153 (by decide) (fun c9 => ?_) (fun c9 => ?_)
  · replace h := h.1 c9
    refine r_aload_n (pc := 171) dX12_keepsGroup_171 rfl rfl ?_
    refine r_getR (pc := 172) dX12_keepsGroup_172 (k9 := 22) CL_12 (by decide) (by decide) w_1437 rfl (okO_of (N := 42) (hL.sh (i := 0) rfl (by decide) (by decide)) (by decide)) ?_
    refine eqR (y := 551) (hL.rf (i := 8) rfl) ?_
    refine r_iload_n (pc := 175) dX12_keepsGroup_175 rfl rfl ?_
    refine r_iload_n (pc := 176) dX12_keepsGroup_176 rfl rfl ?_
    obtain ⟨o1, h⟩ := h
    refine r_iastore (pc := 177) dX12_keepsGroup_177 (okB_of (c := 20) (n := 120) (hL.sh (i := 13) rfl (by decide) (by decide)) (by decide) o1) ?_
    refine nmS (fun τ2 e2 => ?_)
    replace h := h τ2 e2
    have hL := hL.wI e2 (by decide) (.inl (by decide))
    refine r_aload_n (pc := 178) dX12_keepsGroup_178 rfl rfl ?_
    refine r_aload_n (pc := 179) dX12_keepsGroup_179 rfl rfl ?_
    refine r_getI (pc := 180) dX12_keepsGroup_180 (k9 := 17) CL_12 (by decide) (by decide) w_1432 rfl (okO_of (N := 42) (hL.sh (i := 0) rfl (by decide) (by decide)) (by decide)) (fun _ => ?_)
    refine r_aload_n (pc := 183) dX12_keepsGroup_183 rfl rfl ?_
    refine r_getI (pc := 184) dX12_keepsGroup_184 (k9 := 17) CL_12 (by decide) (by decide) w_1432 rfl (okO_of (N := 42) (hL.sh (i := 0) rfl (by decide) (by decide)) (by decide)) (fun _ => ?_)
    refine r_iload_n (pc := 187) dX12_keepsGroup_187 rfl rfl ?_
    refine c_SI0N (M := mX12_keepsGroup) (pc := 188) (As := [vi (gI τ2 172 17), vi x2]) dX12_keepsGroup_188 K_X12_common w_1405 ⟨by decide, by decide⟩ (Nat.le_of_ble_eq_true rfl) rfl rfl (h hL) (fun r3 τ4 h8 hr9 => ?_) rfl
    replace hL := h8.1
    replace h := h8.2 hr9
    obtain ⟨o5, h⟩ := h
    obtain ⟨o6, h⟩ := h
    refine r_idiv (pc := 191) dX12_keepsGroup_191 o5 o6 ?_
    refine r_iload_n (pc := 192) dX12_keepsGroup_192 rfl rfl ?_
    obtain ⟨o7, h⟩ := h
    refine r_imul (pc := 193) dX12_keepsGroup_193 o7 ?_
    refine r_putI (pc := 194) dX12_keepsGroup_194 (k9 := 17) CL_12 (by decide) (by decide) w_1432 rfl rfl (fun h9 => absurd h9 (by decide +kernel)) (okO_of (N := 42) (hL.sh (i := 0) rfl (by decide) (by decide)) (by decide)) ?_
    refine nmS (fun τ8 e8 => ?_)
    replace h := h τ8 e8
    have hL := hL.wI e8 (by decide) (.inl (by decide))
    refine r_iconst (pc := 197) dX12_keepsGroup_197 (inRk rfl) ?_
    refine r_istore (pc := 198) dX12_keepsGroup_198 (by decide) (l2 := [some (vr 172), some (vi x1), some (vi x2), some (vi x3), some (vi 0)]) rfl ?_
    exact GG.msk [true, true, false, false, true] (h hL)
  · replace h := h.2 c9
    refine r_aload_n (pc := 156) dX12_keepsGroup_156 rfl rfl ?_
    refine r_getR (pc := 157) dX12_keepsGroup_157 (k9 := 21) CL_12 (by decide) (by decide) w_1436 rfl (okO_of (N := 42) (hL.sh (i := 0) rfl (by decide) (by decide)) (by decide)) ?_
    refine eqR (y := 430) (hL.rf (i := 7) rfl) ?_
    refine r_iload_n (pc := 160) dX12_keepsGroup_160 rfl rfl ?_
    obtain ⟨o9, h⟩ := h
    refine r_aaload (pc := 161) dX12_keepsGroup_161 (okB_of (c := 24) (n := 120) (hL.sh (i := 11) rfl (by decide) (by decide)) (by decide) o9) ?_
    have q10 : 431 ≤ 431 + x3.toNat ∧ 431 + x3.toNat < 551 := ⟨Nat.le_add_right _ _, rowB o9 (by decide)⟩
    refine eqR (y := 431 + x3.toNat) (hL.rx (i := 3) rfl (rowC o9 (by decide))) ?_
    refine r_iload_n (pc := 162) dX12_keepsGroup_162 rfl rfl ?_
    obtain ⟨o11, h⟩ := h
    refine r_iaload (pc := 163) dX12_keepsGroup_163 (okA_of (c := 20) (n := 120) (hL.sh (i := 12) rfl q10.1 q10.2) (Nat.le_trans (by decide) q10.1) o11) ?_
    refine r_istore_n (pc := 164) dX12_keepsGroup_164 rfl (by decide) (l2 := [some (vr 172), some (vi x1), some (vi x2), some (vi (gI σ (431 + x3.toNat) x1.toNat)), none]) rfl ?_
    obtain ⟨o12, h⟩ := h
    refine r_iinc (pc := 165) dX12_keepsGroup_165 rfl (by decide) o12 (l2 := [some (vr 172), some (vi x1), some (vi (x2 + 1)), some (vi (gI σ (431 + x3.toNat) x1.toNat)), none]) rfl ?_
    refine r_goto (pc := 168) (tgt := 152) dX12_keepsGroup_168 (by decide) ?_
    exact (h hL)
theorem B_X12_keepsGroup_200 {g : Sg} {c t : Nat} (hL : Lay LM g c t σ) {x1 : Int} {x4 : Int} (h : (((gI σ 172 15) ≤ x4 → (0 ≤ x1 ∧ x1 < 120) ∧ ∀ τ2 : Sg, τ2 = sI σ 553 x1.toNat (-1) → inR (x1 + 1) ∧ (Lay LM g c t τ2 → GG E mX12_keepsGroup 140 [some (vr 172), some (vi (x1 + 1)), none, none, none] [] τ2 rc rs Q)) ∧ (¬ ((gI σ 172 15) ≤ x4) → (0 ≤ x1 ∧ x1 < 120) ∧ (0 ≤ x4 ∧ x4 < 120) ∧ (((gI σ (431 + x1.toNat) x4.toNat) ≠ 0 → inR (x4 + 1) ∧ (Lay LM g c t σ → GG E mX12_keepsGroup 200 [some (vr 172), some (vi x1), none, none, some (vi (x4 + 1))] [] σ rc rs Q)) ∧ ((gI σ (431 + x1.toNat) x4.toNat) = 0 → ∀ τ8 : Sg, τ8 = sI σ 552 x1.toNat x4 → inR (x4 + 1) ∧ (Lay LM g c t τ8 → GG E mX12_keepsGroup 200 [some (vr 172), some (vi x1), none, none, some (vi (x4 + 1))] [] τ8 rc rs Q)))))) : GG E mX12_keepsGroup 200 [some (vr 172), some (vi x1), none, none, some (vi x4)] [] σ rc rs Q := by
  refine r_iload (pc := 200) dX12_keepsGroup_200 rfl ?_
  refine r_aload_n (pc := 202) dX12_keepsGroup_202 rfl rfl ?_
  refine r_getI (pc := 203) dX12_keepsGroup_203 (k9 := 15) CL_12 (by decide) (by decide) w_1430 rfl (okO_of (N := 42) (hL.sh (i := 0) rfl (by decide) (by decide)) (by decide)) (fun _ => ?_)
  refine r_icmp_ge (pc := 206) (tgt := 235) dX12_keepsGroup_206 (by decide) (fun c9 => ?_) (fun c9 => ?_)
  · replace h := h.1 c9
    refine r_aload_n (pc := 235) dX12_keepsGroup_235 rfl rfl ?_
    refine r_getR (pc := 236) dX12_keepsGroup_236 (k9 := 24) CL_12 (by decide) (by decide) w_1439 rfl (okO_of (N := 42) (hL.sh (i := 0) rfl (by decide) (by decide)) (by decide)) ?_
    refine eqR (y := 553) (hL.rf (i := 10) rfl) ?_
    refine r_iload_n (pc := 239) dX12_keepsGroup_239 rfl rfl ?_
    refine r_iconst (pc := 240) dX12_keepsGroup_240 (inRk rfl) ?_
    obtain ⟨o1, h⟩ := h
    refine r_iastore (pc := 241) dX12_keepsGroup_241 (okB_of (c := 20) (n := 120) (hL.sh (i := 15) rfl (by decide) (by decide)) (by decide) o1) ?_
    refine nmS (fun τ2 e2 => ?_)
    replace h := h τ2 e2
    have hL := hL.wI e2 (by decide) (.inl (by decide))
    obtain ⟨o3, h⟩ := h
    refine r_iinc (pc := 242) dX12_keepsGroup_242 rfl (by decide) o3 (l2 := [some (vr 172), some (vi (x1 + 1)), none, none, some (vi x4)]) rfl ?_
    refine r_goto (pc := 245) (tgt := 140) dX12_keepsGroup_245 (by decide) ?_
    exact GG.msk [true, true, false, false, false] (h hL)
  · replace h := h.2 c9
    refine r_aload_n (pc := 209) dX12_keepsGroup_209 rfl rfl ?_
    refine r_getR (pc := 210) dX12_keepsGroup_210 (k9 := 21) CL_12 (by decide) (by decide) w_1436 rfl (okO_of (N := 42) (hL.sh (i := 0) rfl (by decide) (by decide)) (by decide)) ?_
    refine eqR (y := 430) (hL.rf (i := 7) rfl) ?_
    refine r_iload_n (pc := 213) dX12_keepsGroup_213 rfl rfl ?_
    obtain ⟨o4, h⟩ := h
    refine r_aaload (pc := 214) dX12_keepsGroup_214 (okB_of (c := 24) (n := 120) (hL.sh (i := 11) rfl (by decide) (by decide)) (by decide) o4) ?_
    have q5 : 431 ≤ 431 + x1.toNat ∧ 431 + x1.toNat < 551 := ⟨Nat.le_add_right _ _, rowB o4 (by decide)⟩
    refine eqR (y := 431 + x1.toNat) (hL.rx (i := 3) rfl (rowC o4 (by decide))) ?_
    refine r_iload (pc := 215) dX12_keepsGroup_215 rfl ?_
    obtain ⟨o6, h⟩ := h
    refine r_iaload (pc := 217) dX12_keepsGroup_217 (okA_of (c := 20) (n := 120) (hL.sh (i := 12) rfl q5.1 q5.2) (Nat.le_trans (by decide) q5.1) o6) ?_
    refine r_if_ne (pc := 218) (tgt := 229) dX12_keepsGroup_218 (by decide) (fun c9 => ?_) (fun c9 => ?_)
    · replace h := h.1 c9
      obtain ⟨o7, h⟩ := h
      refine r_iinc (pc := 229) dX12_keepsGroup_229 rfl (by decide) o7 (l2 := [some (vr 172), some (vi x1), none, none, some (vi (x4 + 1))]) rfl ?_
      refine r_goto (pc := 232) (tgt := 200) dX12_keepsGroup_232 (by decide) ?_
      exact (h hL)
    · replace h := h.2 c9
      refine r_aload_n (pc := 221) dX12_keepsGroup_221 rfl rfl ?_
      refine r_getR (pc := 222) dX12_keepsGroup_222 (k9 := 23) CL_12 (by decide) (by decide) w_1438 rfl (okO_of (N := 42) (hL.sh (i := 0) rfl (by decide) (by decide)) (by decide)) ?_
      refine eqR (y := 552) (hL.rf (i := 9) rfl) ?_
      refine r_iload_n (pc := 225) dX12_keepsGroup_225 rfl rfl ?_
      refine r_iload (pc := 226) dX12_keepsGroup_226 rfl ?_
      refine r_iastore (pc := 228) dX12_keepsGroup_228 (okB_of (c := 20) (n := 120) (hL.sh (i := 14) rfl (by decide) (by decide)) (by decide) o4) ?_
      refine nmS (fun τ8 e8 => ?_)
      replace h := h τ8 e8
      have hL := hL.wI e8 (by decide) (.inl (by decide))
      obtain ⟨o9, h⟩ := h
      refine r_iinc (pc := 229) dX12_keepsGroup_229 rfl (by decide) o9 (l2 := [some (vr 172), some (vi x1), none, none, some (vi (x4 + 1))]) rfl ?_
      refine r_goto (pc := 232) (tgt := 200) dX12_keepsGroup_232 (by decide) ?_
      exact (h hL)
theorem B_X12_keepsGroup_255 {g : Sg} {c t : Nat} (hL : Lay LM g c t σ) {x1 : Int} (h : (((gI σ 172 15) ≤ x1 → (Lay LM g c t σ → CC E mX12_laysPrime [vr 172] σ (KV (fun τ2 => Lay LM g c t τ2 ∧ ∀ τ3 : Sg, τ3 = sI τ2 172 27 0 → (Lay LM g c t τ3 → Q (.inl none) τ3)) (fun _ _ => False)))) ∧ (¬ ((gI σ 172 15) ≤ x1) → (0 ≤ x1 ∧ x1 < 120) ∧ (((gI σ 553 x1.toNat) = (-1) → (0 ≤ (gI σ 172 16) ∧ (gI σ 172 16) < 120) ∧ ∀ τ6 : Sg, τ6 = sI σ 554 (gI σ 172 16).toNat x1 → (0 ≤ (gI τ6 172 16) ∧ (gI τ6 172 16) < 120) ∧ ∀ τ8 : Sg, τ8 = sI τ6 555 (gI τ6 172 16).toNat 0 → (Lay LM g c t τ8 → GG E mX12_keepsGroup 298 [some (vr 172), some (vi x1), some (vi 0), none, none] [] τ8 rc rs Q)) ∧ (¬ ((gI σ 553 x1.toNat) = (-1)) → inR (x1 + 1) ∧ (Lay LM g c t σ → GG E mX12_keepsGroup 255 [some (vr 172), some (vi (x1 + 1)), none, none, none] [] σ rc rs Q)))))) : GG E mX12_keepsGroup 255 [some (vr 172), some (vi x1), none, none, none] [] σ rc rs Q := by
  refine r_iload_n (pc := 255) dX12_keepsGroup_255 rfl rfl ?_
  refine r_aload_n (pc := 256) dX12_keepsGroup_256 rfl rfl ?_
  refine r_getI (pc := 257) dX12_keepsGroup_257 (k9 := 15) CL_12 (by decide) (by decide) w_1430 rfl (okO_of (N := 42) (hL.sh (i := 0) rfl (by decide) (by decide)) (by decide)) (fun _ => ?_)
  refine r_icmp_ge (pc := 260) (tgt := 385) dX12_keepsGroup_260 (by decide) (fun c9 => ?_) (fun c9 => ?_)
  · replace h := h.1 c9
    refine r_aload_n (pc := 385) dX12_keepsGroup_385 rfl rfl ?_
    refine c_VV0N (M := mX12_keepsGroup) (pc := 386) (As := []) dX12_keepsGroup_386 K_X12_laysPrime w_1408 ⟨by decide, by decide⟩ (Nat.le_of_ble_eq_true rfl) rfl rfl (ci := 12) rfl rfl (by decide) (okO_of (N := 42) (hL.sh (i := 0) rfl (by decide) (by decide)) (by decide)) (h hL) (fun τ2 h8 => ?_) rfl
    replace hL := h8.1
    replace h := h8.2
    refine r_aload_n (pc := 389) dX12_keepsGroup_389 rfl rfl ?_
    refine r_iconst (pc := 390) dX12_keepsGroup_390 (inRk rfl) ?_
    refine r_putI (pc := 391) dX12_keepsGroup_391 (k9 := 27) CL_12 (by decide) (by decide) w_1442 rfl rfl (fun _ => by decide) (okO_of (N := 42) (hL.sh (i := 0) rfl (by decide) (by decide)) (by decide)) ?_
    refine nmS (fun τ3 e3 => ?_)
    replace h := h τ3 e3
    have hL := hL.wI e3 (by decide) (.inl (by decide))
    exact r_return (pc := 394) dX12_keepsGroup_394 (by decide +kernel) rfl (h hL)
  · replace h := h.2 c9
    refine r_aload_n (pc := 263) dX12_keepsGroup_263 rfl rfl ?_
    refine r_getR (pc := 264) dX12_keepsGroup_264 (k9 := 24) CL_12 (by decide) (by decide) w_1439 rfl (okO_of (N := 42) (hL.sh (i := 0) rfl (by decide) (by decide)) (by decide)) ?_
    refine eqR (y := 553) (hL.rf (i := 10) rfl) ?_
    refine r_iload_n (pc := 267) dX12_keepsGroup_267 rfl rfl ?_
    obtain ⟨o4, h⟩ := h
    refine r_iaload (pc := 268) dX12_keepsGroup_268 (okA_of (c := 20) (n := 120) (hL.sh (i := 15) rfl (by decide) (by decide)) (by decide) o4) ?_
    refine r_iconst (pc := 269) dX12_keepsGroup_269 (inRk rfl) ?_
    refine r_icmp_eq (pc := 270) (tgt := 276) dX12_keepsGroup_270 (by decide) (fun c9 => ?_) (fun c9 => ?_)
    · replace h := h.1 c9
      refine r_aload_n (pc := 276) dX12_keepsGroup_276 rfl rfl ?_
      refine r_getR (pc := 277) dX12_keepsGroup_277 (k9 := 25) CL_12 (by decide) (by decide) w_1440 rfl (okO_of (N := 42) (hL.sh (i := 0) rfl (by decide) (by decide)) (by decide)) ?_
      refine eqR (y := 554) (hL.rf (i := 11) rfl) ?_
      refine r_aload_n (pc := 280) dX12_keepsGroup_280 rfl rfl ?_
      refine r_getI (pc := 281) dX12_keepsGroup_281 (k9 := 16) CL_12 (by decide) (by decide) w_1431 rfl (okO_of (N := 42) (hL.sh (i := 0) rfl (by decide) (by decide)) (by decide)) (fun _ => ?_)
      refine r_iload_n (pc := 284) dX12_keepsGroup_284 rfl rfl ?_
      obtain ⟨o5, h⟩ := h
      refine r_iastore (pc := 285) dX12_keepsGroup_285 (okB_of (c := 20) (n := 120) (hL.sh (i := 16) rfl (by decide) (by decide)) (by decide) o5) ?_
      refine nmS (fun τ6 e6 => ?_)
      replace h := h τ6 e6
      have hL := hL.wI e6 (by decide) (.inl (by decide))
      refine r_aload_n (pc := 286) dX12_keepsGroup_286 rfl rfl ?_
      refine r_getR (pc := 287) dX12_keepsGroup_287 (k9 := 26) CL_12 (by decide) (by decide) w_1441 rfl (okO_of (N := 42) (hL.sh (i := 0) rfl (by decide) (by decide)) (by decide)) ?_
      refine eqR (y := 555) (hL.rf (i := 12) rfl) ?_
      refine r_aload_n (pc := 290) dX12_keepsGroup_290 rfl rfl ?_
      refine r_getI (pc := 291) dX12_keepsGroup_291 (k9 := 16) CL_12 (by decide) (by decide) w_1431 rfl (okO_of (N := 42) (hL.sh (i := 0) rfl (by decide) (by decide)) (by decide)) (fun _ => ?_)
      refine r_iconst (pc := 294) dX12_keepsGroup_294 (inRk rfl) ?_
      obtain ⟨o7, h⟩ := h
      refine r_iastore (pc := 295) dX12_keepsGroup_295 (okB_of (c := 20) (n := 120) (hL.sh (i := 17) rfl (by decide) (by decide)) (by decide) o7) ?_
      refine nmS (fun τ8 e8 => ?_)
      replace h := h τ8 e8
      have hL := hL.wI e8 (by decide) (.inl (by decide))
      refine r_iconst (pc := 296) dX12_keepsGroup_296 (inRk rfl) ?_
      refine r_istore_n (pc := 297) dX12_keepsGroup_297 rfl (by decide) (l2 := [some (vr 172), some (vi x1), some (vi 0), none, none]) rfl ?_
      exact (h hL)
    · replace h := h.2 c9
      refine r_goto (pc := 273) (tgt := 379) dX12_keepsGroup_273 (by decide) ?_
      obtain ⟨o9, h⟩ := h
      refine r_iinc (pc := 379) dX12_keepsGroup_379 rfl (by decide) o9 (l2 := [some (vr 172), some (vi (x1 + 1)), none, none, none]) rfl ?_
      refine r_goto (pc := 382) (tgt := 255) dX12_keepsGroup_382 (by decide) ?_
      exact (h hL)
theorem B_X12_keepsGroup_298 {g : Sg} {c t : Nat} (hL : Lay LM g c t σ) {x1 : Int} {x2 : Int} (h : (((gI σ 172 15) ≤ x2 → inR ((gI σ 172 16) + 1) ∧ ∀ τ2 : Sg, τ2 = sI σ 172 16 ((gI σ 172 16) + 1) → inR (x1 + 1) ∧ (Lay LM g c t τ2 → GG E mX12_keepsGroup 255 [some (vr 172), some (vi (x1 + 1)), none, none, none] [] τ2 rc rs Q)) ∧ (¬ ((gI σ 172 15) ≤ x2) → (0 ≤ x2 ∧ x2 < 120) ∧ (0 ≤ (gI σ 552 x2.toNat) ∧ (gI σ 552 x2.toNat) < 120) ∧ (0 ≤ x1 ∧ x1 < 120) ∧ (0 ≤ (gI σ (431 + (gI σ 552 x2.toNat).toNat) x1.toNat) ∧ (gI σ (431 + (gI σ 552 x2.toNat).toNat) x1.toNat) < 120) ∧ ∀ v10 : Int, v10 = gI σ (431 + (gI σ (431 + (gI σ 552 x2.toNat).toNat) x1.toNat).toNat) x2.toNat → (0 ≤ v10 ∧ v10 < 120) ∧ (((gI σ 553 v10.toNat) = (-1) → ∀ τ12 : Sg, τ12 = sI σ 553 v10.toNat (gI σ 172 16) → (0 ≤ (gI τ12 172 16) ∧ (gI τ12 172 16) < 120) ∧ inR ((gI τ12 555 (gI τ12 172 16).toNat) + 1) ∧ ∀ τ15 : Sg, τ15 = sI τ12 555 (gI τ12 172 16).toNat ((gI τ12 555 (gI τ12 172 16).toNat) + 1) → inR (x2 + 1) ∧ (Lay LM g c t τ15 → GG E mX12_keepsGroup 298 [some (vr 172), some (vi x1), some (vi (x2 + 1)), none, none] [] τ15 rc rs Q)) ∧ (¬ ((gI σ 553 v10.toNat) = (-1)) → inR (x2 + 1) ∧ (Lay LM g c t σ → GG E mX12_keepsGroup 298 [some (vr 172), some (vi x1), some (vi (x2 + 1)), none, none] [] σ rc rs Q)))))) : GG E mX12_keepsGroup 298 [some (vr 172), some (vi x1), some (vi x2), none, none] [] σ rc rs Q := by
  refine r_iload_n (pc := 298) dX12_keepsGroup_298 rfl rfl ?_
  refine r_aload_n (pc := 299) dX12_keepsGroup_299 rfl rfl ?_
  refine r_getI (pc := 300) dX12_keepsGroup_300 (k9 := 15) CL_12 (by decide) (by decide) w_1430 rfl (okO_of (N := 42) (hL.sh (i := 0) rfl (by decide) (by decide)) (by decide)) (fun _ => ?_)
  refine r_icmp_ge (pc := 303) (tgt := 369) dX12_keepsGroup_303 (by decide) (fun c9 => ?_) (fun c9 => ?_)
  · replace h := h.1 c9
    refine r_aload_n (pc := 369) dX12_keepsGroup_369 rfl rfl ?_
    refine r_dup (pc := 370) dX12_keepsGroup_370 (fun _ h9 => nomatch h9) ?_
    refine r_getI (pc := 371) dX12_keepsGroup_371 (k9 := 16) CL_12 (by decide) (by decide) w_1431 rfl (okO_of (N := 42) (hL.sh (i := 0) rfl (by decide) (by decide)) (by decide)) (fun _ => ?_)
    refine r_iconst (pc := 374) dX12_keepsGroup_374 (inRk rfl) ?_
    obtain ⟨o1, h⟩ := h
    refine r_iadd (pc := 375) dX12_keepsGroup_375 o1 ?_
    refine r_putI (pc := 376) dX12_keepsGroup_376 (k9 := 16) CL_12 (by decide) (by decide) w_1431 rfl rfl (fun h9 => absurd h9 (by decide +kernel)) (okO_of (N := 42) (hL.sh (i := 0) rfl (by decide) (by decide)) (by decide)) ?_
    refine nmS (fun τ2 e2 => ?_)
    replace h := h τ2 e2
    have hL := hL.wI e2 (by decide) (.inl (by decide))
    obtain ⟨o3, h⟩ := h
    refine r_iinc (pc := 379) dX12_keepsGroup_379 rfl (by decide) o3 (l2 := [some (vr 172), some (vi (x1 + 1)), some (vi x2), none, none]) rfl ?_
    refine r_goto (pc := 382) (tgt := 255) dX12_keepsGroup_382 (by decide) ?_
    exact GG.msk [true, true, false, false, false] (h hL)
  · replace h := h.2 c9
    refine r_aload_n (pc := 306) dX12_keepsGroup_306 rfl rfl ?_
    refine r_getR (pc := 307) dX12_keepsGroup_307 (k9 := 21) CL_12 (by decide) (by decide) w_1436 rfl (okO_of (N := 42) (hL.sh (i := 0) rfl (by decide) (by decide)) (by decide)) ?_
    refine eqR (y := 430) (hL.rf (i := 7) rfl) ?_
    refine r_aload_n (pc := 310) dX12_keepsGroup_310 rfl rfl ?_
    refine r_getR (pc := 311) dX12_keepsGroup_311 (k9 := 21) CL_12 (by decide) (by decide) w_1436 rfl (okO_of (N := 42) (hL.sh (i := 0) rfl (by decide) (by decide)) (by decide)) ?_
    refine eqR (y := 430) (hL.rf (i := 7) rfl) ?_
    refine r_aload_n (pc := 314) dX12_keepsGroup_314 rfl rfl ?_
    refine r_getR (pc := 315) dX12_keepsGroup_315 (k9 := 23) CL_12 (by decide) (by decide) w_1438 rfl (okO_of (N := 42) (hL.sh (i := 0) rfl (by decide) (by decide)) (by decide)) ?_
    refine eqR (y := 552) (hL.rf (i := 9) rfl) ?_
    refine r_iload_n (pc := 318) dX12_keepsGroup_318 rfl rfl ?_
    obtain ⟨o4, h⟩ := h
    refine r_iaload (pc := 319) dX12_keepsGroup_319 (okA_of (c := 20) (n := 120) (hL.sh (i := 14) rfl (by decide) (by decide)) (by decide) o4) ?_
    obtain ⟨o5, h⟩ := h
    refine r_aaload (pc := 320) dX12_keepsGroup_320 (okB_of (c := 24) (n := 120) (hL.sh (i := 11) rfl (by decide) (by decide)) (by decide) o5) ?_
    have q6 : 431 ≤ 431 + (gI σ 552 x2.toNat).toNat ∧ 431 + (gI σ 552 x2.toNat).toNat < 551 := ⟨Nat.le_add_right _ _, rowB o5 (by decide)⟩
    refine eqR (y := 431 + (gI σ 552 x2.toNat).toNat) (hL.rx (i := 3) rfl (rowC o5 (by decide))) ?_
    refine r_iload_n (pc := 321) dX12_keepsGroup_321 rfl rfl ?_
    obtain ⟨o7, h⟩ := h
    refine r_iaload (pc := 322) dX12_keepsGroup_322 (okA_of (c := 20) (n := 120) (hL.sh (i := 12) rfl q6.1 q6.2) (Nat.le_trans (by decide) q6.1) o7) ?_
    obtain ⟨o8, h⟩ := h
    refine r_aaload (pc := 323) dX12_keepsGroup_323 (okB_of (c := 24) (n := 120) (hL.sh (i := 11) rfl (by decide) (by decide)) (by decide) o8) ?_
    have q9 : 431 ≤ 431 + (gI σ (431 + (gI σ 552 x2.toNat).toNat) x1.toNat).toNat ∧ 431 + (gI σ (431 + (gI σ 552 x2.toNat).toNat) x1.toNat).toNat < 551 := ⟨Nat.le_add_right _ _, rowB o8 (by decide)⟩
    refine eqR (y := 431 + (gI σ (431 + (gI σ 552 x2.toNat).toNat) x1.toNat).toNat) (hL.rx (i := 3) rfl (rowC o8 (by decide))) ?_
    refine r_iload_n (pc := 324) dX12_keepsGroup_324 rfl rfl ?_
    refine r_iaload (pc := 325) dX12_keepsGroup_325 (okA_of (c := 20) (n := 120) (hL.sh (i := 12) rfl q9.1 q9.2) (Nat.le_trans (by decide) q9.1) o4) ?_
    refine nmI (fun v10 e9 => ?_)
    replace h := h v10 e9
    refine r_istore_n (pc := 326) dX12_keepsGroup_326 rfl (by decide) (l2 := [some (vr 172), some (vi x1), some (vi x2), some (vi v10), none]) rfl ?_
    refine r_aload_n (pc := 327) dX12_keepsGroup_327 rfl rfl ?_
    refine r_getR (pc := 328) dX12_keepsGroup_328 (k9 := 24) CL_12 (by decide) (by decide) w_1439 rfl (okO_of (N := 42) (hL.sh (i := 0) rfl (by decide) (by decide)) (by decide)) ?_
    refine eqR (y := 553) (hL.rf (i := 10) rfl) ?_
    refine r_iload_n (pc := 331) dX12_keepsGroup_331 rfl rfl ?_
    obtain ⟨o11, h⟩ := h
    refine r_iaload (pc := 332) dX12_keepsGroup_332 (okA_of (c := 20) (n := 120) (hL.sh (i := 15) rfl (by decide) (by decide)) (by decide) o11) ?_
    refine r_iconst (pc := 333) dX12_keepsGroup_333 (inRk rfl) ?_
    refine r_icmp_eq (pc := 334) (tgt := 340) dX12_keepsGroup_334 (by decide) (fun c9 => ?_) (fun c9 => ?_)
    · replace h := h.1 c9
      refine r_aload_n (pc := 340) dX12_keepsGroup_340 rfl rfl ?_
      refine r_getR (pc := 341) dX12_keepsGroup_341 (k9 := 24) CL_12 (by decide) (by decide) w_1439 rfl (okO_of (N := 42) (hL.sh (i := 0) rfl (by decide) (by decide)) (by decide)) ?_
      refine eqR (y := 553) (hL.rf (i := 10) rfl) ?_
      refine r_iload_n (pc := 344) dX12_keepsGroup_344 rfl rfl ?_
      refine r_aload_n (pc := 345) dX12_keepsGroup_345 rfl rfl ?_
      refine r_getI (pc := 346) dX12_keepsGroup_346 (k9 := 16) CL_12 (by decide) (by decide) w_1431 rfl (okO_of (N := 42) (hL.sh (i := 0) rfl (by decide) (by decide)) (by decide)) (fun _ => ?_)
      refine r_iastore (pc := 349) dX12_keepsGroup_349 (okB_of (c := 20) (n := 120) (hL.sh (i := 15) rfl (by decide) (by decide)) (by decide) o11) ?_
      refine nmS (fun τ12 e12 => ?_)
      replace h := h τ12 e12
      have hL := hL.wI e12 (by decide) (.inl (by decide))
      refine r_aload_n (pc := 350) dX12_keepsGroup_350 rfl rfl ?_
      refine r_getR (pc := 351) dX12_keepsGroup_351 (k9 := 26) CL_12 (by decide) (by decide) w_1441 rfl (okO_of (N := 42) (hL.sh (i := 0) rfl (by decide) (by decide)) (by decide)) ?_
      refine eqR (y := 555) (hL.rf (i := 12) rfl) ?_
      refine r_aload_n (pc := 354) dX12_keepsGroup_354 rfl rfl ?_
      refine r_getI (pc := 355) dX12_keepsGroup_355 (k9 := 16) CL_12 (by decide) (by decide) w_1431 rfl (okO_of (N := 42) (hL.sh (i := 0) rfl (by decide) (by decide)) (by decide)) (fun _ => ?_)
      refine r_dup2_11 (pc := 358) dX12_keepsGroup_358 (fun _ h9 => nomatch h9) (fun _ h9 => nomatch h9) ?_
      obtain ⟨o13, h⟩ := h
      refine r_iaload (pc := 359) dX12_keepsGroup_359 (okA_of (c := 20) (n := 120) (hL.sh (i := 17) rfl (by decide) (by decide)) (by decide) o13) ?_
      refine r_iconst (pc := 360) dX12_keepsGroup_360 (inRk rfl) ?_
      obtain ⟨o14, h⟩ := h
      refine r_iadd (pc := 361) dX12_keepsGroup_361 o14 ?_
      refine r_iastore (pc := 362) dX12_keepsGroup_362 (okB_of (c := 20) (n := 120) (hL.sh (i := 17) rfl (by decide) (by decide)) (by decide) o13) ?_
      refine nmS (fun τ15 e15 => ?_)
      replace h := h τ15 e15
      have hL := hL.wI e15 (by decide) (.inl (by decide))
      obtain ⟨o16, h⟩ := h
      refine r_iinc (pc := 363) dX12_keepsGroup_363 rfl (by decide) o16 (l2 := [some (vr 172), some (vi x1), some (vi (x2 + 1)), some (vi v10), none]) rfl ?_
      refine r_goto (pc := 366) (tgt := 298) dX12_keepsGroup_366 (by decide) ?_
      exact GG.msk [true, true, true, false, false] (h hL)
    · replace h := h.2 c9
      refine r_goto (pc := 337) (tgt := 363) dX12_keepsGroup_337 (by decide) ?_
      obtain ⟨o17, h⟩ := h
      refine r_iinc (pc := 363) dX12_keepsGroup_363 rfl (by decide) o17 (l2 := [some (vr 172), some (vi x1), some (vi (x2 + 1)), some (vi v10), none]) rfl ?_
      refine r_goto (pc := 366) (tgt := 298) dX12_keepsGroup_366 (by decide) ?_
      exact GG.msk [true, true, true, false, false] (h hL)
theorem C_X12_keepsGroup {a0 : Nat} (h : GG E mX12_keepsGroup 0 [some (vr a0), none, none, none, none] [] σ 0 0 Q) : CC E mX12_keepsGroup [vr a0] σ Q := CC.of (by decide +kernel) rfl (by decide +kernel) (fun h9 => nomatch h9) (Nat.le_of_ble_eq_true rfl) h
theorem dX12_kind_0 : decode cX12_kind 0 = .ok (.aload_n 0, 1) := by decide +kernel
theorem dX12_kind_1 : decode cX12_kind 1 = .ok (.aload_n 0, 1) := by decide +kernel
theorem dX12_kind_2 : decode cX12_kind 2 = .ok (.getfield 192, 3) := by decide +kernel
theorem dX12_kind_5 : decode cX12_kind 5 = .ok (.invokevirtual 308, 3) := by decide +kernel
theorem dX12_kind_8 : decode cX12_kind 8 = .ok (.ifCond .eq 5, 3) := by decide +kernel
theorem dX12_kind_11 : decode cX12_kind 11 = .ok (.iconst 0, 1) := by decide +kernel
theorem dX12_kind_12 : decode cX12_kind 12 = .ok (.ireturn, 1) := by decide +kernel
theorem dX12_kind_13 : decode cX12_kind 13 = .ok (.aload_n 0, 1) := by decide +kernel
theorem dX12_kind_14 : decode cX12_kind 14 = .ok (.getfield 192, 3) := by decide +kernel
theorem dX12_kind_17 : decode cX12_kind 17 = .ok (.iconst 2, 1) := by decide +kernel
theorem dX12_kind_18 : decode cX12_kind 18 = .ok (.irem, 1) := by decide +kernel
theorem dX12_kind_19 : decode cX12_kind 19 = .ok (.ifCond .ne 18, 3) := by decide +kernel
theorem dX12_kind_22 : decode cX12_kind 22 = .ok (.aload_n 0, 1) := by decide +kernel
theorem dX12_kind_23 : decode cX12_kind 23 = .ok (.aload_n 0, 1) := by decide +kernel
theorem dX12_kind_24 : decode cX12_kind 24 = .ok (.getfield 192, 3) := by decide +kernel
theorem dX12_kind_27 : decode cX12_kind 27 = .ok (.iconst 2, 1) := by decide +kernel
theorem dX12_kind_28 : decode cX12_kind 28 = .ok (.idiv, 1) := by decide +kernel
theorem dX12_kind_29 : decode cX12_kind 29 = .ok (.invokevirtual 308, 3) := by decide +kernel
theorem dX12_kind_32 : decode cX12_kind 32 = .ok (.ifCond .eq 5, 3) := by decide +kernel
theorem dX12_kind_35 : decode cX12_kind 35 = .ok (.iconst 1, 1) := by decide +kernel
theorem dX12_kind_36 : decode cX12_kind 36 = .ok (.ireturn, 1) := by decide +kernel
theorem dX12_kind_37 : decode cX12_kind 37 = .ok (.aload_n 0, 1) := by decide +kernel
theorem dX12_kind_38 : decode cX12_kind 38 = .ok (.getfield 192, 3) := by decide +kernel
theorem dX12_kind_41 : decode cX12_kind 41 = .ok (.bipush 24, 2) := by decide +kernel
theorem dX12_kind_43 : decode cX12_kind 43 = .ok (.if_icmp .ne 7, 3) := by decide +kernel
theorem dX12_kind_46 : decode cX12_kind 46 = .ok (.iconst 2, 1) := by decide +kernel
theorem dX12_kind_47 : decode cX12_kind 47 = .ok (.goto 17, 3) := by decide +kernel
theorem dX12_kind_50 : decode cX12_kind 50 = .ok (.aload_n 0, 1) := by decide +kernel
theorem dX12_kind_51 : decode cX12_kind 51 = .ok (.getfield 192, 3) := by decide +kernel
theorem dX12_kind_54 : decode cX12_kind 54 = .ok (.bipush 48, 2) := by decide +kernel
theorem dX12_kind_56 : decode cX12_kind 56 = .ok (.if_icmp .ne 7, 3) := by decide +kernel
theorem dX12_kind_59 : decode cX12_kind 59 = .ok (.iconst 3, 1) := by decide +kernel
theorem dX12_kind_60 : decode cX12_kind 60 = .ok (.goto 4, 3) := by decide +kernel
theorem dX12_kind_63 : decode cX12_kind 63 = .ok (.iconst 4, 1) := by decide +kernel
theorem dX12_kind_64 : decode cX12_kind 64 = .ok (.ireturn, 1) := by decide +kernel
theorem B_X12_kind_0 {g : Sg} {c t : Nat} (hL : Lay LM g c t σ)  (h : (Lay LM g c t σ → CC E mX12_hasOrder [vr 172, vi (gI σ 172 15)] σ (KI (fun r1 τ2 => Lay LM g c t τ2 ∧ (inR r1 → ((r1 = 0 → ((((gI τ2 172 15).tmod 2) ≠ 0 → (((gI τ2 172 15) ≠ 24 → (((gI τ2 172 15) ≠ 48 → (Lay LM g c t τ2 → Q (.inl (some (vi 4))) τ2)) ∧ ((gI τ2 172 15) = 48 → (Lay LM g c t τ2 → Q (.inl (some (vi 3))) τ2)))) ∧ ((gI τ2 172 15) = 24 → (Lay LM g c t τ2 → Q (.inl (some (vi 2))) τ2)))) ∧ (((gI τ2 172 15).tmod 2) = 0 → inR ((gI τ2 172 15).tdiv 2) ∧ (Lay LM g c t τ2 → CC E mX12_hasOrder [vr 172, vi ((gI τ2 172 15).tdiv 2)] τ2 (KI (fun r4 τ5 => Lay LM g c t τ5 ∧ (inR r4 → ((r4 = 0 → (((gI τ5 172 15) ≠ 24 → (((gI τ5 172 15) ≠ 48 → (Lay LM g c t τ5 → Q (.inl (some (vi 4))) τ5)) ∧ ((gI τ5 172 15) = 48 → (Lay LM g c t τ5 → Q (.inl (some (vi 3))) τ5)))) ∧ ((gI τ5 172 15) = 24 → (Lay LM g c t τ5 → Q (.inl (some (vi 2))) τ5)))) ∧ (¬ (r4 = 0) → (Lay LM g c t τ5 → Q (.inl (some (vi 1))) τ5))))) (fun _ _ => False)))))) ∧ (¬ (r1 = 0) → (Lay LM g c t τ2 → Q (.inl (some (vi 0))) τ2))))) (fun _ _ => False)))) : GG E mX12_kind 0 [some (vr 172)] [] σ rc rs Q := by
  refine r_aload_n (pc := 0) dX12_kind_0 rfl rfl ?_
  refine r_aload_n (pc := 1) dX12_kind_1 rfl rfl ?_
  refine r_getI (pc := 2) dX12_kind_2 (k9 := 15) CL_12 (by decide) (by decide) w_1430 rfl (okO_of (N := 42) (hL.sh (i := 0) rfl (by decide) (by decide)) (by decide)) (fun _ => ?_)
  refine c_VI0N (M := mX12_kind) (pc := 5) (As := [vi (gI σ 172 15)]) dX12_kind_5 K_X12_hasOrder w_1702 ⟨by decide, by decide⟩ (Nat.le_of_ble_eq_true rfl) rfl rfl (ci := 12) rfl rfl (by decide) (okO_of (N := 42) (hL.sh (i := 0) rfl (by decide) (by decide)) (by decide)) (h hL) (fun r1 τ2 h8 hr9 => ?_) rfl
  replace hL := h8.1
  replace h := h8.2 hr9
  refine r_if_eq (pc := 8) (tgt := 13) dX12_kind_8 (by decide) (fun c9 => ?_) (fun c9 => ?_)
  · replace h := h.1 c9
    refine r_aload_n (pc := 13) dX12_kind_13 rfl rfl ?_
    refine r_getI (pc := 14) dX12_kind_14 (k9 := 15) CL_12 (by decide) (by decide) w_1430 rfl (okO_of (N := 42) (hL.sh (i := 0) rfl (by decide) (by decide)) (by decide)) (fun _ => ?_)
    refine r_iconst (pc := 17) dX12_kind_17 (inRk rfl) ?_
    refine r_irem (pc := 18) dX12_kind_18 (by decide) ?_
    refine r_if_ne (pc := 19) (tgt := 37) dX12_kind_19 (by decide) (fun c9 => ?_) (fun c9 => ?_)
    · replace h := h.1 c9
      refine r_aload_n (pc := 37) dX12_kind_37 rfl rfl ?_
      refine r_getI (pc := 38) dX12_kind_38 (k9 := 15) CL_12 (by decide) (by decide) w_1430 rfl (okO_of (N := 42) (hL.sh (i := 0) rfl (by decide) (by decide)) (by decide)) (fun _ => ?_)
      refine r_bipush (pc := 41) dX12_kind_41 (by decide) ?_
      refine r_icmp_ne (pc := 43) (tgt := 50) dX12_kind_43 (by decide) (fun c9 => ?_) (fun c9 => ?_)
      · replace h := h.1 c9
        refine r_aload_n (pc := 50) dX12_kind_50 rfl rfl ?_
        refine r_getI (pc := 51) dX12_kind_51 (k9 := 15) CL_12 (by decide) (by decide) w_1430 rfl (okO_of (N := 42) (hL.sh (i := 0) rfl (by decide) (by decide)) (by decide)) (fun _ => ?_)
        refine r_bipush (pc := 54) dX12_kind_54 (by decide) ?_
        refine r_icmp_ne (pc := 56) (tgt := 63) dX12_kind_56 (by decide) (fun c9 => ?_) (fun c9 => ?_)
        · replace h := h.1 c9
          refine r_iconst (pc := 63) dX12_kind_63 (inRk rfl) ?_
          exact r_ireturn (pc := 64) (ty := .int) dX12_kind_64 (by decide +kernel) rfl (nar_i _) (h hL)
        · replace h := h.2 c9
          refine r_iconst (pc := 59) dX12_kind_59 (inRk rfl) ?_
          refine r_goto (pc := 60) (tgt := 64) dX12_kind_60 (by decide) ?_
          exact r_ireturn (pc := 64) (ty := .int) dX12_kind_64 (by decide +kernel) rfl (nar_i _) (h hL)
      · replace h := h.2 c9
        refine r_iconst (pc := 46) dX12_kind_46 (inRk rfl) ?_
        refine r_goto (pc := 47) (tgt := 64) dX12_kind_47 (by decide) ?_
        exact r_ireturn (pc := 64) (ty := .int) dX12_kind_64 (by decide +kernel) rfl (nar_i _) (h hL)
    · replace h := h.2 c9
      refine r_aload_n (pc := 22) dX12_kind_22 rfl rfl ?_
      refine r_aload_n (pc := 23) dX12_kind_23 rfl rfl ?_
      refine r_getI (pc := 24) dX12_kind_24 (k9 := 15) CL_12 (by decide) (by decide) w_1430 rfl (okO_of (N := 42) (hL.sh (i := 0) rfl (by decide) (by decide)) (by decide)) (fun _ => ?_)
      refine r_iconst (pc := 27) dX12_kind_27 (inRk rfl) ?_
      obtain ⟨o3, h⟩ := h
      refine r_idiv (pc := 28) dX12_kind_28 (by decide) o3 ?_
      refine c_VI0N (M := mX12_kind) (pc := 29) (As := [vi ((gI τ2 172 15).tdiv 2)]) dX12_kind_29 K_X12_hasOrder w_1702 ⟨by decide, by decide⟩ (Nat.le_of_ble_eq_true rfl) rfl rfl (ci := 12) rfl rfl (by decide) (okO_of (N := 42) (hL.sh (i := 0) rfl (by decide) (by decide)) (by decide)) (h hL) (fun r4 τ5 h8 hr9 => ?_) rfl
      replace hL := h8.1
      replace h := h8.2 hr9
      refine r_if_eq (pc := 32) (tgt := 37) dX12_kind_32 (by decide) (fun c9 => ?_) (fun c9 => ?_)
      · replace h := h.1 c9
        refine r_aload_n (pc := 37) dX12_kind_37 rfl rfl ?_
        refine r_getI (pc := 38) dX12_kind_38 (k9 := 15) CL_12 (by decide) (by decide) w_1430 rfl (okO_of (N := 42) (hL.sh (i := 0) rfl (by decide) (by decide)) (by decide)) (fun _ => ?_)
        refine r_bipush (pc := 41) dX12_kind_41 (by decide) ?_
        refine r_icmp_ne (pc := 43) (tgt := 50) dX12_kind_43 (by decide) (fun c9 => ?_) (fun c9 => ?_)
        · replace h := h.1 c9
          refine r_aload_n (pc := 50) dX12_kind_50 rfl rfl ?_
          refine r_getI (pc := 51) dX12_kind_51 (k9 := 15) CL_12 (by decide) (by decide) w_1430 rfl (okO_of (N := 42) (hL.sh (i := 0) rfl (by decide) (by decide)) (by decide)) (fun _ => ?_)
          refine r_bipush (pc := 54) dX12_kind_54 (by decide) ?_
          refine r_icmp_ne (pc := 56) (tgt := 63) dX12_kind_56 (by decide) (fun c9 => ?_) (fun c9 => ?_)
          · replace h := h.1 c9
            refine r_iconst (pc := 63) dX12_kind_63 (inRk rfl) ?_
            exact r_ireturn (pc := 64) (ty := .int) dX12_kind_64 (by decide +kernel) rfl (nar_i _) (h hL)
          · replace h := h.2 c9
            refine r_iconst (pc := 59) dX12_kind_59 (inRk rfl) ?_
            refine r_goto (pc := 60) (tgt := 64) dX12_kind_60 (by decide) ?_
            exact r_ireturn (pc := 64) (ty := .int) dX12_kind_64 (by decide +kernel) rfl (nar_i _) (h hL)
        · replace h := h.2 c9
          refine r_iconst (pc := 46) dX12_kind_46 (inRk rfl) ?_
          refine r_goto (pc := 47) (tgt := 64) dX12_kind_47 (by decide) ?_
          exact r_ireturn (pc := 64) (ty := .int) dX12_kind_64 (by decide +kernel) rfl (nar_i _) (h hL)
      · replace h := h.2 c9
        refine r_iconst (pc := 35) dX12_kind_35 (inRk rfl) ?_
        exact r_ireturn (pc := 36) (ty := .int) dX12_kind_36 (by decide +kernel) rfl (nar_i _) (h hL)
  · replace h := h.2 c9
    refine r_iconst (pc := 11) dX12_kind_11 (inRk rfl) ?_
    exact r_ireturn (pc := 12) (ty := .int) dX12_kind_12 (by decide +kernel) rfl (nar_i _) (h hL)
theorem C_X12_kind {a0 : Nat} (h : GG E mX12_kind 0 [some (vr a0)] [] σ 0 0 Q) : CC E mX12_kind [vr a0] σ Q := CC.of (by decide +kernel) rfl (by decide +kernel) (fun h9 => nomatch h9) (Nat.le_of_ble_eq_true rfl) h
theorem dX12_kindNumber_0 : decode cX12_kindNumber 0 = .ok (.aload_n 0, 1) := by decide +kernel
theorem dX12_kindNumber_1 : decode cX12_kindNumber 1 = .ok (.invokevirtual 311, 3) := by decide +kernel
theorem dX12_kindNumber_4 : decode cX12_kindNumber 4 = .ok (.istore_n 1, 1) := by decide +kernel
theorem dX12_kindNumber_5 : decode cX12_kindNumber 5 = .ok (.iload_n 1, 1) := by decide +kernel
theorem dX12_kindNumber_6 : decode cX12_kindNumber 6 = .ok (.ifCond .ne 10, 3) := by decide +kernel
theorem dX12_kindNumber_9 : decode cX12_kindNumber 9 = .ok (.aload_n 0, 1) := by decide +kernel
theorem dX12_kindNumber_10 : decode cX12_kindNumber 10 = .ok (.getfield 192, 3) := by decide +kernel
theorem dX12_kindNumber_13 : decode cX12_kindNumber 13 = .ok (.goto 20, 3) := by decide +kernel
theorem dX12_kindNumber_16 : decode cX12_kindNumber 16 = .ok (.iload_n 1, 1) := by decide +kernel
theorem dX12_kindNumber_17 : decode cX12_kindNumber 17 = .ok (.iconst 1, 1) := by decide +kernel
theorem dX12_kindNumber_18 : decode cX12_kindNumber 18 = .ok (.if_icmp .ne 12, 3) := by decide +kernel
theorem dX12_kindNumber_21 : decode cX12_kindNumber 21 = .ok (.aload_n 0, 1) := by decide +kernel
theorem dX12_kindNumber_22 : decode cX12_kindNumber 22 = .ok (.getfield 192, 3) := by decide +kernel
theorem dX12_kindNumber_25 : decode cX12_kindNumber 25 = .ok (.iconst 4, 1) := by decide +kernel
theorem dX12_kindNumber_26 : decode cX12_kindNumber 26 = .ok (.idiv, 1) := by decide +kernel
theorem dX12_kindNumber_27 : decode cX12_kindNumber 27 = .ok (.goto 6, 3) := by decide +kernel
theorem dX12_kindNumber_30 : decode cX12_kindNumber 30 = .ok (.iload_n 1, 1) := by decide +kernel
theorem dX12_kindNumber_31 : decode cX12_kindNumber 31 = .ok (.iconst 1, 1) := by decide +kernel
theorem dX12_kindNumber_32 : decode cX12_kindNumber 32 = .ok (.iadd, 1) := by decide +kernel
theorem dX12_kindNumber_33 : decode cX12_kindNumber 33 = .ok (.ireturn, 1) := by decide +kernel
theorem B_X12_kindNumber_0 {g : Sg} {c t : Nat} (hL : Lay LM g c t σ)  (h : (Lay LM g c t σ → CC E mX12_kind [vr 172] σ (KI (fun r1 τ2 => Lay LM g c t τ2 ∧ (inR r1 → ((r1 ≠ 0 → ((r1 ≠ 1 → inR (r1 + 1) ∧ (Lay LM g c t τ2 → Q (.inl (some (vi (r1 + 1)))) τ2)) ∧ (r1 = 1 → inR ((gI τ2 172 15).tdiv 4) ∧ (Lay LM g c t τ2 → Q (.inl (some (vi ((gI τ2 172 15).tdiv 4)))) τ2)))) ∧ (r1 = 0 → (Lay LM g c t τ2 → Q (.inl (some (vi (gI τ2 172 15)))) τ2))))) (fun _ _ => False)))) : GG E mX12_kindNumber 0 [some (vr 172), none] [] σ rc rs Q := by
  refine r_aload_n (pc := 0) dX12_kindNumber_0 rfl rfl ?_
  refine c_VI0N (M := mX12_kindNumber) (pc := 1) (As := []) dX12_kindNumber_1 K_X12_kind w_1698 ⟨by decide, by decide⟩ (Nat.le_of_ble_eq_true rfl) rfl rfl (ci := 12) rfl rfl (by decide) (okO_of (N := 42) (hL.sh (i := 0) rfl (by decide) (by decide)) (by decide)) (h hL) (fun r1 τ2 h8 hr9 => ?_) rfl
  replace hL := h8.1
  replace h := h8.2 hr9
  refine r_istore_n (pc := 4) dX12_kindNumber_4 rfl (by decide) (l2 := [some (vr 172), some (vi r1)]) rfl ?_
  refine r_iload_n (pc := 5) dX12_kindNumber_5 rfl rfl ?_
  refine r_if_ne (pc := 6) (tgt := 16) dX12_kindNumber_6 (by decide) (fun c9 => ?_) (fun c9 => ?_)
  · replace h := h.1 c9
    refine r_iload_n (pc := 16) dX12_kindNumber_16 rfl rfl ?_
    refine r_iconst (pc := 17) dX12_kindNumber_17 (inRk rfl) ?_
    refine r_icmp_ne (pc := 18) (tgt := 30) dX12_kindNumber_18 (by decide) (fun c9 => ?_) (fun c9 => ?_)
    · replace h := h.1 c9
      refine r_iload_n (pc := 30) dX12_kindNumber_30 rfl rfl ?_
      refine r_iconst (pc := 31) dX12_kindNumber_31 (inRk rfl) ?_
      obtain ⟨o3, h⟩ := h
      refine r_iadd (pc := 32) dX12_kindNumber_32 o3 ?_
      exact r_ireturn (pc := 33) (ty := .int) dX12_kindNumber_33 (by decide +kernel) rfl (nar_i _) (h hL)
    · replace h := h.2 c9
      refine r_aload_n (pc := 21) dX12_kindNumber_21 rfl rfl ?_
      refine r_getI (pc := 22) dX12_kindNumber_22 (k9 := 15) CL_12 (by decide) (by decide) w_1430 rfl (okO_of (N := 42) (hL.sh (i := 0) rfl (by decide) (by decide)) (by decide)) (fun _ => ?_)
      refine r_iconst (pc := 25) dX12_kindNumber_25 (inRk rfl) ?_
      obtain ⟨o4, h⟩ := h
      refine r_idiv (pc := 26) dX12_kindNumber_26 (by decide) o4 ?_
      refine r_goto (pc := 27) (tgt := 33) dX12_kindNumber_27 (by decide) ?_
      exact r_ireturn (pc := 33) (ty := .int) dX12_kindNumber_33 (by decide +kernel) rfl (nar_i _) (h hL)
  · replace h := h.2 c9
    refine r_aload_n (pc := 9) dX12_kindNumber_9 rfl rfl ?_
    refine r_getI (pc := 10) dX12_kindNumber_10 (k9 := 15) CL_12 (by decide) (by decide) w_1430 rfl (okO_of (N := 42) (hL.sh (i := 0) rfl (by decide) (by decide)) (by decide)) (fun _ => ?_)
    refine r_goto (pc := 13) (tgt := 33) dX12_kindNumber_13 (by decide) ?_
    exact r_ireturn (pc := 33) (ty := .int) dX12_kindNumber_33 (by decide +kernel) rfl (nar_i _) (h hL)
theorem C_X12_kindNumber {a0 : Nat} (h : GG E mX12_kindNumber 0 [some (vr a0), none] [] σ 0 0 Q) : CC E mX12_kindNumber [vr a0] σ Q := CC.of (by decide +kernel) rfl (by decide +kernel) (fun h9 => nomatch h9) (Nat.le_of_ble_eq_true rfl) h
theorem dX12_laysCouples_0 : decode cX12_laysCouples 0 = .ok (.iconst 0, 1) := by decide +kernel
theorem dX12_laysCouples_1 : decode cX12_laysCouples 1 = .ok (.istore_n 1, 1) := by decide +kernel
theorem dX12_laysCouples_2 : decode cX12_laysCouples 2 = .ok (.iload_n 1, 1) := by decide +kernel
theorem dX12_laysCouples_3 : decode cX12_laysCouples 3 = .ok (.aload_n 0, 1) := by decide +kernel
theorem dX12_laysCouples_4 : decode cX12_laysCouples 4 = .ok (.getfield 231, 3) := by decide +kernel
theorem dX12_laysCouples_7 : decode cX12_laysCouples 7 = .ok (.if_icmp .ge 55, 3) := by decide +kernel
theorem dX12_laysCouples_10 : decode cX12_laysCouples 10 = .ok (.iconst 0, 1) := by decide +kernel
theorem dX12_laysCouples_11 : decode cX12_laysCouples 11 = .ok (.istore_n 2, 1) := by decide +kernel
theorem dX12_laysCouples_12 : decode cX12_laysCouples 12 = .ok (.iload_n 2, 1) := by decide +kernel
theorem dX12_laysCouples_13 : decode cX12_laysCouples 13 = .ok (.aload_n 0, 1) := by decide +kernel
theorem dX12_laysCouples_14 : decode cX12_laysCouples 14 = .ok (.getfield 231, 3) := by decide +kernel
theorem dX12_laysCouples_17 : decode cX12_laysCouples 17 = .ok (.if_icmp .ge 39, 3) := by decide +kernel
theorem dX12_laysCouples_20 : decode cX12_laysCouples 20 = .ok (.iconst 0, 1) := by decide +kernel
theorem dX12_laysCouples_21 : decode cX12_laysCouples 21 = .ok (.istore_n 3, 1) := by decide +kernel
theorem dX12_laysCouples_22 : decode cX12_laysCouples 22 = .ok (.iload_n 3, 1) := by decide +kernel
theorem dX12_laysCouples_23 : decode cX12_laysCouples 23 = .ok (.aload_n 0, 1) := by decide +kernel
theorem dX12_laysCouples_24 : decode cX12_laysCouples 24 = .ok (.getfield 231, 3) := by decide +kernel
theorem dX12_laysCouples_27 : decode cX12_laysCouples 27 = .ok (.if_icmp .ge 23, 3) := by decide +kernel
theorem dX12_laysCouples_30 : decode cX12_laysCouples 30 = .ok (.aload_n 0, 1) := by decide +kernel
theorem dX12_laysCouples_31 : decode cX12_laysCouples 31 = .ok (.getfield 55, 3) := by decide +kernel
theorem dX12_laysCouples_34 : decode cX12_laysCouples 34 = .ok (.bipush 48, 2) := by decide +kernel
theorem dX12_laysCouples_36 : decode cX12_laysCouples 36 = .ok (.iload_n 1, 1) := by decide +kernel
theorem dX12_laysCouples_37 : decode cX12_laysCouples 37 = .ok (.imul, 1) := by decide +kernel
theorem dX12_laysCouples_38 : decode cX12_laysCouples 38 = .ok (.iload_n 2, 1) := by decide +kernel
theorem dX12_laysCouples_39 : decode cX12_laysCouples 39 = .ok (.iadd, 1) := by decide +kernel
theorem dX12_laysCouples_40 : decode cX12_laysCouples 40 = .ok (.aaload, 1) := by decide +kernel
theorem dX12_laysCouples_41 : decode cX12_laysCouples 41 = .ok (.iload_n 3, 1) := by decide +kernel
theorem dX12_laysCouples_42 : decode cX12_laysCouples 42 = .ok (.iconst 0, 1) := by decide +kernel
theorem dX12_laysCouples_43 : decode cX12_laysCouples 43 = .ok (.iastore, 1) := by decide +kernel
theorem dX12_laysCouples_44 : decode cX12_laysCouples 44 = .ok (.iinc 3 1, 3) := by decide +kernel
theorem dX12_laysCouples_47 : decode cX12_laysCouples 47 = .ok (.goto (-25), 3) := by decide +kernel
theorem dX12_laysCouples_50 : decode cX12_laysCouples 50 = .ok (.iinc 2 1, 3) := by decide +kernel
theorem dX12_laysCouples_53 : decode cX12_laysCouples 53 = .ok (.goto (-41), 3) := by decide +kernel
theorem dX12_laysCouples_56 : decode cX12_laysCouples 56 = .ok (.iinc 1 1, 3) := by decide +kernel
theorem dX12_laysCouples_59 : decode cX12_laysCouples 59 = .ok (.goto (-57), 3) := by decide +kernel
theorem dX12_laysCouples_62 : decode cX12_laysCouples 62 = .ok (.iconst 0, 1) := by decide +kernel
theorem dX12_laysCouples_63 : decode cX12_laysCouples 63 = .ok (.istore_n 1, 1) := by decide +kernel
theorem dX12_laysCouples_64 : decode cX12_laysCouples 64 = .ok (.iload_n 1, 1) := by decide +kernel
theorem dX12_laysCouples_65 : decode cX12_laysCouples 65 = .ok (.aload_n 0, 1) := by decide +kernel
theorem dX12_laysCouples_66 : decode cX12_laysCouples 66 = .ok (.getfield 231, 3) := by decide +kernel
theorem dX12_laysCouples_69 : decode cX12_laysCouples 69 = .ok (.if_icmp .ge 69, 3) := by decide +kernel
theorem dX12_laysCouples_72 : decode cX12_laysCouples 72 = .ok (.iconst 0, 1) := by decide +kernel
theorem dX12_laysCouples_73 : decode cX12_laysCouples 73 = .ok (.istore_n 2, 1) := by decide +kernel
theorem dX12_laysCouples_74 : decode cX12_laysCouples 74 = .ok (.iload_n 2, 1) := by decide +kernel
theorem dX12_laysCouples_75 : decode cX12_laysCouples 75 = .ok (.aload_n 0, 1) := by decide +kernel
theorem dX12_laysCouples_76 : decode cX12_laysCouples 76 = .ok (.getfield 192, 3) := by decide +kernel
theorem dX12_laysCouples_79 : decode cX12_laysCouples 79 = .ok (.if_icmp .ge 53, 3) := by decide +kernel
theorem dX12_laysCouples_82 : decode cX12_laysCouples 82 = .ok (.aload_n 0, 1) := by decide +kernel
theorem dX12_laysCouples_83 : decode cX12_laysCouples 83 = .ok (.getfield 55, 3) := by decide +kernel
theorem dX12_laysCouples_86 : decode cX12_laysCouples 86 = .ok (.bipush 48, 2) := by decide +kernel
theorem dX12_laysCouples_88 : decode cX12_laysCouples 88 = .ok (.aload_n 0, 1) := by decide +kernel
theorem dX12_laysCouples_89 : decode cX12_laysCouples 89 = .ok (.getfield 46, 3) := by decide +kernel
theorem dX12_laysCouples_92 : decode cX12_laysCouples 92 = .ok (.iload_n 2, 1) := by decide +kernel
theorem dX12_laysCouples_93 : decode cX12_laysCouples 93 = .ok (.iaload, 1) := by decide +kernel
theorem dX12_laysCouples_94 : decode cX12_laysCouples 94 = .ok (.imul, 1) := by decide +kernel
theorem dX12_laysCouples_95 : decode cX12_laysCouples 95 = .ok (.aload_n 0, 1) := by decide +kernel
theorem dX12_laysCouples_96 : decode cX12_laysCouples 96 = .ok (.getfield 46, 3) := by decide +kernel
theorem dX12_laysCouples_99 : decode cX12_laysCouples 99 = .ok (.aload_n 0, 1) := by decide +kernel
theorem dX12_laysCouples_100 : decode cX12_laysCouples 100 = .ok (.getfield 37, 3) := by decide +kernel
theorem dX12_laysCouples_103 : decode cX12_laysCouples 103 = .ok (.aload_n 0, 1) := by decide +kernel
theorem dX12_laysCouples_104 : decode cX12_laysCouples 104 = .ok (.getfield 43, 3) := by decide +kernel
theorem dX12_laysCouples_107 : decode cX12_laysCouples 107 = .ok (.iload_n 2, 1) := by decide +kernel
theorem dX12_laysCouples_108 : decode cX12_laysCouples 108 = .ok (.iaload, 1) := by decide +kernel
theorem dX12_laysCouples_109 : decode cX12_laysCouples 109 = .ok (.aaload, 1) := by decide +kernel
theorem dX12_laysCouples_110 : decode cX12_laysCouples 110 = .ok (.aload_n 0, 1) := by decide +kernel
theorem dX12_laysCouples_111 : decode cX12_laysCouples 111 = .ok (.getfield 49, 3) := by decide +kernel
theorem dX12_laysCouples_114 : decode cX12_laysCouples 114 = .ok (.iload_n 1, 1) := by decide +kernel
theorem dX12_laysCouples_115 : decode cX12_laysCouples 115 = .ok (.iaload, 1) := by decide +kernel
theorem dX12_laysCouples_116 : decode cX12_laysCouples 116 = .ok (.iaload, 1) := by decide +kernel
theorem dX12_laysCouples_117 : decode cX12_laysCouples 117 = .ok (.iaload, 1) := by decide +kernel
theorem dX12_laysCouples_118 : decode cX12_laysCouples 118 = .ok (.iadd, 1) := by decide +kernel
theorem dX12_laysCouples_119 : decode cX12_laysCouples 119 = .ok (.aaload, 1) := by decide +kernel
theorem dX12_laysCouples_120 : decode cX12_laysCouples 120 = .ok (.iload_n 1, 1) := by decide +kernel
theorem dX12_laysCouples_121 : decode cX12_laysCouples 121 = .ok (.dup2, 1) := by decide +kernel
theorem dX12_laysCouples_122 : decode cX12_laysCouples 122 = .ok (.iaload, 1) := by decide +kernel
theorem dX12_laysCouples_123 : decode cX12_laysCouples 123 = .ok (.iconst 1, 1) := by decide +kernel
theorem dX12_laysCouples_124 : decode cX12_laysCouples 124 = .ok (.iadd, 1) := by decide +kernel
theorem dX12_laysCouples_125 : decode cX12_laysCouples 125 = .ok (.iastore, 1) := by decide +kernel
theorem dX12_laysCouples_126 : decode cX12_laysCouples 126 = .ok (.iinc 2 1, 3) := by decide +kernel
theorem dX12_laysCouples_129 : decode cX12_laysCouples 129 = .ok (.goto (-55), 3) := by decide +kernel
theorem dX12_laysCouples_132 : decode cX12_laysCouples 132 = .ok (.iinc 1 1, 3) := by decide +kernel
theorem dX12_laysCouples_135 : decode cX12_laysCouples 135 = .ok (.goto (-71), 3) := by decide +kernel
theorem dX12_laysCouples_138 : decode cX12_laysCouples 138 = .ok (.return_, 1) := by decide +kernel
theorem B_X12_laysCouples_0 {g : Sg} {c t : Nat} (hL : Lay LM g c t σ)  (h : (Lay LM g c t σ → GG E mX12_laysCouples 2 [some (vr 172), some (vi 0), none, none] [] σ rc rs Q)) : GG E mX12_laysCouples 0 [some (vr 172), none, none, none] [] σ rc rs Q := by
  refine r_iconst (pc := 0) dX12_laysCouples_0 (inRk rfl) ?_
  refine r_istore_n (pc := 1) dX12_laysCouples_1 rfl (by decide) (l2 := [some (vr 172), some (vi 0), none, none]) rfl ?_
  exact (h hL)
theorem B_X12_laysCouples_2 {g : Sg} {c t : Nat} (hL : Lay LM g c t σ) {x1 : Int} (h : (((gI σ 172 16) ≤ x1 → (Lay LM g c t σ → GG E mX12_laysCouples 64 [some (vr 172), some (vi 0), none, none] [] σ rc rs Q)) ∧ (¬ ((gI σ 172 16) ≤ x1) → (Lay LM g c t σ → GG E mX12_laysCouples 12 [some (vr 172), some (vi x1), some (vi 0), none] [] σ rc rs Q)))) : GG E mX12_laysCouples 2 [some (vr 172), some (vi x1), none, none] [] σ rc rs Q := by
  refine r_iload_n (pc := 2) dX12_laysCouples_2 rfl rfl ?_
  refine r_aload_n (pc := 3) dX12_laysCouples_3 rfl rfl ?_
  refine r_getI (pc := 4) dX12_laysCouples_4 (k9 := 16) CL_12 (by decide) (by decide) w_1431 rfl (okO_of (N := 42) (hL.sh (i := 0) rfl (by decide) (by decide)) (by decide)) (fun _ => ?_)
  refine r_icmp_ge (pc := 7) (tgt := 62) dX12_laysCouples_7 (by decide) (fun c9 => ?_) (fun c9 => ?_)
  · replace h := h.1 c9
    refine r_iconst (pc := 62) dX12_laysCouples_62 (inRk rfl) ?_
    refine r_istore_n (pc := 63) dX12_laysCouples_63 rfl (by decide) (l2 := [some (vr 172), some (vi 0), none, none]) rfl ?_
    exact (h hL)
  · replace h := h.2 c9
    refine r_iconst (pc := 10) dX12_laysCouples_10 (inRk rfl) ?_
    refine r_istore_n (pc := 11) dX12_laysCouples_11 rfl (by decide) (l2 := [some (vr 172), some (vi x1), some (vi 0), none]) rfl ?_
    exact (h hL)
theorem B_X12_laysCouples_12 {g : Sg} {c t : Nat} (hL : Lay LM g c t σ) {x1 : Int} {x2 : Int} (h : (((gI σ 172 16) ≤ x2 → inR (x1 + 1) ∧ (Lay LM g c t σ → GG E mX12_laysCouples 2 [some (vr 172), some (vi (x1 + 1)), none, none] [] σ rc rs Q)) ∧ (¬ ((gI σ 172 16) ≤ x2) → (Lay LM g c t σ → GG E mX12_laysCouples 22 [some (vr 172), some (vi x1), some (vi x2), some (vi 0)] [] σ rc rs Q)))) : GG E mX12_laysCouples 12 [some (vr 172), some (vi x1), some (vi x2), none] [] σ rc rs Q := by
  refine r_iload_n (pc := 12) dX12_laysCouples_12 rfl rfl ?_
  refine r_aload_n (pc := 13) dX12_laysCouples_13 rfl rfl ?_
  refine r_getI (pc := 14) dX12_laysCouples_14 (k9 := 16) CL_12 (by decide) (by decide) w_1431 rfl (okO_of (N := 42) (hL.sh (i := 0) rfl (by decide) (by decide)) (by decide)) (fun _ => ?_)
  refine r_icmp_ge (pc := 17) (tgt := 56) dX12_laysCouples_17 (by decide) (fun c9 => ?_) (fun c9 => ?_)
  · replace h := h.1 c9
    obtain ⟨o1, h⟩ := h
    refine r_iinc (pc := 56) dX12_laysCouples_56 rfl (by decide) o1 (l2 := [some (vr 172), some (vi (x1 + 1)), some (vi x2), none]) rfl ?_
    refine r_goto (pc := 59) (tgt := 2) dX12_laysCouples_59 (by decide) ?_
    exact GG.msk [true, true, false, false] (h hL)
  · replace h := h.2 c9
    refine r_iconst (pc := 20) dX12_laysCouples_20 (inRk rfl) ?_
    refine r_istore_n (pc := 21) dX12_laysCouples_21 rfl (by decide) (l2 := [some (vr 172), some (vi x1), some (vi x2), some (vi 0)]) rfl ?_
    exact (h hL)
theorem B_X12_laysCouples_22 {g : Sg} {c t : Nat} (hL : Lay LM g c t σ) {x1 : Int} {x2 : Int} {x3 : Int} (h : (((gI σ 172 16) ≤ x3 → inR (x2 + 1) ∧ (Lay LM g c t σ → GG E mX12_laysCouples 12 [some (vr 172), some (vi x1), some (vi (x2 + 1)), none] [] σ rc rs Q)) ∧ (¬ ((gI σ 172 16) ≤ x3) → inR (48 * x1) ∧ inR ((48 * x1) + x2) ∧ (0 ≤ ((48 * x1) + x2) ∧ ((48 * x1) + x2) < 2304) ∧ (0 ≤ x3 ∧ x3 < 48) ∧ ∀ τ7 : Sg, τ7 = sI σ (557 + ((48 * x1) + x2).toNat) x3.toNat 0 → inR (x3 + 1) ∧ (Lay LM g c t τ7 → GG E mX12_laysCouples 22 [some (vr 172), some (vi x1), some (vi x2), some (vi (x3 + 1))] [] τ7 rc rs Q)))) : GG E mX12_laysCouples 22 [some (vr 172), some (vi x1), some (vi x2), some (vi x3)] [] σ rc rs Q := by
  refine r_iload_n (pc := 22) dX12_laysCouples_22 rfl rfl ?_
  refine r_aload_n (pc := 23) dX12_laysCouples_23 rfl rfl ?_
  refine r_getI (pc := 24) dX12_laysCouples_24 (k9 := 16) CL_12 (by decide) (by decide) w_1431 rfl (okO_of (N := 42) (hL.sh (i := 0) rfl (by decide) (by decide)) (by decide)) (fun _ => ?_)
  refine r_icmp_ge (pc := 27) (tgt := 50) dX12_laysCouples_27 (by decide) (fun c9 => ?_) (fun c9 => ?_)
  · replace h := h.1 c9
    obtain ⟨o1, h⟩ := h
    refine r_iinc (pc := 50) dX12_laysCouples_50 rfl (by decide) o1 (l2 := [some (vr 172), some (vi x1), some (vi (x2 + 1)), some (vi x3)]) rfl ?_
    refine r_goto (pc := 53) (tgt := 12) dX12_laysCouples_53 (by decide) ?_
    exact GG.msk [true, true, true, false] (h hL)
  · replace h := h.2 c9
    refine r_aload_n (pc := 30) dX12_laysCouples_30 rfl rfl ?_
    refine r_getR (pc := 31) dX12_laysCouples_31 (k9 := 28) CL_12 (by decide) (by decide) w_1443 rfl (okO_of (N := 42) (hL.sh (i := 0) rfl (by decide) (by decide)) (by decide)) ?_
    refine eqR (y := 556) (hL.rf (i := 13) rfl) ?_
    refine r_bipush (pc := 34) dX12_laysCouples_34 (by decide) ?_
    refine r_iload_n (pc := 36) dX12_laysCouples_36 rfl rfl ?_
    obtain ⟨o2, h⟩ := h
    refine r_imul (pc := 37) dX12_laysCouples_37 o2 ?_
    refine r_iload_n (pc := 38) dX12_laysCouples_38 rfl rfl ?_
    obtain ⟨o3, h⟩ := h
    refine r_iadd (pc := 39) dX12_laysCouples_39 o3 ?_
    obtain ⟨o4, h⟩ := h
    refine r_aaload (pc := 40) dX12_laysCouples_40 (okB_of (c := 24) (n := 2304) (hL.sh (i := 18) rfl (by decide) (by decide)) (by decide) o4) ?_
    have q5 : 557 ≤ 557 + ((48 * x1) + x2).toNat ∧ 557 + ((48 * x1) + x2).toNat < 2861 := ⟨Nat.le_add_right _ _, rowB o4 (by decide)⟩
    refine eqR (y := 557 + ((48 * x1) + x2).toNat) (hL.rx (i := 4) rfl (rowC o4 (by decide))) ?_
    refine r_iload_n (pc := 41) dX12_laysCouples_41 rfl rfl ?_
    refine r_iconst (pc := 42) dX12_laysCouples_42 (inRk rfl) ?_
    obtain ⟨o6, h⟩ := h
    refine r_iastore (pc := 43) dX12_laysCouples_43 (okB_of (c := 20) (n := 48) (hL.sh (i := 19) rfl q5.1 q5.2) (Nat.le_trans (by decide) q5.1) o6) ?_
    refine nmS (fun τ7 e7 => ?_)
    replace h := h τ7 e7
    have hL := hL.wI e7 (Nat.le_trans (by decide) q5.1) (.inl ⟨Nat.le_trans (by decide) q5.1, Nat.lt_of_lt_of_le q5.2 (by decide)⟩)
    obtain ⟨o8, h⟩ := h
    refine r_iinc (pc := 44) dX12_laysCouples_44 rfl (by decide) o8 (l2 := [some (vr 172), some (vi x1), some (vi x2), some (vi (x3 + 1))]) rfl ?_
    refine r_goto (pc := 47) (tgt := 22) dX12_laysCouples_47 (by decide) ?_
    exact (h hL)
theorem B_X12_laysCouples_64 {g : Sg} {c t : Nat} (hL : Lay LM g c t σ) {x1 : Int} (h : (((gI σ 172 16) ≤ x1 → (Lay LM g c t σ → Q (.inl none) σ)) ∧ (¬ ((gI σ 172 16) ≤ x1) → (Lay LM g c t σ → GG E mX12_laysCouples 74 [some (vr 172), some (vi x1), some (vi 0), none] [] σ rc rs Q)))) : GG E mX12_laysCouples 64 [some (vr 172), some (vi x1), none, none] [] σ rc rs Q := by
  refine r_iload_n (pc := 64) dX12_laysCouples_64 rfl rfl ?_
  refine r_aload_n (pc := 65) dX12_laysCouples_65 rfl rfl ?_
  refine r_getI (pc := 66) dX12_laysCouples_66 (k9 := 16) CL_12 (by decide) (by decide) w_1431 rfl (okO_of (N := 42) (hL.sh (i := 0) rfl (by decide) (by decide)) (by decide)) (fun _ => ?_)
  refine r_icmp_ge (pc := 69) (tgt := 138) dX12_laysCouples_69 (by decide) (fun c9 => ?_) (fun c9 => ?_)
  · replace h := h.1 c9
    exact r_return (pc := 138) dX12_laysCouples_138 (by decide +kernel) rfl (h hL)
  · replace h := h.2 c9
    refine r_iconst (pc := 72) dX12_laysCouples_72 (inRk rfl) ?_
    refine r_istore_n (pc := 73) dX12_laysCouples_73 rfl (by decide) (l2 := [some (vr 172), some (vi x1), some (vi 0), none]) rfl ?_
    exact (h hL)
theorem B_X12_laysCouples_74 {g : Sg} {c t : Nat} (hL : Lay LM g c t σ) {x1 : Int} {x2 : Int} (h : (((gI σ 172 15) ≤ x2 → inR (x1 + 1) ∧ (Lay LM g c t σ → GG E mX12_laysCouples 64 [some (vr 172), some (vi (x1 + 1)), none, none] [] σ rc rs Q)) ∧ (¬ ((gI σ 172 15) ≤ x2) → (0 ≤ x2 ∧ x2 < 120) ∧ inR (48 * (gI σ 553 x2.toNat)) ∧ (0 ≤ (gI σ 552 x2.toNat) ∧ (gI σ 552 x2.toNat) < 120) ∧ (0 ≤ x1 ∧ x1 < 120) ∧ (0 ≤ (gI σ 554 x1.toNat) ∧ (gI σ 554 x1.toNat) < 120) ∧ ∀ v8 : Int, v8 = gI σ (431 + (gI σ 552 x2.toNat).toNat) (gI σ 554 x1.toNat).toNat → (0 ≤ v8 ∧ v8 < 120) ∧ inR ((48 * (gI σ 553 x2.toNat)) + (gI σ 553 v8.toNat)) ∧ ∀ v11 : Int, v11 = (48 * (gI σ 553 x2.toNat)) + (gI σ 553 v8.toNat) → (0 ≤ v11 ∧ v11 < 2304) ∧ (0 ≤ x1 ∧ x1 < 48) ∧ inR ((gI σ (557 + v11.toNat) x1.toNat) + 1) ∧ ∀ τ16 : Sg, τ16 = sI σ (557 + v11.toNat) x1.toNat ((gI σ (557 + v11.toNat) x1.toNat) + 1) → inR (x2 + 1) ∧ (Lay LM g c t τ16 → GG E mX12_laysCouples 74 [some (vr 172), some (vi x1), some (vi (x2 + 1)), none] [] τ16 rc rs Q)))) : GG E mX12_laysCouples 74 [some (vr 172), some (vi x1), some (vi x2), none] [] σ rc rs Q := by
  refine r_iload_n (pc := 74) dX12_laysCouples_74 rfl rfl ?_
  refine r_aload_n (pc := 75) dX12_laysCouples_75 rfl rfl ?_
  refine r_getI (pc := 76) dX12_laysCouples_76 (k9 := 15) CL_12 (by decide) (by decide) w_1430 rfl (okO_of (N := 42) (hL.sh (i := 0) rfl (by decide) (by decide)) (by decide)) (fun _ => ?_)
  refine r_icmp_ge (pc := 79) (tgt := 132) dX12_laysCouples_79 (by decide) (fun c9 => ?_) (fun c9 => ?_)
  · replace h := h.1 c9
    obtain ⟨o1, h⟩ := h
    refine r_iinc (pc := 132) dX12_laysCouples_132 rfl (by decide) o1 (l2 := [some (vr 172), some (vi (x1 + 1)), some (vi x2), none]) rfl ?_
    refine r_goto (pc := 135) (tgt := 64) dX12_laysCouples_135 (by decide) ?_
    exact GG.msk [true, true, false, false] (h hL)
  · replace h := h.2 c9
    refine r_aload_n (pc := 82) dX12_laysCouples_82 rfl rfl ?_
    refine r_getR (pc := 83) dX12_laysCouples_83 (k9 := 28) CL_12 (by decide) (by decide) w_1443 rfl (okO_of (N := 42) (hL.sh (i := 0) rfl (by decide) (by decide)) (by decide)) ?_
    refine eqR (y := 556) (hL.rf (i := 13) rfl) ?_
    refine r_bipush (pc := 86) dX12_laysCouples_86 (by decide) ?_
    refine r_aload_n (pc := 88) dX12_laysCouples_88 rfl rfl ?_
    refine r_getR (pc := 89) dX12_laysCouples_89 (k9 := 24) CL_12 (by decide) (by decide) w_1439 rfl (okO_of (N := 42) (hL.sh (i := 0) rfl (by decide) (by decide)) (by decide)) ?_
    refine eqR (y := 553) (hL.rf (i := 10) rfl) ?_
    refine r_iload_n (pc := 92) dX12_laysCouples_92 rfl rfl ?_
    obtain ⟨o2, h⟩ := h
    refine r_iaload (pc := 93) dX12_laysCouples_93 (okA_of (c := 20) (n := 120) (hL.sh (i := 15) rfl (by decide) (by decide)) (by decide) o2) ?_
    obtain ⟨o3, h⟩ := h
    refine r_imul (pc := 94) dX12_laysCouples_94 o3 ?_
    refine r_aload_n (pc := 95) dX12_laysCouples_95 rfl rfl ?_
    refine r_getR (pc := 96) dX12_laysCouples_96 (k9 := 24) CL_12 (by decide) (by decide) w_1439 rfl (okO_of (N := 42) (hL.sh (i := 0) rfl (by decide) (by decide)) (by decide)) ?_
    refine eqR (y := 553) (hL.rf (i := 10) rfl) ?_
    refine r_aload_n (pc := 99) dX12_laysCouples_99 rfl rfl ?_
    refine r_getR (pc := 100) dX12_laysCouples_100 (k9 := 21) CL_12 (by decide) (by decide) w_1436 rfl (okO_of (N := 42) (hL.sh (i := 0) rfl (by decide) (by decide)) (by decide)) ?_
    refine eqR (y := 430) (hL.rf (i := 7) rfl) ?_
    refine r_aload_n (pc := 103) dX12_laysCouples_103 rfl rfl ?_
    refine r_getR (pc := 104) dX12_laysCouples_104 (k9 := 23) CL_12 (by decide) (by decide) w_1438 rfl (okO_of (N := 42) (hL.sh (i := 0) rfl (by decide) (by decide)) (by decide)) ?_
    refine eqR (y := 552) (hL.rf (i := 9) rfl) ?_
    refine r_iload_n (pc := 107) dX12_laysCouples_107 rfl rfl ?_
    refine r_iaload (pc := 108) dX12_laysCouples_108 (okA_of (c := 20) (n := 120) (hL.sh (i := 14) rfl (by decide) (by decide)) (by decide) o2) ?_
    obtain ⟨o4, h⟩ := h
    refine r_aaload (pc := 109) dX12_laysCouples_109 (okB_of (c := 24) (n := 120) (hL.sh (i := 11) rfl (by decide) (by decide)) (by decide) o4) ?_
    have q5 : 431 ≤ 431 + (gI σ 552 x2.toNat).toNat ∧ 431 + (gI σ 552 x2.toNat).toNat < 551 := ⟨Nat.le_add_right _ _, rowB o4 (by decide)⟩
    refine eqR (y := 431 + (gI σ 552 x2.toNat).toNat) (hL.rx (i := 3) rfl (rowC o4 (by decide))) ?_
    refine r_aload_n (pc := 110) dX12_laysCouples_110 rfl rfl ?_
    refine r_getR (pc := 111) dX12_laysCouples_111 (k9 := 25) CL_12 (by decide) (by decide) w_1440 rfl (okO_of (N := 42) (hL.sh (i := 0) rfl (by decide) (by decide)) (by decide)) ?_
    refine eqR (y := 554) (hL.rf (i := 11) rfl) ?_
    refine r_iload_n (pc := 114) dX12_laysCouples_114 rfl rfl ?_
    obtain ⟨o6, h⟩ := h
    refine r_iaload (pc := 115) dX12_laysCouples_115 (okA_of (c := 20) (n := 120) (hL.sh (i := 16) rfl (by decide) (by decide)) (by decide) o6) ?_
    obtain ⟨o7, h⟩ := h
    refine r_iaload (pc := 116) dX12_laysCouples_116 (okA_of (c := 20) (n := 120) (hL.sh (i := 12) rfl q5.1 q5.2) (Nat.le_trans (by decide) q5.1) o7) ?_
    refine nmI (fun v8 e9 => ?_)
    replace h := h v8 e9
    obtain ⟨o9, h⟩ := h
    refine r_iaload (pc := 117) dX12_laysCouples_117 (okA_of (c := 20) (n := 120) (hL.sh (i := 15) rfl (by decide) (by decide)) (by decide) o9) ?_
    obtain ⟨o10, h⟩ := h
    refine r_iadd (pc := 118) dX12_laysCouples_118 o10 ?_
    refine nmI (fun v11 e9 => ?_)
    replace h := h v11 e9
    obtain ⟨o12, h⟩ := h
    refine r_aaload (pc := 119) dX12_laysCouples_119 (okB_of (c := 24) (n := 2304) (hL.sh (i := 18) rfl (by decide) (by decide)) (by decide) o12) ?_
    have q13 : 557 ≤ 557 + v11.toNat ∧ 557 + v11.toNat < 2861 := ⟨Nat.le_add_right _ _, rowB o12 (by decide)⟩
    refine eqR (y := 557 + v11.toNat) (hL.rx (i := 4) rfl (rowC o12 (by decide))) ?_
    refine r_iload_n (pc := 120) dX12_laysCouples_120 rfl rfl ?_
    refine r_dup2_11 (pc := 121) dX12_laysCouples_121 (fun _ h9 => nomatch h9) (fun _ h9 => nomatch h9) ?_
    obtain ⟨o14, h⟩ := h
    refine r_iaload (pc := 122) dX12_laysCouples_122 (okA_of (c := 20) (n := 48) (hL.sh (i := 19) rfl q13.1 q13.2) (Nat.le_trans (by decide) q13.1) o14) ?_
    refine r_iconst (pc := 123) dX12_laysCouples_123 (inRk rfl) ?_
    obtain ⟨o15, h⟩ := h
    refine r_iadd (pc := 124) dX12_laysCouples_124 o15 ?_
    refine r_iastore (pc := 125) dX12_laysCouples_125 (okB_of (c := 20) (n := 48) (hL.sh (i := 19) rfl q13.1 q13.2) (Nat.le_trans (by decide) q13.1) o14) ?_
    refine nmS (fun τ16 e16 => ?_)
    replace h := h τ16 e16
    have hL := hL.wI e16 (Nat.le_trans (by decide) q13.1) (.inl ⟨Nat.le_trans (by decide) q13.1, Nat.lt_of_lt_of_le q13.2 (by decide)⟩)
    obtain ⟨o17, h⟩ := h
    refine r_iinc (pc := 126) dX12_laysCouples_126 rfl (by decide) o17 (l2 := [some (vr 172), some (vi x1), some (vi (x2 + 1)), none]) rfl ?_
    refine r_goto (pc := 129) (tgt := 74) dX12_laysCouples_129 (by decide) ?_
    exact (h hL)
theorem C_X12_laysCouples {a0 : Nat} (h : GG E mX12_laysCouples 0 [some (vr a0), none, none, none] [] σ 0 0 Q) : CC E mX12_laysCouples [vr a0] σ Q := CC.of (by decide +kernel) rfl (by decide +kernel) (fun h9 => nomatch h9) (Nat.le_of_ble_eq_true rfl) h
theorem dX12_laysPower_0 : decode cX12_laysPower 0 = .ok (.iconst 0, 1) := by decide +kernel
theorem dX12_laysPower_1 : decode cX12_laysPower 1 = .ok (.istore_n 2, 1) := by decide +kernel
theorem dX12_laysPower_2 : decode cX12_laysPower 2 = .ok (.iload_n 2, 1) := by decide +kernel
theorem dX12_laysPower_3 : decode cX12_laysPower 3 = .ok (.aload_n 0, 1) := by decide +kernel
theorem dX12_laysPower_4 : decode cX12_laysPower 4 = .ok (.getfield 231, 3) := by decide +kernel
theorem dX12_laysPower_7 : decode cX12_laysPower 7 = .ok (.if_icmp .ge 23, 3) := by decide +kernel
theorem dX12_laysPower_10 : decode cX12_laysPower 10 = .ok (.aload_n 0, 1) := by decide +kernel
theorem dX12_laysPower_11 : decode cX12_laysPower 11 = .ok (.getfield 76, 3) := by decide +kernel
theorem dX12_laysPower_14 : decode cX12_laysPower 14 = .ok (.iload_n 2, 1) := by decide +kernel
theorem dX12_laysPower_15 : decode cX12_laysPower 15 = .ok (.iconst 1, 1) := by decide +kernel
theorem dX12_laysPower_16 : decode cX12_laysPower 16 = .ok (.iastore, 1) := by decide +kernel
theorem dX12_laysPower_17 : decode cX12_laysPower 17 = .ok (.aload_n 0, 1) := by decide +kernel
theorem dX12_laysPower_18 : decode cX12_laysPower 18 = .ok (.getfield 79, 3) := by decide +kernel
theorem dX12_laysPower_21 : decode cX12_laysPower 21 = .ok (.iload_n 2, 1) := by decide +kernel
theorem dX12_laysPower_22 : decode cX12_laysPower 22 = .ok (.iconst 0, 1) := by decide +kernel
theorem dX12_laysPower_23 : decode cX12_laysPower 23 = .ok (.iastore, 1) := by decide +kernel
theorem dX12_laysPower_24 : decode cX12_laysPower 24 = .ok (.iinc 2 1, 3) := by decide +kernel
theorem dX12_laysPower_27 : decode cX12_laysPower 27 = .ok (.goto (-25), 3) := by decide +kernel
theorem dX12_laysPower_30 : decode cX12_laysPower 30 = .ok (.iconst 0, 1) := by decide +kernel
theorem dX12_laysPower_31 : decode cX12_laysPower 31 = .ok (.istore_n 2, 1) := by decide +kernel
theorem dX12_laysPower_32 : decode cX12_laysPower 32 = .ok (.iload_n 2, 1) := by decide +kernel
theorem dX12_laysPower_33 : decode cX12_laysPower 33 = .ok (.iload_n 1, 1) := by decide +kernel
theorem dX12_laysPower_34 : decode cX12_laysPower 34 = .ok (.if_icmp .ge 73, 3) := by decide +kernel
theorem dX12_laysPower_37 : decode cX12_laysPower 37 = .ok (.iconst 0, 1) := by decide +kernel
theorem dX12_laysPower_38 : decode cX12_laysPower 38 = .ok (.istore_n 3, 1) := by decide +kernel
theorem dX12_laysPower_39 : decode cX12_laysPower 39 = .ok (.iload_n 3, 1) := by decide +kernel
theorem dX12_laysPower_40 : decode cX12_laysPower 40 = .ok (.aload_n 0, 1) := by decide +kernel
theorem dX12_laysPower_41 : decode cX12_laysPower 41 = .ok (.getfield 231, 3) := by decide +kernel
theorem dX12_laysPower_44 : decode cX12_laysPower 44 = .ok (.if_icmp .ge 57, 3) := by decide +kernel
theorem dX12_laysPower_47 : decode cX12_laysPower 47 = .ok (.aload_n 0, 1) := by decide +kernel
theorem dX12_laysPower_48 : decode cX12_laysPower 48 = .ok (.aload_n 0, 1) := by decide +kernel
theorem dX12_laysPower_49 : decode cX12_laysPower 49 = .ok (.iload_n 3, 1) := by decide +kernel
theorem dX12_laysPower_50 : decode cX12_laysPower 50 = .ok (.invokevirtual 290, 3) := by decide +kernel
theorem dX12_laysPower_53 : decode cX12_laysPower 53 = .ok (.i2l, 1) := by decide +kernel
theorem dX12_laysPower_54 : decode cX12_laysPower 54 = .ok (.aload_n 0, 1) := by decide +kernel
theorem dX12_laysPower_55 : decode cX12_laysPower 55 = .ok (.getfield 76, 3) := by decide +kernel
theorem dX12_laysPower_58 : decode cX12_laysPower 58 = .ok (.iload_n 3, 1) := by decide +kernel
theorem dX12_laysPower_59 : decode cX12_laysPower 59 = .ok (.iaload, 1) := by decide +kernel
theorem dX12_laysPower_60 : decode cX12_laysPower 60 = .ok (.i2l, 1) := by decide +kernel
theorem dX12_laysPower_61 : decode cX12_laysPower 61 = .ok (.lmul, 1) := by decide +kernel
theorem dX12_laysPower_62 : decode cX12_laysPower 62 = .ok (.aload_n 0, 1) := by decide +kernel
theorem dX12_laysPower_63 : decode cX12_laysPower 63 = .ok (.getfield 79, 3) := by decide +kernel
theorem dX12_laysPower_66 : decode cX12_laysPower 66 = .ok (.iload_n 3, 1) := by decide +kernel
theorem dX12_laysPower_67 : decode cX12_laysPower 67 = .ok (.iaload, 1) := by decide +kernel
theorem dX12_laysPower_68 : decode cX12_laysPower 68 = .ok (.i2l, 1) := by decide +kernel
theorem dX12_laysPower_69 : decode cX12_laysPower 69 = .ok (.lsub, 1) := by decide +kernel
theorem dX12_laysPower_70 : decode cX12_laysPower 70 = .ok (.invokevirtual 250, 3) := by decide +kernel
theorem dX12_laysPower_73 : decode cX12_laysPower 73 = .ok (.istore 4, 2) := by decide +kernel
theorem dX12_laysPower_75 : decode cX12_laysPower 75 = .ok (.aload_n 0, 1) := by decide +kernel
theorem dX12_laysPower_76 : decode cX12_laysPower 76 = .ok (.getfield 79, 3) := by decide +kernel
theorem dX12_laysPower_79 : decode cX12_laysPower 79 = .ok (.iload_n 3, 1) := by decide +kernel
theorem dX12_laysPower_80 : decode cX12_laysPower 80 = .ok (.aload_n 0, 1) := by decide +kernel
theorem dX12_laysPower_81 : decode cX12_laysPower 81 = .ok (.getfield 76, 3) := by decide +kernel
theorem dX12_laysPower_84 : decode cX12_laysPower 84 = .ok (.iload_n 3, 1) := by decide +kernel
theorem dX12_laysPower_85 : decode cX12_laysPower 85 = .ok (.iaload, 1) := by decide +kernel
theorem dX12_laysPower_86 : decode cX12_laysPower 86 = .ok (.iastore, 1) := by decide +kernel
theorem dX12_laysPower_87 : decode cX12_laysPower 87 = .ok (.aload_n 0, 1) := by decide +kernel
theorem dX12_laysPower_88 : decode cX12_laysPower 88 = .ok (.getfield 76, 3) := by decide +kernel
theorem dX12_laysPower_91 : decode cX12_laysPower 91 = .ok (.iload_n 3, 1) := by decide +kernel
theorem dX12_laysPower_92 : decode cX12_laysPower 92 = .ok (.iload 4, 2) := by decide +kernel
theorem dX12_laysPower_94 : decode cX12_laysPower 94 = .ok (.iastore, 1) := by decide +kernel
theorem dX12_laysPower_95 : decode cX12_laysPower 95 = .ok (.iinc 3 1, 3) := by decide +kernel
theorem dX12_laysPower_98 : decode cX12_laysPower 98 = .ok (.goto (-59), 3) := by decide +kernel
theorem dX12_laysPower_101 : decode cX12_laysPower 101 = .ok (.iinc 2 1, 3) := by decide +kernel
theorem dX12_laysPower_104 : decode cX12_laysPower 104 = .ok (.goto (-72), 3) := by decide +kernel
theorem dX12_laysPower_107 : decode cX12_laysPower 107 = .ok (.return_, 1) := by decide +kernel
theorem B_X12_laysPower_0 {g : Sg} {c t : Nat} (hL : Lay LM g c t σ) {x1 : Int} (h : (Lay LM g c t σ → GG E mX12_laysPower 2 [some (vr 172), some (vi x1), some (vi 0), none, none] [] σ rc rs Q)) : GG E mX12_laysPower 0 [some (vr 172), some (vi x1), none, none, none] [] σ rc rs Q := by
  refine r_iconst (pc := 0) dX12_laysPower_0 (inRk rfl) ?_
  refine r_istore_n (pc := 1) dX12_laysPower_1 rfl (by decide) (l2 := [some (vr 172), some (vi x1), some (vi 0), none, none]) rfl ?_
  exact (h hL)
theorem B_X12_laysPower_2 {g : Sg} {c t : Nat} (hL : Lay LM g c t σ) {x1 : Int} {x2 : Int} (h : (((gI σ 172 16) ≤ x2 → (Lay LM g c t σ → GG E mX12_laysPower 32 [some (vr 172), some (vi x1), some (vi 0), none, none] [] σ rc rs Q)) ∧ (¬ ((gI σ 172 16) ≤ x2) → (0 ≤ x2 ∧ x2 < 48) ∧ ∀ τ2 : Sg, τ2 = sI σ 2963 x2.toNat 1 → ∀ τ3 : Sg, τ3 = sI τ2 2964 x2.toNat 0 → inR (x2 + 1) ∧ (Lay LM g c t τ3 → GG E mX12_laysPower 2 [some (vr 172), some (vi x1), some (vi (x2 + 1)), none, none] [] τ3 rc rs Q)))) : GG E mX12_laysPower 2 [some (vr 172), some (vi x1), some (vi x2), none, none] [] σ rc rs Q := by
  refine r_iload_n (pc := 2) dX12_laysPower_2 rfl rfl ?_
  refine r_aload_n (pc := 3) dX12_laysPower_3 rfl rfl ?_
  refine r_getI (pc := 4) dX12_laysPower_4 (k9 := 16) CL_12 (by decide) (by decide) w_1431 rfl (okO_of (N := 42) (hL.sh (i := 0) rfl (by decide) (by decide)) (by decide)) (fun _ => ?_)
  refine r_icmp_ge (pc := 7) (tgt := 30) dX12_laysPower_7 (by decide) (fun c9 => ?_) (fun c9 => ?_)
  · replace h := h.1 c9
    refine r_iconst (pc := 30) dX12_laysPower_30 (inRk rfl) ?_
    refine r_istore_n (pc := 31) dX12_laysPower_31 rfl (by decide) (l2 := [some (vr 172), some (vi x1), some (vi 0), none, none]) rfl ?_
    exact (h hL)
  · replace h := h.2 c9
    refine r_aload_n (pc := 10) dX12_laysPower_10 rfl rfl ?_
    refine r_getR (pc := 11) dX12_laysPower_11 (k9 := 36) CL_12 (by decide) (by decide) w_1451 rfl (okO_of (N := 42) (hL.sh (i := 0) rfl (by decide) (by decide)) (by decide)) ?_
    refine eqR (y := 2963) (hL.rf (i := 20) rfl) ?_
    refine r_iload_n (pc := 14) dX12_laysPower_14 rfl rfl ?_
    refine r_iconst (pc := 15) dX12_laysPower_15 (inRk rfl) ?_
    obtain ⟨o1, h⟩ := h
    refine r_iastore (pc := 16) dX12_laysPower_16 (okB_of (c := 20) (n := 48) (hL.sh (i := 28) rfl (by decide) (by decide)) (by decide) o1) ?_
    refine nmS (fun τ2 e2 => ?_)
    replace h := h τ2 e2
    have hL := hL.wI e2 (by decide) (.inl (by decide))
    refine r_aload_n (pc := 17) dX12_laysPower_17 rfl rfl ?_
    refine r_getR (pc := 18) dX12_laysPower_18 (k9 := 37) CL_12 (by decide) (by decide) w_1452 rfl (okO_of (N := 42) (hL.sh (i := 0) rfl (by decide) (by decide)) (by decide)) ?_
    refine eqR (y := 2964) (hL.rf (i := 21) rfl) ?_
    refine r_iload_n (pc := 21) dX12_laysPower_21 rfl rfl ?_
    refine r_iconst (pc := 22) dX12_laysPower_22 (inRk rfl) ?_
    refine r_iastore (pc := 23) dX12_laysPower_23 (okB_of (c := 20) (n := 48) (hL.sh (i := 29) rfl (by decide) (by decide)) (by decide) o1) ?_
    refine nmS (fun τ3 e3 => ?_)
    replace h := h τ3 e3
    have hL := hL.wI e3 (by decide) (.inl (by decide))
    obtain ⟨o4, h⟩ := h
    refine r_iinc (pc := 24) dX12_laysPower_24 rfl (by decide) o4 (l2 := [some (vr 172), some (vi x1), some (vi (x2 + 1)), none, none]) rfl ?_
    refine r_goto (pc := 27) (tgt := 2) dX12_laysPower_27 (by decide) ?_
    exact (h hL)
theorem B_X12_laysPower_32 {g : Sg} {c t : Nat} (hL : Lay LM g c t σ) {x1 : Int} {x2 : Int} (h : ((x1 ≤ x2 → (Lay LM g c t σ → Q (.inl none) σ)) ∧ (¬ (x1 ≤ x2) → (Lay LM g c t σ → GG E mX12_laysPower 39 [some (vr 172), some (vi x1), some (vi x2), some (vi 0), none] [] σ rc rs Q)))) : GG E mX12_laysPower 32 [some (vr 172), some (vi x1), some (vi x2), none, none] [] σ rc rs Q := by
  refine r_iload_n (pc := 32) dX12_laysPower_32 rfl rfl ?_
  refine r_iload_n (pc := 33) dX12_laysPower_33 rfl rfl ?_
  refine r_icmp_ge (pc := 34) (tgt := 107) dX12_laysPower_34 (by decide) (fun c9 => ?_) (fun c9 => ?_)
  · replace h := h.1 c9
    exact r_return (pc := 107) dX12_laysPower_107 (by decide +kernel) rfl (h hL)
  · replace h := h.2 c9
    refine r_iconst (pc := 37) dX12_laysPower_37 (inRk rfl) ?_
    refine r_istore_n (pc := 38) dX12_laysPower_38 rfl (by decide) (l2 := [some (vr 172), some (vi x1), some (vi x2), some (vi 0), none]) rfl ?_
    exact (h hL)
theorem B_X12_laysPower_39 {g : Sg} {c t : Nat} (hL : Lay LM g c t σ) {x1 : Int} {x2 : Int} {x3 : Int} (h : (((gI σ 172 16) ≤ x3 → inR (x2 + 1) ∧ (Lay LM g c t σ → GG E mX12_laysPower 32 [some (vr 172), some (vi x1), some (vi (x2 + 1)), none, none] [] σ rc rs Q)) ∧ (¬ ((gI σ 172 16) ≤ x3) → (Lay LM g c t σ → CC E mX12_natural [vr 172, vi x3] σ (KI (fun r2 τ3 => Lay LM g c t τ3 ∧ (inR r2 → (0 ≤ x3 ∧ x3 < 48) ∧ ∀ v5 : Int, v5 = wL ((wL (r2 * (gI τ3 2963 x3.toNat))) - (gI τ3 2964 x3.toNat)) → (Lay LM g c t τ3 → CC E mX12_mod [vr 172, vl v5] τ3 (KI (fun r6 τ7 => Lay LM g c t τ7 ∧ (inR r6 → ∀ τ8 : Sg, τ8 = sI τ7 2964 x3.toNat (gI τ7 2963 x3.toNat) → ∀ τ9 : Sg, τ9 = sI τ8 2963 x3.toNat r6 → inR (x3 + 1) ∧ (Lay LM g c t τ9 → GG E mX12_laysPower 39 [some (vr 172), some (vi x1), some (vi x2), some (vi (x3 + 1)), none] [] τ9 rc rs Q))) (fun _ _ => False))))) (fun _ _ => False)))))) : GG E mX12_laysPower 39 [some (vr 172), some (vi x1), some (vi x2), some (vi x3), none] [] σ rc rs Q := by
  refine r_iload_n (pc := 39) dX12_laysPower_39 rfl rfl ?_
  refine r_aload_n (pc := 40) dX12_laysPower_40 rfl rfl ?_
  refine r_getI (pc := 41) dX12_laysPower_41 (k9 := 16) CL_12 (by decide) (by decide) w_1431 rfl (okO_of (N := 42) (hL.sh (i := 0) rfl (by decide) (by decide)) (by decide)) (fun _ => ?_)
  refine r_icmp_ge (pc := 44) (tgt := 101) dX12_laysPower_44 (by decide) (fun c9 => ?_) (fun c9 => ?_)
  · replace h := h.1 c9
    obtain ⟨o1, h⟩ := h
    refine r_iinc (pc := 101) dX12_laysPower_101 rfl (by decide) o1 (l2 := [some (vr 172), some (vi x1), some (vi (x2 + 1)), some (vi x3), none]) rfl ?_
    refine r_goto (pc := 104) (tgt := 32) dX12_laysPower_104 (by decide) ?_
    exact GG.msk [true, true, true, false, false] (h hL)
  · replace h := h.2 c9
    refine r_aload_n (pc := 47) dX12_laysPower_47 rfl rfl ?_
    refine r_aload_n (pc := 48) dX12_laysPower_48 rfl rfl ?_
    refine r_iload_n (pc := 49) dX12_laysPower_49 rfl rfl ?_
    refine c_VI0N (M := mX12_laysPower) (pc := 50) (As := [vi x3]) dX12_laysPower_50 K_X12_natural w_1734 ⟨by decide, by decide⟩ (Nat.le_of_ble_eq_true rfl) rfl rfl (ci := 12) rfl rfl (by decide) (okO_of (N := 42) (hL.sh (i := 0) rfl (by decide) (by decide)) (by decide)) (h hL) (fun r2 τ3 h8 hr9 => ?_) rfl
    replace hL := h8.1
    replace h := h8.2 hr9
    refine r_i2l (pc := 53) dX12_laysPower_53 ?_
    refine r_aload_n (pc := 54) dX12_laysPower_54 rfl rfl ?_
    refine r_getR (pc := 55) dX12_laysPower_55 (k9 := 36) CL_12 (by decide) (by decide) w_1451 rfl (okO_of (N := 42) (hL.sh (i := 0) rfl (by decide) (by decide)) (by decide)) ?_
    refine eqR (y := 2963) (hL.rf (i := 20) rfl) ?_
    refine r_iload_n (pc := 58) dX12_laysPower_58 rfl rfl ?_
    obtain ⟨o4, h⟩ := h
    refine r_iaload (pc := 59) dX12_laysPower_59 (okA_of (c := 20) (n := 48) (hL.sh (i := 28) rfl (by decide) (by decide)) (by decide) o4) ?_
    refine r_i2l (pc := 60) dX12_laysPower_60 ?_
    refine r_lmul (pc := 61) dX12_laysPower_61 ?_
    refine r_aload_n (pc := 62) dX12_laysPower_62 rfl rfl ?_
    refine r_getR (pc := 63) dX12_laysPower_63 (k9 := 37) CL_12 (by decide) (by decide) w_1452 rfl (okO_of (N := 42) (hL.sh (i := 0) rfl (by decide) (by decide)) (by decide)) ?_
    refine eqR (y := 2964) (hL.rf (i := 21) rfl) ?_
    refine r_iload_n (pc := 66) dX12_laysPower_66 rfl rfl ?_
    refine r_iaload (pc := 67) dX12_laysPower_67 (okA_of (c := 20) (n := 48) (hL.sh (i := 29) rfl (by decide) (by decide)) (by decide) o4) ?_
    refine r_i2l (pc := 68) dX12_laysPower_68 ?_
    refine r_lsub (pc := 69) dX12_laysPower_69 ?_
    refine nmL (fun v5 e9 => ?_)
    replace h := h v5 e9
    refine c_VI0N (M := mX12_laysPower) (pc := 70) (As := [vl v5]) dX12_laysPower_70 K_X12_mod w_1666 ⟨by decide, by decide⟩ (Nat.le_of_ble_eq_true rfl) rfl rfl (ci := 12) rfl rfl (by decide) (okO_of (N := 42) (hL.sh (i := 0) rfl (by decide) (by decide)) (by decide)) (h hL) (fun r6 τ7 h8 hr9 => ?_) rfl
    replace hL := h8.1
    replace h := h8.2 hr9
    refine r_istore (pc := 73) dX12_laysPower_73 (by decide) (l2 := [some (vr 172), some (vi x1), some (vi x2), some (vi x3), some (vi r6)]) rfl ?_
    refine r_aload_n (pc := 75) dX12_laysPower_75 rfl rfl ?_
    refine r_getR (pc := 76) dX12_laysPower_76 (k9 := 37) CL_12 (by decide) (by decide) w_1452 rfl (okO_of (N := 42) (hL.sh (i := 0) rfl (by decide) (by decide)) (by decide)) ?_
    refine eqR (y := 2964) (hL.rf (i := 21) rfl) ?_
    refine r_iload_n (pc := 79) dX12_laysPower_79 rfl rfl ?_
    refine r_aload_n (pc := 80) dX12_laysPower_80 rfl rfl ?_
    refine r_getR (pc := 81) dX12_laysPower_81 (k9 := 36) CL_12 (by decide) (by decide) w_1451 rfl (okO_of (N := 42) (hL.sh (i := 0) rfl (by decide) (by decide)) (by decide)) ?_
    refine eqR (y := 2963) (hL.rf (i := 20) rfl) ?_
    refine r_iload_n (pc := 84) dX12_laysPower_84 rfl rfl ?_
    refine r_iaload (pc := 85) dX12_laysPower_85 (okA_of (c := 20) (n := 48) (hL.sh (i := 28) rfl (by decide) (by decide)) (by decide) o4) ?_
    refine r_iastore (pc := 86) dX12_laysPower_86 (okB_of (c := 20) (n := 48) (hL.sh (i := 29) rfl (by decide) (by decide)) (by decide) o4) ?_
    refine nmS (fun τ8 e8 => ?_)
    replace h := h τ8 e8
    have hL := hL.wI e8 (by decide) (.inl (by decide))
    refine r_aload_n (pc := 87) dX12_laysPower_87 rfl rfl ?_
    refine r_getR (pc := 88) dX12_laysPower_88 (k9 := 36) CL_12 (by decide) (by decide) w_1451 rfl (okO_of (N := 42) (hL.sh (i := 0) rfl (by decide) (by decide)) (by decide)) ?_
    refine eqR (y := 2963) (hL.rf (i := 20) rfl) ?_
    refine r_iload_n (pc := 91) dX12_laysPower_91 rfl rfl ?_
    refine r_iload (pc := 92) dX12_laysPower_92 rfl ?_
    refine r_iastore (pc := 94) dX12_laysPower_94 (okB_of (c := 20) (n := 48) (hL.sh (i := 28) rfl (by decide) (by decide)) (by decide) o4) ?_
    refine nmS (fun τ9 e9 => ?_)
    replace h := h τ9 e9
    have hL := hL.wI e9 (by decide) (.inl (by decide))
    obtain ⟨o10, h⟩ := h
    refine r_iinc (pc := 95) dX12_laysPower_95 rfl (by decide) o10 (l2 := [some (vr 172), some (vi x1), some (vi x2), some (vi (x3 + 1)), some (vi r6)]) rfl ?_
    refine r_goto (pc := 98) (tgt := 39) dX12_laysPower_98 (by decide) ?_
    exact GG.msk [true, true, true, true, false] (h hL)
theorem C_X12_laysPower {a0 : Nat} {x1 : Int} (h : GG E mX12_laysPower 0 [some (vr a0), some (vi x1), none, none, none] [] σ 0 0 Q) : CC E mX12_laysPower [vr a0, vi x1] σ Q := CC.of (by decide +kernel) rfl (by decide +kernel) (fun h9 => nomatch h9) (Nat.le_of_ble_eq_true rfl) h
theorem dX12_laysPrime_0 : decode cX12_laysPrime 0 = .ok (.aload_n 0, 1) := by decide +kernel
theorem dX12_laysPrime_1 : decode cX12_laysPrime 1 = .ok (.iconst 2, 1) := by decide +kernel
theorem dX12_laysPrime_2 : decode cX12_laysPrime 2 = .ok (.aload_n 0, 1) := by decide +kernel
theorem dX12_laysPrime_3 : decode cX12_laysPrime 3 = .ok (.getfield 192, 3) := by decide +kernel
theorem dX12_laysPrime_6 : decode cX12_laysPrime 6 = .ok (.imul, 1) := by decide +kernel
theorem dX12_laysPrime_7 : decode cX12_laysPrime 7 = .ok (.iconst 1, 1) := by decide +kernel
theorem dX12_laysPrime_8 : decode cX12_laysPrime 8 = .ok (.iadd, 1) := by decide +kernel
theorem dX12_laysPrime_9 : decode cX12_laysPrime 9 = .ok (.putfield 241, 3) := by decide +kernel
theorem dX12_laysPrime_12 : decode cX12_laysPrime 12 = .ok (.aload_n 0, 1) := by decide +kernel
theorem dX12_laysPrime_13 : decode cX12_laysPrime 13 = .ok (.getfield 241, 3) := by decide +kernel
theorem dX12_laysPrime_16 : decode cX12_laysPrime 16 = .ok (.iconst 1, 1) := by decide +kernel
theorem dX12_laysPrime_17 : decode cX12_laysPrime 17 = .ok (.isub, 1) := by decide +kernel
theorem dX12_laysPrime_18 : decode cX12_laysPrime 18 = .ok (.aload_n 0, 1) := by decide +kernel
theorem dX12_laysPrime_19 : decode cX12_laysPrime 19 = .ok (.getfield 225, 3) := by decide +kernel
theorem dX12_laysPrime_22 : decode cX12_laysPrime 22 = .ok (.irem, 1) := by decide +kernel
theorem dX12_laysPrime_23 : decode cX12_laysPrime 23 = .ok (.ifCond .ne 69, 3) := by decide +kernel
theorem dX12_laysPrime_26 : decode cX12_laysPrime 26 = .ok (.aload_n 0, 1) := by decide +kernel
theorem dX12_laysPrime_27 : decode cX12_laysPrime 27 = .ok (.getfield 241, 3) := by decide +kernel
theorem dX12_laysPrime_30 : decode cX12_laysPrime 30 = .ok (.invokestatic 244, 3) := by decide +kernel
theorem dX12_laysPrime_33 : decode cX12_laysPrime 33 = .ok (.ifCond .ne 6, 3) := by decide +kernel
theorem dX12_laysPrime_36 : decode cX12_laysPrime 36 = .ok (.goto 56, 3) := by decide +kernel
theorem dX12_laysPrime_39 : decode cX12_laysPrime 39 = .ok (.aload_n 0, 1) := by decide +kernel
theorem dX12_laysPrime_40 : decode cX12_laysPrime 40 = .ok (.iconst 1, 1) := by decide +kernel
theorem dX12_laysPrime_41 : decode cX12_laysPrime 41 = .ok (.putfield 247, 3) := by decide +kernel
theorem dX12_laysPrime_44 : decode cX12_laysPrime 44 = .ok (.aload_n 0, 1) := by decide +kernel
theorem dX12_laysPrime_45 : decode cX12_laysPrime 45 = .ok (.getfield 247, 3) := by decide +kernel
theorem dX12_laysPrime_48 : decode cX12_laysPrime 48 = .ok (.aload_n 0, 1) := by decide +kernel
theorem dX12_laysPrime_49 : decode cX12_laysPrime 49 = .ok (.getfield 241, 3) := by decide +kernel
theorem dX12_laysPrime_52 : decode cX12_laysPrime 52 = .ok (.if_icmp .ge 40, 3) := by decide +kernel
theorem dX12_laysPrime_55 : decode cX12_laysPrime 55 = .ok (.aload_n 0, 1) := by decide +kernel
theorem dX12_laysPrime_56 : decode cX12_laysPrime 56 = .ok (.getfield 247, 3) := by decide +kernel
theorem dX12_laysPrime_59 : decode cX12_laysPrime 59 = .ok (.aload_n 0, 1) := by decide +kernel
theorem dX12_laysPrime_60 : decode cX12_laysPrime 60 = .ok (.getfield 247, 3) := by decide +kernel
theorem dX12_laysPrime_63 : decode cX12_laysPrime 63 = .ok (.imul, 1) := by decide +kernel
theorem dX12_laysPrime_64 : decode cX12_laysPrime 64 = .ok (.aload_n 0, 1) := by decide +kernel
theorem dX12_laysPrime_65 : decode cX12_laysPrime 65 = .ok (.iconst 0, 1) := by decide +kernel
theorem dX12_laysPrime_66 : decode cX12_laysPrime 66 = .ok (.invokevirtual 195, 3) := by decide +kernel
theorem dX12_laysPrime_69 : decode cX12_laysPrime 69 = .ok (.isub, 1) := by decide +kernel
theorem dX12_laysPrime_70 : decode cX12_laysPrime 70 = .ok (.aload_n 0, 1) := by decide +kernel
theorem dX12_laysPrime_71 : decode cX12_laysPrime 71 = .ok (.getfield 241, 3) := by decide +kernel
theorem dX12_laysPrime_74 : decode cX12_laysPrime 74 = .ok (.irem, 1) := by decide +kernel
theorem dX12_laysPrime_75 : decode cX12_laysPrime 75 = .ok (.ifCond .ne 4, 3) := by decide +kernel
theorem dX12_laysPrime_78 : decode cX12_laysPrime 78 = .ok (.return_, 1) := by decide +kernel
theorem dX12_laysPrime_79 : decode cX12_laysPrime 79 = .ok (.aload_n 0, 1) := by decide +kernel
theorem dX12_laysPrime_80 : decode cX12_laysPrime 80 = .ok (.dup, 1) := by decide +kernel
theorem dX12_laysPrime_81 : decode cX12_laysPrime 81 = .ok (.getfield 247, 3) := by decide +kernel
theorem dX12_laysPrime_84 : decode cX12_laysPrime 84 = .ok (.iconst 1, 1) := by decide +kernel
theorem dX12_laysPrime_85 : decode cX12_laysPrime 85 = .ok (.iadd, 1) := by decide +kernel
theorem dX12_laysPrime_86 : decode cX12_laysPrime 86 = .ok (.putfield 247, 3) := by decide +kernel
theorem dX12_laysPrime_89 : decode cX12_laysPrime 89 = .ok (.goto (-45), 3) := by decide +kernel
theorem dX12_laysPrime_92 : decode cX12_laysPrime 92 = .ok (.aload_n 0, 1) := by decide +kernel
theorem dX12_laysPrime_93 : decode cX12_laysPrime 93 = .ok (.dup, 1) := by decide +kernel
theorem dX12_laysPrime_94 : decode cX12_laysPrime 94 = .ok (.getfield 241, 3) := by decide +kernel
theorem dX12_laysPrime_97 : decode cX12_laysPrime 97 = .ok (.iconst 1, 1) := by decide +kernel
theorem dX12_laysPrime_98 : decode cX12_laysPrime 98 = .ok (.iadd, 1) := by decide +kernel
theorem dX12_laysPrime_99 : decode cX12_laysPrime 99 = .ok (.putfield 241, 3) := by decide +kernel
theorem dX12_laysPrime_102 : decode cX12_laysPrime 102 = .ok (.goto (-90), 3) := by decide +kernel
theorem B_X12_laysPrime_0 {g : Sg} {c t : Nat} (hL : Lay LM g c t σ)  (h : inR (2 * (gI σ 172 15)) ∧ inR ((2 * (gI σ 172 15)) + 1) ∧ ∀ τ3 : Sg, τ3 = sI σ 172 18 ((2 * (gI σ 172 15)) + 1) → (Lay LM g c t τ3 → GG E mX12_laysPrime 12 [some (vr 172)] [] τ3 rc rs Q)) : GG E mX12_laysPrime 0 [some (vr 172)] [] σ rc rs Q := by
  refine r_aload_n (pc := 0) dX12_laysPrime_0 rfl rfl ?_
  refine r_iconst (pc := 1) dX12_laysPrime_1 (inRk rfl) ?_
  refine r_aload_n (pc := 2) dX12_laysPrime_2 rfl rfl ?_
  refine r_getI (pc := 3) dX12_laysPrime_3 (k9 := 15) CL_12 (by decide) (by decide) w_1430 rfl (okO_of (N := 42) (hL.sh (i := 0) rfl (by decide) (by decide)) (by decide)) (fun _ => ?_)
  obtain ⟨o1, h⟩ := h
  refine r_imul (pc := 6) dX12_laysPrime_6 o1 ?_
  refine r_iconst (pc := 7) dX12_laysPrime_7 (inRk rfl) ?_
  obtain ⟨o2, h⟩ := h
  refine r_iadd (pc := 8) dX12_laysPrime_8 o2 ?_
  refine r_putI (pc := 9) dX12_laysPrime_9 (k9 := 18) CL_12 (by decide) (by decide) w_1433 rfl rfl (fun h9 => absurd h9 (by decide +kernel)) (okO_of (N := 42) (hL.sh (i := 0) rfl (by decide) (by decide)) (by decide)) ?_
  refine nmS (fun τ3 e3 => ?_)
  replace h := h τ3 e3
  have hL := hL.wI e3 (by decide) (.inl (by decide))
  exact (h hL)
theorem B_X12_laysPrime_12 {g : Sg} {c t : Nat} (hL : Lay LM g c t σ)  (h : inR ((gI σ 172 18) - 1) ∧ (gI σ 172 17) ≠ 0 ∧ (((((gI σ 172 18) - 1).tmod (gI σ 172 17)) ≠ 0 → inR ((gI σ 172 18) + 1) ∧ ∀ τ4 : Sg, τ4 = sI σ 172 18 ((gI σ 172 18) + 1) → (Lay LM g c t τ4 → GG E mX12_laysPrime 12 [some (vr 172)] [] τ4 rc rs Q)) ∧ ((((gI σ 172 18) - 1).tmod (gI σ 172 17)) = 0 → (Lay LM g c t σ → CC E mX12_isPrime [vi (gI σ 172 18)] σ (KI (fun r5 τ6 => Lay LM g c t τ6 ∧ (inR r5 → ((r5 ≠ 0 → ∀ τ7 : Sg, τ7 = sI τ6 172 19 1 → (Lay LM g c t τ7 → GG E mX12_laysPrime 44 [some (vr 172)] [] τ7 rc rs Q)) ∧ (r5 = 0 → inR ((gI τ6 172 18) + 1) ∧ ∀ τ9 : Sg, τ9 = sI τ6 172 18 ((gI τ6 172 18) + 1) → (Lay LM g c t τ9 → GG E mX12_laysPrime 12 [some (vr 172)] [] τ9 rc rs Q))))) (fun _ _ => False)))))) : GG E mX12_laysPrime 12 [some (vr 172)] [] σ rc rs Q := by
  refine r_aload_n (pc := 12) dX12_laysPrime_12 rfl rfl ?_
  refine r_getI (pc := 13) dX12_laysPrime_13 (k9 := 18) CL_12 (by decide) (by decide) w_1433 rfl (okO_of (N := 42) (hL.sh (i := 0) rfl (by decide) (by decide)) (by decide)) (fun _ => ?_)
  refine r_iconst (pc := 16) dX12_laysPrime_16 (inRk rfl) ?_
  obtain ⟨o1, h⟩ := h
  refine r_isub (pc := 17) dX12_laysPrime_17 o1 ?_
  refine r_aload_n (pc := 18) dX12_laysPrime_18 rfl rfl ?_
  refine r_getI (pc := 19) dX12_laysPrime_19 (k9 := 17) CL_12 (by decide) (by decide) w_1432 rfl (okO_of (N := 42) (hL.sh (i := 0) rfl (by decide) (by decide)) (by decide)) (fun _ => ?_)
  obtain ⟨o2, h⟩ := h
  refine r_irem (pc := 22) dX12_laysPrime_22 o2 ?_
  refine r_if_ne (pc := 23) (tgt := 92) dX12_laysPrime_23 (by decide) (fun c9 => ?_) (fun c9 => ?_)
  · replace h := h.1 c9
    refine r_aload_n (pc := 92) dX12_laysPrime_92 rfl rfl ?_
    refine r_dup (pc := 93) dX12_laysPrime_93 (fun _ h9 => nomatch h9) ?_
    refine r_getI (pc := 94) dX12_laysPrime_94 (k9 := 18) CL_12 (by decide) (by decide) w_1433 rfl (okO_of (N := 42) (hL.sh (i := 0) rfl (by decide) (by decide)) (by decide)) (fun _ => ?_)
    refine r_iconst (pc := 97) dX12_laysPrime_97 (inRk rfl) ?_
    obtain ⟨o3, h⟩ := h
    refine r_iadd (pc := 98) dX12_laysPrime_98 o3 ?_
    refine r_putI (pc := 99) dX12_laysPrime_99 (k9 := 18) CL_12 (by decide) (by decide) w_1433 rfl rfl (fun h9 => absurd h9 (by decide +kernel)) (okO_of (N := 42) (hL.sh (i := 0) rfl (by decide) (by decide)) (by decide)) ?_
    refine nmS (fun τ4 e4 => ?_)
    replace h := h τ4 e4
    have hL := hL.wI e4 (by decide) (.inl (by decide))
    refine r_goto (pc := 102) (tgt := 12) dX12_laysPrime_102 (by decide) ?_
    exact (h hL)
  · replace h := h.2 c9
    refine r_aload_n (pc := 26) dX12_laysPrime_26 rfl rfl ?_
    refine r_getI (pc := 27) dX12_laysPrime_27 (k9 := 18) CL_12 (by decide) (by decide) w_1433 rfl (okO_of (N := 42) (hL.sh (i := 0) rfl (by decide) (by decide)) (by decide)) (fun _ => ?_)
    refine c_SI0N (M := mX12_laysPrime) (pc := 30) (As := [vi (gI σ 172 18)]) dX12_laysPrime_30 K_X12_isPrime w_1412 ⟨by decide, by decide⟩ (Nat.le_of_ble_eq_true rfl) rfl rfl (h hL) (fun r5 τ6 h8 hr9 => ?_) rfl
    replace hL := h8.1
    replace h := h8.2 hr9
    refine r_if_ne (pc := 33) (tgt := 39) dX12_laysPrime_33 (by decide) (fun c9 => ?_) (fun c9 => ?_)
    · replace h := h.1 c9
      refine r_aload_n (pc := 39) dX12_laysPrime_39 rfl rfl ?_
      refine r_iconst (pc := 40) dX12_laysPrime_40 (inRk rfl) ?_
      refine r_putI (pc := 41) dX12_laysPrime_41 (k9 := 19) CL_12 (by decide) (by decide) w_1434 rfl rfl (fun h9 => absurd h9 (by decide +kernel)) (okO_of (N := 42) (hL.sh (i := 0) rfl (by decide) (by decide)) (by decide)) ?_
      refine nmS (fun τ7 e7 => ?_)
      replace h := h τ7 e7
      have hL := hL.wI e7 (by decide) (.inl (by decide))
      exact (h hL)
    · replace h := h.2 c9
      refine r_goto (pc := 36) (tgt := 92) dX12_laysPrime_36 (by decide) ?_
      refine r_aload_n (pc := 92) dX12_laysPrime_92 rfl rfl ?_
      refine r_dup (pc := 93) dX12_laysPrime_93 (fun _ h9 => nomatch h9) ?_
      refine r_getI (pc := 94) dX12_laysPrime_94 (k9 := 18) CL_12 (by decide) (by decide) w_1433 rfl (okO_of (N := 42) (hL.sh (i := 0) rfl (by decide) (by decide)) (by decide)) (fun _ => ?_)
      refine r_iconst (pc := 97) dX12_laysPrime_97 (inRk rfl) ?_
      obtain ⟨o8, h⟩ := h
      refine r_iadd (pc := 98) dX12_laysPrime_98 o8 ?_
      refine r_putI (pc := 99) dX12_laysPrime_99 (k9 := 18) CL_12 (by decide) (by decide) w_1433 rfl rfl (fun h9 => absurd h9 (by decide +kernel)) (okO_of (N := 42) (hL.sh (i := 0) rfl (by decide) (by decide)) (by decide)) ?_
      refine nmS (fun τ9 e9 => ?_)
      replace h := h τ9 e9
      have hL := hL.wI e9 (by decide) (.inl (by decide))
      refine r_goto (pc := 102) (tgt := 12) dX12_laysPrime_102 (by decide) ?_
      exact (h hL)
theorem B_X12_laysPrime_44 {g : Sg} {c t : Nat} (hL : Lay LM g c t σ)  (h : (((gI σ 172 18) ≤ (gI σ 172 19) → inR ((gI σ 172 18) + 1) ∧ ∀ τ2 : Sg, τ2 = sI σ 172 18 ((gI σ 172 18) + 1) → (Lay LM g c t τ2 → GG E mX12_laysPrime 12 [some (vr 172)] [] τ2 rc rs Q)) ∧ (¬ ((gI σ 172 18) ≤ (gI σ 172 19)) → inR ((gI σ 172 19) * (gI σ 172 19)) ∧ (Lay LM g c t σ → CC E mX12_root [vr 172, vi 0] σ (KI (fun r4 τ5 => Lay LM g c t τ5 ∧ (inR r4 → inR (((gI σ 172 19) * (gI σ 172 19)) - r4) ∧ (gI τ5 172 18) ≠ 0 ∧ ∀ v8 : Int, v8 = (((gI σ 172 19) * (gI σ 172 19)) - r4).tmod (gI τ5 172 18) → ((v8 ≠ 0 → inR ((gI τ5 172 19) + 1) ∧ ∀ τ10 : Sg, τ10 = sI τ5 172 19 ((gI τ5 172 19) + 1) → (Lay LM g c t τ10 → GG E mX12_laysPrime 44 [some (vr 172)] [] τ10 rc rs Q)) ∧ (v8 = 0 → (Lay LM g c t τ5 → Q (.inl none) τ5))))) (fun _ _ => False)))))) : GG E mX12_laysPrime 44 [some (vr 172)] [] σ rc rs Q := by
  refine r_aload_n (pc := 44) dX12_laysPrime_44 rfl rfl ?_
  refine r_getI (pc := 45) dX12_laysPrime_45 (k9 := 19) CL_12 (by decide) (by decide) w_1434 rfl (okO_of (N := 42) (hL.sh (i := 0) rfl (by decide) (by decide)) (by decide)) (fun _ => ?_)
  refine r_aload_n (pc := 48) dX12_laysPrime_48 rfl rfl ?_
  refine r_getI (pc := 49) dX12_laysPrime_49 (k9 := 18) CL_12 (by decide) (by decide) w_1433 rfl (okO_of (N := 42) (hL.sh (i := 0) rfl (by decide) (by decide)) (by decide)) (fun _ => ?_)
  refine r_icmp_ge (pc := 52) (tgt := 92) dX12_laysPrime_52 (by decide) (fun c9 => ?_) (fun c9 => ?_)
  · replace h := h.1 c9
    refine r_aload_n (pc := 92) dX12_laysPrime_92 rfl rfl ?_
    refine r_dup (pc := 93) dX12_laysPrime_93 (fun _ h9 => nomatch h9) ?_
    refine r_getI (pc := 94) dX12_laysPrime_94 (k9 := 18) CL_12 (by decide) (by decide) w_1433 rfl (okO_of (N := 42) (hL.sh (i := 0) rfl (by decide) (by decide)) (by decide)) (fun _ => ?_)
    refine r_iconst (pc := 97) dX12_laysPrime_97 (inRk rfl) ?_
    obtain ⟨o1, h⟩ := h
    refine r_iadd (pc := 98) dX12_laysPrime_98 o1 ?_
    refine r_putI (pc := 99) dX12_laysPrime_99 (k9 := 18) CL_12 (by decide) (by decide) w_1433 rfl rfl (fun h9 => absurd h9 (by decide +kernel)) (okO_of (N := 42) (hL.sh (i := 0) rfl (by decide) (by decide)) (by decide)) ?_
    refine nmS (fun τ2 e2 => ?_)
    replace h := h τ2 e2
    have hL := hL.wI e2 (by decide) (.inl (by decide))
    refine r_goto (pc := 102) (tgt := 12) dX12_laysPrime_102 (by decide) ?_
    exact (h hL)
  · replace h := h.2 c9
    refine r_aload_n (pc := 55) dX12_laysPrime_55 rfl rfl ?_
    refine r_getI (pc := 56) dX12_laysPrime_56 (k9 := 19) CL_12 (by decide) (by decide) w_1434 rfl (okO_of (N := 42) (hL.sh (i := 0) rfl (by decide) (by decide)) (by decide)) (fun _ => ?_)
    refine r_aload_n (pc := 59) dX12_laysPrime_59 rfl rfl ?_
    refine r_getI (pc := 60) dX12_laysPrime_60 (k9 := 19) CL_12 (by decide) (by decide) w_1434 rfl (okO_of (N := 42) (hL.sh (i := 0) rfl (by decide) (by decide)) (by decide)) (fun _ => ?_)
    obtain ⟨o3, h⟩ := h
    refine r_imul (pc := 63) dX12_laysPrime_63 o3 ?_
    refine r_aload_n (pc := 64) dX12_laysPrime_64 rfl rfl ?_
    refine r_iconst (pc := 65) dX12_laysPrime_65 (inRk rfl) ?_
    refine c_VI0N (M := mX12_laysPrime) (pc := 66) (As := [vi 0]) dX12_laysPrime_66 K_X12_root w_1377 ⟨by decide, by decide⟩ (Nat.le_of_ble_eq_true rfl) rfl rfl (ci := 12) rfl rfl (by decide) (okO_of (N := 42) (hL.sh (i := 0) rfl (by decide) (by decide)) (by decide)) (h hL) (fun r4 τ5 h8 hr9 => ?_) rfl
    replace hL := h8.1
    replace h := h8.2 hr9
    obtain ⟨o6, h⟩ := h
    refine r_isub (pc := 69) dX12_laysPrime_69 o6 ?_
    refine r_aload_n (pc := 70) dX12_laysPrime_70 rfl rfl ?_
    refine r_getI (pc := 71) dX12_laysPrime_71 (k9 := 18) CL_12 (by decide) (by decide) w_1433 rfl (okO_of (N := 42) (hL.sh (i := 0) rfl (by decide) (by decide)) (by decide)) (fun _ => ?_)
    obtain ⟨o7, h⟩ := h
    refine r_irem (pc := 74) dX12_laysPrime_74 o7 ?_
    refine nmI (fun v8 e9 => ?_)
    replace h := h v8 e9
    refine r_if_ne (pc := 75) (tgt := 79) dX12_laysPrime_75 (by decide) (fun c9 => ?_) (fun c9 => ?_)
    · replace h := h.1 c9
      refine r_aload_n (pc := 79) dX12_laysPrime_79 rfl rfl ?_
      refine r_dup (pc := 80) dX12_laysPrime_80 (fun _ h9 => nomatch h9) ?_
      refine r_getI (pc := 81) dX12_laysPrime_81 (k9 := 19) CL_12 (by decide) (by decide) w_1434 rfl (okO_of (N := 42) (hL.sh (i := 0) rfl (by decide) (by decide)) (by decide)) (fun _ => ?_)
      refine r_iconst (pc := 84) dX12_laysPrime_84 (inRk rfl) ?_
      obtain ⟨o9, h⟩ := h
      refine r_iadd (pc := 85) dX12_laysPrime_85 o9 ?_
      refine r_putI (pc := 86) dX12_laysPrime_86 (k9 := 19) CL_12 (by decide) (by decide) w_1434 rfl rfl (fun h9 => absurd h9 (by decide +kernel)) (okO_of (N := 42) (hL.sh (i := 0) rfl (by decide) (by decide)) (by decide)) ?_
      refine nmS (fun τ10 e10 => ?_)
      replace h := h τ10 e10
      have hL := hL.wI e10 (by decide) (.inl (by decide))
      refine r_goto (pc := 89) (tgt := 44) dX12_laysPrime_89 (by decide) ?_
      exact (h hL)
    · replace h := h.2 c9
      exact r_return (pc := 78) dX12_laysPrime_78 (by decide +kernel) rfl (h hL)
theorem C_X12_laysPrime {a0 : Nat} (h : GG E mX12_laysPrime 0 [some (vr a0)] [] σ 0 0 Q) : CC E mX12_laysPrime [vr a0] σ Q := CC.of (by decide +kernel) rfl (by decide +kernel) (fun h9 => nomatch h9) (Nat.le_of_ble_eq_true rfl) h
theorem dX12_laysRows_0 : decode cX12_laysRows 0 = .ok (.aload_n 0, 1) := by decide +kernel
theorem dX12_laysRows_1 : decode cX12_laysRows 1 = .ok (.getfield 237, 3) := by decide +kernel
theorem dX12_laysRows_4 : decode cX12_laysRows 4 = .ok (.ifCond .eq 4, 3) := by decide +kernel
theorem dX12_laysRows_7 : decode cX12_laysRows 7 = .ok (.return_, 1) := by decide +kernel
theorem dX12_laysRows_8 : decode cX12_laysRows 8 = .ok (.aload_n 0, 1) := by decide +kernel
theorem dX12_laysRows_9 : decode cX12_laysRows 9 = .ok (.iconst 1, 1) := by decide +kernel
theorem dX12_laysRows_10 : decode cX12_laysRows 10 = .ok (.putfield 237, 3) := by decide +kernel
theorem dX12_laysRows_13 : decode cX12_laysRows 13 = .ok (.aload_n 0, 1) := by decide +kernel
theorem dX12_laysRows_14 : decode cX12_laysRows 14 = .ok (.invokevirtual 266, 3) := by decide +kernel
theorem dX12_laysRows_17 : decode cX12_laysRows 17 = .ok (.aload_n 0, 1) := by decide +kernel
theorem dX12_laysRows_18 : decode cX12_laysRows 18 = .ok (.iconst 0, 1) := by decide +kernel
theorem dX12_laysRows_19 : decode cX12_laysRows 19 = .ok (.putfield 257, 3) := by decide +kernel
theorem dX12_laysRows_22 : decode cX12_laysRows 22 = .ok (.lconst 1, 1) := by decide +kernel
theorem dX12_laysRows_23 : decode cX12_laysRows 23 = .ok (.lstore_n 1, 1) := by decide +kernel
theorem dX12_laysRows_24 : decode cX12_laysRows 24 = .ok (.aload_n 0, 1) := by decide +kernel
theorem dX12_laysRows_25 : decode cX12_laysRows 25 = .ok (.getfield 257, 3) := by decide +kernel
theorem dX12_laysRows_28 : decode cX12_laysRows 28 = .ok (.aload_n 0, 1) := by decide +kernel
theorem dX12_laysRows_29 : decode cX12_laysRows 29 = .ok (.getfield 231, 3) := by decide +kernel
theorem dX12_laysRows_32 : decode cX12_laysRows 32 = .ok (.if_icmp .ge 121, 3) := by decide +kernel
theorem dX12_laysRows_35 : decode cX12_laysRows 35 = .ok (.aload_n 0, 1) := by decide +kernel
theorem dX12_laysRows_36 : decode cX12_laysRows 36 = .ok (.iconst 0, 1) := by decide +kernel
theorem dX12_laysRows_37 : decode cX12_laysRows 37 = .ok (.putfield 257, 3) := by decide +kernel
theorem dX12_laysRows_40 : decode cX12_laysRows 40 = .ok (.iconst 0, 1) := by decide +kernel
theorem dX12_laysRows_41 : decode cX12_laysRows 41 = .ok (.istore_n 3, 1) := by decide +kernel
theorem dX12_laysRows_42 : decode cX12_laysRows 42 = .ok (.iload_n 3, 1) := by decide +kernel
theorem dX12_laysRows_43 : decode cX12_laysRows 43 = .ok (.aload_n 0, 1) := by decide +kernel
theorem dX12_laysRows_44 : decode cX12_laysRows 44 = .ok (.getfield 231, 3) := by decide +kernel
theorem dX12_laysRows_47 : decode cX12_laysRows 47 = .ok (.if_icmp .ge 36, 3) := by decide +kernel
theorem dX12_laysRows_50 : decode cX12_laysRows 50 = .ok (.lload_n 1, 1) := by decide +kernel
theorem dX12_laysRows_51 : decode cX12_laysRows 51 = .ok (.ldc2_w 269, 3) := by decide +kernel
theorem dX12_laysRows_54 : decode cX12_laysRows 54 = .ok (.lmul, 1) := by decide +kernel
theorem dX12_laysRows_55 : decode cX12_laysRows 55 = .ok (.ldc2_w 271, 3) := by decide +kernel
theorem dX12_laysRows_58 : decode cX12_laysRows 58 = .ok (.ladd, 1) := by decide +kernel
theorem dX12_laysRows_59 : decode cX12_laysRows 59 = .ok (.lstore_n 1, 1) := by decide +kernel
theorem dX12_laysRows_60 : decode cX12_laysRows 60 = .ok (.aload_n 0, 1) := by decide +kernel
theorem dX12_laysRows_61 : decode cX12_laysRows 61 = .ok (.getfield 61, 3) := by decide +kernel
theorem dX12_laysRows_64 : decode cX12_laysRows 64 = .ok (.iload_n 3, 1) := by decide +kernel
theorem dX12_laysRows_65 : decode cX12_laysRows 65 = .ok (.lload_n 1, 1) := by decide +kernel
theorem dX12_laysRows_66 : decode cX12_laysRows 66 = .ok (.bipush 33, 2) := by decide +kernel
theorem dX12_laysRows_68 : decode cX12_laysRows 68 = .ok (.lushr, 1) := by decide +kernel
theorem dX12_laysRows_69 : decode cX12_laysRows 69 = .ok (.aload_n 0, 1) := by decide +kernel
theorem dX12_laysRows_70 : decode cX12_laysRows 70 = .ok (.getfield 241, 3) := by decide +kernel
theorem dX12_laysRows_73 : decode cX12_laysRows 73 = .ok (.i2l, 1) := by decide +kernel
theorem dX12_laysRows_74 : decode cX12_laysRows 74 = .ok (.lrem, 1) := by decide +kernel
theorem dX12_laysRows_75 : decode cX12_laysRows 75 = .ok (.l2i, 1) := by decide +kernel
theorem dX12_laysRows_76 : decode cX12_laysRows 76 = .ok (.iastore, 1) := by decide +kernel
theorem dX12_laysRows_77 : decode cX12_laysRows 77 = .ok (.iinc 3 1, 3) := by decide +kernel
theorem dX12_laysRows_80 : decode cX12_laysRows 80 = .ok (.goto (-38), 3) := by decide +kernel
theorem dX12_laysRows_83 : decode cX12_laysRows 83 = .ok (.iconst 1, 1) := by decide +kernel
theorem dX12_laysRows_84 : decode cX12_laysRows 84 = .ok (.istore_n 3, 1) := by decide +kernel
theorem dX12_laysRows_85 : decode cX12_laysRows 85 = .ok (.iconst 0, 1) := by decide +kernel
theorem dX12_laysRows_86 : decode cX12_laysRows 86 = .ok (.istore 4, 2) := by decide +kernel
theorem dX12_laysRows_88 : decode cX12_laysRows 88 = .ok (.iload 4, 2) := by decide +kernel
theorem dX12_laysRows_90 : decode cX12_laysRows 90 = .ok (.aload_n 0, 1) := by decide +kernel
theorem dX12_laysRows_91 : decode cX12_laysRows 91 = .ok (.getfield 241, 3) := by decide +kernel
theorem dX12_laysRows_94 : decode cX12_laysRows 94 = .ok (.if_icmp .ge 47, 3) := by decide +kernel
theorem dX12_laysRows_97 : decode cX12_laysRows 97 = .ok (.iload_n 3, 1) := by decide +kernel
theorem dX12_laysRows_98 : decode cX12_laysRows 98 = .ok (.ifCond .eq 43, 3) := by decide +kernel
theorem dX12_laysRows_101 : decode cX12_laysRows 101 = .ok (.aload_n 0, 1) := by decide +kernel
theorem dX12_laysRows_102 : decode cX12_laysRows 102 = .ok (.iload 4, 2) := by decide +kernel
theorem dX12_laysRows_104 : decode cX12_laysRows 104 = .ok (.invokevirtual 273, 3) := by decide +kernel
theorem dX12_laysRows_107 : decode cX12_laysRows 107 = .ok (.aload_n 0, 1) := by decide +kernel
theorem dX12_laysRows_108 : decode cX12_laysRows 108 = .ok (.invokevirtual 277, 3) := by decide +kernel
theorem dX12_laysRows_111 : decode cX12_laysRows 111 = .ok (.istore 5, 2) := by decide +kernel
theorem dX12_laysRows_113 : decode cX12_laysRows 113 = .ok (.iload 5, 2) := by decide +kernel
theorem dX12_laysRows_115 : decode cX12_laysRows 115 = .ok (.iconst 2, 1) := by decide +kernel
theorem dX12_laysRows_116 : decode cX12_laysRows 116 = .ok (.if_icmp .ge 7, 3) := by decide +kernel
theorem dX12_laysRows_119 : decode cX12_laysRows 119 = .ok (.iconst 1, 1) := by decide +kernel
theorem dX12_laysRows_120 : decode cX12_laysRows 120 = .ok (.goto 4, 3) := by decide +kernel
theorem dX12_laysRows_123 : decode cX12_laysRows 123 = .ok (.iconst 0, 1) := by decide +kernel
theorem dX12_laysRows_124 : decode cX12_laysRows 124 = .ok (.istore_n 3, 1) := by decide +kernel
theorem dX12_laysRows_125 : decode cX12_laysRows 125 = .ok (.iload 5, 2) := by decide +kernel
theorem dX12_laysRows_127 : decode cX12_laysRows 127 = .ok (.iconst 1, 1) := by decide +kernel
theorem dX12_laysRows_128 : decode cX12_laysRows 128 = .ok (.if_icmp .ne 7, 3) := by decide +kernel
theorem dX12_laysRows_131 : decode cX12_laysRows 131 = .ok (.aload_n 0, 1) := by decide +kernel
theorem dX12_laysRows_132 : decode cX12_laysRows 132 = .ok (.invokevirtual 280, 3) := by decide +kernel
theorem dX12_laysRows_135 : decode cX12_laysRows 135 = .ok (.iinc 4 1, 3) := by decide +kernel
theorem dX12_laysRows_138 : decode cX12_laysRows 138 = .ok (.goto (-50), 3) := by decide +kernel
theorem dX12_laysRows_141 : decode cX12_laysRows 141 = .ok (.iload_n 3, 1) := by decide +kernel
theorem dX12_laysRows_142 : decode cX12_laysRows 142 = .ok (.ifCond .ne 8, 3) := by decide +kernel
theorem dX12_laysRows_145 : decode cX12_laysRows 145 = .ok (.aload_n 0, 1) := by decide +kernel
theorem dX12_laysRows_146 : decode cX12_laysRows 146 = .ok (.iconst 0, 1) := by decide +kernel
theorem dX12_laysRows_147 : decode cX12_laysRows 147 = .ok (.putfield 257, 3) := by decide +kernel
theorem dX12_laysRows_150 : decode cX12_laysRows 150 = .ok (.goto (-126), 3) := by decide +kernel
theorem dX12_laysRows_153 : decode cX12_laysRows 153 = .ok (.aload_n 0, 1) := by decide +kernel
theorem dX12_laysRows_154 : decode cX12_laysRows 154 = .ok (.invokevirtual 283, 3) := by decide +kernel
theorem dX12_laysRows_157 : decode cX12_laysRows 157 = .ok (.return_, 1) := by decide +kernel
theorem B_X12_laysRows_0 {g : Sg} {c t : Nat} (hL : Lay LM g c t σ)  (h : ((gI σ 172 27 = 0 ∨ gI σ 172 27 = 1) → (((gI σ 172 27) = 0 → ∀ τ2 : Sg, τ2 = sI σ 172 27 1 → (Lay LM g c t τ2 → CC E mX12_laysCouples [vr 172] τ2 (KV (fun τ4 => Lay LM g c t τ4 ∧ ∀ τ5 : Sg, τ5 = sI τ4 172 35 0 → (Lay LM g c t τ5 → GG E mX12_laysRows 24 [some (vr 172), some (vl 1), none, none, none, none] [] τ5 rc rs Q)) (fun _ _ => False)))) ∧ (¬ ((gI σ 172 27) = 0) → (Lay LM g c t σ → Q (.inl none) σ))))) : GG E mX12_laysRows 0 [some (vr 172), none, none, none, none, none] [] σ rc rs Q := by
  refine r_aload_n (pc := 0) dX12_laysRows_0 rfl rfl ?_
  refine r_getI (pc := 1) dX12_laysRows_1 (k9 := 27) CL_12 (by decide) (by decide) w_1442 rfl (okO_of (N := 42) (hL.sh (i := 0) rfl (by decide) (by decide)) (by decide)) (fun z9 => ?_)
  have z1 := z9 rfl
  replace h := h z1
  refine r_if_eq (pc := 4) (tgt := 8) dX12_laysRows_4 (by decide) (fun c9 => ?_) (fun c9 => ?_)
  · replace h := h.1 c9
    refine r_aload_n (pc := 8) dX12_laysRows_8 rfl rfl ?_
    refine r_iconst (pc := 9) dX12_laysRows_9 (inRk rfl) ?_
    refine r_putI (pc := 10) dX12_laysRows_10 (k9 := 27) CL_12 (by decide) (by decide) w_1442 rfl rfl (fun _ => by decide) (okO_of (N := 42) (hL.sh (i := 0) rfl (by decide) (by decide)) (by decide)) ?_
    refine nmS (fun τ2 e2 => ?_)
    replace h := h τ2 e2
    have hL := hL.wI e2 (by decide) (.inl (by decide))
    refine r_aload_n (pc := 13) dX12_laysRows_13 rfl rfl ?_
    refine c_VV0N (M := mX12_laysRows) (pc := 14) (As := []) dX12_laysRows_14 K_X12_laysCouples w_1656 ⟨by decide, by decide⟩ (Nat.le_of_ble_eq_true rfl) rfl rfl (ci := 12) rfl rfl (by decide) (okO_of (N := 42) (hL.sh (i := 0) rfl (by decide) (by decide)) (by decide)) (h hL) (fun τ4 h8 => ?_) rfl
    replace hL := h8.1
    replace h := h8.2
    refine r_aload_n (pc := 17) dX12_laysRows_17 rfl rfl ?_
    refine r_iconst (pc := 18) dX12_laysRows_18 (inRk rfl) ?_
    refine r_putI (pc := 19) dX12_laysRows_19 (k9 := 35) CL_12 (by decide) (by decide) w_1450 rfl rfl (fun h9 => absurd h9 (by decide +kernel)) (okO_of (N := 42) (hL.sh (i := 0) rfl (by decide) (by decide)) (by decide)) ?_
    refine nmS (fun τ5 e5 => ?_)
    replace h := h τ5 e5
    have hL := hL.wI e5 (by decide) (.inl (by decide))
    refine r_lconst (pc := 22) (x := 1) dX12_laysRows_22 rfl ?_
    refine r_lstore_n (pc := 23) dX12_laysRows_23 rfl (by decide) (l2 := [some (vr 172), some (vl 1), none, none, none, none]) rfl ?_
    exact (h hL)
  · replace h := h.2 c9
    exact r_return (pc := 7) dX12_laysRows_7 (by decide +kernel) rfl (h hL)
theorem B_X12_laysRows_24 {g : Sg} {c t : Nat} (hL : Lay LM g c t σ) {y1 : Int} (h : (((gI σ 172 16) ≤ (gI σ 172 35) → (Lay LM g c t σ → CC E mX12_sortsRows [vr 172] σ (KV (fun τ2 => Lay LM g c t τ2 ∧ (Lay LM g c t τ2 → Q (.inl none) τ2)) (fun _ _ => False)))) ∧ (¬ ((gI σ 172 16) ≤ (gI σ 172 35)) → ∀ τ3 : Sg, τ3 = sI σ 172 35 0 → (Lay LM g c t τ3 → GG E mX12_laysRows 42 [some (vr 172), some (vl y1), none, some (vi 0), none, none] [] τ3 rc rs Q)))) : GG E mX12_laysRows 24 [some (vr 172), some (vl y1), none, none, none, none] [] σ rc rs Q := by
  refine r_aload_n (pc := 24) dX12_laysRows_24 rfl rfl ?_
  refine r_getI (pc := 25) dX12_laysRows_25 (k9 := 35) CL_12 (by decide) (by decide) w_1450 rfl (okO_of (N := 42) (hL.sh (i := 0) rfl (by decide) (by decide)) (by decide)) (fun _ => ?_)
  refine r_aload_n (pc := 28) dX12_laysRows_28 rfl rfl ?_
  refine r_getI (pc := 29) dX12_laysRows_29 (k9 := 16) CL_12 (by decide) (by decide) w_1431 rfl (okO_of (N := 42) (hL.sh (i := 0) rfl (by decide) (by decide)) (by decide)) (fun _ => ?_)
  refine r_icmp_ge (pc := 32) (tgt := 153) dX12_laysRows_32 (by decide) (fun c9 => ?_) (fun c9 => ?_)
  · replace h := h.1 c9
    refine r_aload_n (pc := 153) dX12_laysRows_153 rfl rfl ?_
    refine c_VV0N (M := mX12_laysRows) (pc := 154) (As := []) dX12_laysRows_154 K_X12_sortsRows w_1682 ⟨by decide, by decide⟩ (Nat.le_of_ble_eq_true rfl) rfl rfl (ci := 12) rfl rfl (by decide) (okO_of (N := 42) (hL.sh (i := 0) rfl (by decide) (by decide)) (by decide)) (h hL) (fun τ2 h8 => ?_) rfl
    replace hL := h8.1
    replace h := h8.2
    exact r_return (pc := 157) dX12_laysRows_157 (by decide +kernel) rfl (h hL)
  · replace h := h.2 c9
    refine r_aload_n (pc := 35) dX12_laysRows_35 rfl rfl ?_
    refine r_iconst (pc := 36) dX12_laysRows_36 (inRk rfl) ?_
    refine r_putI (pc := 37) dX12_laysRows_37 (k9 := 35) CL_12 (by decide) (by decide) w_1450 rfl rfl (fun h9 => absurd h9 (by decide +kernel)) (okO_of (N := 42) (hL.sh (i := 0) rfl (by decide) (by decide)) (by decide)) ?_
    refine nmS (fun τ3 e3 => ?_)
    replace h := h τ3 e3
    have hL := hL.wI e3 (by decide) (.inl (by decide))
    refine r_iconst (pc := 40) dX12_laysRows_40 (inRk rfl) ?_
    refine r_istore_n (pc := 41) dX12_laysRows_41 rfl (by decide) (l2 := [some (vr 172), some (vl y1), none, some (vi 0), none, none]) rfl ?_
    exact (h hL)
theorem B_X12_laysRows_42 {g : Sg} {c t : Nat} (hL : Lay LM g c t σ) {y1 : Int} {x3 : Int} (h : (((gI σ 172 16) ≤ x3 → (Lay LM g c t σ → GG E mX12_laysRows 88 [some (vr 172), some (vl y1), none, some (vi 1), some (vi 0), none] [] σ rc rs Q)) ∧ (¬ ((gI σ 172 16) ≤ x3) → ∀ v1 : Int, v1 = wL ((wL (y1 * 6364136223846793005)) + 1442695040888963407) → (gI σ 172 18) ≠ 0 ∧ inR (wL ((b_lushrq v1 33).tmod (gI σ 172 18))) ∧ (0 ≤ x3 ∧ x3 < 48) ∧ ∀ τ5 : Sg, τ5 = sI σ 2910 x3.toNat (wL ((b_lushrq v1 33).tmod (gI σ 172 18))) → inR (x3 + 1) ∧ (Lay LM g c t τ5 → GG E mX12_laysRows 42 [some (vr 172), some (vl v1), none, some (vi (x3 + 1)), none, none] [] τ5 rc rs Q)))) : GG E mX12_laysRows 42 [some (vr 172), some (vl y1), none, some (vi x3), none, none] [] σ rc rs Q := by
  refine r_iload_n (pc := 42) dX12_laysRows_42 rfl rfl ?_
  refine r_aload_n (pc := 43) dX12_laysRows_43 rfl rfl ?_
  refine r_getI (pc := 44) dX12_laysRows_44 (k9 := 16) CL_12 (by decide) (by decide) w_1431 rfl (okO_of (N := 42) (hL.sh (i := 0) rfl (by decide) (by decide)) (by decide)) (fun _ => ?_)
  refine r_icmp_ge (pc := 47) (tgt := 83) dX12_laysRows_47 (by decide) (fun c9 => ?_) (fun c9 => ?_)
  · replace h := h.1 c9
    refine r_iconst (pc := 83) dX12_laysRows_83 (inRk rfl) ?_
    refine r_istore_n (pc := 84) dX12_laysRows_84 rfl (by decide) (l2 := [some (vr 172), some (vl y1), none, some (vi 1), none, none]) rfl ?_
    refine r_iconst (pc := 85) dX12_laysRows_85 (inRk rfl) ?_
    refine r_istore (pc := 86) dX12_laysRows_86 (by decide) (l2 := [some (vr 172), some (vl y1), none, some (vi 1), some (vi 0), none]) rfl ?_
    exact (h hL)
  · replace h := h.2 c9
    refine r_lload_n (pc := 50) dX12_laysRows_50 rfl rfl ?_
    refine r_ldc2 (pc := 51) dX12_laysRows_51 w_1660 ?_
    change GG _ _ _ _ (vl 6364136223846793005 :: _) _ _ _ _
    refine r_lmul (pc := 54) dX12_laysRows_54 ?_
    refine r_ldc2 (pc := 55) dX12_laysRows_55 w_1661 ?_
    change GG _ _ _ _ (vl 1442695040888963407 :: _) _ _ _ _
    refine r_ladd (pc := 58) dX12_laysRows_58 ?_
    refine nmL (fun v1 e9 => ?_)
    replace h := h v1 e9
    refine r_lstore_n (pc := 59) dX12_laysRows_59 rfl (by decide) (l2 := [some (vr 172), some (vl v1), none, some (vi x3), none, none]) rfl ?_
    refine r_aload_n (pc := 60) dX12_laysRows_60 rfl rfl ?_
    refine r_getR (pc := 61) dX12_laysRows_61 (k9 := 30) CL_12 (by decide) (by decide) w_1445 rfl (okO_of (N := 42) (hL.sh (i := 0) rfl (by decide) (by decide)) (by decide)) ?_
    refine eqR (y := 2910) (hL.rf (i := 15) rfl) ?_
    refine r_iload_n (pc := 64) dX12_laysRows_64 rfl rfl ?_
    refine r_lload_n (pc := 65) dX12_laysRows_65 rfl rfl ?_
    refine r_bipush (pc := 66) dX12_laysRows_66 (by decide) ?_
    refine r_lushr (pc := 68) dX12_laysRows_68 ?_
    refine r_aload_n (pc := 69) dX12_laysRows_69 rfl rfl ?_
    refine r_getI (pc := 70) dX12_laysRows_70 (k9 := 18) CL_12 (by decide) (by decide) w_1433 rfl (okO_of (N := 42) (hL.sh (i := 0) rfl (by decide) (by decide)) (by decide)) (fun _ => ?_)
    refine r_i2l (pc := 73) dX12_laysRows_73 ?_
    obtain ⟨o2, h⟩ := h
    refine r_lrem (pc := 74) dX12_laysRows_74 o2 ?_
    obtain ⟨o3, h⟩ := h
    refine r_l2i (pc := 75) dX12_laysRows_75 o3 ?_
    obtain ⟨o4, h⟩ := h
    refine r_iastore (pc := 76) dX12_laysRows_76 (okB_of (c := 20) (n := 48) (hL.sh (i := 22) rfl (by decide) (by decide)) (by decide) o4) ?_
    refine nmS (fun τ5 e5 => ?_)
    replace h := h τ5 e5
    have hL := hL.wI e5 (by decide) (.inl (by decide))
    obtain ⟨o6, h⟩ := h
    refine r_iinc (pc := 77) dX12_laysRows_77 rfl (by decide) o6 (l2 := [some (vr 172), some (vl v1), none, some (vi (x3 + 1)), none, none]) rfl ?_
    refine r_goto (pc := 80) (tgt := 42) dX12_laysRows_80 (by decide) ?_
    exact (h hL)
theorem B_X12_laysRows_88 {g : Sg} {c t : Nat} (hL : Lay LM g c t σ) {y1 : Int} {x3 : Int} {x4 : Int} (h : (((gI σ 172 18) ≤ x4 → ((x3 ≠ 0 → (Lay LM g c t σ → GG E mX12_laysRows 24 [some (vr 172), some (vl y1), none, none, none, none] [] σ rc rs Q)) ∧ (x3 = 0 → ∀ τ1 : Sg, τ1 = sI σ 172 35 0 → (Lay LM g c t τ1 → GG E mX12_laysRows 24 [some (vr 172), some (vl y1), none, none, none, none] [] τ1 rc rs Q)))) ∧ (¬ ((gI σ 172 18) ≤ x4) → ((x3 = 0 → ((x3 ≠ 0 → (Lay LM g c t σ → GG E mX12_laysRows 24 [some (vr 172), some (vl y1), none, none, none, none] [] σ rc rs Q)) ∧ (x3 = 0 → ∀ τ2 : Sg, τ2 = sI σ 172 35 0 → (Lay LM g c t τ2 → GG E mX12_laysRows 24 [some (vr 172), some (vl y1), none, none, none, none] [] τ2 rc rs Q)))) ∧ (¬ (x3 = 0) → (Lay LM g c t σ → CC E mX12_laysSheet [vr 172, vi x4] σ (KV (fun τ4 => Lay LM g c t τ4 ∧ (Lay LM g c t τ4 → CC E mX12_freeOf [vr 172] τ4 (KI (fun r5 τ6 => Lay LM g c t τ6 ∧ (inR r5 → ((2 ≤ r5 → ((r5 ≠ 1 → inR (x4 + 1) ∧ (Lay LM g c t τ6 → GG E mX12_laysRows 88 [some (vr 172), some (vl y1), none, some (vi 0), some (vi (x4 + 1)), none] [] τ6 rc rs Q)) ∧ (r5 = 1 → (Lay LM g c t τ6 → CC E mX12_takesRow [vr 172] τ6 (KV (fun τ9 => Lay LM g c t τ9 ∧ inR (x4 + 1) ∧ (Lay LM g c t τ9 → GG E mX12_laysRows 88 [some (vr 172), some (vl y1), none, some (vi 0), some (vi (x4 + 1)), none] [] τ9 rc rs Q)) (fun _ _ => False)))))) ∧ (¬ (2 ≤ r5) → ((r5 ≠ 1 → inR (x4 + 1) ∧ (Lay LM g c t τ6 → GG E mX12_laysRows 88 [some (vr 172), some (vl y1), none, some (vi 1), some (vi (x4 + 1)), none] [] τ6 rc rs Q)) ∧ (r5 = 1 → (Lay LM g c t τ6 → CC E mX12_takesRow [vr 172] τ6 (KV (fun τ13 => Lay LM g c t τ13 ∧ inR (x4 + 1) ∧ (Lay LM g c t τ13 → GG E mX12_laysRows 88 [some (vr 172), some (vl y1), none, some (vi 1), some (vi (x4 + 1)), none] [] τ13 rc rs Q)) (fun _ _ => False))))))))) (fun _ _ => False)))) (fun _ _ => False)))))))) : GG E mX12_laysRows 88 [some (vr 172), some (vl y1), none, some (vi x3), some (vi x4), none] [] σ rc rs Q := by
  refine r_iload (pc := 88) dX12_laysRows_88 rfl ?_
  refine r_aload_n (pc := 90) dX12_laysRows_90 rfl rfl ?_
  refine r_getI (pc := 91) dX12_laysRows_91 (k9 := 18) CL_12 (by decide) (by decide) w_1433 rfl (okO_of (N := 42) (hL.sh (i := 0) rfl (by decide) (by decide)) (by decide)) (fun _ => ?_)
  refine r_icmp_ge (pc := 94) (tgt := 141) dX12_laysRows_94 (by decide) (fun c9 => ?_) (fun c9 => ?_)
  · replace h := h.1 c9
    refine r_iload_n (pc := 141) dX12_laysRows_141 rfl rfl ?_
    refine r_if_ne (pc := 142) (tgt := 150) dX12_laysRows_142 (by decide) (fun c9 => ?_) (fun c9 => ?_)
    · replace h := h.1 c9
      refine r_goto (pc := 150) (tgt := 24) dX12_laysRows_150 (by decide) ?_
      exact GG.msk [true, true, false, false, false, false] (h hL)
    · replace h := h.2 c9
      refine r_aload_n (pc := 145) dX12_laysRows_145 rfl rfl ?_
      refine r_iconst (pc := 146) dX12_laysRows_146 (inRk rfl) ?_
      refine r_putI (pc := 147) dX12_laysRows_147 (k9 := 35) CL_12 (by decide) (by decide) w_1450 rfl rfl (fun h9 => absurd h9 (by decide +kernel)) (okO_of (N := 42) (hL.sh (i := 0) rfl (by decide) (by decide)) (by decide)) ?_
      refine nmS (fun τ1 e1 => ?_)
      replace h := h τ1 e1
      have hL := hL.wI e1 (by decide) (.inl (by decide))
      refine r_goto (pc := 150) (tgt := 24) dX12_laysRows_150 (by decide) ?_
      exact GG.msk [true, true, false, false, false, false] (h hL)
  · replace h := h.2 c9
    refine r_iload_n (pc := 97) dX12_laysRows_97 rfl rfl ?_
    refine r_if_eq (pc := 98) (tgt := 141) dX12_laysRows_98 (by decide) (fun c9 => ?_) (fun c9 => ?_)
    · replace h := h.1 c9
      refine r_iload_n (pc := 141) dX12_laysRows_141 rfl rfl ?_
      refine r_if_ne (pc := 142) (tgt := 150) dX12_laysRows_142 (by decide) (fun c9 => ?_) (fun c9 => ?_)
      · replace h := h.1 c9
        refine r_goto (pc := 150) (tgt := 24) dX12_laysRows_150 (by decide) ?_
        exact GG.msk [true, true, false, false, false, false] (h hL)
      · replace h := h.2 c9
        refine r_aload_n (pc := 145) dX12_laysRows_145 rfl rfl ?_
        refine r_iconst (pc := 146) dX12_laysRows_146 (inRk rfl) ?_
        refine r_putI (pc := 147) dX12_laysRows_147 (k9 := 35) CL_12 (by decide) (by decide) w_1450 rfl rfl (fun h9 => absurd h9 (by decide +kernel)) (okO_of (N := 42) (hL.sh (i := 0) rfl (by decide) (by decide)) (by decide)) ?_
        refine nmS (fun τ2 e2 => ?_)
        replace h := h τ2 e2
        have hL := hL.wI e2 (by decide) (.inl (by decide))
        refine r_goto (pc := 150) (tgt := 24) dX12_laysRows_150 (by decide) ?_
        exact GG.msk [true, true, false, false, false, false] (h hL)
    · replace h := h.2 c9
      refine r_aload_n (pc := 101) dX12_laysRows_101 rfl rfl ?_
      refine r_iload (pc := 102) dX12_laysRows_102 rfl ?_
      refine c_VV0N (M := mX12_laysRows) (pc := 104) (As := [vi x4]) dX12_laysRows_104 K_X12_laysSheet w_1662 ⟨by decide, by decide⟩ (Nat.le_of_ble_eq_true rfl) rfl rfl (ci := 12) rfl rfl (by decide) (okO_of (N := 42) (hL.sh (i := 0) rfl (by decide) (by decide)) (by decide)) (h hL) (fun τ4 h8 => ?_) rfl
      replace hL := h8.1
      replace h := h8.2
      refine r_aload_n (pc := 107) dX12_laysRows_107 rfl rfl ?_
      refine c_VI0N (M := mX12_laysRows) (pc := 108) (As := []) dX12_laysRows_108 K_X12_freeOf w_1670 ⟨by decide, by decide⟩ (Nat.le_of_ble_eq_true rfl) rfl rfl (ci := 12) rfl rfl (by decide) (okO_of (N := 42) (hL.sh (i := 0) rfl (by decide) (by decide)) (by decide)) (h hL) (fun r5 τ6 h8 hr9 => ?_) rfl
      replace hL := h8.1
      replace h := h8.2 hr9
      refine r_istore (pc := 111) dX12_laysRows_111 (by decide) (l2 := [some (vr 172), some (vl y1), none, some (vi x3), some (vi x4), some (vi r5)]) rfl ?_
      refine r_iload (pc := 113) dX12_laysRows_113 rfl ?_
      refine r_iconst (pc := 115) dX12_laysRows_115 (inRk rfl) ?_
      refine r_icmp_ge (pc := 116) (tgt := 123) dX12_laysRows_116 (by decide) (fun c9 => ?_) (fun c9 => ?_)
      · replace h := h.1 c9
        refine r_iconst (pc := 123) dX12_laysRows_123 (inRk rfl) ?_
        refine r_istore_n (pc := 124) dX12_laysRows_124 rfl (by decide) (l2 := [some (vr 172), some (vl y1), none, some (vi 0), some (vi x4), some (vi r5)]) rfl ?_
        refine r_iload (pc := 125) dX12_laysRows_125 rfl ?_
        refine r_iconst (pc := 127) dX12_laysRows_127 (inRk rfl) ?_
        refine r_icmp_ne (pc := 128) (tgt := 135) dX12_laysRows_128 (by decide) (fun c9 => ?_) (fun c9 => ?_)
        · replace h := h.1 c9
          obtain ⟨o7, h⟩ := h
          refine r_iinc (pc := 135) dX12_laysRows_135 rfl (by decide) o7 (l2 := [some (vr 172), some (vl y1), none, some (vi 0), some (vi (x4 + 1)), some (vi r5)]) rfl ?_
          refine r_goto (pc := 138) (tgt := 88) dX12_laysRows_138 (by decide) ?_
          exact GG.msk [true, true, false, true, true, false] (h hL)
        · replace h := h.2 c9
          refine r_aload_n (pc := 131) dX12_laysRows_131 rfl rfl ?_
          refine c_VV0N (M := mX12_laysRows) (pc := 132) (As := []) dX12_laysRows_132 K_X12_takesRow w_1678 ⟨by decide, by decide⟩ (Nat.le_of_ble_eq_true rfl) rfl rfl (ci := 12) rfl rfl (by decide) (okO_of (N := 42) (hL.sh (i := 0) rfl (by decide) (by decide)) (by decide)) (h hL) (fun τ9 h8 => ?_) rfl
          replace hL := h8.1
          replace h := h8.2
          obtain ⟨o10, h⟩ := h
          refine r_iinc (pc := 135) dX12_laysRows_135 rfl (by decide) o10 (l2 := [some (vr 172), some (vl y1), none, some (vi 0), some (vi (x4 + 1)), some (vi r5)]) rfl ?_
          refine r_goto (pc := 138) (tgt := 88) dX12_laysRows_138 (by decide) ?_
          exact GG.msk [true, true, false, true, true, false] (h hL)
      · replace h := h.2 c9
        refine r_iconst (pc := 119) dX12_laysRows_119 (inRk rfl) ?_
        refine r_goto (pc := 120) (tgt := 124) dX12_laysRows_120 (by decide) ?_
        refine r_istore_n (pc := 124) dX12_laysRows_124 rfl (by decide) (l2 := [some (vr 172), some (vl y1), none, some (vi 1), some (vi x4), some (vi r5)]) rfl ?_
        refine r_iload (pc := 125) dX12_laysRows_125 rfl ?_
        refine r_iconst (pc := 127) dX12_laysRows_127 (inRk rfl) ?_
        refine r_icmp_ne (pc := 128) (tgt := 135) dX12_laysRows_128 (by decide) (fun c9 => ?_) (fun c9 => ?_)
        · replace h := h.1 c9
          obtain ⟨o11, h⟩ := h
          refine r_iinc (pc := 135) dX12_laysRows_135 rfl (by decide) o11 (l2 := [some (vr 172), some (vl y1), none, some (vi 1), some (vi (x4 + 1)), some (vi r5)]) rfl ?_
          refine r_goto (pc := 138) (tgt := 88) dX12_laysRows_138 (by decide) ?_
          exact GG.msk [true, true, false, true, true, false] (h hL)
        · replace h := h.2 c9
          refine r_aload_n (pc := 131) dX12_laysRows_131 rfl rfl ?_
          refine c_VV0N (M := mX12_laysRows) (pc := 132) (As := []) dX12_laysRows_132 K_X12_takesRow w_1678 ⟨by decide, by decide⟩ (Nat.le_of_ble_eq_true rfl) rfl rfl (ci := 12) rfl rfl (by decide) (okO_of (N := 42) (hL.sh (i := 0) rfl (by decide) (by decide)) (by decide)) (h hL) (fun τ13 h8 => ?_) rfl
          replace hL := h8.1
          replace h := h8.2
          obtain ⟨o14, h⟩ := h
          refine r_iinc (pc := 135) dX12_laysRows_135 rfl (by decide) o14 (l2 := [some (vr 172), some (vl y1), none, some (vi 1), some (vi (x4 + 1)), some (vi r5)]) rfl ?_
          refine r_goto (pc := 138) (tgt := 88) dX12_laysRows_138 (by decide) ?_
          exact GG.msk [true, true, false, true, true, false] (h hL)
theorem C_X12_laysRows {a0 : Nat} (h : GG E mX12_laysRows 0 [some (vr a0), none, none, none, none, none] [] σ 0 0 Q) : CC E mX12_laysRows [vr a0] σ Q := CC.of (by decide +kernel) rfl (by decide +kernel) (fun h9 => nomatch h9) (Nat.le_of_ble_eq_true rfl) h
theorem dX12_laysSheet_0 : decode cX12_laysSheet 0 = .ok (.iconst 0, 1) := by decide +kernel
theorem dX12_laysSheet_1 : decode cX12_laysSheet 1 = .ok (.istore_n 2, 1) := by decide +kernel
theorem dX12_laysSheet_2 : decode cX12_laysSheet 2 = .ok (.iload_n 2, 1) := by decide +kernel
theorem dX12_laysSheet_3 : decode cX12_laysSheet 3 = .ok (.aload_n 0, 1) := by decide +kernel
theorem dX12_laysSheet_4 : decode cX12_laysSheet 4 = .ok (.getfield 231, 3) := by decide +kernel
theorem dX12_laysSheet_7 : decode cX12_laysSheet 7 = .ok (.if_icmp .ge 100, 3) := by decide +kernel
theorem dX12_laysSheet_10 : decode cX12_laysSheet 10 = .ok (.iconst 0, 1) := by decide +kernel
theorem dX12_laysSheet_11 : decode cX12_laysSheet 11 = .ok (.istore_n 3, 1) := by decide +kernel
theorem dX12_laysSheet_12 : decode cX12_laysSheet 12 = .ok (.iload_n 3, 1) := by decide +kernel
theorem dX12_laysSheet_13 : decode cX12_laysSheet 13 = .ok (.aload_n 0, 1) := by decide +kernel
theorem dX12_laysSheet_14 : decode cX12_laysSheet 14 = .ok (.getfield 231, 3) := by decide +kernel
theorem dX12_laysSheet_17 : decode cX12_laysSheet 17 = .ok (.if_icmp .ge 84, 3) := by decide +kernel
theorem dX12_laysSheet_20 : decode cX12_laysSheet 20 = .ok (.iload_n 3, 1) := by decide +kernel
theorem dX12_laysSheet_21 : decode cX12_laysSheet 21 = .ok (.iload_n 2, 1) := by decide +kernel
theorem dX12_laysSheet_22 : decode cX12_laysSheet 22 = .ok (.if_icmp .ne 9, 3) := by decide +kernel
theorem dX12_laysSheet_25 : decode cX12_laysSheet 25 = .ok (.iload_n 1, 1) := by decide +kernel
theorem dX12_laysSheet_26 : decode cX12_laysSheet 26 = .ok (.ineg, 1) := by decide +kernel
theorem dX12_laysSheet_27 : decode cX12_laysSheet 27 = .ok (.i2l, 1) := by decide +kernel
theorem dX12_laysSheet_28 : decode cX12_laysSheet 28 = .ok (.goto 4, 3) := by decide +kernel
theorem dX12_laysSheet_31 : decode cX12_laysSheet 31 = .ok (.lconst 0, 1) := by decide +kernel
theorem dX12_laysSheet_32 : decode cX12_laysSheet 32 = .ok (.lstore 4, 2) := by decide +kernel
theorem dX12_laysSheet_34 : decode cX12_laysSheet 34 = .ok (.iconst 0, 1) := by decide +kernel
theorem dX12_laysSheet_35 : decode cX12_laysSheet 35 = .ok (.istore 6, 2) := by decide +kernel
theorem dX12_laysSheet_37 : decode cX12_laysSheet 37 = .ok (.iload 6, 2) := by decide +kernel
theorem dX12_laysSheet_39 : decode cX12_laysSheet 39 = .ok (.aload_n 0, 1) := by decide +kernel
theorem dX12_laysSheet_40 : decode cX12_laysSheet 40 = .ok (.getfield 231, 3) := by decide +kernel
theorem dX12_laysSheet_43 : decode cX12_laysSheet 43 = .ok (.if_icmp .ge 38, 3) := by decide +kernel
theorem dX12_laysSheet_46 : decode cX12_laysSheet 46 = .ok (.lload 4, 2) := by decide +kernel
theorem dX12_laysSheet_48 : decode cX12_laysSheet 48 = .ok (.aload_n 0, 1) := by decide +kernel
theorem dX12_laysSheet_49 : decode cX12_laysSheet 49 = .ok (.getfield 61, 3) := by decide +kernel
theorem dX12_laysSheet_52 : decode cX12_laysSheet 52 = .ok (.iload 6, 2) := by decide +kernel
theorem dX12_laysSheet_54 : decode cX12_laysSheet 54 = .ok (.iaload, 1) := by decide +kernel
theorem dX12_laysSheet_55 : decode cX12_laysSheet 55 = .ok (.i2l, 1) := by decide +kernel
theorem dX12_laysSheet_56 : decode cX12_laysSheet 56 = .ok (.aload_n 0, 1) := by decide +kernel
theorem dX12_laysSheet_57 : decode cX12_laysSheet 57 = .ok (.getfield 55, 3) := by decide +kernel
theorem dX12_laysSheet_60 : decode cX12_laysSheet 60 = .ok (.bipush 48, 2) := by decide +kernel
theorem dX12_laysSheet_62 : decode cX12_laysSheet 62 = .ok (.iload 6, 2) := by decide +kernel
theorem dX12_laysSheet_64 : decode cX12_laysSheet 64 = .ok (.imul, 1) := by decide +kernel
theorem dX12_laysSheet_65 : decode cX12_laysSheet 65 = .ok (.iload_n 3, 1) := by decide +kernel
theorem dX12_laysSheet_66 : decode cX12_laysSheet 66 = .ok (.iadd, 1) := by decide +kernel
theorem dX12_laysSheet_67 : decode cX12_laysSheet 67 = .ok (.aaload, 1) := by decide +kernel
theorem dX12_laysSheet_68 : decode cX12_laysSheet 68 = .ok (.iload_n 2, 1) := by decide +kernel
theorem dX12_laysSheet_69 : decode cX12_laysSheet 69 = .ok (.iaload, 1) := by decide +kernel
theorem dX12_laysSheet_70 : decode cX12_laysSheet 70 = .ok (.i2l, 1) := by decide +kernel
theorem dX12_laysSheet_71 : decode cX12_laysSheet 71 = .ok (.lmul, 1) := by decide +kernel
theorem dX12_laysSheet_72 : decode cX12_laysSheet 72 = .ok (.ladd, 1) := by decide +kernel
theorem dX12_laysSheet_73 : decode cX12_laysSheet 73 = .ok (.lstore 4, 2) := by decide +kernel
theorem dX12_laysSheet_75 : decode cX12_laysSheet 75 = .ok (.iinc 6 1, 3) := by decide +kernel
theorem dX12_laysSheet_78 : decode cX12_laysSheet 78 = .ok (.goto (-41), 3) := by decide +kernel
theorem dX12_laysSheet_81 : decode cX12_laysSheet 81 = .ok (.aload_n 0, 1) := by decide +kernel
theorem dX12_laysSheet_82 : decode cX12_laysSheet 82 = .ok (.getfield 58, 3) := by decide +kernel
theorem dX12_laysSheet_85 : decode cX12_laysSheet 85 = .ok (.iload_n 2, 1) := by decide +kernel
theorem dX12_laysSheet_86 : decode cX12_laysSheet 86 = .ok (.aaload, 1) := by decide +kernel
theorem dX12_laysSheet_87 : decode cX12_laysSheet 87 = .ok (.iload_n 3, 1) := by decide +kernel
theorem dX12_laysSheet_88 : decode cX12_laysSheet 88 = .ok (.aload_n 0, 1) := by decide +kernel
theorem dX12_laysSheet_89 : decode cX12_laysSheet 89 = .ok (.lload 4, 2) := by decide +kernel
theorem dX12_laysSheet_91 : decode cX12_laysSheet 91 = .ok (.invokevirtual 250, 3) := by decide +kernel
theorem dX12_laysSheet_94 : decode cX12_laysSheet 94 = .ok (.iastore, 1) := by decide +kernel
theorem dX12_laysSheet_95 : decode cX12_laysSheet 95 = .ok (.iinc 3 1, 3) := by decide +kernel
theorem dX12_laysSheet_98 : decode cX12_laysSheet 98 = .ok (.goto (-86), 3) := by decide +kernel
theorem dX12_laysSheet_101 : decode cX12_laysSheet 101 = .ok (.iinc 2 1, 3) := by decide +kernel
theorem dX12_laysSheet_104 : decode cX12_laysSheet 104 = .ok (.goto (-102), 3) := by decide +kernel
theorem dX12_laysSheet_107 : decode cX12_laysSheet 107 = .ok (.return_, 1) := by decide +kernel
theorem B_X12_laysSheet_0 {g : Sg} {c t : Nat} (hL : Lay LM g c t σ) {x1 : Int} (h : (Lay LM g c t σ → GG E mX12_laysSheet 2 [some (vr 172), some (vi x1), some (vi 0), none, none, none, none] [] σ rc rs Q)) : GG E mX12_laysSheet 0 [some (vr 172), some (vi x1), none, none, none, none, none] [] σ rc rs Q := by
  refine r_iconst (pc := 0) dX12_laysSheet_0 (inRk rfl) ?_
  refine r_istore_n (pc := 1) dX12_laysSheet_1 rfl (by decide) (l2 := [some (vr 172), some (vi x1), some (vi 0), none, none, none, none]) rfl ?_
  exact (h hL)
theorem B_X12_laysSheet_2 {g : Sg} {c t : Nat} (hL : Lay LM g c t σ) {x1 : Int} {x2 : Int} (h : (((gI σ 172 16) ≤ x2 → (Lay LM g c t σ → Q (.inl none) σ)) ∧ (¬ ((gI σ 172 16) ≤ x2) → (Lay LM g c t σ → GG E mX12_laysSheet 12 [some (vr 172), some (vi x1), some (vi x2), some (vi 0), none, none, none] [] σ rc rs Q)))) : GG E mX12_laysSheet 2 [some (vr 172), some (vi x1), some (vi x2), none, none, none, none] [] σ rc rs Q := by
  refine r_iload_n (pc := 2) dX12_laysSheet_2 rfl rfl ?_
  refine r_aload_n (pc := 3) dX12_laysSheet_3 rfl rfl ?_
  refine r_getI (pc := 4) dX12_laysSheet_4 (k9 := 16) CL_12 (by decide) (by decide) w_1431 rfl (okO_of (N := 42) (hL.sh (i := 0) rfl (by decide) (by decide)) (by decide)) (fun _ => ?_)
  refine r_icmp_ge (pc := 7) (tgt := 107) dX12_laysSheet_7 (by decide) (fun c9 => ?_) (fun c9 => ?_)
  · replace h := h.1 c9
    exact r_return (pc := 107) dX12_laysSheet_107 (by decide +kernel) rfl (h hL)
  · replace h := h.2 c9
    refine r_iconst (pc := 10) dX12_laysSheet_10 (inRk rfl) ?_
    refine r_istore_n (pc := 11) dX12_laysSheet_11 rfl (by decide) (l2 := [some (vr 172), some (vi x1), some (vi x2), some (vi 0), none, none, none]) rfl ?_
    exact (h hL)
theorem B_X12_laysSheet_12 {g : Sg} {c t : Nat} (hL : Lay LM g c t σ) {x1 : Int} {x2 : Int} {x3 : Int} (h : (((gI σ 172 16) ≤ x3 → inR (x2 + 1) ∧ (Lay LM g c t σ → GG E mX12_laysSheet 2 [some (vr 172), some (vi x1), some (vi (x2 + 1)), none, none, none, none] [] σ rc rs Q)) ∧ (¬ ((gI σ 172 16) ≤ x3) → ((x3 ≠ x2 → (Lay LM g c t σ → GG E mX12_laysSheet 37 [some (vr 172), some (vi x1), some (vi x2), some (vi x3), some (vl 0), none, some (vi 0)] [] σ rc rs Q)) ∧ (x3 = x2 → inR (-x1) ∧ (Lay LM g c t σ → GG E mX12_laysSheet 37 [some (vr 172), some (vi x1), some (vi x2), some (vi x3), some (vl (-x1)), none, some (vi 0)] [] σ rc rs Q)))))) : GG E mX12_laysSheet 12 [some (vr 172), some (vi x1), some (vi x2), some (vi x3), none, none, none] [] σ rc rs Q := by
  refine r_iload_n (pc := 12) dX12_laysSheet_12 rfl rfl ?_
  refine r_aload_n (pc := 13) dX12_laysSheet_13 rfl rfl ?_
  refine r_getI (pc := 14) dX12_laysSheet_14 (k9 := 16) CL_12 (by decide) (by decide) w_1431 rfl (okO_of (N := 42) (hL.sh (i := 0) rfl (by decide) (by decide)) (by decide)) (fun _ => ?_)
  refine r_icmp_ge (pc := 17) (tgt := 101) dX12_laysSheet_17 (by decide) (fun c9 => ?_) (fun c9 => ?_)
  · replace h := h.1 c9
    obtain ⟨o1, h⟩ := h
    refine r_iinc (pc := 101) dX12_laysSheet_101 rfl (by decide) o1 (l2 := [some (vr 172), some (vi x1), some (vi (x2 + 1)), some (vi x3), none, none, none]) rfl ?_
    refine r_goto (pc := 104) (tgt := 2) dX12_laysSheet_104 (by decide) ?_
    exact GG.msk [true, true, true, false, false, false, false] (h hL)
  · replace h := h.2 c9
    refine r_iload_n (pc := 20) dX12_laysSheet_20 rfl rfl ?_
    refine r_iload_n (pc := 21) dX12_laysSheet_21 rfl rfl ?_
    refine r_icmp_ne (pc := 22) (tgt := 31) dX12_laysSheet_22 (by decide) (fun c9 => ?_) (fun c9 => ?_)
    · replace h := h.1 c9
      refine r_lconst (pc := 31) (x := 0) dX12_laysSheet_31 rfl ?_
      refine r_lstore (pc := 32) dX12_laysSheet_32 (by decide) (l2 := [some (vr 172), some (vi x1), some (vi x2), some (vi x3), some (vl 0), none, none]) rfl ?_
      refine r_iconst (pc := 34) dX12_laysSheet_34 (inRk rfl) ?_
      refine r_istore (pc := 35) dX12_laysSheet_35 (by decide) (l2 := [some (vr 172), some (vi x1), some (vi x2), some (vi x3), some (vl 0), none, some (vi 0)]) rfl ?_
      exact (h hL)
    · replace h := h.2 c9
      refine r_iload_n (pc := 25) dX12_laysSheet_25 rfl rfl ?_
      obtain ⟨o2, h⟩ := h
      refine r_ineg (pc := 26) dX12_laysSheet_26 o2 ?_
      refine r_i2l (pc := 27) dX12_laysSheet_27 ?_
      refine r_goto (pc := 28) (tgt := 32) dX12_laysSheet_28 (by decide) ?_
      refine r_lstore (pc := 32) dX12_laysSheet_32 (by decide) (l2 := [some (vr 172), some (vi x1), some (vi x2), some (vi x3), some (vl (-x1)), none, none]) rfl ?_
      refine r_iconst (pc := 34) dX12_laysSheet_34 (inRk rfl) ?_
      refine r_istore (pc := 35) dX12_laysSheet_35 (by decide) (l2 := [some (vr 172), some (vi x1), some (vi x2), some (vi x3), some (vl (-x1)), none, some (vi 0)]) rfl ?_
      exact (h hL)
theorem B_X12_laysSheet_37 {g : Sg} {c t : Nat} (hL : Lay LM g c t σ) {x1 : Int} {x2 : Int} {x3 : Int} {y4 : Int} {x6 : Int} (h : (((gI σ 172 16) ≤ x6 → (0 ≤ x2 ∧ x2 < 48) ∧ ∀ b2 : Nat, b2 = gR σ 2861 x2.toNat → (2862 ≤ b2 ∧ b2 < 2910) → (Lay LM g c t σ → CC E mX12_mod [vr 172, vl y4] σ (KI (fun r4 τ5 => Lay LM g c t τ5 ∧ (inR r4 → (0 ≤ x3 ∧ x3 < 48) ∧ ∀ τ7 : Sg, τ7 = sI τ5 b2 x3.toNat r4 → inR (x3 + 1) ∧ (Lay LM g c t τ7 → GG E mX12_laysSheet 12 [some (vr 172), some (vi x1), some (vi x2), some (vi (x3 + 1)), none, none, none] [] τ7 rc rs Q))) (fun _ _ => False)))) ∧ (¬ ((gI σ 172 16) ≤ x6) → (0 ≤ x6 ∧ x6 < 48) ∧ inR (48 * x6) ∧ inR ((48 * x6) + x3) ∧ (0 ≤ ((48 * x6) + x3) ∧ ((48 * x6) + x3) < 2304) ∧ (0 ≤ x2 ∧ x2 < 48) ∧ ∀ v15 : Int, v15 = wL ((gI σ 2910 x6.toNat) * (gI σ (557 + ((48 * x6) + x3).toNat) x2.toNat)) → inR (x6 + 1) ∧ (Lay LM g c t σ → GG E mX12_laysSheet 37 [some (vr 172), some (vi x1), some (vi x2), some (vi x3), some (vl (wL (y4 + v15))), none, some (vi (x6 + 1))] [] σ rc rs Q)))) : GG E mX12_laysSheet 37 [some (vr 172), some (vi x1), some (vi x2), some (vi x3), some (vl y4), none, some (vi x6)] [] σ rc rs Q := by
  refine r_iload (pc := 37) dX12_laysSheet_37 rfl ?_
  refine r_aload_n (pc := 39) dX12_laysSheet_39 rfl rfl ?_
  refine r_getI (pc := 40) dX12_laysSheet_40 (k9 := 16) CL_12 (by decide) (by decide) w_1431 rfl (okO_of (N := 42) (hL.sh (i := 0) rfl (by decide) (by decide)) (by decide)) (fun _ => ?_)
  refine r_icmp_ge (pc := 43) (tgt := 81) dX12_laysSheet_43 (by decide) (fun c9 => ?_) (fun c9 => ?_)
  · replace h := h.1 c9
    refine r_aload_n (pc := 81) dX12_laysSheet_81 rfl rfl ?_
    refine r_getR (pc := 82) dX12_laysSheet_82 (k9 := 29) CL_12 (by decide) (by decide) w_1444 rfl (okO_of (N := 42) (hL.sh (i := 0) rfl (by decide) (by decide)) (by decide)) ?_
    refine eqR (y := 2861) (hL.rf (i := 14) rfl) ?_
    refine r_iload_n (pc := 85) dX12_laysSheet_85 rfl rfl ?_
    obtain ⟨o1, h⟩ := h
    refine r_aaload (pc := 86) dX12_laysSheet_86 (okB_of (c := 24) (n := 48) (hL.sh (i := 20) rfl (by decide) (by decide)) (by decide) o1) ?_
    refine nmR (fun b2 e9 => ?_)
    have q3 : (2862 ≤ b2 ∧ b2 < 2910) := e9 ▸ hL.rsw (i := 0) rfl (rowC o1 (by decide))
    replace h := h b2 e9 q3
    refine r_iload_n (pc := 87) dX12_laysSheet_87 rfl rfl ?_
    refine r_aload_n (pc := 88) dX12_laysSheet_88 rfl rfl ?_
    refine r_lload (pc := 89) dX12_laysSheet_89 rfl ?_
    refine c_VI0N (M := mX12_laysSheet) (pc := 91) (As := [vl y4]) dX12_laysSheet_91 K_X12_mod w_1666 ⟨by decide, by decide⟩ (Nat.le_of_ble_eq_true rfl) rfl rfl (ci := 12) rfl rfl (by decide) (okO_of (N := 42) (hL.sh (i := 0) rfl (by decide) (by decide)) (by decide)) (h hL) (fun r4 τ5 h8 hr9 => ?_) rfl
    replace hL := h8.1
    replace h := h8.2 hr9
    obtain ⟨o6, h⟩ := h
    refine r_iastore (pc := 94) dX12_laysSheet_94 (okB_of (c := 20) (n := 48) (hL.sh (i := 21) rfl q3.1 q3.2) (Nat.le_trans (by decide) q3.1) o6) ?_
    refine nmS (fun τ7 e7 => ?_)
    replace h := h τ7 e7
    have hL := hL.wI e7 (Nat.le_trans (by decide) q3.1) (.inl ⟨Nat.le_trans (by decide) q3.1, Nat.lt_of_lt_of_le q3.2 (by decide)⟩)
    obtain ⟨o8, h⟩ := h
    refine r_iinc (pc := 95) dX12_laysSheet_95 rfl (by decide) o8 (l2 := [some (vr 172), some (vi x1), some (vi x2), some (vi (x3 + 1)), some (vl y4), none, some (vi x6)]) rfl ?_
    refine r_goto (pc := 98) (tgt := 12) dX12_laysSheet_98 (by decide) ?_
    exact GG.msk [true, true, true, true, false, false, false] (h hL)
  · replace h := h.2 c9
    refine r_lload (pc := 46) dX12_laysSheet_46 rfl ?_
    refine r_aload_n (pc := 48) dX12_laysSheet_48 rfl rfl ?_
    refine r_getR (pc := 49) dX12_laysSheet_49 (k9 := 30) CL_12 (by decide) (by decide) w_1445 rfl (okO_of (N := 42) (hL.sh (i := 0) rfl (by decide) (by decide)) (by decide)) ?_
    refine eqR (y := 2910) (hL.rf (i := 15) rfl) ?_
    refine r_iload (pc := 52) dX12_laysSheet_52 rfl ?_
    obtain ⟨o9, h⟩ := h
    refine r_iaload (pc := 54) dX12_laysSheet_54 (okA_of (c := 20) (n := 48) (hL.sh (i := 22) rfl (by decide) (by decide)) (by decide) o9) ?_
    refine r_i2l (pc := 55) dX12_laysSheet_55 ?_
    refine r_aload_n (pc := 56) dX12_laysSheet_56 rfl rfl ?_
    refine r_getR (pc := 57) dX12_laysSheet_57 (k9 := 28) CL_12 (by decide) (by decide) w_1443 rfl (okO_of (N := 42) (hL.sh (i := 0) rfl (by decide) (by decide)) (by decide)) ?_
    refine eqR (y := 556) (hL.rf (i := 13) rfl) ?_
    refine r_bipush (pc := 60) dX12_laysSheet_60 (by decide) ?_
    refine r_iload (pc := 62) dX12_laysSheet_62 rfl ?_
    obtain ⟨o10, h⟩ := h
    refine r_imul (pc := 64) dX12_laysSheet_64 o10 ?_
    refine r_iload_n (pc := 65) dX12_laysSheet_65 rfl rfl ?_
    obtain ⟨o11, h⟩ := h
    refine r_iadd (pc := 66) dX12_laysSheet_66 o11 ?_
    obtain ⟨o12, h⟩ := h
    refine r_aaload (pc := 67) dX12_laysSheet_67 (okB_of (c := 24) (n := 2304) (hL.sh (i := 18) rfl (by decide) (by decide)) (by decide) o12) ?_
    have q13 : 557 ≤ 557 + ((48 * x6) + x3).toNat ∧ 557 + ((48 * x6) + x3).toNat < 2861 := ⟨Nat.le_add_right _ _, rowB o12 (by decide)⟩
    refine eqR (y := 557 + ((48 * x6) + x3).toNat) (hL.rx (i := 4) rfl (rowC o12 (by decide))) ?_
    refine r_iload_n (pc := 68) dX12_laysSheet_68 rfl rfl ?_
    obtain ⟨o14, h⟩ := h
    refine r_iaload (pc := 69) dX12_laysSheet_69 (okA_of (c := 20) (n := 48) (hL.sh (i := 19) rfl q13.1 q13.2) (Nat.le_trans (by decide) q13.1) o14) ?_
    refine r_i2l (pc := 70) dX12_laysSheet_70 ?_
    refine r_lmul (pc := 71) dX12_laysSheet_71 ?_
    refine nmL (fun v15 e9 => ?_)
    replace h := h v15 e9
    refine r_ladd (pc := 72) dX12_laysSheet_72 ?_
    refine r_lstore (pc := 73) dX12_laysSheet_73 (by decide) (l2 := [some (vr 172), some (vi x1), some (vi x2), some (vi x3), some (vl (wL (y4 + v15))), none, some (vi x6)]) rfl ?_
    obtain ⟨o16, h⟩ := h
    refine r_iinc (pc := 75) dX12_laysSheet_75 rfl (by decide) o16 (l2 := [some (vr 172), some (vi x1), some (vi x2), some (vi x3), some (vl (wL (y4 + v15))), none, some (vi (x6 + 1))]) rfl ?_
    refine r_goto (pc := 78) (tgt := 37) dX12_laysSheet_78 (by decide) ?_
    exact (h hL)
theorem C_X12_laysSheet {a0 : Nat} {x1 : Int} (h : GG E mX12_laysSheet 0 [some (vr a0), some (vi x1), none, none, none, none, none] [] σ 0 0 Q) : CC E mX12_laysSheet [vr a0, vi x1] σ Q := CC.of (by decide +kernel) rfl (by decide +kernel) (fun h9 => nomatch h9) (Nat.le_of_ble_eq_true rfl) h
theorem dX12_less_0 : decode cX12_less 0 = .ok (.iload_n 0, 1) := by decide +kernel
theorem dX12_less_1 : decode cX12_less 1 = .ok (.iload_n 1, 1) := by decide +kernel
theorem dX12_less_2 : decode cX12_less 2 = .ok (.if_icmp .ge 7, 3) := by decide +kernel
theorem dX12_less_5 : decode cX12_less 5 = .ok (.iload_n 0, 1) := by decide +kernel
theorem dX12_less_6 : decode cX12_less 6 = .ok (.goto 4, 3) := by decide +kernel
theorem dX12_less_9 : decode cX12_less 9 = .ok (.iload_n 1, 1) := by decide +kernel
theorem dX12_less_10 : decode cX12_less 10 = .ok (.ireturn, 1) := by decide +kernel
theorem B_X12_less_0 {x0 : Int} {x1 : Int} (h : ((x1 ≤ x0 → Q (.inl (some (vi x1))) σ) ∧ (¬ (x1 ≤ x0) → Q (.inl (some (vi x0))) σ))) : GG E mX12_less 0 [some (vi x0), some (vi x1)] [] σ rc rs Q := by
  refine r_iload_n (pc := 0) dX12_less_0 rfl rfl ?_
  refine r_iload_n (pc := 1) dX12_less_1 rfl rfl ?_
  refine r_icmp_ge (pc := 2) (tgt := 9) dX12_less_2 (by decide) (fun c9 => ?_) (fun c9 => ?_)
  · replace h := h.1 c9
    refine r_iload_n (pc := 9) dX12_less_9 rfl rfl ?_
    exact r_ireturn (pc := 10) (ty := .int) dX12_less_10 (by decide +kernel) rfl (nar_i _) h
  · replace h := h.2 c9
    refine r_iload_n (pc := 5) dX12_less_5 rfl rfl ?_
    refine r_goto (pc := 6) (tgt := 10) dX12_less_6 (by decide) ?_
    exact r_ireturn (pc := 10) (ty := .int) dX12_less_10 (by decide +kernel) rfl (nar_i _) h
theorem C_X12_less {x0 : Int} {x1 : Int} (h : GG E mX12_less 0 [some (vi x0), some (vi x1)] [] σ 0 0 Q) : CC E mX12_less [vi x0, vi x1] σ Q := CC.of (by decide +kernel) rfl (by decide +kernel) (fun h9 => nomatch h9) (Nat.le_of_ble_eq_true rfl) h
theorem dX12_made_0 : decode cX12_made 0 = .ok (.aload_n 0, 1) := by decide +kernel
theorem dX12_made_1 : decode cX12_made 1 = .ok (.iconst 0, 1) := by decide +kernel
theorem dX12_made_2 : decode cX12_made 2 = .ok (.putfield 99, 3) := by decide +kernel
theorem dX12_made_5 : decode cX12_made 5 = .ok (.aload_n 0, 1) := by decide +kernel
theorem dX12_made_6 : decode cX12_made 6 = .ok (.aload_n 0, 1) := by decide +kernel
theorem dX12_made_7 : decode cX12_made 7 = .ok (.iload_n 1, 1) := by decide +kernel
theorem dX12_made_8 : decode cX12_made 8 = .ok (.invokevirtual 332, 3) := by decide +kernel
theorem dX12_made_11 : decode cX12_made 11 = .ok (.ifCond .eq 11, 3) := by decide +kernel
theorem dX12_made_14 : decode cX12_made 14 = .ok (.aload_n 0, 1) := by decide +kernel
theorem dX12_made_15 : decode cX12_made 15 = .ok (.iload_n 2, 1) := by decide +kernel
theorem dX12_made_16 : decode cX12_made 16 = .ok (.invokevirtual 332, 3) := by decide +kernel
theorem dX12_made_19 : decode cX12_made 19 = .ok (.ifCond .ne 7, 3) := by decide +kernel
theorem dX12_made_22 : decode cX12_made 22 = .ok (.iconst 1, 1) := by decide +kernel
theorem dX12_made_23 : decode cX12_made 23 = .ok (.goto 4, 3) := by decide +kernel
theorem dX12_made_26 : decode cX12_made 26 = .ok (.iconst 0, 1) := by decide +kernel
theorem dX12_made_27 : decode cX12_made 27 = .ok (.iconst 1, 1) := by decide +kernel
theorem dX12_made_28 : decode cX12_made 28 = .ok (.iconst 0, 1) := by decide +kernel
theorem dX12_made_29 : decode cX12_made 29 = .ok (.invokevirtual 177, 3) := by decide +kernel
theorem dX12_made_32 : decode cX12_made 32 = .ok (.ifCond .ne 26, 3) := by decide +kernel
theorem dX12_made_35 : decode cX12_made 35 = .ok (.aload_n 0, 1) := by decide +kernel
theorem dX12_made_36 : decode cX12_made 36 = .ok (.iload_n 3, 1) := by decide +kernel
theorem dX12_made_37 : decode cX12_made 37 = .ok (.iconst 0, 1) := by decide +kernel
theorem dX12_made_38 : decode cX12_made 38 = .ok (.iconst 1, 1) := by decide +kernel
theorem dX12_made_39 : decode cX12_made 39 = .ok (.invokestatic 141, 3) := by decide +kernel
theorem dX12_made_42 : decode cX12_made 42 = .ok (.ifCond .ne 7, 3) := by decide +kernel
theorem dX12_made_45 : decode cX12_made 45 = .ok (.iconst 1, 1) := by decide +kernel
theorem dX12_made_46 : decode cX12_made 46 = .ok (.goto 4, 3) := by decide +kernel
theorem dX12_made_49 : decode cX12_made 49 = .ok (.iconst 0, 1) := by decide +kernel
theorem dX12_made_50 : decode cX12_made 50 = .ok (.iconst 2, 1) := by decide +kernel
theorem dX12_made_51 : decode cX12_made 51 = .ok (.iconst 1, 1) := by decide +kernel
theorem dX12_made_52 : decode cX12_made 52 = .ok (.invokevirtual 177, 3) := by decide +kernel
theorem dX12_made_55 : decode cX12_made 55 = .ok (.ifCond .eq 5, 3) := by decide +kernel
theorem dX12_made_58 : decode cX12_made 58 = .ok (.iconst 0, 1) := by decide +kernel
theorem dX12_made_59 : decode cX12_made 59 = .ok (.ireturn, 1) := by decide +kernel
theorem dX12_made_60 : decode cX12_made 60 = .ok (.aload_n 0, 1) := by decide +kernel
theorem dX12_made_61 : decode cX12_made 61 = .ok (.iload_n 1, 1) := by decide +kernel
theorem dX12_made_62 : decode cX12_made 62 = .ok (.iload_n 2, 1) := by decide +kernel
theorem dX12_made_63 : decode cX12_made 63 = .ok (.invokevirtual 356, 3) := by decide +kernel
theorem dX12_made_66 : decode cX12_made 66 = .ok (.iload_n 3, 1) := by decide +kernel
theorem dX12_made_67 : decode cX12_made 67 = .ok (.ifCond .ne 8, 3) := by decide +kernel
theorem dX12_made_70 : decode cX12_made 70 = .ok (.aload_n 0, 1) := by decide +kernel
theorem dX12_made_71 : decode cX12_made 71 = .ok (.getfield 353, 3) := by decide +kernel
theorem dX12_made_74 : decode cX12_made 74 = .ok (.ireturn, 1) := by decide +kernel
theorem dX12_made_75 : decode cX12_made 75 = .ok (.iconst 0, 1) := by decide +kernel
theorem dX12_made_76 : decode cX12_made 76 = .ok (.istore 4, 2) := by decide +kernel
theorem dX12_made_78 : decode cX12_made 78 = .ok (.iload 4, 2) := by decide +kernel
theorem dX12_made_80 : decode cX12_made 80 = .ok (.aload_n 0, 1) := by decide +kernel
theorem dX12_made_81 : decode cX12_made 81 = .ok (.getfield 192, 3) := by decide +kernel
theorem dX12_made_84 : decode cX12_made 84 = .ok (.if_icmp .ge 22, 3) := by decide +kernel
theorem dX12_made_87 : decode cX12_made 87 = .ok (.aload_n 0, 1) := by decide +kernel
theorem dX12_made_88 : decode cX12_made 88 = .ok (.getfield 88, 3) := by decide +kernel
theorem dX12_made_91 : decode cX12_made 91 = .ok (.iload 4, 2) := by decide +kernel
theorem dX12_made_93 : decode cX12_made 93 = .ok (.baload, 1) := by decide +kernel
theorem dX12_made_94 : decode cX12_made 94 = .ok (.ifCond .ne 6, 3) := by decide +kernel
theorem dX12_made_97 : decode cX12_made 97 = .ok (.iload 4, 2) := by decide +kernel
theorem dX12_made_99 : decode cX12_made 99 = .ok (.ireturn, 1) := by decide +kernel
theorem dX12_made_100 : decode cX12_made 100 = .ok (.iinc 4 1, 3) := by decide +kernel
theorem dX12_made_103 : decode cX12_made 103 = .ok (.goto (-25), 3) := by decide +kernel
theorem dX12_made_106 : decode cX12_made 106 = .ok (.iconst (-1), 1) := by decide +kernel
theorem dX12_made_107 : decode cX12_made 107 = .ok (.ireturn, 1) := by decide +kernel
theorem B_X12_made_0 {g : Sg} {c t : Nat} (hL : Lay LM g c t σ) {x1 : Int} {x2 : Int} {x3 : Int} (h : ∀ τ1 : Sg, τ1 = sI σ 172 0 0 → (Lay LM g c t τ1 → CC E mX12_isElement [vr 172, vi x1] τ1 (KI (fun r2 τ3 => Lay LM g c t τ3 ∧ (inR r2 → ((r2 = 0 → (Lay LM g c t τ3 → CC E mX12_bad [vr 172, vi 1, vi 1, vi 0] τ3 (KI (fun r4 τ5 => Lay LM g c t τ5 ∧ (inR r4 → ((r4 ≠ 0 → (Lay LM g c t τ5 → GG E mX12_made 58 [none, none, none, none, none] [] τ5 rc rs Q)) ∧ (r4 = 0 → (Lay LM g c t τ5 → GG E mX12_made 35 [some (vr 172), some (vi x1), some (vi x2), some (vi x3), none] [] τ5 rc rs Q))))) (fun _ _ => False)))) ∧ (¬ (r2 = 0) → (Lay LM g c t τ3 → CC E mX12_isElement [vr 172, vi x2] τ3 (KI (fun r6 τ7 => Lay LM g c t τ7 ∧ (inR r6 → ((r6 ≠ 0 → (Lay LM g c t τ7 → CC E mX12_bad [vr 172, vi 0, vi 1, vi 0] τ7 (KI (fun r8 τ9 => Lay LM g c t τ9 ∧ (inR r8 → ((r8 ≠ 0 → (Lay LM g c t τ9 → GG E mX12_made 58 [none, none, none, none, none] [] τ9 rc rs Q)) ∧ (r8 = 0 → (Lay LM g c t τ9 → GG E mX12_made 35 [some (vr 172), some (vi x1), some (vi x2), some (vi x3), none] [] τ9 rc rs Q))))) (fun _ _ => False)))) ∧ (r6 = 0 → (Lay LM g c t τ7 → CC E mX12_bad [vr 172, vi 1, vi 1, vi 0] τ7 (KI (fun r10 τ11 => Lay LM g c t τ11 ∧ (inR r10 → ((r10 ≠ 0 → (Lay LM g c t τ11 → GG E mX12_made 58 [none, none, none, none, none] [] τ11 rc rs Q)) ∧ (r10 = 0 → (Lay LM g c t τ11 → GG E mX12_made 35 [some (vr 172), some (vi x1), some (vi x2), some (vi x3), none] [] τ11 rc rs Q))))) (fun _ _ => False))))))) (fun _ _ => False))))))) (fun _ _ => False)))) : GG E mX12_made 0 [some (vr 172), some (vi x1), some (vi x2), some (vi x3), none] [] σ rc rs Q := by
  refine r_aload_n (pc := 0) dX12_made_0 rfl rfl ?_
  refine r_iconst (pc := 1) dX12_made_1 (inRk rfl) ?_
  refine r_putI (pc := 2) dX12_made_2 (k9 := 0) CL_12 (by decide) (by decide) w_1415 rfl rfl (fun h9 => absurd h9 (by decide +kernel)) (okO_of (N := 42) (hL.sh (i := 0) rfl (by decide) (by decide)) (by decide)) ?_
  refine nmS (fun τ1 e1 => ?_)
  replace h := h τ1 e1
  have hL := hL.wI e1 (by decide) (.inl (by decide))
  refine r_aload_n (pc := 5) dX12_made_5 rfl rfl ?_
  refine r_aload_n (pc := 6) dX12_made_6 rfl rfl ?_
  refine r_iload_n (pc := 7) dX12_made_7 rfl rfl ?_
  refine c_VI0N (M := mX12_made) (pc := 8) (As := [vi x1]) dX12_made_8 K_X12_isElement w_1746 ⟨by decide, by decide⟩ (Nat.le_of_ble_eq_true rfl) rfl rfl (ci := 12) rfl rfl (by decide) (okO_of (N := 42) (hL.sh (i := 0) rfl (by decide) (by decide)) (by decide)) (h hL) (fun r2 τ3 h8 hr9 => ?_) rfl
  replace hL := h8.1
  replace h := h8.2 hr9
  refine r_if_eq (pc := 11) (tgt := 22) dX12_made_11 (by decide) (fun c9 => ?_) (fun c9 => ?_)
  · replace h := h.1 c9
    refine r_iconst (pc := 22) dX12_made_22 (inRk rfl) ?_
    refine r_goto (pc := 23) (tgt := 27) dX12_made_23 (by decide) ?_
    refine r_iconst (pc := 27) dX12_made_27 (inRk rfl) ?_
    refine r_iconst (pc := 28) dX12_made_28 (inRk rfl) ?_
    refine c_VI0N (M := mX12_made) (pc := 29) (As := [vi 1, vi 1, vi 0]) dX12_made_29 K_X12_bad w_1562 ⟨by decide, by decide⟩ (Nat.le_of_ble_eq_true rfl) rfl rfl (ci := 12) rfl rfl (by decide) (okO_of (N := 42) (hL.sh (i := 0) rfl (by decide) (by decide)) (by decide)) (h hL) (fun r4 τ5 h8 hr9 => ?_) rfl
    replace hL := h8.1
    replace h := h8.2 hr9
    refine r_if_ne (pc := 32) (tgt := 58) dX12_made_32 (by decide) (fun c9 => ?_) (fun c9 => ?_)
    · replace h := h.1 c9
      exact GG.msk [false, false, false, false, false] (h hL)
    · replace h := h.2 c9
      exact (h hL)
  · replace h := h.2 c9
    refine r_aload_n (pc := 14) dX12_made_14 rfl rfl ?_
    refine r_iload_n (pc := 15) dX12_made_15 rfl rfl ?_
    refine c_VI0N (M := mX12_made) (pc := 16) (As := [vi x2]) dX12_made_16 K_X12_isElement w_1746 ⟨by decide, by decide⟩ (Nat.le_of_ble_eq_true rfl) rfl rfl (ci := 12) rfl rfl (by decide) (okO_of (N := 42) (hL.sh (i := 0) rfl (by decide) (by decide)) (by decide)) (h hL) (fun r6 τ7 h8 hr9 => ?_) rfl
    replace hL := h8.1
    replace h := h8.2 hr9
    refine r_if_ne (pc := 19) (tgt := 26) dX12_made_19 (by decide) (fun c9 => ?_) (fun c9 => ?_)
    · replace h := h.1 c9
      refine r_iconst (pc := 26) dX12_made_26 (inRk rfl) ?_
      refine r_iconst (pc := 27) dX12_made_27 (inRk rfl) ?_
      refine r_iconst (pc := 28) dX12_made_28 (inRk rfl) ?_
      refine c_VI0N (M := mX12_made) (pc := 29) (As := [vi 0, vi 1, vi 0]) dX12_made_29 K_X12_bad w_1562 ⟨by decide, by decide⟩ (Nat.le_of_ble_eq_true rfl) rfl rfl (ci := 12) rfl rfl (by decide) (okO_of (N := 42) (hL.sh (i := 0) rfl (by decide) (by decide)) (by decide)) (h hL) (fun r8 τ9 h8 hr9 => ?_) rfl
      replace hL := h8.1
      replace h := h8.2 hr9
      refine r_if_ne (pc := 32) (tgt := 58) dX12_made_32 (by decide) (fun c9 => ?_) (fun c9 => ?_)
      · replace h := h.1 c9
        exact GG.msk [false, false, false, false, false] (h hL)
      · replace h := h.2 c9
        exact (h hL)
    · replace h := h.2 c9
      refine r_iconst (pc := 22) dX12_made_22 (inRk rfl) ?_
      refine r_goto (pc := 23) (tgt := 27) dX12_made_23 (by decide) ?_
      refine r_iconst (pc := 27) dX12_made_27 (inRk rfl) ?_
      refine r_iconst (pc := 28) dX12_made_28 (inRk rfl) ?_
      refine c_VI0N (M := mX12_made) (pc := 29) (As := [vi 1, vi 1, vi 0]) dX12_made_29 K_X12_bad w_1562 ⟨by decide, by decide⟩ (Nat.le_of_ble_eq_true rfl) rfl rfl (ci := 12) rfl rfl (by decide) (okO_of (N := 42) (hL.sh (i := 0) rfl (by decide) (by decide)) (by decide)) (h hL) (fun r10 τ11 h8 hr9 => ?_) rfl
      replace hL := h8.1
      replace h := h8.2 hr9
      refine r_if_ne (pc := 32) (tgt := 58) dX12_made_32 (by decide) (fun c9 => ?_) (fun c9 => ?_)
      · replace h := h.1 c9
        exact GG.msk [false, false, false, false, false] (h hL)
      · replace h := h.2 c9
        exact (h hL)
theorem B_X12_made_35 {g : Sg} {c t : Nat} (hL : Lay LM g c t σ) {x1 : Int} {x2 : Int} {x3 : Int} (h : (Lay LM g c t σ → CC E mX12_in [vi x3, vi 0, vi 1] σ (KI (fun r1 τ2 => Lay LM g c t τ2 ∧ (inR r1 → ((r1 ≠ 0 → (Lay LM g c t τ2 → CC E mX12_bad [vr 172, vi 0, vi 2, vi 1] τ2 (KI (fun r3 τ4 => Lay LM g c t τ4 ∧ (inR r3 → ((r3 = 0 → (Lay LM g c t τ4 → CC E mX12_makes [vr 172, vi x1, vi x2] τ4 (KV (fun τ6 => Lay LM g c t τ6 ∧ ((x3 ≠ 0 → (Lay LM g c t τ6 → GG E mX12_made 78 [some (vr 172), none, none, none, some (vi 0)] [] τ6 rc rs Q)) ∧ (x3 = 0 → (Lay LM g c t τ6 → Q (.inl (some (vi (gI τ6 172 41)))) τ6)))) (fun _ _ => False)))) ∧ (¬ (r3 = 0) → (Lay LM g c t τ4 → GG E mX12_made 58 [none, none, none, none, none] [] τ4 rc rs Q))))) (fun _ _ => False)))) ∧ (r1 = 0 → (Lay LM g c t τ2 → CC E mX12_bad [vr 172, vi 1, vi 2, vi 1] τ2 (KI (fun r7 τ8 => Lay LM g c t τ8 ∧ (inR r7 → ((r7 = 0 → (Lay LM g c t τ8 → CC E mX12_makes [vr 172, vi x1, vi x2] τ8 (KV (fun τ10 => Lay LM g c t τ10 ∧ ((x3 ≠ 0 → (Lay LM g c t τ10 → GG E mX12_made 78 [some (vr 172), none, none, none, some (vi 0)] [] τ10 rc rs Q)) ∧ (x3 = 0 → (Lay LM g c t τ10 → Q (.inl (some (vi (gI τ10 172 41)))) τ10)))) (fun _ _ => False)))) ∧ (¬ (r7 = 0) → (Lay LM g c t τ8 → GG E mX12_made 58 [none, none, none, none, none] [] τ8 rc rs Q))))) (fun _ _ => False))))))) (fun _ _ => False)))) : GG E mX12_made 35 [some (vr 172), some (vi x1), some (vi x2), some (vi x3), none] [] σ rc rs Q := by
  refine r_aload_n (pc := 35) dX12_made_35 rfl rfl ?_
  refine r_iload_n (pc := 36) dX12_made_36 rfl rfl ?_
  refine r_iconst (pc := 37) dX12_made_37 (inRk rfl) ?_
  refine r_iconst (pc := 38) dX12_made_38 (inRk rfl) ?_
  refine c_SI0N (M := mX12_made) (pc := 39) (As := [vi x3, vi 0, vi 1]) dX12_made_39 K_X12_in w_1559 ⟨by decide, by decide⟩ (Nat.le_of_ble_eq_true rfl) rfl rfl (h hL) (fun r1 τ2 h8 hr9 => ?_) rfl
  replace hL := h8.1
  replace h := h8.2 hr9
  refine r_if_ne (pc := 42) (tgt := 49) dX12_made_42 (by decide) (fun c9 => ?_) (fun c9 => ?_)
  · replace h := h.1 c9
    refine r_iconst (pc := 49) dX12_made_49 (inRk rfl) ?_
    refine r_iconst (pc := 50) dX12_made_50 (inRk rfl) ?_
    refine r_iconst (pc := 51) dX12_made_51 (inRk rfl) ?_
    refine c_VI0N (M := mX12_made) (pc := 52) (As := [vi 0, vi 2, vi 1]) dX12_made_52 K_X12_bad w_1562 ⟨by decide, by decide⟩ (Nat.le_of_ble_eq_true rfl) rfl rfl (ci := 12) rfl rfl (by decide) (okO_of (N := 42) (hL.sh (i := 0) rfl (by decide) (by decide)) (by decide)) (h hL) (fun r3 τ4 h8 hr9 => ?_) rfl
    replace hL := h8.1
    replace h := h8.2 hr9
    refine r_if_eq (pc := 55) (tgt := 60) dX12_made_55 (by decide) (fun c9 => ?_) (fun c9 => ?_)
    · replace h := h.1 c9
      refine r_aload_n (pc := 60) dX12_made_60 rfl rfl ?_
      refine r_iload_n (pc := 61) dX12_made_61 rfl rfl ?_
      refine r_iload_n (pc := 62) dX12_made_62 rfl rfl ?_
      refine c_VV0N (M := mX12_made) (pc := 63) (As := [vi x1, vi x2]) dX12_made_63 K_X12_makes w_1839 ⟨by decide, by decide⟩ (Nat.le_of_ble_eq_true rfl) rfl rfl (ci := 12) rfl rfl (by decide) (okO_of (N := 42) (hL.sh (i := 0) rfl (by decide) (by decide)) (by decide)) (h hL) (fun τ6 h8 => ?_) rfl
      replace hL := h8.1
      replace h := h8.2
      refine r_iload_n (pc := 66) dX12_made_66 rfl rfl ?_
      refine r_if_ne (pc := 67) (tgt := 75) dX12_made_67 (by decide) (fun c9 => ?_) (fun c9 => ?_)
      · replace h := h.1 c9
        refine r_iconst (pc := 75) dX12_made_75 (inRk rfl) ?_
        refine r_istore (pc := 76) dX12_made_76 (by decide) (l2 := [some (vr 172), some (vi x1), some (vi x2), some (vi x3), some (vi 0)]) rfl ?_
        exact GG.msk [true, false, false, false, true] (h hL)
      · replace h := h.2 c9
        refine r_aload_n (pc := 70) dX12_made_70 rfl rfl ?_
        refine r_getI (pc := 71) dX12_made_71 (k9 := 41) CL_12 (by decide) (by decide) w_1456 rfl (okO_of (N := 42) (hL.sh (i := 0) rfl (by decide) (by decide)) (by decide)) (fun _ => ?_)
        exact r_ireturn (pc := 74) (ty := .int) dX12_made_74 (by decide +kernel) rfl (nar_i _) (h hL)
    · replace h := h.2 c9
      exact GG.msk [false, false, false, false, false] (h hL)
  · replace h := h.2 c9
    refine r_iconst (pc := 45) dX12_made_45 (inRk rfl) ?_
    refine r_goto (pc := 46) (tgt := 50) dX12_made_46 (by decide) ?_
    refine r_iconst (pc := 50) dX12_made_50 (inRk rfl) ?_
    refine r_iconst (pc := 51) dX12_made_51 (inRk rfl) ?_
    refine c_VI0N (M := mX12_made) (pc := 52) (As := [vi 1, vi 2, vi 1]) dX12_made_52 K_X12_bad w_1562 ⟨by decide, by decide⟩ (Nat.le_of_ble_eq_true rfl) rfl rfl (ci := 12) rfl rfl (by decide) (okO_of (N := 42) (hL.sh (i := 0) rfl (by decide) (by decide)) (by decide)) (h hL) (fun r7 τ8 h8 hr9 => ?_) rfl
    replace hL := h8.1
    replace h := h8.2 hr9
    refine r_if_eq (pc := 55) (tgt := 60) dX12_made_55 (by decide) (fun c9 => ?_) (fun c9 => ?_)
    · replace h := h.1 c9
      refine r_aload_n (pc := 60) dX12_made_60 rfl rfl ?_
      refine r_iload_n (pc := 61) dX12_made_61 rfl rfl ?_
      refine r_iload_n (pc := 62) dX12_made_62 rfl rfl ?_
      refine c_VV0N (M := mX12_made) (pc := 63) (As := [vi x1, vi x2]) dX12_made_63 K_X12_makes w_1839 ⟨by decide, by decide⟩ (Nat.le_of_ble_eq_true rfl) rfl rfl (ci := 12) rfl rfl (by decide) (okO_of (N := 42) (hL.sh (i := 0) rfl (by decide) (by decide)) (by decide)) (h hL) (fun τ10 h8 => ?_) rfl
      replace hL := h8.1
      replace h := h8.2
      refine r_iload_n (pc := 66) dX12_made_66 rfl rfl ?_
      refine r_if_ne (pc := 67) (tgt := 75) dX12_made_67 (by decide) (fun c9 => ?_) (fun c9 => ?_)
      · replace h := h.1 c9
        refine r_iconst (pc := 75) dX12_made_75 (inRk rfl) ?_
        refine r_istore (pc := 76) dX12_made_76 (by decide) (l2 := [some (vr 172), some (vi x1), some (vi x2), some (vi x3), some (vi 0)]) rfl ?_
        exact GG.msk [true, false, false, false, true] (h hL)
      · replace h := h.2 c9
        refine r_aload_n (pc := 70) dX12_made_70 rfl rfl ?_
        refine r_getI (pc := 71) dX12_made_71 (k9 := 41) CL_12 (by decide) (by decide) w_1456 rfl (okO_of (N := 42) (hL.sh (i := 0) rfl (by decide) (by decide)) (by decide)) (fun _ => ?_)
        exact r_ireturn (pc := 74) (ty := .int) dX12_made_74 (by decide +kernel) rfl (nar_i _) (h hL)
    · replace h := h.2 c9
      exact GG.msk [false, false, false, false, false] (h hL)
theorem B_X12_made_58 {g : Sg} {c t : Nat} (hL : Lay LM g c t σ)  (h : (Lay LM g c t σ → Q (.inl (some (vi 0))) σ)) : GG E mX12_made 58 [none, none, none, none, none] [] σ rc rs Q := by
  refine r_iconst (pc := 58) dX12_made_58 (inRk rfl) ?_
  exact r_ireturn (pc := 59) (ty := .int) dX12_made_59 (by decide +kernel) rfl (nar_i _) (h hL)
theorem B_X12_made_78 {g : Sg} {c t : Nat} (hL : Lay LM g c t σ) {x4 : Int} (h : (((gI σ 172 15) ≤ x4 → (Lay LM g c t σ → Q (.inl (some (vi (-1)))) σ)) ∧ (¬ ((gI σ 172 15) ≤ x4) → (0 ≤ x4 ∧ x4 < 120) ∧ ((gI σ 2967 x4.toNat = 0 ∨ gI σ 2967 x4.toNat = 1) → (((gI σ 2967 x4.toNat) ≠ 0 → inR (x4 + 1) ∧ (Lay LM g c t σ → GG E mX12_made 78 [some (vr 172), none, none, none, some (vi (x4 + 1))] [] σ rc rs Q)) ∧ ((gI σ 2967 x4.toNat) = 0 → (Lay LM g c t σ → Q (.inl (some (vi x4))) σ))))))) : GG E mX12_made 78 [some (vr 172), none, none, none, some (vi x4)] [] σ rc rs Q := by
  refine r_iload (pc := 78) dX12_made_78 rfl ?_
  refine r_aload_n (pc := 80) dX12_made_80 rfl rfl ?_
  refine r_getI (pc := 81) dX12_made_81 (k9 := 15) CL_12 (by decide) (by decide) w_1430 rfl (okO_of (N := 42) (hL.sh (i := 0) rfl (by decide) (by decide)) (by decide)) (fun _ => ?_)
  refine r_icmp_ge (pc := 84) (tgt := 106) dX12_made_84 (by decide) (fun c9 => ?_) (fun c9 => ?_)
  · replace h := h.1 c9
    refine r_iconst (pc := 106) dX12_made_106 (inRk rfl) ?_
    exact r_ireturn (pc := 107) (ty := .int) dX12_made_107 (by decide +kernel) rfl (nar_i _) (h hL)
  · replace h := h.2 c9
    refine r_aload_n (pc := 87) dX12_made_87 rfl rfl ?_
    refine r_getR (pc := 88) dX12_made_88 (k9 := 40) CL_12 (by decide) (by decide) w_1455 rfl (okO_of (N := 42) (hL.sh (i := 0) rfl (by decide) (by decide)) (by decide)) ?_
    refine eqR (y := 2967) (hL.rf (i := 24) rfl) ?_
    refine r_iload (pc := 91) dX12_made_91 rfl ?_
    obtain ⟨o1, h⟩ := h
    refine r_zaload (pc := 93) dX12_made_93 (okB_of (c := 22) (n := 120) (hL.sh (i := 32) rfl (by decide) (by decide)) (by decide) o1) (fun z2 => ?_)
    replace h := h z2
    refine r_if_ne (pc := 94) (tgt := 100) dX12_made_94 (by decide) (fun c9 => ?_) (fun c9 => ?_)
    · replace h := h.1 c9
      obtain ⟨o3, h⟩ := h
      refine r_iinc (pc := 100) dX12_made_100 rfl (by decide) o3 (l2 := [some (vr 172), none, none, none, some (vi (x4 + 1))]) rfl ?_
      refine r_goto (pc := 103) (tgt := 78) dX12_made_103 (by decide) ?_
      exact (h hL)
    · replace h := h.2 c9
      refine r_iload (pc := 97) dX12_made_97 rfl ?_
      exact r_ireturn (pc := 99) (ty := .int) dX12_made_99 (by decide +kernel) rfl (nar_i _) (h hL)
theorem C_X12_made {a0 : Nat} {x1 : Int} {x2 : Int} {x3 : Int} (h : GG E mX12_made 0 [some (vr a0), some (vi x1), some (vi x2), some (vi x3), none] [] σ 0 0 Q) : CC E mX12_made [vr a0, vi x1, vi x2, vi x3] σ Q := CC.of (by decide +kernel) rfl (by decide +kernel) (fun h9 => nomatch h9) (Nat.le_of_ble_eq_true rfl) h
theorem dX12_makers_0 : decode cX12_makers 0 = .ok (.aload_n 0, 1) := by decide +kernel
theorem dX12_makers_1 : decode cX12_makers 1 = .ok (.iconst 0, 1) := by decide +kernel
theorem dX12_makers_2 : decode cX12_makers 2 = .ok (.putfield 99, 3) := by decide +kernel
theorem dX12_makers_5 : decode cX12_makers 5 = .ok (.aload_n 0, 1) := by decide +kernel
theorem dX12_makers_6 : decode cX12_makers 6 = .ok (.iload_n 1, 1) := by decide +kernel
theorem dX12_makers_7 : decode cX12_makers 7 = .ok (.iconst 0, 1) := by decide +kernel
theorem dX12_makers_8 : decode cX12_makers 8 = .ok (.iconst 1, 1) := by decide +kernel
theorem dX12_makers_9 : decode cX12_makers 9 = .ok (.invokestatic 141, 3) := by decide +kernel
theorem dX12_makers_12 : decode cX12_makers 12 = .ok (.ifCond .ne 7, 3) := by decide +kernel
theorem dX12_makers_15 : decode cX12_makers 15 = .ok (.iconst 1, 1) := by decide +kernel
theorem dX12_makers_16 : decode cX12_makers 16 = .ok (.goto 4, 3) := by decide +kernel
theorem dX12_makers_19 : decode cX12_makers 19 = .ok (.iconst 0, 1) := by decide +kernel
theorem dX12_makers_20 : decode cX12_makers 20 = .ok (.iconst 1, 1) := by decide +kernel
theorem dX12_makers_21 : decode cX12_makers 21 = .ok (.iconst 1, 1) := by decide +kernel
theorem dX12_makers_22 : decode cX12_makers 22 = .ok (.invokevirtual 177, 3) := by decide +kernel
theorem dX12_makers_25 : decode cX12_makers 25 = .ok (.ifCond .eq 5, 3) := by decide +kernel
theorem dX12_makers_28 : decode cX12_makers 28 = .ok (.iconst 0, 1) := by decide +kernel
theorem dX12_makers_29 : decode cX12_makers 29 = .ok (.ireturn, 1) := by decide +kernel
theorem dX12_makers_30 : decode cX12_makers 30 = .ok (.iconst 0, 1) := by decide +kernel
theorem dX12_makers_31 : decode cX12_makers 31 = .ok (.istore_n 2, 1) := by decide +kernel
theorem dX12_makers_32 : decode cX12_makers 32 = .ok (.iload_n 2, 1) := by decide +kernel
theorem dX12_makers_33 : decode cX12_makers 33 = .ok (.aload_n 0, 1) := by decide +kernel
theorem dX12_makers_34 : decode cX12_makers 34 = .ok (.getfield 192, 3) := by decide +kernel
theorem dX12_makers_37 : decode cX12_makers 37 = .ok (.if_icmp .ge 52, 3) := by decide +kernel
theorem dX12_makers_40 : decode cX12_makers 40 = .ok (.iconst 0, 1) := by decide +kernel
theorem dX12_makers_41 : decode cX12_makers 41 = .ok (.istore_n 3, 1) := by decide +kernel
theorem dX12_makers_42 : decode cX12_makers 42 = .ok (.iload_n 3, 1) := by decide +kernel
theorem dX12_makers_43 : decode cX12_makers 43 = .ok (.aload_n 0, 1) := by decide +kernel
theorem dX12_makers_44 : decode cX12_makers 44 = .ok (.getfield 192, 3) := by decide +kernel
theorem dX12_makers_47 : decode cX12_makers 47 = .ok (.if_icmp .ge 36, 3) := by decide +kernel
theorem dX12_makers_50 : decode cX12_makers 50 = .ok (.aload_n 0, 1) := by decide +kernel
theorem dX12_makers_51 : decode cX12_makers 51 = .ok (.iload_n 2, 1) := by decide +kernel
theorem dX12_makers_52 : decode cX12_makers 52 = .ok (.iload_n 3, 1) := by decide +kernel
theorem dX12_makers_53 : decode cX12_makers 53 = .ok (.invokevirtual 356, 3) := by decide +kernel
theorem dX12_makers_56 : decode cX12_makers 56 = .ok (.aload_n 0, 1) := by decide +kernel
theorem dX12_makers_57 : decode cX12_makers 57 = .ok (.getfield 353, 3) := by decide +kernel
theorem dX12_makers_60 : decode cX12_makers 60 = .ok (.aload_n 0, 1) := by decide +kernel
theorem dX12_makers_61 : decode cX12_makers 61 = .ok (.getfield 192, 3) := by decide +kernel
theorem dX12_makers_64 : decode cX12_makers 64 = .ok (.if_icmp .ne 13, 3) := by decide +kernel
theorem dX12_makers_67 : decode cX12_makers 67 = .ok (.iload_n 1, 1) := by decide +kernel
theorem dX12_makers_68 : decode cX12_makers 68 = .ok (.ifCond .ne 7, 3) := by decide +kernel
theorem dX12_makers_71 : decode cX12_makers 71 = .ok (.iload_n 2, 1) := by decide +kernel
theorem dX12_makers_72 : decode cX12_makers 72 = .ok (.goto 4, 3) := by decide +kernel
theorem dX12_makers_75 : decode cX12_makers 75 = .ok (.iload_n 3, 1) := by decide +kernel
theorem dX12_makers_76 : decode cX12_makers 76 = .ok (.ireturn, 1) := by decide +kernel
theorem dX12_makers_77 : decode cX12_makers 77 = .ok (.iinc 3 1, 3) := by decide +kernel
theorem dX12_makers_80 : decode cX12_makers 80 = .ok (.goto (-38), 3) := by decide +kernel
theorem dX12_makers_83 : decode cX12_makers 83 = .ok (.iinc 2 1, 3) := by decide +kernel
theorem dX12_makers_86 : decode cX12_makers 86 = .ok (.goto (-54), 3) := by decide +kernel
theorem dX12_makers_89 : decode cX12_makers 89 = .ok (.iconst (-1), 1) := by decide +kernel
theorem dX12_makers_90 : decode cX12_makers 90 = .ok (.ireturn, 1) := by decide +kernel
theorem B_X12_makers_0 {g : Sg} {c t : Nat} (hL : Lay LM g c t σ) {x1 : Int} (h : ∀ τ1 : Sg, τ1 = sI σ 172 0 0 → (Lay LM g c t τ1 → CC E mX12_in [vi x1, vi 0, vi 1] τ1 (KI (fun r2 τ3 => Lay LM g c t τ3 ∧ (inR r2 → ((r2 ≠ 0 → (Lay LM g c t τ3 → CC E mX12_bad [vr 172, vi 0, vi 1, vi 1] τ3 (KI (fun r4 τ5 => Lay LM g c t τ5 ∧ (inR r4 → ((r4 = 0 → (Lay LM g c t τ5 → GG E mX12_makers 32 [some (vr 172), some (vi x1), some (vi 0), none] [] τ5 rc rs Q)) ∧ (¬ (r4 = 0) → (Lay LM g c t τ5 → Q (.inl (some (vi 0))) τ5))))) (fun _ _ => False)))) ∧ (r2 = 0 → (Lay LM g c t τ3 → CC E mX12_bad [vr 172, vi 1, vi 1, vi 1] τ3 (KI (fun r6 τ7 => Lay LM g c t τ7 ∧ (inR r6 → ((r6 = 0 → (Lay LM g c t τ7 → GG E mX12_makers 32 [some (vr 172), some (vi x1), some (vi 0), none] [] τ7 rc rs Q)) ∧ (¬ (r6 = 0) → (Lay LM g c t τ7 → Q (.inl (some (vi 0))) τ7))))) (fun _ _ => False))))))) (fun _ _ => False)))) : GG E mX12_makers 0 [some (vr 172), some (vi x1), none, none] [] σ rc rs Q := by
  refine r_aload_n (pc := 0) dX12_makers_0 rfl rfl ?_
  refine r_iconst (pc := 1) dX12_makers_1 (inRk rfl) ?_
  refine r_putI (pc := 2) dX12_makers_2 (k9 := 0) CL_12 (by decide) (by decide) w_1415 rfl rfl (fun h9 => absurd h9 (by decide +kernel)) (okO_of (N := 42) (hL.sh (i := 0) rfl (by decide) (by decide)) (by decide)) ?_
  refine nmS (fun τ1 e1 => ?_)
  replace h := h τ1 e1
  have hL := hL.wI e1 (by decide) (.inl (by decide))
  refine r_aload_n (pc := 5) dX12_makers_5 rfl rfl ?_
  refine r_iload_n (pc := 6) dX12_makers_6 rfl rfl ?_
  refine r_iconst (pc := 7) dX12_makers_7 (inRk rfl) ?_
  refine r_iconst (pc := 8) dX12_makers_8 (inRk rfl) ?_
  refine c_SI0N (M := mX12_makers) (pc := 9) (As := [vi x1, vi 0, vi 1]) dX12_makers_9 K_X12_in w_1559 ⟨by decide, by decide⟩ (Nat.le_of_ble_eq_true rfl) rfl rfl (h hL) (fun r2 τ3 h8 hr9 => ?_) rfl
  replace hL := h8.1
  replace h := h8.2 hr9
  refine r_if_ne (pc := 12) (tgt := 19) dX12_makers_12 (by decide) (fun c9 => ?_) (fun c9 => ?_)
  · replace h := h.1 c9
    refine r_iconst (pc := 19) dX12_makers_19 (inRk rfl) ?_
    refine r_iconst (pc := 20) dX12_makers_20 (inRk rfl) ?_
    refine r_iconst (pc := 21) dX12_makers_21 (inRk rfl) ?_
    refine c_VI0N (M := mX12_makers) (pc := 22) (As := [vi 0, vi 1, vi 1]) dX12_makers_22 K_X12_bad w_1562 ⟨by decide, by decide⟩ (Nat.le_of_ble_eq_true rfl) rfl rfl (ci := 12) rfl rfl (by decide) (okO_of (N := 42) (hL.sh (i := 0) rfl (by decide) (by decide)) (by decide)) (h hL) (fun r4 τ5 h8 hr9 => ?_) rfl
    replace hL := h8.1
    replace h := h8.2 hr9
    refine r_if_eq (pc := 25) (tgt := 30) dX12_makers_25 (by decide) (fun c9 => ?_) (fun c9 => ?_)
    · replace h := h.1 c9
      refine r_iconst (pc := 30) dX12_makers_30 (inRk rfl) ?_
      refine r_istore_n (pc := 31) dX12_makers_31 rfl (by decide) (l2 := [some (vr 172), some (vi x1), some (vi 0), none]) rfl ?_
      exact (h hL)
    · replace h := h.2 c9
      refine r_iconst (pc := 28) dX12_makers_28 (inRk rfl) ?_
      exact r_ireturn (pc := 29) (ty := .int) dX12_makers_29 (by decide +kernel) rfl (nar_i _) (h hL)
  · replace h := h.2 c9
    refine r_iconst (pc := 15) dX12_makers_15 (inRk rfl) ?_
    refine r_goto (pc := 16) (tgt := 20) dX12_makers_16 (by decide) ?_
    refine r_iconst (pc := 20) dX12_makers_20 (inRk rfl) ?_
    refine r_iconst (pc := 21) dX12_makers_21 (inRk rfl) ?_
    refine c_VI0N (M := mX12_makers) (pc := 22) (As := [vi 1, vi 1, vi 1]) dX12_makers_22 K_X12_bad w_1562 ⟨by decide, by decide⟩ (Nat.le_of_ble_eq_true rfl) rfl rfl (ci := 12) rfl rfl (by decide) (okO_of (N := 42) (hL.sh (i := 0) rfl (by decide) (by decide)) (by decide)) (h hL) (fun r6 τ7 h8 hr9 => ?_) rfl
    replace hL := h8.1
    replace h := h8.2 hr9
    refine r_if_eq (pc := 25) (tgt := 30) dX12_makers_25 (by decide) (fun c9 => ?_) (fun c9 => ?_)
    · replace h := h.1 c9
      refine r_iconst (pc := 30) dX12_makers_30 (inRk rfl) ?_
      refine r_istore_n (pc := 31) dX12_makers_31 rfl (by decide) (l2 := [some (vr 172), some (vi x1), some (vi 0), none]) rfl ?_
      exact (h hL)
    · replace h := h.2 c9
      refine r_iconst (pc := 28) dX12_makers_28 (inRk rfl) ?_
      exact r_ireturn (pc := 29) (ty := .int) dX12_makers_29 (by decide +kernel) rfl (nar_i _) (h hL)
theorem B_X12_makers_32 {g : Sg} {c t : Nat} (hL : Lay LM g c t σ) {x1 : Int} {x2 : Int} (h : (((gI σ 172 15) ≤ x2 → (Lay LM g c t σ → Q (.inl (some (vi (-1)))) σ)) ∧ (¬ ((gI σ 172 15) ≤ x2) → (Lay LM g c t σ → GG E mX12_makers 42 [some (vr 172), some (vi x1), some (vi x2), some (vi 0)] [] σ rc rs Q)))) : GG E mX12_makers 32 [some (vr 172), some (vi x1), some (vi x2), none] [] σ rc rs Q := by
  refine r_iload_n (pc := 32) dX12_makers_32 rfl rfl ?_
  refine r_aload_n (pc := 33) dX12_makers_33 rfl rfl ?_
  refine r_getI (pc := 34) dX12_makers_34 (k9 := 15) CL_12 (by decide) (by decide) w_1430 rfl (okO_of (N := 42) (hL.sh (i := 0) rfl (by decide) (by decide)) (by decide)) (fun _ => ?_)
  refine r_icmp_ge (pc := 37) (tgt := 89) dX12_makers_37 (by decide) (fun c9 => ?_) (fun c9 => ?_)
  · replace h := h.1 c9
    refine r_iconst (pc := 89) dX12_makers_89 (inRk rfl) ?_
    exact r_ireturn (pc := 90) (ty := .int) dX12_makers_90 (by decide +kernel) rfl (nar_i _) (h hL)
  · replace h := h.2 c9
    refine r_iconst (pc := 40) dX12_makers_40 (inRk rfl) ?_
    refine r_istore_n (pc := 41) dX12_makers_41 rfl (by decide) (l2 := [some (vr 172), some (vi x1), some (vi x2), some (vi 0)]) rfl ?_
    exact (h hL)
theorem B_X12_makers_42 {g : Sg} {c t : Nat} (hL : Lay LM g c t σ) {x1 : Int} {x2 : Int} {x3 : Int} (h : (((gI σ 172 15) ≤ x3 → inR (x2 + 1) ∧ (Lay LM g c t σ → GG E mX12_makers 32 [some (vr 172), some (vi x1), some (vi (x2 + 1)), none] [] σ rc rs Q)) ∧ (¬ ((gI σ 172 15) ≤ x3) → (Lay LM g c t σ → CC E mX12_makes [vr 172, vi x2, vi x3] σ (KV (fun τ3 => Lay LM g c t τ3 ∧ (((gI τ3 172 41) ≠ (gI τ3 172 15) → inR (x3 + 1) ∧ (Lay LM g c t τ3 → GG E mX12_makers 42 [some (vr 172), some (vi x1), some (vi x2), some (vi (x3 + 1))] [] τ3 rc rs Q)) ∧ ((gI τ3 172 41) = (gI τ3 172 15) → ((x1 ≠ 0 → (Lay LM g c t τ3 → Q (.inl (some (vi x3))) τ3)) ∧ (x1 = 0 → (Lay LM g c t τ3 → Q (.inl (some (vi x2))) τ3)))))) (fun _ _ => False)))))) : GG E mX12_makers 42 [some (vr 172), some (vi x1), some (vi x2), some (vi x3)] [] σ rc rs Q := by
  refine r_iload_n (pc := 42) dX12_makers_42 rfl rfl ?_
  refine r_aload_n (pc := 43) dX12_makers_43 rfl rfl ?_
  refine r_getI (pc := 44) dX12_makers_44 (k9 := 15) CL_12 (by decide) (by decide) w_1430 rfl (okO_of (N := 42) (hL.sh (i := 0) rfl (by decide) (by decide)) (by decide)) (fun _ => ?_)
  refine r_icmp_ge (pc := 47) (tgt := 83) dX12_makers_47 (by decide) (fun c9 => ?_) (fun c9 => ?_)
  · replace h := h.1 c9
    obtain ⟨o1, h⟩ := h
    refine r_iinc (pc := 83) dX12_makers_83 rfl (by decide) o1 (l2 := [some (vr 172), some (vi x1), some (vi (x2 + 1)), some (vi x3)]) rfl ?_
    refine r_goto (pc := 86) (tgt := 32) dX12_makers_86 (by decide) ?_
    exact GG.msk [true, true, true, false] (h hL)
  · replace h := h.2 c9
    refine r_aload_n (pc := 50) dX12_makers_50 rfl rfl ?_
    refine r_iload_n (pc := 51) dX12_makers_51 rfl rfl ?_
    refine r_iload_n (pc := 52) dX12_makers_52 rfl rfl ?_
    refine c_VV0N (M := mX12_makers) (pc := 53) (As := [vi x2, vi x3]) dX12_makers_53 K_X12_makes w_1839 ⟨by decide, by decide⟩ (Nat.le_of_ble_eq_true rfl) rfl rfl (ci := 12) rfl rfl (by decide) (okO_of (N := 42) (hL.sh (i := 0) rfl (by decide) (by decide)) (by decide)) (h hL) (fun τ3 h8 => ?_) rfl
    replace hL := h8.1
    replace h := h8.2
    refine r_aload_n (pc := 56) dX12_makers_56 rfl rfl ?_
    refine r_getI (pc := 57) dX12_makers_57 (k9 := 41) CL_12 (by decide) (by decide) w_1456 rfl (okO_of (N := 42) (hL.sh (i := 0) rfl (by decide) (by decide)) (by decide)) (fun _ => ?_)
    refine r_aload_n (pc := 60) dX12_makers_60 rfl rfl ?_
    refine r_getI (pc := 61) dX12_makers_61 (k9 := 15) CL_12 (by decide) (by decide) w_1430 rfl (okO_of (N := 42) (hL.sh (i := 0) rfl (by decide) (by decide)) (by decide)) (fun _ => ?_)
    refine r_icmp_ne (pc := 64) (tgt := 77) dX12_makers_64 (by decide) (fun c9 => ?_) (fun c9 => ?_)
    · replace h := h.1 c9
      obtain ⟨o4, h⟩ := h
      refine r_iinc (pc := 77) dX12_makers_77 rfl (by decide) o4 (l2 := [some (vr 172), some (vi x1), some (vi x2), some (vi (x3 + 1))]) rfl ?_
      refine r_goto (pc := 80) (tgt := 42) dX12_makers_80 (by decide) ?_
      exact (h hL)
    · replace h := h.2 c9
      refine r_iload_n (pc := 67) dX12_makers_67 rfl rfl ?_
      refine r_if_ne (pc := 68) (tgt := 75) dX12_makers_68 (by decide) (fun c9 => ?_) (fun c9 => ?_)
      · replace h := h.1 c9
        refine r_iload_n (pc := 75) dX12_makers_75 rfl rfl ?_
        exact r_ireturn (pc := 76) (ty := .int) dX12_makers_76 (by decide +kernel) rfl (nar_i _) (h hL)
      · replace h := h.2 c9
        refine r_iload_n (pc := 71) dX12_makers_71 rfl rfl ?_
        refine r_goto (pc := 72) (tgt := 76) dX12_makers_72 (by decide) ?_
        exact r_ireturn (pc := 76) (ty := .int) dX12_makers_76 (by decide +kernel) rfl (nar_i _) (h hL)
theorem C_X12_makers {a0 : Nat} {x1 : Int} (h : GG E mX12_makers 0 [some (vr a0), some (vi x1), none, none] [] σ 0 0 Q) : CC E mX12_makers [vr a0, vi x1] σ Q := CC.of (by decide +kernel) rfl (by decide +kernel) (fun h9 => nomatch h9) (Nat.le_of_ble_eq_true rfl) h
theorem dX12_makes_0 : decode cX12_makes 0 = .ok (.iconst 0, 1) := by decide +kernel
theorem dX12_makes_1 : decode cX12_makes 1 = .ok (.istore_n 3, 1) := by decide +kernel
theorem dX12_makes_2 : decode cX12_makes 2 = .ok (.iload_n 3, 1) := by decide +kernel
theorem dX12_makes_3 : decode cX12_makes 3 = .ok (.aload_n 0, 1) := by decide +kernel
theorem dX12_makes_4 : decode cX12_makes 4 = .ok (.getfield 192, 3) := by decide +kernel
theorem dX12_makes_7 : decode cX12_makes 7 = .ok (.if_icmp .ge 24, 3) := by decide +kernel
theorem dX12_makes_10 : decode cX12_makes 10 = .ok (.aload_n 0, 1) := by decide +kernel
theorem dX12_makes_11 : decode cX12_makes 11 = .ok (.getfield 88, 3) := by decide +kernel
theorem dX12_makes_14 : decode cX12_makes 14 = .ok (.iload_n 3, 1) := by decide +kernel
theorem dX12_makes_15 : decode cX12_makes 15 = .ok (.iload_n 3, 1) := by decide +kernel
theorem dX12_makes_16 : decode cX12_makes 16 = .ok (.ifCond .ne 7, 3) := by decide +kernel
theorem dX12_makes_19 : decode cX12_makes 19 = .ok (.iconst 1, 1) := by decide +kernel
theorem dX12_makes_20 : decode cX12_makes 20 = .ok (.goto 4, 3) := by decide +kernel
theorem dX12_makes_23 : decode cX12_makes 23 = .ok (.iconst 0, 1) := by decide +kernel
theorem dX12_makes_24 : decode cX12_makes 24 = .ok (.bastore, 1) := by decide +kernel
theorem dX12_makes_25 : decode cX12_makes 25 = .ok (.iinc 3 1, 3) := by decide +kernel
theorem dX12_makes_28 : decode cX12_makes 28 = .ok (.goto (-26), 3) := by decide +kernel
theorem dX12_makes_31 : decode cX12_makes 31 = .ok (.aload_n 0, 1) := by decide +kernel
theorem dX12_makes_32 : decode cX12_makes 32 = .ok (.iconst 1, 1) := by decide +kernel
theorem dX12_makes_33 : decode cX12_makes 33 = .ok (.putfield 353, 3) := by decide +kernel
theorem dX12_makes_36 : decode cX12_makes 36 = .ok (.iconst 1, 1) := by decide +kernel
theorem dX12_makes_37 : decode cX12_makes 37 = .ok (.istore_n 3, 1) := by decide +kernel
theorem dX12_makes_38 : decode cX12_makes 38 = .ok (.iload_n 3, 1) := by decide +kernel
theorem dX12_makes_39 : decode cX12_makes 39 = .ok (.ifCond .eq 107, 3) := by decide +kernel
theorem dX12_makes_42 : decode cX12_makes 42 = .ok (.iconst 0, 1) := by decide +kernel
theorem dX12_makes_43 : decode cX12_makes 43 = .ok (.istore_n 3, 1) := by decide +kernel
theorem dX12_makes_44 : decode cX12_makes 44 = .ok (.iconst 0, 1) := by decide +kernel
theorem dX12_makes_45 : decode cX12_makes 45 = .ok (.istore 4, 2) := by decide +kernel
theorem dX12_makes_47 : decode cX12_makes 47 = .ok (.iload 4, 2) := by decide +kernel
theorem dX12_makes_49 : decode cX12_makes 49 = .ok (.aload_n 0, 1) := by decide +kernel
theorem dX12_makes_50 : decode cX12_makes 50 = .ok (.getfield 192, 3) := by decide +kernel
theorem dX12_makes_53 : decode cX12_makes 53 = .ok (.if_icmp .ge 90, 3) := by decide +kernel
theorem dX12_makes_56 : decode cX12_makes 56 = .ok (.aload_n 0, 1) := by decide +kernel
theorem dX12_makes_57 : decode cX12_makes 57 = .ok (.getfield 88, 3) := by decide +kernel
theorem dX12_makes_60 : decode cX12_makes 60 = .ok (.iload 4, 2) := by decide +kernel
theorem dX12_makes_62 : decode cX12_makes 62 = .ok (.baload, 1) := by decide +kernel
theorem dX12_makes_63 : decode cX12_makes 63 = .ok (.ifCond .ne 6, 3) := by decide +kernel
theorem dX12_makes_66 : decode cX12_makes 66 = .ok (.goto 71, 3) := by decide +kernel
theorem dX12_makes_69 : decode cX12_makes 69 = .ok (.iconst 0, 1) := by decide +kernel
theorem dX12_makes_70 : decode cX12_makes 70 = .ok (.istore 5, 2) := by decide +kernel
theorem dX12_makes_72 : decode cX12_makes 72 = .ok (.iload 5, 2) := by decide +kernel
theorem dX12_makes_74 : decode cX12_makes 74 = .ok (.iconst 2, 1) := by decide +kernel
theorem dX12_makes_75 : decode cX12_makes 75 = .ok (.if_icmp .ge 62, 3) := by decide +kernel
theorem dX12_makes_78 : decode cX12_makes 78 = .ok (.aload_n 0, 1) := by decide +kernel
theorem dX12_makes_79 : decode cX12_makes 79 = .ok (.getfield 37, 3) := by decide +kernel
theorem dX12_makes_82 : decode cX12_makes 82 = .ok (.iload 4, 2) := by decide +kernel
theorem dX12_makes_84 : decode cX12_makes 84 = .ok (.aaload, 1) := by decide +kernel
theorem dX12_makes_85 : decode cX12_makes 85 = .ok (.iload 5, 2) := by decide +kernel
theorem dX12_makes_87 : decode cX12_makes 87 = .ok (.ifCond .ne 7, 3) := by decide +kernel
theorem dX12_makes_90 : decode cX12_makes 90 = .ok (.iload_n 1, 1) := by decide +kernel
theorem dX12_makes_91 : decode cX12_makes 91 = .ok (.goto 4, 3) := by decide +kernel
theorem dX12_makes_94 : decode cX12_makes 94 = .ok (.iload_n 2, 1) := by decide +kernel
theorem dX12_makes_95 : decode cX12_makes 95 = .ok (.iaload, 1) := by decide +kernel
theorem dX12_makes_96 : decode cX12_makes 96 = .ok (.istore 6, 2) := by decide +kernel
theorem dX12_makes_98 : decode cX12_makes 98 = .ok (.aload_n 0, 1) := by decide +kernel
theorem dX12_makes_99 : decode cX12_makes 99 = .ok (.getfield 88, 3) := by decide +kernel
theorem dX12_makes_102 : decode cX12_makes 102 = .ok (.iload 6, 2) := by decide +kernel
theorem dX12_makes_104 : decode cX12_makes 104 = .ok (.baload, 1) := by decide +kernel
theorem dX12_makes_105 : decode cX12_makes 105 = .ok (.ifCond .eq 6, 3) := by decide +kernel
theorem dX12_makes_108 : decode cX12_makes 108 = .ok (.goto 23, 3) := by decide +kernel
theorem dX12_makes_111 : decode cX12_makes 111 = .ok (.aload_n 0, 1) := by decide +kernel
theorem dX12_makes_112 : decode cX12_makes 112 = .ok (.getfield 88, 3) := by decide +kernel
theorem dX12_makes_115 : decode cX12_makes 115 = .ok (.iload 6, 2) := by decide +kernel
theorem dX12_makes_117 : decode cX12_makes 117 = .ok (.iconst 1, 1) := by decide +kernel
theorem dX12_makes_118 : decode cX12_makes 118 = .ok (.bastore, 1) := by decide +kernel
theorem dX12_makes_119 : decode cX12_makes 119 = .ok (.aload_n 0, 1) := by decide +kernel
theorem dX12_makes_120 : decode cX12_makes 120 = .ok (.dup, 1) := by decide +kernel
theorem dX12_makes_121 : decode cX12_makes 121 = .ok (.getfield 353, 3) := by decide +kernel
theorem dX12_makes_124 : decode cX12_makes 124 = .ok (.iconst 1, 1) := by decide +kernel
theorem dX12_makes_125 : decode cX12_makes 125 = .ok (.iadd, 1) := by decide +kernel
theorem dX12_makes_126 : decode cX12_makes 126 = .ok (.putfield 353, 3) := by decide +kernel
theorem dX12_makes_129 : decode cX12_makes 129 = .ok (.iconst 1, 1) := by decide +kernel
theorem dX12_makes_130 : decode cX12_makes 130 = .ok (.istore_n 3, 1) := by decide +kernel
theorem dX12_makes_131 : decode cX12_makes 131 = .ok (.iinc 5 1, 3) := by decide +kernel
theorem dX12_makes_134 : decode cX12_makes 134 = .ok (.goto (-62), 3) := by decide +kernel
theorem dX12_makes_137 : decode cX12_makes 137 = .ok (.iinc 4 1, 3) := by decide +kernel
theorem dX12_makes_140 : decode cX12_makes 140 = .ok (.goto (-93), 3) := by decide +kernel
theorem dX12_makes_143 : decode cX12_makes 143 = .ok (.goto (-105), 3) := by decide +kernel
theorem dX12_makes_146 : decode cX12_makes 146 = .ok (.return_, 1) := by decide +kernel
theorem B_X12_makes_0 {g : Sg} {c t : Nat} (hL : Lay LM g c t σ) {x1 : Int} {x2 : Int} (h : (Lay LM g c t σ → GG E mX12_makes 2 [some (vr 172), some (vi x1), some (vi x2), some (vi 0), none, none, none] [] σ rc rs Q)) : GG E mX12_makes 0 [some (vr 172), some (vi x1), some (vi x2), none, none, none, none] [] σ rc rs Q := by
  refine r_iconst (pc := 0) dX12_makes_0 (inRk rfl) ?_
  refine r_istore_n (pc := 1) dX12_makes_1 rfl (by decide) (l2 := [some (vr 172), some (vi x1), some (vi x2), some (vi 0), none, none, none]) rfl ?_
  exact (h hL)
theorem B_X12_makes_2 {g : Sg} {c t : Nat} (hL : Lay LM g c t σ) {x1 : Int} {x2 : Int} {x3 : Int} (h : (((gI σ 172 15) ≤ x3 → ∀ τ1 : Sg, τ1 = sI σ 172 41 1 → (Lay LM g c t τ1 → GG E mX12_makes 38 [some (vr 172), some (vi x1), some (vi x2), some (vi 1), none, none, none] [] τ1 rc rs Q)) ∧ (¬ ((gI σ 172 15) ≤ x3) → ((x3 ≠ 0 → (0 ≤ x3 ∧ x3 < 120) ∧ ∀ τ3 : Sg, τ3 = sI σ 2967 x3.toNat 0 → inR (x3 + 1) ∧ (Lay LM g c t τ3 → GG E mX12_makes 2 [some (vr 172), some (vi x1), some (vi x2), some (vi (x3 + 1)), none, none, none] [] τ3 rc rs Q)) ∧ (x3 = 0 → (0 ≤ x3 ∧ x3 < 120) ∧ ∀ τ6 : Sg, τ6 = sI σ 2967 x3.toNat 1 → inR (x3 + 1) ∧ (Lay LM g c t τ6 → GG E mX12_makes 2 [some (vr 172), some (vi x1), some (vi x2), some (vi (x3 + 1)), none, none, none] [] τ6 rc rs Q)))))) : GG E mX12_makes 2 [some (vr 172), some (vi x1), some (vi x2), some (vi x3), none, none, none] [] σ rc rs Q := by
  refine r_iload_n (pc := 2) dX12_makes_2 rfl rfl ?_
  refine r_aload_n (pc := 3) dX12_makes_3 rfl rfl ?_
  refine r_getI (pc := 4) dX12_makes_4 (k9 := 15) CL_12 (by decide) (by decide) w_1430 rfl (okO_of (N := 42) (hL.sh (i := 0) rfl (by decide) (by decide)) (by decide)) (fun _ => ?_)
  refine r_icmp_ge (pc := 7) (tgt := 31) dX12_makes_7 (by decide) (fun c9 => ?_) (fun c9 => ?_)
  · replace h := h.1 c9
    refine r_aload_n (pc := 31) dX12_makes_31 rfl rfl ?_
    refine r_iconst (pc := 32) dX12_makes_32 (inRk rfl) ?_
    refine r_putI (pc := 33) dX12_makes_33 (k9 := 41) CL_12 (by decide) (by decide) w_1456 rfl rfl (fun h9 => absurd h9 (by decide +kernel)) (okO_of (N := 42) (hL.sh (i := 0) rfl (by decide) (by decide)) (by decide)) ?_
    refine nmS (fun τ1 e1 => ?_)
    replace h := h τ1 e1
    have hL := hL.wI e1 (by decide) (.inl (by decide))
    refine r_iconst (pc := 36) dX12_makes_36 (inRk rfl) ?_
    refine r_istore_n (pc := 37) dX12_makes_37 rfl (by decide) (l2 := [some (vr 172), some (vi x1), some (vi x2), some (vi 1), none, none, none]) rfl ?_
    exact (h hL)
  · replace h := h.2 c9
    refine r_aload_n (pc := 10) dX12_makes_10 rfl rfl ?_
    refine r_getR (pc := 11) dX12_makes_11 (k9 := 40) CL_12 (by decide) (by decide) w_1455 rfl (okO_of (N := 42) (hL.sh (i := 0) rfl (by decide) (by decide)) (by decide)) ?_
    refine eqR (y := 2967) (hL.rf (i := 24) rfl) ?_
    refine r_iload_n (pc := 14) dX12_makes_14 rfl rfl ?_
    refine r_iload_n (pc := 15) dX12_makes_15 rfl rfl ?_
    refine r_if_ne (pc := 16) (tgt := 23) dX12_makes_16 (by decide) (fun c9 => ?_) (fun c9 => ?_)
    · replace h := h.1 c9
      refine r_iconst (pc := 23) dX12_makes_23 (inRk rfl) ?_
      obtain ⟨o2, h⟩ := h
      refine r_zastore (pc := 24) dX12_makes_24 (okB_of (c := 22) (n := 120) (hL.sh (i := 32) rfl (by decide) (by decide)) (by decide) o2) (by decide) ?_
      refine nmS (fun τ3 e3 => ?_)
      replace h := h τ3 e3
      have hL := hL.wI e3 (by decide) (.inl (by decide))
      obtain ⟨o4, h⟩ := h
      refine r_iinc (pc := 25) dX12_makes_25 rfl (by decide) o4 (l2 := [some (vr 172), some (vi x1), some (vi x2), some (vi (x3 + 1)), none, none, none]) rfl ?_
      refine r_goto (pc := 28) (tgt := 2) dX12_makes_28 (by decide) ?_
      exact (h hL)
    · replace h := h.2 c9
      refine r_iconst (pc := 19) dX12_makes_19 (inRk rfl) ?_
      refine r_goto (pc := 20) (tgt := 24) dX12_makes_20 (by decide) ?_
      obtain ⟨o5, h⟩ := h
      refine r_zastore (pc := 24) dX12_makes_24 (okB_of (c := 22) (n := 120) (hL.sh (i := 32) rfl (by decide) (by decide)) (by decide) o5) (by decide) ?_
      refine nmS (fun τ6 e6 => ?_)
      replace h := h τ6 e6
      have hL := hL.wI e6 (by decide) (.inl (by decide))
      obtain ⟨o7, h⟩ := h
      refine r_iinc (pc := 25) dX12_makes_25 rfl (by decide) o7 (l2 := [some (vr 172), some (vi x1), some (vi x2), some (vi (x3 + 1)), none, none, none]) rfl ?_
      refine r_goto (pc := 28) (tgt := 2) dX12_makes_28 (by decide) ?_
      exact (h hL)
theorem B_X12_makes_38 {g : Sg} {c t : Nat} (hL : Lay LM g c t σ) {x1 : Int} {x2 : Int} {x3 : Int} (h : ((x3 = 0 → (Lay LM g c t σ → Q (.inl none) σ)) ∧ (¬ (x3 = 0) → (Lay LM g c t σ → GG E mX12_makes 47 [some (vr 172), some (vi x1), some (vi x2), some (vi 0), some (vi 0), none, none] [] σ rc rs Q)))) : GG E mX12_makes 38 [some (vr 172), some (vi x1), some (vi x2), some (vi x3), none, none, none] [] σ rc rs Q := by
  refine r_iload_n (pc := 38) dX12_makes_38 rfl rfl ?_
  refine r_if_eq (pc := 39) (tgt := 146) dX12_makes_39 (by decide) (fun c9 => ?_) (fun c9 => ?_)
  · replace h := h.1 c9
    exact r_return (pc := 146) dX12_makes_146 (by decide +kernel) rfl (h hL)
  · replace h := h.2 c9
    refine r_iconst (pc := 42) dX12_makes_42 (inRk rfl) ?_
    refine r_istore_n (pc := 43) dX12_makes_43 rfl (by decide) (l2 := [some (vr 172), some (vi x1), some (vi x2), some (vi 0), none, none, none]) rfl ?_
    refine r_iconst (pc := 44) dX12_makes_44 (inRk rfl) ?_
    refine r_istore (pc := 45) dX12_makes_45 (by decide) (l2 := [some (vr 172), some (vi x1), some (vi x2), some (vi 0), some (vi 0), none, none]) rfl ?_
    exact (h hL)
theorem B_X12_makes_47 {g : Sg} {c t : Nat} (hL : Lay LM g c t σ) {x1 : Int} {x2 : Int} {x3 : Int} {x4 : Int} (h : (((gI σ 172 15) ≤ x4 → (Lay LM g c t σ → GG E mX12_makes 38 [some (vr 172), some (vi x1), some (vi x2), some (vi x3), none, none, none] [] σ rc rs Q)) ∧ (¬ ((gI σ 172 15) ≤ x4) → (0 ≤ x4 ∧ x4 < 120) ∧ ((gI σ 2967 x4.toNat = 0 ∨ gI σ 2967 x4.toNat = 1) → (((gI σ 2967 x4.toNat) ≠ 0 → (Lay LM g c t σ → GG E mX12_makes 72 [some (vr 172), some (vi x1), some (vi x2), some (vi x3), some (vi x4), some (vi 0), none] [] σ rc rs Q)) ∧ ((gI σ 2967 x4.toNat) = 0 → inR (x4 + 1) ∧ (Lay LM g c t σ → GG E mX12_makes 47 [some (vr 172), some (vi x1), some (vi x2), some (vi x3), some (vi (x4 + 1)), none, none] [] σ rc rs Q))))))) : GG E mX12_makes 47 [some (vr 172), some (vi x1), some (vi x2), some (vi x3), some (vi x4), none, none] [] σ rc rs Q := by
  refine r_iload (pc := 47) dX12_makes_47 rfl ?_
  refine r_aload_n (pc := 49) dX12_makes_49 rfl rfl ?_
  refine r_getI (pc := 50) dX12_makes_50 (k9 := 15) CL_12 (by decide) (by decide) w_1430 rfl (okO_of (N := 42) (hL.sh (i := 0) rfl (by decide) (by decide)) (by decide)) (fun _ => ?_)
  refine r_icmp_ge (pc := 53) (tgt := 143) dX12_makes_53 (by decide) (fun c9 => ?_) (fun c9 => ?_)
  · replace h := h.1 c9
    refine r_goto (pc := 143) (tgt := 38) dX12_makes_143 (by decide) ?_
    exact GG.msk [true, true, true, true, false, false, false] (h hL)
  · replace h := h.2 c9
    refine r_aload_n (pc := 56) dX12_makes_56 rfl rfl ?_
    refine r_getR (pc := 57) dX12_makes_57 (k9 := 40) CL_12 (by decide) (by decide) w_1455 rfl (okO_of (N := 42) (hL.sh (i := 0) rfl (by decide) (by decide)) (by decide)) ?_
    refine eqR (y := 2967) (hL.rf (i := 24) rfl) ?_
    refine r_iload (pc := 60) dX12_makes_60 rfl ?_
    obtain ⟨o1, h⟩ := h
    refine r_zaload (pc := 62) dX12_makes_62 (okB_of (c := 22) (n := 120) (hL.sh (i := 32) rfl (by decide) (by decide)) (by decide) o1) (fun z2 => ?_)
    replace h := h z2
    refine r_if_ne (pc := 63) (tgt := 69) dX12_makes_63 (by decide) (fun c9 => ?_) (fun c9 => ?_)
    · replace h := h.1 c9
      refine r_iconst (pc := 69) dX12_makes_69 (inRk rfl) ?_
      refine r_istore (pc := 70) dX12_makes_70 (by decide) (l2 := [some (vr 172), some (vi x1), some (vi x2), some (vi x3), some (vi x4), some (vi 0), none]) rfl ?_
      exact (h hL)
    · replace h := h.2 c9
      refine r_goto (pc := 66) (tgt := 137) dX12_makes_66 (by decide) ?_
      obtain ⟨o3, h⟩ := h
      refine r_iinc (pc := 137) dX12_makes_137 rfl (by decide) o3 (l2 := [some (vr 172), some (vi x1), some (vi x2), some (vi x3), some (vi (x4 + 1)), none, none]) rfl ?_
      refine r_goto (pc := 140) (tgt := 47) dX12_makes_140 (by decide) ?_
      exact (h hL)
theorem B_X12_makes_72 {g : Sg} {c t : Nat} (hL : Lay LM g c t σ) {x1 : Int} {x2 : Int} {x3 : Int} {x4 : Int} {x5 : Int} (h : ((2 ≤ x5 → inR (x4 + 1) ∧ (Lay LM g c t σ → GG E mX12_makes 47 [some (vr 172), some (vi x1), some (vi x2), some (vi x3), some (vi (x4 + 1)), none, none] [] σ rc rs Q)) ∧ (¬ (2 ≤ x5) → (0 ≤ x4 ∧ x4 < 120) ∧ ((x5 ≠ 0 → (0 ≤ x2 ∧ x2 < 120) ∧ (Lay LM g c t σ → GG E mX12_makes 98 [some (vr 172), some (vi x1), some (vi x2), some (vi x3), some (vi x4), some (vi x5), some (vi (gI σ (431 + x4.toNat) x2.toNat))] [] σ rc rs Q)) ∧ (x5 = 0 → (0 ≤ x1 ∧ x1 < 120) ∧ (Lay LM g c t σ → GG E mX12_makes 98 [some (vr 172), some (vi x1), some (vi x2), some (vi x3), some (vi x4), some (vi x5), some (vi (gI σ (431 + x4.toNat) x1.toNat))] [] σ rc rs Q)))))) : GG E mX12_makes 72 [some (vr 172), some (vi x1), some (vi x2), some (vi x3), some (vi x4), some (vi x5), none] [] σ rc rs Q := by
  refine r_iload (pc := 72) dX12_makes_72 rfl ?_
  refine r_iconst (pc := 74) dX12_makes_74 (inRk rfl) ?_
  refine r_icmp_ge (pc := 75) (tgt := 137) dX12_makes_75 (by decide) (fun c9 => ?_) (fun c9 => ?_)
  · replace h := h.1 c9
    obtain ⟨o1, h⟩ := h
    refine r_iinc (pc := 137) dX12_makes_137 rfl (by decide) o1 (l2 := [some (vr 172), some (vi x1), some (vi x2), some (vi x3), some (vi (x4 + 1)), some (vi x5), none]) rfl ?_
    refine r_goto (pc := 140) (tgt := 47) dX12_makes_140 (by decide) ?_
    exact GG.msk [true, true, true, true, true, false, false] (h hL)
  · replace h := h.2 c9
    refine r_aload_n (pc := 78) dX12_makes_78 rfl rfl ?_
    refine r_getR (pc := 79) dX12_makes_79 (k9 := 21) CL_12 (by decide) (by decide) w_1436 rfl (okO_of (N := 42) (hL.sh (i := 0) rfl (by decide) (by decide)) (by decide)) ?_
    refine eqR (y := 430) (hL.rf (i := 7) rfl) ?_
    refine r_iload (pc := 82) dX12_makes_82 rfl ?_
    obtain ⟨o2, h⟩ := h
    refine r_aaload (pc := 84) dX12_makes_84 (okB_of (c := 24) (n := 120) (hL.sh (i := 11) rfl (by decide) (by decide)) (by decide) o2) ?_
    have q3 : 431 ≤ 431 + x4.toNat ∧ 431 + x4.toNat < 551 := ⟨Nat.le_add_right _ _, rowB o2 (by decide)⟩
    refine eqR (y := 431 + x4.toNat) (hL.rx (i := 3) rfl (rowC o2 (by decide))) ?_
    refine r_iload (pc := 85) dX12_makes_85 rfl ?_
    refine r_if_ne (pc := 87) (tgt := 94) dX12_makes_87 (by decide) (fun c9 => ?_) (fun c9 => ?_)
    · replace h := h.1 c9
      refine r_iload_n (pc := 94) dX12_makes_94 rfl rfl ?_
      obtain ⟨o4, h⟩ := h
      refine r_iaload (pc := 95) dX12_makes_95 (okA_of (c := 20) (n := 120) (hL.sh (i := 12) rfl q3.1 q3.2) (Nat.le_trans (by decide) q3.1) o4) ?_
      refine r_istore (pc := 96) dX12_makes_96 (by decide) (l2 := [some (vr 172), some (vi x1), some (vi x2), some (vi x3), some (vi x4), some (vi x5), some (vi (gI σ (431 + x4.toNat) x2.toNat))]) rfl ?_
      exact (h hL)
    · replace h := h.2 c9
      refine r_iload_n (pc := 90) dX12_makes_90 rfl rfl ?_
      refine r_goto (pc := 91) (tgt := 95) dX12_makes_91 (by decide) ?_
      obtain ⟨o5, h⟩ := h
      refine r_iaload (pc := 95) dX12_makes_95 (okA_of (c := 20) (n := 120) (hL.sh (i := 12) rfl q3.1 q3.2) (Nat.le_trans (by decide) q3.1) o5) ?_
      refine r_istore (pc := 96) dX12_makes_96 (by decide) (l2 := [some (vr 172), some (vi x1), some (vi x2), some (vi x3), some (vi x4), some (vi x5), some (vi (gI σ (431 + x4.toNat) x1.toNat))]) rfl ?_
      exact (h hL)
theorem B_X12_makes_98 {g : Sg} {c t : Nat} (hL : Lay LM g c t σ) {x1 : Int} {x2 : Int} {x3 : Int} {x4 : Int} {x5 : Int} {x6 : Int} (h : (0 ≤ x6 ∧ x6 < 120) ∧ ((gI σ 2967 x6.toNat = 0 ∨ gI σ 2967 x6.toNat = 1) → (((gI σ 2967 x6.toNat) = 0 → ∀ τ3 : Sg, τ3 = sI σ 2967 x6.toNat 1 → inR ((gI τ3 172 41) + 1) ∧ ∀ τ5 : Sg, τ5 = sI τ3 172 41 ((gI τ3 172 41) + 1) → inR (x5 + 1) ∧ (Lay LM g c t τ5 → GG E mX12_makes 72 [some (vr 172), some (vi x1), some (vi x2), some (vi 1), some (vi x4), some (vi (x5 + 1)), none] [] τ5 rc rs Q)) ∧ (¬ ((gI σ 2967 x6.toNat) = 0) → inR (x5 + 1) ∧ (Lay LM g c t σ → GG E mX12_makes 72 [some (vr 172), some (vi x1), some (vi x2), some (vi x3), some (vi x4), some (vi (x5 + 1)), none] [] σ rc rs Q))))) : GG E mX12_makes 98 [some (vr 172), some (vi x1), some (vi x2), some (vi x3), some (vi x4), some (vi x5), some (vi x6)] [] σ rc rs Q := by
  refine r_aload_n (pc := 98) dX12_makes_98 rfl rfl ?_
  refine r_getR (pc := 99) dX12_makes_99 (k9 := 40) CL_12 (by decide) (by decide) w_1455 rfl (okO_of (N := 42) (hL.sh (i := 0) rfl (by decide) (by decide)) (by decide)) ?_
  refine eqR (y := 2967) (hL.rf (i := 24) rfl) ?_
  refine r_iload (pc := 102) dX12_makes_102 rfl ?_
  obtain ⟨o1, h⟩ := h
  refine r_zaload (pc := 104) dX12_makes_104 (okB_of (c := 22) (n := 120) (hL.sh (i := 32) rfl (by decide) (by decide)) (by decide) o1) (fun z2 => ?_)
  replace h := h z2
  refine r_if_eq (pc := 105) (tgt := 111) dX12_makes_105 (by decide) (fun c9 => ?_) (fun c9 => ?_)
  · replace h := h.1 c9
    refine r_aload_n (pc := 111) dX12_makes_111 rfl rfl ?_
    refine r_getR (pc := 112) dX12_makes_112 (k9 := 40) CL_12 (by decide) (by decide) w_1455 rfl (okO_of (N := 42) (hL.sh (i := 0) rfl (by decide) (by decide)) (by decide)) ?_
    refine eqR (y := 2967) (hL.rf (i := 24) rfl) ?_
    refine r_iload (pc := 115) dX12_makes_115 rfl ?_
    refine r_iconst (pc := 117) dX12_makes_117 (inRk rfl) ?_
    refine r_zastore (pc := 118) dX12_makes_118 (okB_of (c := 22) (n := 120) (hL.sh (i := 32) rfl (by decide) (by decide)) (by decide) o1) (by decide) ?_
    refine nmS (fun τ3 e3 => ?_)
    replace h := h τ3 e3
    have hL := hL.wI e3 (by decide) (.inl (by decide))
    refine r_aload_n (pc := 119) dX12_makes_119 rfl rfl ?_
    refine r_dup (pc := 120) dX12_makes_120 (fun _ h9 => nomatch h9) ?_
    refine r_getI (pc := 121) dX12_makes_121 (k9 := 41) CL_12 (by decide) (by decide) w_1456 rfl (okO_of (N := 42) (hL.sh (i := 0) rfl (by decide) (by decide)) (by decide)) (fun _ => ?_)
    refine r_iconst (pc := 124) dX12_makes_124 (inRk rfl) ?_
    obtain ⟨o4, h⟩ := h
    refine r_iadd (pc := 125) dX12_makes_125 o4 ?_
    refine r_putI (pc := 126) dX12_makes_126 (k9 := 41) CL_12 (by decide) (by decide) w_1456 rfl rfl (fun h9 => absurd h9 (by decide +kernel)) (okO_of (N := 42) (hL.sh (i := 0) rfl (by decide) (by decide)) (by decide)) ?_
    refine nmS (fun τ5 e5 => ?_)
    replace h := h τ5 e5
    have hL := hL.wI e5 (by decide) (.inl (by decide))
    refine r_iconst (pc := 129) dX12_makes_129 (inRk rfl) ?_
    refine r_istore_n (pc := 130) dX12_makes_130 rfl (by decide) (l2 := [some (vr 172), some (vi x1), some (vi x2), some (vi 1), some (vi x4), some (vi x5), some (vi x6)]) rfl ?_
    obtain ⟨o6, h⟩ := h
    refine r_iinc (pc := 131) dX12_makes_131 rfl (by decide) o6 (l2 := [some (vr 172), some (vi x1), some (vi x2), some (vi 1), some (vi x4), some (vi (x5 + 1)), some (vi x6)]) rfl ?_
    refine r_goto (pc := 134) (tgt := 72) dX12_makes_134 (by decide) ?_
    exact GG.msk [true, true, true, true, true, true, false] (h hL)
  · replace h := h.2 c9
    refine r_goto (pc := 108) (tgt := 131) dX12_makes_108 (by decide) ?_
    obtain ⟨o7, h⟩ := h
    refine r_iinc (pc := 131) dX12_makes_131 rfl (by decide) o7 (l2 := [some (vr 172), some (vi x1), some (vi x2), some (vi x3), some (vi x4), some (vi (x5 + 1)), some (vi x6)]) rfl ?_
    refine r_goto (pc := 134) (tgt := 72) dX12_makes_134 (by decide) ?_
    exact GG.msk [true, true, true, true, true, true, false] (h hL)
theorem C_X12_makes {a0 : Nat} {x1 : Int} {x2 : Int} (h : GG E mX12_makes 0 [some (vr a0), some (vi x1), some (vi x2), none, none, none, none] [] σ 0 0 Q) : CC E mX12_makes [vr a0, vi x1, vi x2] σ Q := CC.of (by decide +kernel) rfl (by decide +kernel) (fun h9 => nomatch h9) (Nat.le_of_ble_eq_true rfl) h
theorem dX12_makesAnew_0 : decode cX12_makesAnew 0 = .ok (.aload_n 0, 1) := by decide +kernel
theorem dX12_makesAnew_1 : decode cX12_makesAnew 1 = .ok (.iconst 0, 1) := by decide +kernel
theorem dX12_makesAnew_2 : decode cX12_makesAnew 2 = .ok (.invokevirtual 92, 3) := by decide +kernel
theorem dX12_makesAnew_5 : decode cX12_makesAnew 5 = .ok (.istore_n 1, 1) := by decide +kernel
theorem dX12_makesAnew_6 : decode cX12_makesAnew 6 = .ok (.aload_n 0, 1) := by decide +kernel
theorem dX12_makesAnew_7 : decode cX12_makesAnew 7 = .ok (.invokevirtual 96, 3) := by decide +kernel
theorem dX12_makesAnew_10 : decode cX12_makesAnew 10 = .ok (.return_, 1) := by decide +kernel
theorem B_X12_makesAnew_0 {g : Sg} {c t : Nat} (hL : Lay LM g c t σ)  (h : (Lay LM g c t σ → CC E mX12_closes [vr 172, vi 0] σ (KI (fun r1 τ2 => Lay LM g c t τ2 ∧ (inR r1 → (Lay LM g c t τ2 → CC E mX12_keepsGroup [vr 172] τ2 (KV (fun τ4 => Lay LM g c t τ4 ∧ (Lay LM g c t τ4 → Q (.inl none) τ4)) (fun _ _ => False))))) (fun _ _ => False)))) : GG E mX12_makesAnew 0 [some (vr 172), none] [] σ rc rs Q := by
  refine r_aload_n (pc := 0) dX12_makesAnew_0 rfl rfl ?_
  refine r_iconst (pc := 1) dX12_makesAnew_1 (inRk rfl) ?_
  refine c_VI0N (M := mX12_makesAnew) (pc := 2) (As := [vi 0]) dX12_makesAnew_2 K_X12_closes w_1373 ⟨by decide, by decide⟩ (Nat.le_of_ble_eq_true rfl) rfl rfl (ci := 12) rfl rfl (by decide) (okO_of (N := 42) (hL.sh (i := 0) rfl (by decide) (by decide)) (by decide)) (h hL) (fun r1 τ2 h8 hr9 => ?_) rfl
  replace hL := h8.1
  replace h := h8.2 hr9
  refine r_istore_n (pc := 5) dX12_makesAnew_5 rfl (by decide) (l2 := [some (vr 172), some (vi r1)]) rfl ?_
  refine r_aload_n (pc := 6) dX12_makesAnew_6 rfl rfl ?_
  refine c_VV0N (M := mX12_makesAnew) (pc := 7) (As := []) dX12_makesAnew_7 K_X12_keepsGroup w_1401 ⟨by decide, by decide⟩ (Nat.le_of_ble_eq_true rfl) rfl rfl (ci := 12) rfl rfl (by decide) (okO_of (N := 42) (hL.sh (i := 0) rfl (by decide) (by decide)) (by decide)) (h hL) (fun τ4 h8 => ?_) rfl
  replace hL := h8.1
  replace h := h8.2
  exact r_return (pc := 10) dX12_makesAnew_10 (by decide +kernel) rfl (h hL)
theorem C_X12_makesAnew {a0 : Nat} (h : GG E mX12_makesAnew 0 [some (vr a0), none] [] σ 0 0 Q) : CC E mX12_makesAnew [vr a0] σ Q := CC.of (by decide +kernel) rfl (by decide +kernel) (fun h9 => nomatch h9) (Nat.le_of_ble_eq_true rfl) h
theorem dX12_minus_0 : decode cX12_minus 0 = .ok (.iconst 0, 1) := by decide +kernel
theorem dX12_minus_1 : decode cX12_minus 1 = .ok (.istore_n 1, 1) := by decide +kernel
theorem dX12_minus_2 : decode cX12_minus 2 = .ok (.iload_n 1, 1) := by decide +kernel
theorem dX12_minus_3 : decode cX12_minus 3 = .ok (.bipush 8, 2) := by decide +kernel
theorem dX12_minus_5 : decode cX12_minus 5 = .ok (.if_icmp .ge 25, 3) := by decide +kernel
theorem dX12_minus_8 : decode cX12_minus 8 = .ok (.aload_n 0, 1) := by decide +kernel
theorem dX12_minus_9 : decode cX12_minus 9 = .ok (.getfield 82, 3) := by decide +kernel
theorem dX12_minus_12 : decode cX12_minus 12 = .ok (.iload_n 1, 1) := by decide +kernel
theorem dX12_minus_13 : decode cX12_minus 13 = .ok (.iload_n 1, 1) := by decide +kernel
theorem dX12_minus_14 : decode cX12_minus 14 = .ok (.ifCond .ne 8, 3) := by decide +kernel
theorem dX12_minus_17 : decode cX12_minus 17 = .ok (.bipush (-4), 2) := by decide +kernel
theorem dX12_minus_19 : decode cX12_minus 19 = .ok (.goto 4, 3) := by decide +kernel
theorem dX12_minus_22 : decode cX12_minus 22 = .ok (.iconst 0, 1) := by decide +kernel
theorem dX12_minus_23 : decode cX12_minus 23 = .ok (.iastore, 1) := by decide +kernel
theorem dX12_minus_24 : decode cX12_minus 24 = .ok (.iinc 1 1, 3) := by decide +kernel
theorem dX12_minus_27 : decode cX12_minus 27 = .ok (.goto (-25), 3) := by decide +kernel
theorem dX12_minus_30 : decode cX12_minus 30 = .ok (.aload_n 0, 1) := by decide +kernel
theorem dX12_minus_31 : decode cX12_minus 31 = .ok (.getfield 34, 3) := by decide +kernel
theorem dX12_minus_34 : decode cX12_minus 34 = .ok (.aload_n 0, 1) := by decide +kernel
theorem dX12_minus_35 : decode cX12_minus 35 = .ok (.getfield 192, 3) := by decide +kernel
theorem dX12_minus_38 : decode cX12_minus 38 = .ok (.aload_n 0, 1) := by decide +kernel
theorem dX12_minus_39 : decode cX12_minus 39 = .ok (.getfield 82, 3) := by decide +kernel
theorem dX12_minus_42 : decode cX12_minus 42 = .ok (.invokestatic 221, 3) := by decide +kernel
theorem dX12_minus_45 : decode cX12_minus 45 = .ok (.ireturn, 1) := by decide +kernel
theorem B_X12_minus_0 {g : Sg} {c t : Nat} (hL : Lay LM g c t σ)  (h : (Lay LM g c t σ → GG E mX12_minus 2 [some (vr 172), some (vi 0)] [] σ rc rs Q)) : GG E mX12_minus 0 [some (vr 172), none] [] σ rc rs Q := by
  refine r_iconst (pc := 0) dX12_minus_0 (inRk rfl) ?_
  refine r_istore_n (pc := 1) dX12_minus_1 rfl (by decide) (l2 := [some (vr 172), some (vi 0)]) rfl ?_
  exact (h hL)
theorem B_X12_minus_2 {g : Sg} {c t : Nat} (hL : Lay LM g c t σ) {x1 : Int} (h : ((8 ≤ x1 → (Lay LM g c t σ → CC E mX12_placeIn [vr 309, vi (gI σ 172 15), vr 2965] σ (KI (fun r1 τ2 => Lay LM g c t τ2 ∧ (inR r1 → (Lay LM g c t τ2 → Q (.inl (some (vi r1))) τ2))) (fun _ _ => False)))) ∧ (¬ (8 ≤ x1) → ((x1 ≠ 0 → (0 ≤ x1 ∧ x1 < 8) ∧ ∀ τ4 : Sg, τ4 = sI σ 2965 x1.toNat 0 → inR (x1 + 1) ∧ (Lay LM g c t τ4 → GG E mX12_minus 2 [some (vr 172), some (vi (x1 + 1))] [] τ4 rc rs Q)) ∧ (x1 = 0 → (0 ≤ x1 ∧ x1 < 8) ∧ ∀ τ7 : Sg, τ7 = sI σ 2965 x1.toNat (-4) → inR (x1 + 1) ∧ (Lay LM g c t τ7 → GG E mX12_minus 2 [some (vr 172), some (vi (x1 + 1))] [] τ7 rc rs Q)))))) : GG E mX12_minus 2 [some (vr 172), some (vi x1)] [] σ rc rs Q := by
  refine r_iload_n (pc := 2) dX12_minus_2 rfl rfl ?_
  refine r_bipush (pc := 3) dX12_minus_3 (by decide) ?_
  refine r_icmp_ge (pc := 5) (tgt := 30) dX12_minus_5 (by decide) (fun c9 => ?_) (fun c9 => ?_)
  · replace h := h.1 c9
    refine r_aload_n (pc := 30) dX12_minus_30 rfl rfl ?_
    refine r_getR (pc := 31) dX12_minus_31 (k9 := 20) CL_12 (by decide) (by decide) w_1435 rfl (okO_of (N := 42) (hL.sh (i := 0) rfl (by decide) (by decide)) (by decide)) ?_
    refine eqR (y := 309) (hL.rf (i := 6) rfl) ?_
    refine r_aload_n (pc := 34) dX12_minus_34 rfl rfl ?_
    refine r_getI (pc := 35) dX12_minus_35 (k9 := 15) CL_12 (by decide) (by decide) w_1430 rfl (okO_of (N := 42) (hL.sh (i := 0) rfl (by decide) (by decide)) (by decide)) (fun _ => ?_)
    refine r_aload_n (pc := 38) dX12_minus_38 rfl rfl ?_
    refine r_getR (pc := 39) dX12_minus_39 (k9 := 38) CL_12 (by decide) (by decide) w_1453 rfl (okO_of (N := 42) (hL.sh (i := 0) rfl (by decide) (by decide)) (by decide)) ?_
    refine eqR (y := 2965) (hL.rf (i := 22) rfl) ?_
    refine c_SI0N (M := mX12_minus) (pc := 42) (As := [vr 309, vi (gI σ 172 15), vr 2965]) dX12_minus_42 K_X12_placeIn w_1395 ⟨by decide, by decide⟩ (Nat.le_of_ble_eq_true rfl) rfl rfl (h hL) (fun r1 τ2 h8 hr9 => ?_) rfl
    replace hL := h8.1
    replace h := h8.2 hr9
    exact r_ireturn (pc := 45) (ty := .int) dX12_minus_45 (by decide +kernel) rfl (nar_i _) (h hL)
  · replace h := h.2 c9
    refine r_aload_n (pc := 8) dX12_minus_8 rfl rfl ?_
    refine r_getR (pc := 9) dX12_minus_9 (k9 := 38) CL_12 (by decide) (by decide) w_1453 rfl (okO_of (N := 42) (hL.sh (i := 0) rfl (by decide) (by decide)) (by decide)) ?_
    refine eqR (y := 2965) (hL.rf (i := 22) rfl) ?_
    refine r_iload_n (pc := 12) dX12_minus_12 rfl rfl ?_
    refine r_iload_n (pc := 13) dX12_minus_13 rfl rfl ?_
    refine r_if_ne (pc := 14) (tgt := 22) dX12_minus_14 (by decide) (fun c9 => ?_) (fun c9 => ?_)
    · replace h := h.1 c9
      refine r_iconst (pc := 22) dX12_minus_22 (inRk rfl) ?_
      obtain ⟨o3, h⟩ := h
      refine r_iastore (pc := 23) dX12_minus_23 (okB_of (c := 20) (n := 8) (hL.sh (i := 30) rfl (by decide) (by decide)) (by decide) o3) ?_
      refine nmS (fun τ4 e4 => ?_)
      replace h := h τ4 e4
      have hL := hL.wI e4 (by decide) (.inl (by decide))
      obtain ⟨o5, h⟩ := h
      refine r_iinc (pc := 24) dX12_minus_24 rfl (by decide) o5 (l2 := [some (vr 172), some (vi (x1 + 1))]) rfl ?_
      refine r_goto (pc := 27) (tgt := 2) dX12_minus_27 (by decide) ?_
      exact (h hL)
    · replace h := h.2 c9
      refine r_bipush (pc := 17) dX12_minus_17 (by decide) ?_
      refine r_goto (pc := 19) (tgt := 23) dX12_minus_19 (by decide) ?_
      obtain ⟨o6, h⟩ := h
      refine r_iastore (pc := 23) dX12_minus_23 (okB_of (c := 20) (n := 8) (hL.sh (i := 30) rfl (by decide) (by decide)) (by decide) o6) ?_
      refine nmS (fun τ7 e7 => ?_)
      replace h := h τ7 e7
      have hL := hL.wI e7 (by decide) (.inl (by decide))
      obtain ⟨o8, h⟩ := h
      refine r_iinc (pc := 24) dX12_minus_24 rfl (by decide) o8 (l2 := [some (vr 172), some (vi (x1 + 1))]) rfl ?_
      refine r_goto (pc := 27) (tgt := 2) dX12_minus_27 (by decide) ?_
      exact (h hL)
theorem C_X12_minus {a0 : Nat} (h : GG E mX12_minus 0 [some (vr a0), none] [] σ 0 0 Q) : CC E mX12_minus [vr a0] σ Q := CC.of (by decide +kernel) rfl (by decide +kernel) (fun h9 => nomatch h9) (Nat.le_of_ble_eq_true rfl) h
theorem dX12_mod_0 : decode cX12_mod 0 = .ok (.lload_n 1, 1) := by decide +kernel
theorem dX12_mod_1 : decode cX12_mod 1 = .ok (.aload_n 0, 1) := by decide +kernel
theorem dX12_mod_2 : decode cX12_mod 2 = .ok (.getfield 241, 3) := by decide +kernel
theorem dX12_mod_5 : decode cX12_mod 5 = .ok (.i2l, 1) := by decide +kernel
theorem dX12_mod_6 : decode cX12_mod 6 = .ok (.lrem, 1) := by decide +kernel
theorem dX12_mod_7 : decode cX12_mod 7 = .ok (.lstore_n 3, 1) := by decide +kernel
theorem dX12_mod_8 : decode cX12_mod 8 = .ok (.lload_n 3, 1) := by decide +kernel
theorem dX12_mod_9 : decode cX12_mod 9 = .ok (.lconst 0, 1) := by decide +kernel
theorem dX12_mod_10 : decode cX12_mod 10 = .ok (.lcmp, 1) := by decide +kernel
theorem dX12_mod_11 : decode cX12_mod 11 = .ok (.ifCond .ge 13, 3) := by decide +kernel
theorem dX12_mod_14 : decode cX12_mod 14 = .ok (.lload_n 3, 1) := by decide +kernel
theorem dX12_mod_15 : decode cX12_mod 15 = .ok (.aload_n 0, 1) := by decide +kernel
theorem dX12_mod_16 : decode cX12_mod 16 = .ok (.getfield 241, 3) := by decide +kernel
theorem dX12_mod_19 : decode cX12_mod 19 = .ok (.i2l, 1) := by decide +kernel
theorem dX12_mod_20 : decode cX12_mod 20 = .ok (.ladd, 1) := by decide +kernel
theorem dX12_mod_21 : decode cX12_mod 21 = .ok (.goto 4, 3) := by decide +kernel
theorem dX12_mod_24 : decode cX12_mod 24 = .ok (.lload_n 3, 1) := by decide +kernel
theorem dX12_mod_25 : decode cX12_mod 25 = .ok (.l2i, 1) := by decide +kernel
theorem dX12_mod_26 : decode cX12_mod 26 = .ok (.ireturn, 1) := by decide +kernel
theorem B_X12_mod_0 {g : Sg} {c t : Nat} (hL : Lay LM g c t σ) {y1 : Int} (h : (gI σ 172 18) ≠ 0 ∧ ((0 ≤ (wL (y1.tmod (gI σ 172 18))) → inR (wL (y1.tmod (gI σ 172 18))) ∧ (Lay LM g c t σ → Q (.inl (some (vi (wL (y1.tmod (gI σ 172 18)))))) σ)) ∧ (¬ (0 ≤ (wL (y1.tmod (gI σ 172 18)))) → ∀ v3 : Int, v3 = wL ((wL (y1.tmod (gI σ 172 18))) + (gI σ 172 18)) → inR v3 ∧ (Lay LM g c t σ → Q (.inl (some (vi v3))) σ)))) : GG E mX12_mod 0 [some (vr 172), some (vl y1), none, none, none] [] σ rc rs Q := by
  refine r_lload_n (pc := 0) dX12_mod_0 rfl rfl ?_
  refine r_aload_n (pc := 1) dX12_mod_1 rfl rfl ?_
  refine r_getI (pc := 2) dX12_mod_2 (k9 := 18) CL_12 (by decide) (by decide) w_1433 rfl (okO_of (N := 42) (hL.sh (i := 0) rfl (by decide) (by decide)) (by decide)) (fun _ => ?_)
  refine r_i2l (pc := 5) dX12_mod_5 ?_
  obtain ⟨o1, h⟩ := h
  refine r_lrem (pc := 6) dX12_mod_6 o1 ?_
  refine r_lstore_n (pc := 7) dX12_mod_7 rfl (by decide) (l2 := [some (vr 172), some (vl y1), none, some (vl (wL (y1.tmod (gI σ 172 18)))), none]) rfl ?_
  refine r_lload_n (pc := 8) dX12_mod_8 rfl rfl ?_
  refine r_lconst (pc := 9) (x := 0) dX12_mod_9 rfl ?_
  refine r_lcmp_ifge (pc := 10) (tgt := 24) dX12_mod_10 dX12_mod_11 (by decide) (fun c9 => ?_) (fun c9 => ?_)
  · replace h := h.1 c9
    refine r_lload_n (pc := 24) dX12_mod_24 rfl rfl ?_
    obtain ⟨o2, h⟩ := h
    refine r_l2i (pc := 25) dX12_mod_25 o2 ?_
    exact r_ireturn (pc := 26) (ty := .int) dX12_mod_26 (by decide +kernel) rfl (nar_i _) (h hL)
  · replace h := h.2 c9
    refine r_lload_n (pc := 14) dX12_mod_14 rfl rfl ?_
    refine r_aload_n (pc := 15) dX12_mod_15 rfl rfl ?_
    refine r_getI (pc := 16) dX12_mod_16 (k9 := 18) CL_12 (by decide) (by decide) w_1433 rfl (okO_of (N := 42) (hL.sh (i := 0) rfl (by decide) (by decide)) (by decide)) (fun _ => ?_)
    refine r_i2l (pc := 19) dX12_mod_19 ?_
    refine r_ladd (pc := 20) dX12_mod_20 ?_
    refine nmL (fun v3 e9 => ?_)
    replace h := h v3 e9
    refine r_goto (pc := 21) (tgt := 25) dX12_mod_21 (by decide) ?_
    obtain ⟨o4, h⟩ := h
    refine r_l2i (pc := 25) dX12_mod_25 o4 ?_
    exact r_ireturn (pc := 26) (ty := .int) dX12_mod_26 (by decide +kernel) rfl (nar_i _) (h hL)
theorem C_X12_mod {a0 : Nat} {y1 : Int} (h : GG E mX12_mod 0 [some (vr a0), some (vl y1), none, none, none] [] σ 0 0 Q) : CC E mX12_mod [vr a0, vl y1] σ Q := CC.of (by decide +kernel) rfl (by decide +kernel) (fun h9 => nomatch h9) (Nat.le_of_ble_eq_true rfl) h
theorem dX12_multiplies_0 : decode cX12_multiplies 0 = .ok (.iconst 0, 1) := by decide +kernel
theorem dX12_multiplies_1 : decode cX12_multiplies 1 = .ok (.istore 6, 2) := by decide +kernel
theorem dX12_multiplies_3 : decode cX12_multiplies 3 = .ok (.iload 6, 2) := by decide +kernel
theorem dX12_multiplies_5 : decode cX12_multiplies 5 = .ok (.iconst 4, 1) := by decide +kernel
theorem dX12_multiplies_6 : decode cX12_multiplies 6 = .ok (.if_icmp .ge 193, 3) := by decide +kernel
theorem dX12_multiplies_9 : decode cX12_multiplies 9 = .ok (.iconst 0, 1) := by decide +kernel
theorem dX12_multiplies_10 : decode cX12_multiplies 10 = .ok (.istore 7, 2) := by decide +kernel
theorem dX12_multiplies_12 : decode cX12_multiplies 12 = .ok (.iconst 0, 1) := by decide +kernel
theorem dX12_multiplies_13 : decode cX12_multiplies 13 = .ok (.istore 8, 2) := by decide +kernel
theorem dX12_multiplies_15 : decode cX12_multiplies 15 = .ok (.iconst 4, 1) := by decide +kernel
theorem dX12_multiplies_16 : decode cX12_multiplies 16 = .ok (.iload 6, 2) := by decide +kernel
theorem dX12_multiplies_18 : decode cX12_multiplies 18 = .ok (.imul, 1) := by decide +kernel
theorem dX12_multiplies_19 : decode cX12_multiplies 19 = .ok (.istore 9, 2) := by decide +kernel
theorem dX12_multiplies_21 : decode cX12_multiplies 21 = .ok (.iload 9, 2) := by decide +kernel
theorem dX12_multiplies_23 : decode cX12_multiplies 23 = .ok (.iconst 4, 1) := by decide +kernel
theorem dX12_multiplies_24 : decode cX12_multiplies 24 = .ok (.iload 6, 2) := by decide +kernel
theorem dX12_multiplies_26 : decode cX12_multiplies 26 = .ok (.imul, 1) := by decide +kernel
theorem dX12_multiplies_27 : decode cX12_multiplies 27 = .ok (.iconst 4, 1) := by decide +kernel
theorem dX12_multiplies_28 : decode cX12_multiplies 28 = .ok (.iadd, 1) := by decide +kernel
theorem dX12_multiplies_29 : decode cX12_multiplies 29 = .ok (.if_icmp .ge 120, 3) := by decide +kernel
theorem dX12_multiplies_32 : decode cX12_multiplies 32 = .ok (.aload_n 1, 1) := by decide +kernel
theorem dX12_multiplies_33 : decode cX12_multiplies 33 = .ok (.iload_n 2, 1) := by decide +kernel
theorem dX12_multiplies_34 : decode cX12_multiplies 34 = .ok (.iconst 2, 1) := by decide +kernel
theorem dX12_multiplies_35 : decode cX12_multiplies 35 = .ok (.getstatic 197, 3) := by decide +kernel
theorem dX12_multiplies_38 : decode cX12_multiplies 38 = .ok (.iload 9, 2) := by decide +kernel
theorem dX12_multiplies_40 : decode cX12_multiplies 40 = .ok (.iaload, 1) := by decide +kernel
theorem dX12_multiplies_41 : decode cX12_multiplies 41 = .ok (.imul, 1) := by decide +kernel
theorem dX12_multiplies_42 : decode cX12_multiplies 42 = .ok (.iadd, 1) := by decide +kernel
theorem dX12_multiplies_43 : decode cX12_multiplies 43 = .ok (.iaload, 1) := by decide +kernel
theorem dX12_multiplies_44 : decode cX12_multiplies 44 = .ok (.istore 10, 2) := by decide +kernel
theorem dX12_multiplies_46 : decode cX12_multiplies 46 = .ok (.aload_n 1, 1) := by decide +kernel
theorem dX12_multiplies_47 : decode cX12_multiplies 47 = .ok (.iload_n 2, 1) := by decide +kernel
theorem dX12_multiplies_48 : decode cX12_multiplies 48 = .ok (.iconst 2, 1) := by decide +kernel
theorem dX12_multiplies_49 : decode cX12_multiplies 49 = .ok (.getstatic 197, 3) := by decide +kernel
theorem dX12_multiplies_52 : decode cX12_multiplies 52 = .ok (.iload 9, 2) := by decide +kernel
theorem dX12_multiplies_54 : decode cX12_multiplies 54 = .ok (.iaload, 1) := by decide +kernel
theorem dX12_multiplies_55 : decode cX12_multiplies 55 = .ok (.imul, 1) := by decide +kernel
theorem dX12_multiplies_56 : decode cX12_multiplies 56 = .ok (.iadd, 1) := by decide +kernel
theorem dX12_multiplies_57 : decode cX12_multiplies 57 = .ok (.iconst 1, 1) := by decide +kernel
theorem dX12_multiplies_58 : decode cX12_multiplies 58 = .ok (.iadd, 1) := by decide +kernel
theorem dX12_multiplies_59 : decode cX12_multiplies 59 = .ok (.iaload, 1) := by decide +kernel
theorem dX12_multiplies_60 : decode cX12_multiplies 60 = .ok (.istore 11, 2) := by decide +kernel
theorem dX12_multiplies_62 : decode cX12_multiplies 62 = .ok (.aload_n 3, 1) := by decide +kernel
theorem dX12_multiplies_63 : decode cX12_multiplies 63 = .ok (.iload 4, 2) := by decide +kernel
theorem dX12_multiplies_65 : decode cX12_multiplies 65 = .ok (.iconst 2, 1) := by decide +kernel
theorem dX12_multiplies_66 : decode cX12_multiplies 66 = .ok (.getstatic 200, 3) := by decide +kernel
theorem dX12_multiplies_69 : decode cX12_multiplies 69 = .ok (.iload 9, 2) := by decide +kernel
theorem dX12_multiplies_71 : decode cX12_multiplies 71 = .ok (.iaload, 1) := by decide +kernel
theorem dX12_multiplies_72 : decode cX12_multiplies 72 = .ok (.imul, 1) := by decide +kernel
theorem dX12_multiplies_73 : decode cX12_multiplies 73 = .ok (.iadd, 1) := by decide +kernel
theorem dX12_multiplies_74 : decode cX12_multiplies 74 = .ok (.iaload, 1) := by decide +kernel
theorem dX12_multiplies_75 : decode cX12_multiplies 75 = .ok (.istore 12, 2) := by decide +kernel
theorem dX12_multiplies_77 : decode cX12_multiplies 77 = .ok (.aload_n 3, 1) := by decide +kernel
theorem dX12_multiplies_78 : decode cX12_multiplies 78 = .ok (.iload 4, 2) := by decide +kernel
theorem dX12_multiplies_80 : decode cX12_multiplies 80 = .ok (.iconst 2, 1) := by decide +kernel
theorem dX12_multiplies_81 : decode cX12_multiplies 81 = .ok (.getstatic 200, 3) := by decide +kernel
theorem dX12_multiplies_84 : decode cX12_multiplies 84 = .ok (.iload 9, 2) := by decide +kernel
theorem dX12_multiplies_86 : decode cX12_multiplies 86 = .ok (.iaload, 1) := by decide +kernel
theorem dX12_multiplies_87 : decode cX12_multiplies 87 = .ok (.imul, 1) := by decide +kernel
theorem dX12_multiplies_88 : decode cX12_multiplies 88 = .ok (.iadd, 1) := by decide +kernel
theorem dX12_multiplies_89 : decode cX12_multiplies 89 = .ok (.iconst 1, 1) := by decide +kernel
theorem dX12_multiplies_90 : decode cX12_multiplies 90 = .ok (.iadd, 1) := by decide +kernel
theorem dX12_multiplies_91 : decode cX12_multiplies 91 = .ok (.iaload, 1) := by decide +kernel
theorem dX12_multiplies_92 : decode cX12_multiplies 92 = .ok (.istore 13, 2) := by decide +kernel
theorem dX12_multiplies_94 : decode cX12_multiplies 94 = .ok (.iload 7, 2) := by decide +kernel
theorem dX12_multiplies_96 : decode cX12_multiplies 96 = .ok (.getstatic 203, 3) := by decide +kernel
theorem dX12_multiplies_99 : decode cX12_multiplies 99 = .ok (.iload 9, 2) := by decide +kernel
theorem dX12_multiplies_101 : decode cX12_multiplies 101 = .ok (.iaload, 1) := by decide +kernel
theorem dX12_multiplies_102 : decode cX12_multiplies 102 = .ok (.iload 10, 2) := by decide +kernel
theorem dX12_multiplies_104 : decode cX12_multiplies 104 = .ok (.iload 12, 2) := by decide +kernel
theorem dX12_multiplies_106 : decode cX12_multiplies 106 = .ok (.imul, 1) := by decide +kernel
theorem dX12_multiplies_107 : decode cX12_multiplies 107 = .ok (.iload 5, 2) := by decide +kernel
theorem dX12_multiplies_109 : decode cX12_multiplies 109 = .ok (.iload 11, 2) := by decide +kernel
theorem dX12_multiplies_111 : decode cX12_multiplies 111 = .ok (.imul, 1) := by decide +kernel
theorem dX12_multiplies_112 : decode cX12_multiplies 112 = .ok (.iload 13, 2) := by decide +kernel
theorem dX12_multiplies_114 : decode cX12_multiplies 114 = .ok (.imul, 1) := by decide +kernel
theorem dX12_multiplies_115 : decode cX12_multiplies 115 = .ok (.iadd, 1) := by decide +kernel
theorem dX12_multiplies_116 : decode cX12_multiplies 116 = .ok (.imul, 1) := by decide +kernel
theorem dX12_multiplies_117 : decode cX12_multiplies 117 = .ok (.iadd, 1) := by decide +kernel
theorem dX12_multiplies_118 : decode cX12_multiplies 118 = .ok (.istore 7, 2) := by decide +kernel
theorem dX12_multiplies_120 : decode cX12_multiplies 120 = .ok (.iload 8, 2) := by decide +kernel
theorem dX12_multiplies_122 : decode cX12_multiplies 122 = .ok (.getstatic 203, 3) := by decide +kernel
theorem dX12_multiplies_125 : decode cX12_multiplies 125 = .ok (.iload 9, 2) := by decide +kernel
theorem dX12_multiplies_127 : decode cX12_multiplies 127 = .ok (.iaload, 1) := by decide +kernel
theorem dX12_multiplies_128 : decode cX12_multiplies 128 = .ok (.iload 10, 2) := by decide +kernel
theorem dX12_multiplies_130 : decode cX12_multiplies 130 = .ok (.iload 13, 2) := by decide +kernel
theorem dX12_multiplies_132 : decode cX12_multiplies 132 = .ok (.imul, 1) := by decide +kernel
theorem dX12_multiplies_133 : decode cX12_multiplies 133 = .ok (.iload 11, 2) := by decide +kernel
theorem dX12_multiplies_135 : decode cX12_multiplies 135 = .ok (.iload 12, 2) := by decide +kernel
theorem dX12_multiplies_137 : decode cX12_multiplies 137 = .ok (.imul, 1) := by decide +kernel
theorem dX12_multiplies_138 : decode cX12_multiplies 138 = .ok (.iadd, 1) := by decide +kernel
theorem dX12_multiplies_139 : decode cX12_multiplies 139 = .ok (.imul, 1) := by decide +kernel
theorem dX12_multiplies_140 : decode cX12_multiplies 140 = .ok (.iadd, 1) := by decide +kernel
theorem dX12_multiplies_141 : decode cX12_multiplies 141 = .ok (.istore 8, 2) := by decide +kernel
theorem dX12_multiplies_143 : decode cX12_multiplies 143 = .ok (.iinc 9 1, 3) := by decide +kernel
theorem dX12_multiplies_146 : decode cX12_multiplies 146 = .ok (.goto (-125), 3) := by decide +kernel
theorem dX12_multiplies_149 : decode cX12_multiplies 149 = .ok (.iload 7, 2) := by decide +kernel
theorem dX12_multiplies_151 : decode cX12_multiplies 151 = .ok (.iconst 4, 1) := by decide +kernel
theorem dX12_multiplies_152 : decode cX12_multiplies 152 = .ok (.irem, 1) := by decide +kernel
theorem dX12_multiplies_153 : decode cX12_multiplies 153 = .ok (.ifCond .ne 10, 3) := by decide +kernel
theorem dX12_multiplies_156 : decode cX12_multiplies 156 = .ok (.iload 8, 2) := by decide +kernel
theorem dX12_multiplies_158 : decode cX12_multiplies 158 = .ok (.iconst 4, 1) := by decide +kernel
theorem dX12_multiplies_159 : decode cX12_multiplies 159 = .ok (.irem, 1) := by decide +kernel
theorem dX12_multiplies_160 : decode cX12_multiplies 160 = .ok (.ifCond .eq 5, 3) := by decide +kernel
theorem dX12_multiplies_163 : decode cX12_multiplies 163 = .ok (.iconst 0, 1) := by decide +kernel
theorem dX12_multiplies_164 : decode cX12_multiplies 164 = .ok (.ireturn, 1) := by decide +kernel
theorem dX12_multiplies_165 : decode cX12_multiplies 165 = .ok (.aload_n 0, 1) := by decide +kernel
theorem dX12_multiplies_166 : decode cX12_multiplies 166 = .ok (.getfield 31, 3) := by decide +kernel
theorem dX12_multiplies_169 : decode cX12_multiplies 169 = .ok (.iconst 2, 1) := by decide +kernel
theorem dX12_multiplies_170 : decode cX12_multiplies 170 = .ok (.iload 6, 2) := by decide +kernel
theorem dX12_multiplies_172 : decode cX12_multiplies 172 = .ok (.imul, 1) := by decide +kernel
theorem dX12_multiplies_173 : decode cX12_multiplies 173 = .ok (.iload 7, 2) := by decide +kernel
theorem dX12_multiplies_175 : decode cX12_multiplies 175 = .ok (.iconst 4, 1) := by decide +kernel
theorem dX12_multiplies_176 : decode cX12_multiplies 176 = .ok (.idiv, 1) := by decide +kernel
theorem dX12_multiplies_177 : decode cX12_multiplies 177 = .ok (.iastore, 1) := by decide +kernel
theorem dX12_multiplies_178 : decode cX12_multiplies 178 = .ok (.aload_n 0, 1) := by decide +kernel
theorem dX12_multiplies_179 : decode cX12_multiplies 179 = .ok (.getfield 31, 3) := by decide +kernel
theorem dX12_multiplies_182 : decode cX12_multiplies 182 = .ok (.iconst 2, 1) := by decide +kernel
theorem dX12_multiplies_183 : decode cX12_multiplies 183 = .ok (.iload 6, 2) := by decide +kernel
theorem dX12_multiplies_185 : decode cX12_multiplies 185 = .ok (.imul, 1) := by decide +kernel
theorem dX12_multiplies_186 : decode cX12_multiplies 186 = .ok (.iconst 1, 1) := by decide +kernel
theorem dX12_multiplies_187 : decode cX12_multiplies 187 = .ok (.iadd, 1) := by decide +kernel
theorem dX12_multiplies_188 : decode cX12_multiplies 188 = .ok (.iload 8, 2) := by decide +kernel
theorem dX12_multiplies_190 : decode cX12_multiplies 190 = .ok (.iconst 4, 1) := by decide +kernel
theorem dX12_multiplies_191 : decode cX12_multiplies 191 = .ok (.idiv, 1) := by decide +kernel
theorem dX12_multiplies_192 : decode cX12_multiplies 192 = .ok (.iastore, 1) := by decide +kernel
theorem dX12_multiplies_193 : decode cX12_multiplies 193 = .ok (.iinc 6 1, 3) := by decide +kernel
theorem dX12_multiplies_196 : decode cX12_multiplies 196 = .ok (.goto (-193), 3) := by decide +kernel
theorem dX12_multiplies_199 : decode cX12_multiplies 199 = .ok (.iconst 1, 1) := by decide +kernel
theorem dX12_multiplies_200 : decode cX12_multiplies 200 = .ok (.ireturn, 1) := by decide +kernel
theorem B_X12_multiplies_0 {g : Sg} {c t : Nat} (hL : Lay LM g c t σ) {a1 : Nat} {n1 : Nat} (p1 : PA LM a1 n1) {x2 : Int} {a3 : Nat} {n3 : Nat} (p3 : PA LM a3 n3) {x4 : Int} {x5 : Int} (h : (Lay LM g c t σ → GG E mX12_multiplies 3 [some (vr 172), some (vr a1), some (vi x2), some (vr a3), some (vi x4), some (vi x5), some (vi 0), none, none, none, none, none, none, none] [] σ rc rs Q)) : GG E mX12_multiplies 0 [some (vr 172), some (vr a1), some (vi x2), some (vr a3), some (vi x4), some (vi x5), none, none, none, none, none, none, none, none] [] σ rc rs Q := by
  refine r_iconst (pc := 0) dX12_multiplies_0 (inRk rfl) ?_
  refine r_istore (pc := 1) dX12_multiplies_1 (by decide) (l2 := [some (vr 172), some (vr a1), some (vi x2), some (vr a3), some (vi x4), some (vi x5), some (vi 0), none, none, none, none, none, none, none]) rfl ?_
  exact (h hL)
theorem B_X12_multiplies_3 {g : Sg} {c t : Nat} (hL : Lay LM g c t σ) {a1 : Nat} {n1 : Nat} (p1 : PA LM a1 n1) {x2 : Int} {a3 : Nat} {n3 : Nat} (p3 : PA LM a3 n3) {x4 : Int} {x5 : Int} {x6 : Int} (h : ((4 ≤ x6 → (Lay LM g c t σ → Q (.inl (some (vi 1))) σ)) ∧ (¬ (4 ≤ x6) → inR (4 * x6) ∧ (Lay LM g c t σ → GG E mX12_multiplies 21 [some (vr 172), some (vr a1), some (vi x2), some (vr a3), some (vi x4), some (vi x5), some (vi x6), some (vi 0), some (vi 0), some (vi (4 * x6)), none, none, none, none] [] σ rc rs Q)))) : GG E mX12_multiplies 3 [some (vr 172), some (vr a1), some (vi x2), some (vr a3), some (vi x4), some (vi x5), some (vi x6), none, none, none, none, none, none, none] [] σ rc rs Q := by
  refine r_iload (pc := 3) dX12_multiplies_3 rfl ?_
  refine r_iconst (pc := 5) dX12_multiplies_5 (inRk rfl) ?_
  refine r_icmp_ge (pc := 6) (tgt := 199) dX12_multiplies_6 (by decide) (fun c9 => ?_) (fun c9 => ?_)
  · replace h := h.1 c9
    refine r_iconst (pc := 199) dX12_multiplies_199 (inRk rfl) ?_
    exact r_ireturn (pc := 200) (ty := .boolean) dX12_multiplies_200 (by decide +kernel) rfl (nar_bool (by decide)) (h hL)
  · replace h := h.2 c9
    refine r_iconst (pc := 9) dX12_multiplies_9 (inRk rfl) ?_
    refine r_istore (pc := 10) dX12_multiplies_10 (by decide) (l2 := [some (vr 172), some (vr a1), some (vi x2), some (vr a3), some (vi x4), some (vi x5), some (vi x6), some (vi 0), none, none, none, none, none, none]) rfl ?_
    refine r_iconst (pc := 12) dX12_multiplies_12 (inRk rfl) ?_
    refine r_istore (pc := 13) dX12_multiplies_13 (by decide) (l2 := [some (vr 172), some (vr a1), some (vi x2), some (vr a3), some (vi x4), some (vi x5), some (vi x6), some (vi 0), some (vi 0), none, none, none, none, none]) rfl ?_
    refine r_iconst (pc := 15) dX12_multiplies_15 (inRk rfl) ?_
    refine r_iload (pc := 16) dX12_multiplies_16 rfl ?_
    obtain ⟨o1, h⟩ := h
    refine r_imul (pc := 18) dX12_multiplies_18 o1 ?_
    refine r_istore (pc := 19) dX12_multiplies_19 (by decide) (l2 := [some (vr 172), some (vr a1), some (vi x2), some (vr a3), some (vi x4), some (vi x5), some (vi x6), some (vi 0), some (vi 0), some (vi (4 * x6)), none, none, none, none]) rfl ?_
    exact (h hL)
theorem B_X12_multiplies_21 {g : Sg} {c t : Nat} (hL : Lay LM g c t σ) {a1 : Nat} {n1 : Nat} (p1 : PA LM a1 n1) {x2 : Int} {a3 : Nat} {n3 : Nat} (p3 : PA LM a3 n3) {x4 : Int} {x5 : Int} {x6 : Int} {x7 : Int} {x8 : Int} {x9 : Int} (h : inR (4 * x6) ∧ inR ((4 * x6) + 4) ∧ ((((4 * x6) + 4) ≤ x9 → (((x7.tmod 4) ≠ 0 → (Lay LM g c t σ → Q (.inl (some (vi 0))) σ)) ∧ ((x7.tmod 4) = 0 → (((x8.tmod 4) = 0 → inR (2 * x6) ∧ inR (x7.tdiv 4) ∧ (0 ≤ (2 * x6) ∧ (2 * x6) < 8) ∧ ∀ τ6 : Sg, τ6 = sI σ 308 (2 * x6).toNat (x7.tdiv 4) → inR ((2 * x6) + 1) ∧ inR (x8.tdiv 4) ∧ (0 ≤ ((2 * x6) + 1) ∧ ((2 * x6) + 1) < 8) ∧ ∀ τ10 : Sg, τ10 = sI τ6 308 ((2 * x6) + 1).toNat (x8.tdiv 4) → inR (x6 + 1) ∧ (Lay LM g c t τ10 → GG E mX12_multiplies 3 [some (vr 172), some (vr a1), some (vi x2), some (vr a3), some (vi x4), some (vi x5), some (vi (x6 + 1)), none, none, none, none, none, none, none] [] τ10 rc rs Q)) ∧ (¬ ((x8.tmod 4) = 0) → (Lay LM g c t σ → Q (.inl (some (vi 0))) σ)))))) ∧ (¬ (((4 * x6) + 4) ≤ x9) → (0 ≤ x9 ∧ x9 < 16) ∧ inR (2 * (gI σ 2 x9.toNat)) ∧ inR (x2 + (2 * (gI σ 2 x9.toNat))) ∧ (0 ≤ (x2 + (2 * (gI σ 2 x9.toNat))) ∧ (x2 + (2 * (gI σ 2 x9.toNat))) < (n1 : Int)) ∧ inR ((x2 + (2 * (gI σ 2 x9.toNat))) + 1) ∧ (0 ≤ ((x2 + (2 * (gI σ 2 x9.toNat))) + 1) ∧ ((x2 + (2 * (gI σ 2 x9.toNat))) + 1) < (n1 : Int)) ∧ inR (2 * (gI σ 3 x9.toNat)) ∧ inR (x4 + (2 * (gI σ 3 x9.toNat))) ∧ (0 ≤ (x4 + (2 * (gI σ 3 x9.toNat))) ∧ (x4 + (2 * (gI σ 3 x9.toNat))) < (n3 : Int)) ∧ inR ((x4 + (2 * (gI σ 3 x9.toNat))) + 1) ∧ (0 ≤ ((x4 + (2 * (gI σ 3 x9.toNat))) + 1) ∧ ((x4 + (2 * (gI σ 3 x9.toNat))) + 1) < (n3 : Int)) ∧ inR ((gI σ a1 (x2 + (2 * (gI σ 2 x9.toNat))).toNat) * (gI σ a3 (x4 + (2 * (gI σ 3 x9.toNat))).toNat)) ∧ ∀ v24 : Int, v24 = (gI σ a1 (x2 + (2 * (gI σ 2 x9.toNat))).toNat) * (gI σ a3 (x4 + (2 * (gI σ 3 x9.toNat))).toNat) → inR (x5 * (gI σ a1 ((x2 + (2 * (gI σ 2 x9.toNat))) + 1).toNat)) ∧ ∀ v26 : Int, v26 = x5 * (gI σ a1 ((x2 + (2 * (gI σ 2 x9.toNat))) + 1).toNat) → inR (v26 * (gI σ a3 ((x4 + (2 * (gI σ 3 x9.toNat))) + 1).toNat)) ∧ ∀ v28 : Int, v28 = v26 * (gI σ a3 ((x4 + (2 * (gI σ 3 x9.toNat))) + 1).toNat) → inR (v24 + v28) ∧ inR ((gI σ 4 x9.toNat) * (v24 + v28)) ∧ inR (x7 + ((gI σ 4 x9.toNat) * (v24 + v28))) ∧ inR ((gI σ a1 (x2 + (2 * (gI σ 2 x9.toNat))).toNat) * (gI σ a3 ((x4 + (2 * (gI σ 3 x9.toNat))) + 1).toNat)) ∧ ∀ v33 : Int, v33 = (gI σ a1 (x2 + (2 * (gI σ 2 x9.toNat))).toNat) * (gI σ a3 ((x4 + (2 * (gI σ 3 x9.toNat))) + 1).toNat) → inR ((gI σ a1 ((x2 + (2 * (gI σ 2 x9.toNat))) + 1).toNat) * (gI σ a3 (x4 + (2 * (gI σ 3 x9.toNat))).toNat)) ∧ ∀ v35 : Int, v35 = (gI σ a1 ((x2 + (2 * (gI σ 2 x9.toNat))) + 1).toNat) * (gI σ a3 (x4 + (2 * (gI σ 3 x9.toNat))).toNat) → inR (v33 + v35) ∧ inR ((gI σ 4 x9.toNat) * (v33 + v35)) ∧ inR (x8 + ((gI σ 4 x9.toNat) * (v33 + v35))) ∧ inR (x9 + 1) ∧ (Lay LM g c t σ → GG E mX12_multiplies 21 [some (vr 172), some (vr a1), some (vi x2), some (vr a3), some (vi x4), some (vi x5), some (vi x6), some (vi (x7 + ((gI σ 4 x9.toNat) * (v24 + v28)))), some (vi (x8 + ((gI σ 4 x9.toNat) * (v33 + v35)))), some (vi (x9 + 1)), none, none, none, none] [] σ rc rs Q)))) : GG E mX12_multiplies 21 [some (vr 172), some (vr a1), some (vi x2), some (vr a3), some (vi x4), some (vi x5), some (vi x6), some (vi x7), some (vi x8), some (vi x9), none, none, none, none] [] σ rc rs Q := by
  refine r_iload (pc := 21) dX12_multiplies_21 rfl ?_
  refine r_iconst (pc := 23) dX12_multiplies_23 (inRk rfl) ?_
  refine r_iload (pc := 24) dX12_multiplies_24 rfl ?_
  obtain ⟨o1, h⟩ := h
  refine r_imul (pc := 26) dX12_multiplies_26 o1 ?_
  refine r_iconst (pc := 27) dX12_multiplies_27 (inRk rfl) ?_
  obtain ⟨o2, h⟩ := h
  refine r_iadd (pc := 28) dX12_multiplies_28 o2 ?_
  refine r_icmp_ge (pc := 29) (tgt := 149) dX12_multiplies_29 (by decide) (fun c9 => ?_) (fun c9 => ?_)
  · replace h := h.1 c9
    refine r_iload (pc := 149) dX12_multiplies_149 rfl ?_
    refine r_iconst (pc := 151) dX12_multiplies_151 (inRk rfl) ?_
    refine r_irem (pc := 152) dX12_multiplies_152 (by decide) ?_
    refine r_if_ne (pc := 153) (tgt := 163) dX12_multiplies_153 (by decide) (fun c9 => ?_) (fun c9 => ?_)
    · replace h := h.1 c9
      refine r_iconst (pc := 163) dX12_multiplies_163 (inRk rfl) ?_
      exact r_ireturn (pc := 164) (ty := .boolean) dX12_multiplies_164 (by decide +kernel) rfl (nar_bool (by decide)) (h hL)
    · replace h := h.2 c9
      refine r_iload (pc := 156) dX12_multiplies_156 rfl ?_
      refine r_iconst (pc := 158) dX12_multiplies_158 (inRk rfl) ?_
      refine r_irem (pc := 159) dX12_multiplies_159 (by decide) ?_
      refine r_if_eq (pc := 160) (tgt := 165) dX12_multiplies_160 (by decide) (fun c9 => ?_) (fun c9 => ?_)
      · replace h := h.1 c9
        refine r_aload_n (pc := 165) dX12_multiplies_165 rfl rfl ?_
        refine r_getR (pc := 166) dX12_multiplies_166 (k9 := 14) CL_12 (by decide) (by decide) w_1429 rfl (okO_of (N := 42) (hL.sh (i := 0) rfl (by decide) (by decide)) (by decide)) ?_
        refine eqR (y := 308) (hL.rf (i := 5) rfl) ?_
        refine r_iconst (pc := 169) dX12_multiplies_169 (inRk rfl) ?_
        refine r_iload (pc := 170) dX12_multiplies_170 rfl ?_
        obtain ⟨o3, h⟩ := h
        refine r_imul (pc := 172) dX12_multiplies_172 o3 ?_
        refine r_iload (pc := 173) dX12_multiplies_173 rfl ?_
        refine r_iconst (pc := 175) dX12_multiplies_175 (inRk rfl) ?_
        obtain ⟨o4, h⟩ := h
        refine r_idiv (pc := 176) dX12_multiplies_176 (by decide) o4 ?_
        obtain ⟨o5, h⟩ := h
        refine r_iastore (pc := 177) dX12_multiplies_177 (okB_of (c := 20) (n := 8) (hL.sh (i := 8) rfl (by decide) (by decide)) (by decide) o5) ?_
        refine nmS (fun τ6 e6 => ?_)
        replace h := h τ6 e6
        have hL := hL.wI e6 (by decide) (.inl (by decide))
        refine r_aload_n (pc := 178) dX12_multiplies_178 rfl rfl ?_
        refine r_getR (pc := 179) dX12_multiplies_179 (k9 := 14) CL_12 (by decide) (by decide) w_1429 rfl (okO_of (N := 42) (hL.sh (i := 0) rfl (by decide) (by decide)) (by decide)) ?_
        refine eqR (y := 308) (hL.rf (i := 5) rfl) ?_
        refine r_iconst (pc := 182) dX12_multiplies_182 (inRk rfl) ?_
        refine r_iload (pc := 183) dX12_multiplies_183 rfl ?_
        refine r_imul (pc := 185) dX12_multiplies_185 o3 ?_
        refine r_iconst (pc := 186) dX12_multiplies_186 (inRk rfl) ?_
        obtain ⟨o7, h⟩ := h
        refine r_iadd (pc := 187) dX12_multiplies_187 o7 ?_
        refine r_iload (pc := 188) dX12_multiplies_188 rfl ?_
        refine r_iconst (pc := 190) dX12_multiplies_190 (inRk rfl) ?_
        obtain ⟨o8, h⟩ := h
        refine r_idiv (pc := 191) dX12_multiplies_191 (by decide) o8 ?_
        obtain ⟨o9, h⟩ := h
        refine r_iastore (pc := 192) dX12_multiplies_192 (okB_of (c := 20) (n := 8) (hL.sh (i := 8) rfl (by decide) (by decide)) (by decide) o9) ?_
        refine nmS (fun τ10 e10 => ?_)
        replace h := h τ10 e10
        have hL := hL.wI e10 (by decide) (.inl (by decide))
        obtain ⟨o11, h⟩ := h
        refine r_iinc (pc := 193) dX12_multiplies_193 rfl (by decide) o11 (l2 := [some (vr 172), some (vr a1), some (vi x2), some (vr a3), some (vi x4), some (vi x5), some (vi (x6 + 1)), some (vi x7), some (vi x8), some (vi x9), none, none, none, none]) rfl ?_
        refine r_goto (pc := 196) (tgt := 3) dX12_multiplies_196 (by decide) ?_
        exact GG.msk [true, true, true, true, true, true, true, false, false, false, false, false, false, false] (h hL)
      · replace h := h.2 c9
        refine r_iconst (pc := 163) dX12_multiplies_163 (inRk rfl) ?_
        exact r_ireturn (pc := 164) (ty := .boolean) dX12_multiplies_164 (by decide +kernel) rfl (nar_bool (by decide)) (h hL)
  · replace h := h.2 c9
    refine r_aload_n (pc := 32) dX12_multiplies_32 rfl rfl ?_
    refine r_iload_n (pc := 33) dX12_multiplies_33 rfl rfl ?_
    refine r_iconst (pc := 34) dX12_multiplies_34 (inRk rfl) ?_
    refine r_gets (pc := 35) (v := vr 2) dX12_multiplies_35 (List.mem_of_getElem? (i := 1) rfl) w_1385 trivial ?_
    refine r_iload (pc := 38) dX12_multiplies_38 rfl ?_
    obtain ⟨o12, h⟩ := h
    refine r_iaload (pc := 40) dX12_multiplies_40 (okA_ofX (c := 20) (n := 16) hL.xt.2.1.1 (by decide) o12) ?_
    obtain ⟨o13, h⟩ := h
    refine r_imul (pc := 41) dX12_multiplies_41 o13 ?_
    obtain ⟨o14, h⟩ := h
    refine r_iadd (pc := 42) dX12_multiplies_42 o14 ?_
    obtain ⟨o15, h⟩ := h
    refine r_iaload (pc := 43) dX12_multiplies_43 (okA_of (c := 20) (n := n1) (p1.sh hL) p1.2.2.1 o15) ?_
    refine r_istore (pc := 44) dX12_multiplies_44 (by decide) (l2 := [some (vr 172), some (vr a1), some (vi x2), some (vr a3), some (vi x4), some (vi x5), some (vi x6), some (vi x7), some (vi x8), some (vi x9), some (vi (gI σ a1 (x2 + (2 * (gI σ 2 x9.toNat))).toNat)), none, none, none]) rfl ?_
    refine r_aload_n (pc := 46) dX12_multiplies_46 rfl rfl ?_
    refine r_iload_n (pc := 47) dX12_multiplies_47 rfl rfl ?_
    refine r_iconst (pc := 48) dX12_multiplies_48 (inRk rfl) ?_
    refine r_gets (pc := 49) (v := vr 2) dX12_multiplies_49 (List.mem_of_getElem? (i := 1) rfl) w_1385 trivial ?_
    refine r_iload (pc := 52) dX12_multiplies_52 rfl ?_
    refine r_iaload (pc := 54) dX12_multiplies_54 (okA_ofX (c := 20) (n := 16) hL.xt.2.1.1 (by decide) o12) ?_
    refine r_imul (pc := 55) dX12_multiplies_55 o13 ?_
    refine r_iadd (pc := 56) dX12_multiplies_56 o14 ?_
    refine r_iconst (pc := 57) dX12_multiplies_57 (inRk rfl) ?_
    obtain ⟨o16, h⟩ := h
    refine r_iadd (pc := 58) dX12_multiplies_58 o16 ?_
    obtain ⟨o17, h⟩ := h
    refine r_iaload (pc := 59) dX12_multiplies_59 (okA_of (c := 20) (n := n1) (p1.sh hL) p1.2.2.1 o17) ?_
    refine r_istore (pc := 60) dX12_multiplies_60 (by decide) (l2 := [some (vr 172), some (vr a1), some (vi x2), some (vr a3), some (vi x4), some (vi x5), some (vi x6), some (vi x7), some (vi x8), some (vi x9), some (vi (gI σ a1 (x2 + (2 * (gI σ 2 x9.toNat))).toNat)), some (vi (gI σ a1 ((x2 + (2 * (gI σ 2 x9.toNat))) + 1).toNat)), none, none]) rfl ?_
    refine r_aload_n (pc := 62) dX12_multiplies_62 rfl rfl ?_
    refine r_iload (pc := 63) dX12_multiplies_63 rfl ?_
    refine r_iconst (pc := 65) dX12_multiplies_65 (inRk rfl) ?_
    refine r_gets (pc := 66) (v := vr 3) dX12_multiplies_66 (List.mem_of_getElem? (i := 2) rfl) w_1387 trivial ?_
    refine r_iload (pc := 69) dX12_multiplies_69 rfl ?_
    refine r_iaload (pc := 71) dX12_multiplies_71 (okA_ofX (c := 20) (n := 16) hL.xt.2.2.1.1 (by decide) o12) ?_
    obtain ⟨o18, h⟩ := h
    refine r_imul (pc := 72) dX12_multiplies_72 o18 ?_
    obtain ⟨o19, h⟩ := h
    refine r_iadd (pc := 73) dX12_multiplies_73 o19 ?_
    obtain ⟨o20, h⟩ := h
    refine r_iaload (pc := 74) dX12_multiplies_74 (okA_of (c := 20) (n := n3) (p3.sh hL) p3.2.2.1 o20) ?_
    refine r_istore (pc := 75) dX12_multiplies_75 (by decide) (l2 := [some (vr 172), some (vr a1), some (vi x2), some (vr a3), some (vi x4), some (vi x5), some (vi x6), some (vi x7), some (vi x8), some (vi x9), some (vi (gI σ a1 (x2 + (2 * (gI σ 2 x9.toNat))).toNat)), some (vi (gI σ a1 ((x2 + (2 * (gI σ 2 x9.toNat))) + 1).toNat)), some (vi (gI σ a3 (x4 + (2 * (gI σ 3 x9.toNat))).toNat)), none]) rfl ?_
    refine r_aload_n (pc := 77) dX12_multiplies_77 rfl rfl ?_
    refine r_iload (pc := 78) dX12_multiplies_78 rfl ?_
    refine r_iconst (pc := 80) dX12_multiplies_80 (inRk rfl) ?_
    refine r_gets (pc := 81) (v := vr 3) dX12_multiplies_81 (List.mem_of_getElem? (i := 2) rfl) w_1387 trivial ?_
    refine r_iload (pc := 84) dX12_multiplies_84 rfl ?_
    refine r_iaload (pc := 86) dX12_multiplies_86 (okA_ofX (c := 20) (n := 16) hL.xt.2.2.1.1 (by decide) o12) ?_
    refine r_imul (pc := 87) dX12_multiplies_87 o18 ?_
    refine r_iadd (pc := 88) dX12_multiplies_88 o19 ?_
    refine r_iconst (pc := 89) dX12_multiplies_89 (inRk rfl) ?_
    obtain ⟨o21, h⟩ := h
    refine r_iadd (pc := 90) dX12_multiplies_90 o21 ?_
    obtain ⟨o22, h⟩ := h
    refine r_iaload (pc := 91) dX12_multiplies_91 (okA_of (c := 20) (n := n3) (p3.sh hL) p3.2.2.1 o22) ?_
    refine r_istore (pc := 92) dX12_multiplies_92 (by decide) (l2 := [some (vr 172), some (vr a1), some (vi x2), some (vr a3), some (vi x4), some (vi x5), some (vi x6), some (vi x7), some (vi x8), some (vi x9), some (vi (gI σ a1 (x2 + (2 * (gI σ 2 x9.toNat))).toNat)), some (vi (gI σ a1 ((x2 + (2 * (gI σ 2 x9.toNat))) + 1).toNat)), some (vi (gI σ a3 (x4 + (2 * (gI σ 3 x9.toNat))).toNat)), some (vi (gI σ a3 ((x4 + (2 * (gI σ 3 x9.toNat))) + 1).toNat))]) rfl ?_
    refine r_iload (pc := 94) dX12_multiplies_94 rfl ?_
    refine r_gets (pc := 96) (v := vr 4) dX12_multiplies_96 (List.mem_of_getElem? (i := 3) rfl) w_1389 trivial ?_
    refine r_iload (pc := 99) dX12_multiplies_99 rfl ?_
    refine r_iaload (pc := 101) dX12_multiplies_101 (okA_ofX (c := 20) (n := 16) hL.xt.2.2.2.1.1 (by decide) o12) ?_
    refine r_iload (pc := 102) dX12_multiplies_102 rfl ?_
    refine r_iload (pc := 104) dX12_multiplies_104 rfl ?_
    obtain ⟨o23, h⟩ := h
    refine r_imul (pc := 106) dX12_multiplies_106 o23 ?_
    refine nmI (fun v24 e9 => ?_)
    replace h := h v24 e9
    refine r_iload (pc := 107) dX12_multiplies_107 rfl ?_
    refine r_iload (pc := 109) dX12_multiplies_109 rfl ?_
    obtain ⟨o25, h⟩ := h
    refine r_imul (pc := 111) dX12_multiplies_111 o25 ?_
    refine nmI (fun v26 e9 => ?_)
    replace h := h v26 e9
    refine r_iload (pc := 112) dX12_multiplies_112 rfl ?_
    obtain ⟨o27, h⟩ := h
    refine r_imul (pc := 114) dX12_multiplies_114 o27 ?_
    refine nmI (fun v28 e9 => ?_)
    replace h := h v28 e9
    obtain ⟨o29, h⟩ := h
    refine r_iadd (pc := 115) dX12_multiplies_115 o29 ?_
    obtain ⟨o30, h⟩ := h
    refine r_imul (pc := 116) dX12_multiplies_116 o30 ?_
    obtain ⟨o31, h⟩ := h
    refine r_iadd (pc := 117) dX12_multiplies_117 o31 ?_
    refine r_istore (pc := 118) dX12_multiplies_118 (by decide) (l2 := [some (vr 172), some (vr a1), some (vi x2), some (vr a3), some (vi x4), some (vi x5), some (vi x6), some (vi (x7 + ((gI σ 4 x9.toNat) * (v24 + v28)))), some (vi x8), some (vi x9), some (vi (gI σ a1 (x2 + (2 * (gI σ 2 x9.toNat))).toNat)), some (vi (gI σ a1 ((x2 + (2 * (gI σ 2 x9.toNat))) + 1).toNat)), some (vi (gI σ a3 (x4 + (2 * (gI σ 3 x9.toNat))).toNat)), some (vi (gI σ a3 ((x4 + (2 * (gI σ 3 x9.toNat))) + 1).toNat))]) rfl ?_
    refine r_iload (pc := 120) dX12_multiplies_120 rfl ?_
    refine r_gets (pc := 122) (v := vr 4) dX12_multiplies_122 (List.mem_of_getElem? (i := 3) rfl) w_1389 trivial ?_
    refine r_iload (pc := 125) dX12_multiplies_125 rfl ?_
    refine r_iaload (pc := 127) dX12_multiplies_127 (okA_ofX (c := 20) (n := 16) hL.xt.2.2.2.1.1 (by decide) o12) ?_
    refine r_iload (pc := 128) dX12_multiplies_128 rfl ?_
    refine r_iload (pc := 130) dX12_multiplies_130 rfl ?_
    obtain ⟨o32, h⟩ := h
    refine r_imul (pc := 132) dX12_multiplies_132 o32 ?_
    refine nmI (fun v33 e9 => ?_)
    replace h := h v33 e9
    refine r_iload (pc := 133) dX12_multiplies_133 rfl ?_
    refine r_iload (pc := 135) dX12_multiplies_135 rfl ?_
    obtain ⟨o34, h⟩ := h
    refine r_imul (pc := 137) dX12_multiplies_137 o34 ?_
    refine nmI (fun v35 e9 => ?_)
    replace h := h v35 e9
    obtain ⟨o36, h⟩ := h
    refine r_iadd (pc := 138) dX12_multiplies_138 o36 ?_
    obtain ⟨o37, h⟩ := h
    refine r_imul (pc := 139) dX12_multiplies_139 o37 ?_
    obtain ⟨o38, h⟩ := h
    refine r_iadd (pc := 140) dX12_multiplies_140 o38 ?_
    refine r_istore (pc := 141) dX12_multiplies_141 (by decide) (l2 := [some (vr 172), some (vr a1), some (vi x2), some (vr a3), some (vi x4), some (vi x5), some (vi x6), some (vi (x7 + ((gI σ 4 x9.toNat) * (v24 + v28)))), some (vi (x8 + ((gI σ 4 x9.toNat) * (v33 + v35)))), some (vi x9), some (vi (gI σ a1 (x2 + (2 * (gI σ 2 x9.toNat))).toNat)), some (vi (gI σ a1 ((x2 + (2 * (gI σ 2 x9.toNat))) + 1).toNat)), some (vi (gI σ a3 (x4 + (2 * (gI σ 3 x9.toNat))).toNat)), some (vi (gI σ a3 ((x4 + (2 * (gI σ 3 x9.toNat))) + 1).toNat))]) rfl ?_
    obtain ⟨o39, h⟩ := h
    refine r_iinc (pc := 143) dX12_multiplies_143 rfl (by decide) o39 (l2 := [some (vr 172), some (vr a1), some (vi x2), some (vr a3), some (vi x4), some (vi x5), some (vi x6), some (vi (x7 + ((gI σ 4 x9.toNat) * (v24 + v28)))), some (vi (x8 + ((gI σ 4 x9.toNat) * (v33 + v35)))), some (vi (x9 + 1)), some (vi (gI σ a1 (x2 + (2 * (gI σ 2 x9.toNat))).toNat)), some (vi (gI σ a1 ((x2 + (2 * (gI σ 2 x9.toNat))) + 1).toNat)), some (vi (gI σ a3 (x4 + (2 * (gI σ 3 x9.toNat))).toNat)), some (vi (gI σ a3 ((x4 + (2 * (gI σ 3 x9.toNat))) + 1).toNat))]) rfl ?_
    refine r_goto (pc := 146) (tgt := 21) dX12_multiplies_146 (by decide) ?_
    exact GG.msk [true, true, true, true, true, true, true, true, true, true, false, false, false, false] (h hL)
theorem C_X12_multiplies {a0 : Nat} {a1 : Nat} {x2 : Int} {a3 : Nat} {x4 : Int} {x5 : Int} (h : GG E mX12_multiplies 0 [some (vr a0), some (vr a1), some (vi x2), some (vr a3), some (vi x4), some (vi x5), none, none, none, none, none, none, none, none] [] σ 0 0 Q) : CC E mX12_multiplies [vr a0, vr a1, vi x2, vr a3, vi x4, vi x5] σ Q := CC.of (by decide +kernel) rfl (by decide +kernel) (fun h9 => nomatch h9) (Nat.le_of_ble_eq_true rfl) h
theorem dX12_natural_0 : decode cX12_natural 0 = .ok (.aload_n 0, 1) := by decide +kernel
theorem dX12_natural_1 : decode cX12_natural 1 = .ok (.aload_n 0, 1) := by decide +kernel
theorem dX12_natural_2 : decode cX12_natural 2 = .ok (.aload_n 0, 1) := by decide +kernel
theorem dX12_natural_3 : decode cX12_natural 3 = .ok (.getfield 34, 3) := by decide +kernel
theorem dX12_natural_6 : decode cX12_natural 6 = .ok (.aload_n 0, 1) := by decide +kernel
theorem dX12_natural_7 : decode cX12_natural 7 = .ok (.getfield 49, 3) := by decide +kernel
theorem dX12_natural_10 : decode cX12_natural 10 = .ok (.iload_n 1, 1) := by decide +kernel
theorem dX12_natural_11 : decode cX12_natural 11 = .ok (.iaload, 1) := by decide +kernel
theorem dX12_natural_12 : decode cX12_natural 12 = .ok (.aaload, 1) := by decide +kernel
theorem dX12_natural_13 : decode cX12_natural 13 = .ok (.iconst 0, 1) := by decide +kernel
theorem dX12_natural_14 : decode cX12_natural 14 = .ok (.iaload, 1) := by decide +kernel
theorem dX12_natural_15 : decode cX12_natural 15 = .ok (.i2l, 1) := by decide +kernel
theorem dX12_natural_16 : decode cX12_natural 16 = .ok (.aload_n 0, 1) := by decide +kernel
theorem dX12_natural_17 : decode cX12_natural 17 = .ok (.getfield 247, 3) := by decide +kernel
theorem dX12_natural_20 : decode cX12_natural 20 = .ok (.i2l, 1) := by decide +kernel
theorem dX12_natural_21 : decode cX12_natural 21 = .ok (.aload_n 0, 1) := by decide +kernel
theorem dX12_natural_22 : decode cX12_natural 22 = .ok (.getfield 34, 3) := by decide +kernel
theorem dX12_natural_25 : decode cX12_natural 25 = .ok (.aload_n 0, 1) := by decide +kernel
theorem dX12_natural_26 : decode cX12_natural 26 = .ok (.getfield 49, 3) := by decide +kernel
theorem dX12_natural_29 : decode cX12_natural 29 = .ok (.iload_n 1, 1) := by decide +kernel
theorem dX12_natural_30 : decode cX12_natural 30 = .ok (.iaload, 1) := by decide +kernel
theorem dX12_natural_31 : decode cX12_natural 31 = .ok (.aaload, 1) := by decide +kernel
theorem dX12_natural_32 : decode cX12_natural 32 = .ok (.iconst 1, 1) := by decide +kernel
theorem dX12_natural_33 : decode cX12_natural 33 = .ok (.iaload, 1) := by decide +kernel
theorem dX12_natural_34 : decode cX12_natural 34 = .ok (.i2l, 1) := by decide +kernel
theorem dX12_natural_35 : decode cX12_natural 35 = .ok (.lmul, 1) := by decide +kernel
theorem dX12_natural_36 : decode cX12_natural 36 = .ok (.ladd, 1) := by decide +kernel
theorem dX12_natural_37 : decode cX12_natural 37 = .ok (.invokevirtual 250, 3) := by decide +kernel
theorem dX12_natural_40 : decode cX12_natural 40 = .ok (.iconst 2, 1) := by decide +kernel
theorem dX12_natural_41 : decode cX12_natural 41 = .ok (.invokevirtual 254, 3) := by decide +kernel
theorem dX12_natural_44 : decode cX12_natural 44 = .ok (.ireturn, 1) := by decide +kernel
theorem B_X12_natural_0 {g : Sg} {c t : Nat} (hL : Lay LM g c t σ) {x1 : Int} (h : (0 ≤ x1 ∧ x1 < 120) ∧ (0 ≤ (gI σ 554 x1.toNat) ∧ (gI σ 554 x1.toNat) < 120) ∧ ∀ v5 : Int, v5 = wL ((gI σ 172 19) * (gI σ (310 + (gI σ 554 x1.toNat).toNat) 1)) → ∀ v6 : Int, v6 = wL ((gI σ (310 + (gI σ 554 x1.toNat).toNat) 0) + v5) → (Lay LM g c t σ → CC E mX12_mod [vr 172, vl v6] σ (KI (fun r7 τ8 => Lay LM g c t τ8 ∧ (inR r7 → (Lay LM g c t τ8 → CC E mX12_over [vr 172, vi r7, vi 2] τ8 (KI (fun r9 τ10 => Lay LM g c t τ10 ∧ (inR r9 → (Lay LM g c t τ10 → Q (.inl (some (vi r9))) τ10))) (fun _ _ => False))))) (fun _ _ => False)))) : GG E mX12_natural 0 [some (vr 172), some (vi x1)] [] σ rc rs Q := by
  refine r_aload_n (pc := 0) dX12_natural_0 rfl rfl ?_
  refine r_aload_n (pc := 1) dX12_natural_1 rfl rfl ?_
  refine r_aload_n (pc := 2) dX12_natural_2 rfl rfl ?_
  refine r_getR (pc := 3) dX12_natural_3 (k9 := 20) CL_12 (by decide) (by decide) w_1435 rfl (okO_of (N := 42) (hL.sh (i := 0) rfl (by decide) (by decide)) (by decide)) ?_
  refine eqR (y := 309) (hL.rf (i := 6) rfl) ?_
  refine r_aload_n (pc := 6) dX12_natural_6 rfl rfl ?_
  refine r_getR (pc := 7) dX12_natural_7 (k9 := 25) CL_12 (by decide) (by decide) w_1440 rfl (okO_of (N := 42) (hL.sh (i := 0) rfl (by decide) (by decide)) (by decide)) ?_
  refine eqR (y := 554) (hL.rf (i := 11) rfl) ?_
  refine r_iload_n (pc := 10) dX12_natural_10 rfl rfl ?_
  obtain ⟨o1, h⟩ := h
  refine r_iaload (pc := 11) dX12_natural_11 (okA_of (c := 20) (n := 120) (hL.sh (i := 16) rfl (by decide) (by decide)) (by decide) o1) ?_
  obtain ⟨o2, h⟩ := h
  refine r_aaload (pc := 12) dX12_natural_12 (okB_of (c := 24) (n := 120) (hL.sh (i := 9) rfl (by decide) (by decide)) (by decide) o2) ?_
  have q3 : 310 ≤ 310 + (gI σ 554 x1.toNat).toNat ∧ 310 + (gI σ 554 x1.toNat).toNat < 430 := ⟨Nat.le_add_right _ _, rowB o2 (by decide)⟩
  refine eqR (y := 310 + (gI σ 554 x1.toNat).toNat) (hL.rx (i := 2) rfl (rowC o2 (by decide))) ?_
  refine r_iconst (pc := 13) dX12_natural_13 (inRk rfl) ?_
  refine r_iaload (pc := 14) dX12_natural_14 (okA_of (c := 20) (n := 8) (hL.sh (i := 10) rfl q3.1 q3.2) (Nat.le_trans (by decide) q3.1) (by decide)) ?_
  refine r_i2l (pc := 15) dX12_natural_15 ?_
  refine r_aload_n (pc := 16) dX12_natural_16 rfl rfl ?_
  refine r_getI (pc := 17) dX12_natural_17 (k9 := 19) CL_12 (by decide) (by decide) w_1434 rfl (okO_of (N := 42) (hL.sh (i := 0) rfl (by decide) (by decide)) (by decide)) (fun _ => ?_)
  refine r_i2l (pc := 20) dX12_natural_20 ?_
  refine r_aload_n (pc := 21) dX12_natural_21 rfl rfl ?_
  refine r_getR (pc := 22) dX12_natural_22 (k9 := 20) CL_12 (by decide) (by decide) w_1435 rfl (okO_of (N := 42) (hL.sh (i := 0) rfl (by decide) (by decide)) (by decide)) ?_
  refine eqR (y := 309) (hL.rf (i := 6) rfl) ?_
  refine r_aload_n (pc := 25) dX12_natural_25 rfl rfl ?_
  refine r_getR (pc := 26) dX12_natural_26 (k9 := 25) CL_12 (by decide) (by decide) w_1440 rfl (okO_of (N := 42) (hL.sh (i := 0) rfl (by decide) (by decide)) (by decide)) ?_
  refine eqR (y := 554) (hL.rf (i := 11) rfl) ?_
  refine r_iload_n (pc := 29) dX12_natural_29 rfl rfl ?_
  refine r_iaload (pc := 30) dX12_natural_30 (okA_of (c := 20) (n := 120) (hL.sh (i := 16) rfl (by decide) (by decide)) (by decide) o1) ?_
  refine r_aaload (pc := 31) dX12_natural_31 (okB_of (c := 24) (n := 120) (hL.sh (i := 9) rfl (by decide) (by decide)) (by decide) o2) ?_
  have q4 : 310 ≤ 310 + (gI σ 554 x1.toNat).toNat ∧ 310 + (gI σ 554 x1.toNat).toNat < 430 := ⟨Nat.le_add_right _ _, rowB o2 (by decide)⟩
  refine eqR (y := 310 + (gI σ 554 x1.toNat).toNat) (hL.rx (i := 2) rfl (rowC o2 (by decide))) ?_
  refine r_iconst (pc := 32) dX12_natural_32 (inRk rfl) ?_
  refine r_iaload (pc := 33) dX12_natural_33 (okA_of (c := 20) (n := 8) (hL.sh (i := 10) rfl q4.1 q4.2) (Nat.le_trans (by decide) q4.1) (by decide)) ?_
  refine r_i2l (pc := 34) dX12_natural_34 ?_
  refine r_lmul (pc := 35) dX12_natural_35 ?_
  refine nmL (fun v5 e9 => ?_)
  replace h := h v5 e9
  refine r_ladd (pc := 36) dX12_natural_36 ?_
  refine nmL (fun v6 e9 => ?_)
  replace h := h v6 e9
  refine c_VI0N (M := mX12_natural) (pc := 37) (As := [vl v6]) dX12_natural_37 K_X12_mod w_1666 ⟨by decide, by decide⟩ (Nat.le_of_ble_eq_true rfl) rfl rfl (ci := 12) rfl rfl (by decide) (okO_of (N := 42) (hL.sh (i := 0) rfl (by decide) (by decide)) (by decide)) (h hL) (fun r7 τ8 h8 hr9 => ?_) rfl
  replace hL := h8.1
  replace h := h8.2 hr9
  refine r_iconst (pc := 40) dX12_natural_40 (inRk rfl) ?_
  refine c_VI0N (M := mX12_natural) (pc := 41) (As := [vi r7, vi 2]) dX12_natural_41 K_X12_over w_1674 ⟨by decide, by decide⟩ (Nat.le_of_ble_eq_true rfl) rfl rfl (ci := 12) rfl rfl (by decide) (okO_of (N := 42) (hL.sh (i := 0) rfl (by decide) (by decide)) (by decide)) (h hL) (fun r9 τ10 h8 hr9 => ?_) rfl
  replace hL := h8.1
  replace h := h8.2 hr9
  exact r_ireturn (pc := 44) (ty := .int) dX12_natural_44 (by decide +kernel) rfl (nar_i _) (h hL)
theorem C_X12_natural {a0 : Nat} {x1 : Int} (h : GG E mX12_natural 0 [some (vr a0), some (vi x1)] [] σ 0 0 Q) : CC E mX12_natural [vr a0, vi x1] σ Q := CC.of (by decide +kernel) rfl (by decide +kernel) (fun h9 => nomatch h9) (Nat.le_of_ble_eq_true rfl) h
theorem dX12_nothingWhy_0 : decode cX12_nothingWhy 0 = .ok (.aload_n 0, 1) := by decide +kernel
theorem dX12_nothingWhy_1 : decode cX12_nothingWhy 1 = .ok (.iconst 0, 1) := by decide +kernel
theorem dX12_nothingWhy_2 : decode cX12_nothingWhy 2 = .ok (.iconst 0, 1) := by decide +kernel
theorem dX12_nothingWhy_3 : decode cX12_nothingWhy 3 = .ok (.iconst 0, 1) := by decide +kernel
theorem dX12_nothingWhy_4 : decode cX12_nothingWhy 4 = .ok (.iconst 0, 1) := by decide +kernel
theorem dX12_nothingWhy_5 : decode cX12_nothingWhy 5 = .ok (.invokevirtual 210, 3) := by decide +kernel
theorem dX12_nothingWhy_8 : decode cX12_nothingWhy 8 = .ok (.istore_n 1, 1) := by decide +kernel
theorem dX12_nothingWhy_9 : decode cX12_nothingWhy 9 = .ok (.return_, 1) := by decide +kernel
theorem B_X12_nothingWhy_0 {g : Sg} {c t : Nat} (hL : Lay LM g c t σ)  (h : (Lay LM g c t σ → CC E mX12_stops [vr 172, vi 0, vi 0, vi 0, vi 0] σ (KI (fun r1 τ2 => Lay LM g c t τ2 ∧ (inR r1 → (Lay LM g c t τ2 → Q (.inl none) τ2))) (fun _ _ => False)))) : GG E mX12_nothingWhy 0 [some (vr 172), none] [] σ rc rs Q := by
  refine r_aload_n (pc := 0) dX12_nothingWhy_0 rfl rfl ?_
  refine r_iconst (pc := 1) dX12_nothingWhy_1 (inRk rfl) ?_
  refine r_iconst (pc := 2) dX12_nothingWhy_2 (inRk rfl) ?_
  refine r_iconst (pc := 3) dX12_nothingWhy_3 (inRk rfl) ?_
  refine r_iconst (pc := 4) dX12_nothingWhy_4 (inRk rfl) ?_
  refine c_VI0N (M := mX12_nothingWhy) (pc := 5) (As := [vi 0, vi 0, vi 0, vi 0]) dX12_nothingWhy_5 K_X12_stops w_1391 ⟨by decide, by decide⟩ (Nat.le_of_ble_eq_true rfl) rfl rfl (ci := 12) rfl rfl (by decide) (okO_of (N := 42) (hL.sh (i := 0) rfl (by decide) (by decide)) (by decide)) (h hL) (fun r1 τ2 h8 hr9 => ?_) rfl
  replace hL := h8.1
  replace h := h8.2 hr9
  refine r_istore_n (pc := 8) dX12_nothingWhy_8 rfl (by decide) (l2 := [some (vr 172), some (vi r1)]) rfl ?_
  exact r_return (pc := 9) dX12_nothingWhy_9 (by decide +kernel) rfl (h hL)
theorem C_X12_nothingWhy {a0 : Nat} (h : GG E mX12_nothingWhy 0 [some (vr a0), none] [] σ 0 0 Q) : CC E mX12_nothingWhy [vr a0] σ Q := CC.of (by decide +kernel) rfl (by decide +kernel) (fun h9 => nomatch h9) (Nat.le_of_ble_eq_true rfl) h
theorem dX12_number_0 : decode cX12_number 0 = .ok (.aload_n 0, 1) := by decide +kernel
theorem dX12_number_1 : decode cX12_number 1 = .ok (.invokevirtual 121, 3) := by decide +kernel
theorem dX12_number_4 : decode cX12_number 4 = .ok (.ifCond .ne 5, 3) := by decide +kernel
theorem dX12_number_7 : decode cX12_number 7 = .ok (.iconst 0, 1) := by decide +kernel
theorem dX12_number_8 : decode cX12_number 8 = .ok (.ireturn, 1) := by decide +kernel
theorem dX12_number_9 : decode cX12_number 9 = .ok (.iload_n 1, 1) := by decide +kernel
theorem dX12_number_10 : decode cX12_number 10 = .ok (.ifCond .eq 16, 3) := by decide +kernel
theorem dX12_number_13 : decode cX12_number 13 = .ok (.aload_n 0, 1) := by decide +kernel
theorem dX12_number_14 : decode cX12_number 14 = .ok (.invokevirtual 125, 3) := by decide +kernel
theorem dX12_number_17 : decode cX12_number 17 = .ok (.bipush 45, 2) := by decide +kernel
theorem dX12_number_19 : decode cX12_number 19 = .ok (.if_icmp .ne 7, 3) := by decide +kernel
theorem dX12_number_22 : decode cX12_number 22 = .ok (.iconst 1, 1) := by decide +kernel
theorem dX12_number_23 : decode cX12_number 23 = .ok (.goto 4, 3) := by decide +kernel
theorem dX12_number_26 : decode cX12_number 26 = .ok (.iconst 0, 1) := by decide +kernel
theorem dX12_number_27 : decode cX12_number 27 = .ok (.istore_n 2, 1) := by decide +kernel
theorem dX12_number_28 : decode cX12_number 28 = .ok (.aload_n 0, 1) := by decide +kernel
theorem dX12_number_29 : decode cX12_number 29 = .ok (.invokevirtual 125, 3) := by decide +kernel
theorem dX12_number_32 : decode cX12_number 32 = .ok (.pop, 1) := by decide +kernel
theorem dX12_number_33 : decode cX12_number 33 = .ok (.aload_n 0, 1) := by decide +kernel
theorem dX12_number_34 : decode cX12_number 34 = .ok (.getfield 108, 3) := by decide +kernel
theorem dX12_number_37 : decode cX12_number 37 = .ok (.istore_n 3, 1) := by decide +kernel
theorem dX12_number_38 : decode cX12_number 38 = .ok (.iload_n 2, 1) := by decide +kernel
theorem dX12_number_39 : decode cX12_number 39 = .ok (.ifCond .eq 13, 3) := by decide +kernel
theorem dX12_number_42 : decode cX12_number 42 = .ok (.aload_n 0, 1) := by decide +kernel
theorem dX12_number_43 : decode cX12_number 43 = .ok (.dup, 1) := by decide +kernel
theorem dX12_number_44 : decode cX12_number 44 = .ok (.getfield 108, 3) := by decide +kernel
theorem dX12_number_47 : decode cX12_number 47 = .ok (.iconst 1, 1) := by decide +kernel
theorem dX12_number_48 : decode cX12_number 48 = .ok (.iadd, 1) := by decide +kernel
theorem dX12_number_49 : decode cX12_number 49 = .ok (.putfield 108, 3) := by decide +kernel
theorem dX12_number_52 : decode cX12_number 52 = .ok (.aload_n 0, 1) := by decide +kernel
theorem dX12_number_53 : decode cX12_number 53 = .ok (.invokevirtual 125, 3) := by decide +kernel
theorem dX12_number_56 : decode cX12_number 56 = .ok (.invokestatic 129, 3) := by decide +kernel
theorem dX12_number_59 : decode cX12_number 59 = .ok (.ifCond .ne 12, 3) := by decide +kernel
theorem dX12_number_62 : decode cX12_number 62 = .ok (.aload_n 0, 1) := by decide +kernel
theorem dX12_number_63 : decode cX12_number 63 = .ok (.iconst 1, 1) := by decide +kernel
theorem dX12_number_64 : decode cX12_number 64 = .ok (.aload_n 0, 1) := by decide +kernel
theorem dX12_number_65 : decode cX12_number 65 = .ok (.getfield 108, 3) := by decide +kernel
theorem dX12_number_68 : decode cX12_number 68 = .ok (.invokevirtual 132, 3) := by decide +kernel
theorem dX12_number_71 : decode cX12_number 71 = .ok (.iconst 0, 1) := by decide +kernel
theorem dX12_number_72 : decode cX12_number 72 = .ok (.istore 4, 2) := by decide +kernel
theorem dX12_number_74 : decode cX12_number 74 = .ok (.aload_n 0, 1) := by decide +kernel
theorem dX12_number_75 : decode cX12_number 75 = .ok (.aload_n 0, 1) := by decide +kernel
theorem dX12_number_76 : decode cX12_number 76 = .ok (.getfield 108, 3) := by decide +kernel
theorem dX12_number_79 : decode cX12_number 79 = .ok (.invokevirtual 111, 3) := by decide +kernel
theorem dX12_number_82 : decode cX12_number 82 = .ok (.invokestatic 129, 3) := by decide +kernel
theorem dX12_number_85 : decode cX12_number 85 = .ok (.ifCond .eq 40, 3) := by decide +kernel
theorem dX12_number_88 : decode cX12_number 88 = .ok (.ldc 136, 2) := by decide +kernel
theorem dX12_number_90 : decode cX12_number 90 = .ok (.bipush 10, 2) := by decide +kernel
theorem dX12_number_92 : decode cX12_number 92 = .ok (.iload 4, 2) := by decide +kernel
theorem dX12_number_94 : decode cX12_number 94 = .ok (.imul, 1) := by decide +kernel
theorem dX12_number_95 : decode cX12_number 95 = .ok (.aload_n 0, 1) := by decide +kernel
theorem dX12_number_96 : decode cX12_number 96 = .ok (.aload_n 0, 1) := by decide +kernel
theorem dX12_number_97 : decode cX12_number 97 = .ok (.getfield 108, 3) := by decide +kernel
theorem dX12_number_100 : decode cX12_number 100 = .ok (.invokevirtual 111, 3) := by decide +kernel
theorem dX12_number_103 : decode cX12_number 103 = .ok (.iadd, 1) := by decide +kernel
theorem dX12_number_104 : decode cX12_number 104 = .ok (.bipush 48, 2) := by decide +kernel
theorem dX12_number_106 : decode cX12_number 106 = .ok (.isub, 1) := by decide +kernel
theorem dX12_number_107 : decode cX12_number 107 = .ok (.invokestatic 137, 3) := by decide +kernel
theorem dX12_number_110 : decode cX12_number 110 = .ok (.istore 4, 2) := by decide +kernel
theorem dX12_number_112 : decode cX12_number 112 = .ok (.aload_n 0, 1) := by decide +kernel
theorem dX12_number_113 : decode cX12_number 113 = .ok (.dup, 1) := by decide +kernel
theorem dX12_number_114 : decode cX12_number 114 = .ok (.getfield 108, 3) := by decide +kernel
theorem dX12_number_117 : decode cX12_number 117 = .ok (.iconst 1, 1) := by decide +kernel
theorem dX12_number_118 : decode cX12_number 118 = .ok (.iadd, 1) := by decide +kernel
theorem dX12_number_119 : decode cX12_number 119 = .ok (.putfield 108, 3) := by decide +kernel
theorem dX12_number_122 : decode cX12_number 122 = .ok (.goto (-48), 3) := by decide +kernel
theorem dX12_number_125 : decode cX12_number 125 = .ok (.iload_n 2, 1) := by decide +kernel
theorem dX12_number_126 : decode cX12_number 126 = .ok (.ifCond .eq 8, 3) := by decide +kernel
theorem dX12_number_129 : decode cX12_number 129 = .ok (.iload 4, 2) := by decide +kernel
theorem dX12_number_131 : decode cX12_number 131 = .ok (.ineg, 1) := by decide +kernel
theorem dX12_number_132 : decode cX12_number 132 = .ok (.istore 4, 2) := by decide +kernel
theorem dX12_number_134 : decode cX12_number 134 = .ok (.iload_n 1, 1) := by decide +kernel
theorem dX12_number_135 : decode cX12_number 135 = .ok (.ifCond .eq 17, 3) := by decide +kernel
theorem dX12_number_138 : decode cX12_number 138 = .ok (.iload 4, 2) := by decide +kernel
theorem dX12_number_140 : decode cX12_number 140 = .ok (.bipush (-4), 2) := by decide +kernel
theorem dX12_number_142 : decode cX12_number 142 = .ok (.iconst 4, 1) := by decide +kernel
theorem dX12_number_143 : decode cX12_number 143 = .ok (.invokestatic 141, 3) := by decide +kernel
theorem dX12_number_146 : decode cX12_number 146 = .ok (.ifCond .ne 30, 3) := by decide +kernel
theorem dX12_number_149 : decode cX12_number 149 = .ok (.goto 21, 3) := by decide +kernel
theorem dX12_number_152 : decode cX12_number 152 = .ok (.iload 4, 2) := by decide +kernel
theorem dX12_number_154 : decode cX12_number 154 = .ok (.iconst 2, 1) := by decide +kernel
theorem dX12_number_155 : decode cX12_number 155 = .ok (.if_icmp .eq 21, 3) := by decide +kernel
theorem dX12_number_158 : decode cX12_number 158 = .ok (.iload 4, 2) := by decide +kernel
theorem dX12_number_160 : decode cX12_number 160 = .ok (.iconst 3, 1) := by decide +kernel
theorem dX12_number_161 : decode cX12_number 161 = .ok (.if_icmp .eq 15, 3) := by decide +kernel
theorem dX12_number_164 : decode cX12_number 164 = .ok (.iload 4, 2) := by decide +kernel
theorem dX12_number_166 : decode cX12_number 166 = .ok (.iconst 5, 1) := by decide +kernel
theorem dX12_number_167 : decode cX12_number 167 = .ok (.if_icmp .eq 9, 3) := by decide +kernel
theorem dX12_number_170 : decode cX12_number 170 = .ok (.aload_n 0, 1) := by decide +kernel
theorem dX12_number_171 : decode cX12_number 171 = .ok (.iconst 2, 1) := by decide +kernel
theorem dX12_number_172 : decode cX12_number 172 = .ok (.iload_n 3, 1) := by decide +kernel
theorem dX12_number_173 : decode cX12_number 173 = .ok (.invokevirtual 132, 3) := by decide +kernel
theorem dX12_number_176 : decode cX12_number 176 = .ok (.aload_n 0, 1) := by decide +kernel
theorem dX12_number_177 : decode cX12_number 177 = .ok (.invokevirtual 121, 3) := by decide +kernel
theorem dX12_number_180 : decode cX12_number 180 = .ok (.ifCond .eq 8, 3) := by decide +kernel
theorem dX12_number_183 : decode cX12_number 183 = .ok (.iload 4, 2) := by decide +kernel
theorem dX12_number_185 : decode cX12_number 185 = .ok (.goto 4, 3) := by decide +kernel
theorem dX12_number_188 : decode cX12_number 188 = .ok (.iconst 0, 1) := by decide +kernel
theorem dX12_number_189 : decode cX12_number 189 = .ok (.ireturn, 1) := by decide +kernel
theorem B_X12_number_0 {g : Sg} {c t : Nat} (hL : Lay LM g c t σ) {x1 : Int} (h : (Lay LM g c t σ → CC E mX12_fine [vr 172] σ (KI (fun r1 τ2 => Lay LM g c t τ2 ∧ (inR r1 → ((r1 ≠ 0 → ((x1 = 0 → (Lay LM g c t τ2 → GG E mX12_number 28 [some (vr 172), some (vi x1), some (vi 0), none, none] [] τ2 rc rs Q)) ∧ (¬ (x1 = 0) → (Lay LM g c t τ2 → CC E mX12_here [vr 172] τ2 (KI (fun r3 τ4 => Lay LM g c t τ4 ∧ (inR r3 → ((r3 ≠ 45 → (Lay LM g c t τ4 → GG E mX12_number 28 [some (vr 172), some (vi x1), some (vi 0), none, none] [] τ4 rc rs Q)) ∧ (r3 = 45 → (Lay LM g c t τ4 → GG E mX12_number 28 [some (vr 172), some (vi x1), some (vi 1), none, none] [] τ4 rc rs Q))))) (fun _ _ => False)))))) ∧ (r1 = 0 → (Lay LM g c t τ2 → Q (.inl (some (vi 0))) τ2))))) (fun _ _ => False)))) : GG E mX12_number 0 [some (vr 172), some (vi x1), none, none, none] [] σ rc rs Q := by
  refine r_aload_n (pc := 0) dX12_number_0 rfl rfl ?_
  refine c_VI0N (M := mX12_number) (pc := 1) (As := []) dX12_number_1 K_X12_fine w_1579 ⟨by decide, by decide⟩ (Nat.le_of_ble_eq_true rfl) rfl rfl (ci := 12) rfl rfl (by decide) (okO_of (N := 42) (hL.sh (i := 0) rfl (by decide) (by decide)) (by decide)) (h hL) (fun r1 τ2 h8 hr9 => ?_) rfl
  replace hL := h8.1
  replace h := h8.2 hr9
  refine r_if_ne (pc := 4) (tgt := 9) dX12_number_4 (by decide) (fun c9 => ?_) (fun c9 => ?_)
  · replace h := h.1 c9
    refine r_iload_n (pc := 9) dX12_number_9 rfl rfl ?_
    refine r_if_eq (pc := 10) (tgt := 26) dX12_number_10 (by decide) (fun c9 => ?_) (fun c9 => ?_)
    · replace h := h.1 c9
      refine r_iconst (pc := 26) dX12_number_26 (inRk rfl) ?_
      refine r_istore_n (pc := 27) dX12_number_27 rfl (by decide) (l2 := [some (vr 172), some (vi x1), some (vi 0), none, none]) rfl ?_
      exact (h hL)
    · replace h := h.2 c9
      refine r_aload_n (pc := 13) dX12_number_13 rfl rfl ?_
      refine c_VI0N (M := mX12_number) (pc := 14) (As := []) dX12_number_14 K_X12_here w_1566 ⟨by decide, by decide⟩ (Nat.le_of_ble_eq_true rfl) rfl rfl (ci := 12) rfl rfl (by decide) (okO_of (N := 42) (hL.sh (i := 0) rfl (by decide) (by decide)) (by decide)) (h hL) (fun r3 τ4 h8 hr9 => ?_) rfl
      replace hL := h8.1
      replace h := h8.2 hr9
      refine r_bipush (pc := 17) dX12_number_17 (by decide) ?_
      refine r_icmp_ne (pc := 19) (tgt := 26) dX12_number_19 (by decide) (fun c9 => ?_) (fun c9 => ?_)
      · replace h := h.1 c9
        refine r_iconst (pc := 26) dX12_number_26 (inRk rfl) ?_
        refine r_istore_n (pc := 27) dX12_number_27 rfl (by decide) (l2 := [some (vr 172), some (vi x1), some (vi 0), none, none]) rfl ?_
        exact (h hL)
      · replace h := h.2 c9
        refine r_iconst (pc := 22) dX12_number_22 (inRk rfl) ?_
        refine r_goto (pc := 23) (tgt := 27) dX12_number_23 (by decide) ?_
        refine r_istore_n (pc := 27) dX12_number_27 rfl (by decide) (l2 := [some (vr 172), some (vi x1), some (vi 1), none, none]) rfl ?_
        exact (h hL)
  · replace h := h.2 c9
    refine r_iconst (pc := 7) dX12_number_7 (inRk rfl) ?_
    exact r_ireturn (pc := 8) (ty := .int) dX12_number_8 (by decide +kernel) rfl (nar_i _) (h hL)
theorem B_X12_number_28 {g : Sg} {c t : Nat} (hL : Lay LM g c t σ) {x1 : Int} {x2 : Int} (h : (Lay LM g c t σ → CC E mX12_here [vr 172] σ (KI (fun r1 τ2 => Lay LM g c t τ2 ∧ (inR r1 → ((x2 = 0 → (Lay LM g c t τ2 → CC E mX12_here [vr 172] τ2 (KI (fun r3 τ4 => Lay LM g c t τ4 ∧ (inR r3 → (Lay LM g c t τ4 → CC E mX12_isDigit [vi r3] τ4 (KI (fun r5 τ6 => Lay LM g c t τ6 ∧ (inR r5 → ((r5 ≠ 0 → (Lay LM g c t τ6 → GG E mX12_number 74 [some (vr 172), some (vi x1), some (vi x2), some (vi (gI τ2 172 4)), some (vi 0)] [] τ6 rc rs Q)) ∧ (r5 = 0 → (Lay LM g c t τ6 → CC E mX12_wrong [vr 172, vi 1, vi (gI τ6 172 4)] τ6 (KV (fun τ8 => Lay LM g c t τ8 ∧ (Lay LM g c t τ8 → GG E mX12_number 74 [some (vr 172), some (vi x1), some (vi x2), some (vi (gI τ2 172 4)), some (vi 0)] [] τ8 rc rs Q)) (fun _ _ => False))))))) (fun _ _ => False))))) (fun _ _ => False)))) ∧ (¬ (x2 = 0) → inR ((gI τ2 172 4) + 1) ∧ ∀ τ10 : Sg, τ10 = sI τ2 172 4 ((gI τ2 172 4) + 1) → (Lay LM g c t τ10 → CC E mX12_here [vr 172] τ10 (KI (fun r11 τ12 => Lay LM g c t τ12 ∧ (inR r11 → (Lay LM g c t τ12 → CC E mX12_isDigit [vi r11] τ12 (KI (fun r13 τ14 => Lay LM g c t τ14 ∧ (inR r13 → ((r13 ≠ 0 → (Lay LM g c t τ14 → GG E mX12_number 74 [some (vr 172), some (vi x1), some (vi x2), some (vi (gI τ2 172 4)), some (vi 0)] [] τ14 rc rs Q)) ∧ (r13 = 0 → (Lay LM g c t τ14 → CC E mX12_wrong [vr 172, vi 1, vi (gI τ14 172 4)] τ14 (KV (fun τ16 => Lay LM g c t τ16 ∧ (Lay LM g c t τ16 → GG E mX12_number 74 [some (vr 172), some (vi x1), some (vi x2), some (vi (gI τ2 172 4)), some (vi 0)] [] τ16 rc rs Q)) (fun _ _ => False))))))) (fun _ _ => False))))) (fun _ _ => False))))))) (fun _ _ => False)))) : GG E mX12_number 28 [some (vr 172), some (vi x1), some (vi x2), none, none] [] σ rc rs Q := by
  refine r_aload_n (pc := 28) dX12_number_28 rfl rfl ?_
  refine c_VI0N (M := mX12_number) (pc := 29) (As := []) dX12_number_29 K_X12_here w_1566 ⟨by decide, by decide⟩ (Nat.le_of_ble_eq_true rfl) rfl rfl (ci := 12) rfl rfl (by decide) (okO_of (N := 42) (hL.sh (i := 0) rfl (by decide) (by decide)) (by decide)) (h hL) (fun r1 τ2 h8 hr9 => ?_) rfl
  replace hL := h8.1
  replace h := h8.2 hr9
  refine r_pop (pc := 32) dX12_number_32 (fun _ h9 => nomatch h9) ?_
  refine r_aload_n (pc := 33) dX12_number_33 rfl rfl ?_
  refine r_getI (pc := 34) dX12_number_34 (k9 := 4) CL_12 (by decide) (by decide) w_1419 rfl (okO_of (N := 42) (hL.sh (i := 0) rfl (by decide) (by decide)) (by decide)) (fun _ => ?_)
  refine r_istore_n (pc := 37) dX12_number_37 rfl (by decide) (l2 := [some (vr 172), some (vi x1), some (vi x2), some (vi (gI τ2 172 4)), none]) rfl ?_
  refine r_iload_n (pc := 38) dX12_number_38 rfl rfl ?_
  refine r_if_eq (pc := 39) (tgt := 52) dX12_number_39 (by decide) (fun c9 => ?_) (fun c9 => ?_)
  · replace h := h.1 c9
    refine r_aload_n (pc := 52) dX12_number_52 rfl rfl ?_
    refine c_VI0N (M := mX12_number) (pc := 53) (As := []) dX12_number_53 K_X12_here w_1566 ⟨by decide, by decide⟩ (Nat.le_of_ble_eq_true rfl) rfl rfl (ci := 12) rfl rfl (by decide) (okO_of (N := 42) (hL.sh (i := 0) rfl (by decide) (by decide)) (by decide)) (h hL) (fun r3 τ4 h8 hr9 => ?_) rfl
    replace hL := h8.1
    replace h := h8.2 hr9
    refine c_SI0N (M := mX12_number) (pc := 56) (As := [vi r3]) dX12_number_56 K_X12_isDigit w_1596 ⟨by decide, by decide⟩ (Nat.le_of_ble_eq_true rfl) rfl rfl (h hL) (fun r5 τ6 h8 hr9 => ?_) rfl
    replace hL := h8.1
    replace h := h8.2 hr9
    refine r_if_ne (pc := 59) (tgt := 71) dX12_number_59 (by decide) (fun c9 => ?_) (fun c9 => ?_)
    · replace h := h.1 c9
      refine r_iconst (pc := 71) dX12_number_71 (inRk rfl) ?_
      refine r_istore (pc := 72) dX12_number_72 (by decide) (l2 := [some (vr 172), some (vi x1), some (vi x2), some (vi (gI τ2 172 4)), some (vi 0)]) rfl ?_
      exact (h hL)
    · replace h := h.2 c9
      refine r_aload_n (pc := 62) dX12_number_62 rfl rfl ?_
      refine r_iconst (pc := 63) dX12_number_63 (inRk rfl) ?_
      refine r_aload_n (pc := 64) dX12_number_64 rfl rfl ?_
      refine r_getI (pc := 65) dX12_number_65 (k9 := 4) CL_12 (by decide) (by decide) w_1419 rfl (okO_of (N := 42) (hL.sh (i := 0) rfl (by decide) (by decide)) (by decide)) (fun _ => ?_)
      refine c_VV0N (M := mX12_number) (pc := 68) (As := [vi 1, vi (gI τ6 172 4)]) dX12_number_68 K_X12_wrong w_1588 ⟨by decide, by decide⟩ (Nat.le_of_ble_eq_true rfl) rfl rfl (ci := 12) rfl rfl (by decide) (okO_of (N := 42) (hL.sh (i := 0) rfl (by decide) (by decide)) (by decide)) (h hL) (fun τ8 h8 => ?_) rfl
      replace hL := h8.1
      replace h := h8.2
      refine r_iconst (pc := 71) dX12_number_71 (inRk rfl) ?_
      refine r_istore (pc := 72) dX12_number_72 (by decide) (l2 := [some (vr 172), some (vi x1), some (vi x2), some (vi (gI τ2 172 4)), some (vi 0)]) rfl ?_
      exact (h hL)
  · replace h := h.2 c9
    refine r_aload_n (pc := 42) dX12_number_42 rfl rfl ?_
    refine r_dup (pc := 43) dX12_number_43 (fun _ h9 => nomatch h9) ?_
    refine r_getI (pc := 44) dX12_number_44 (k9 := 4) CL_12 (by decide) (by decide) w_1419 rfl (okO_of (N := 42) (hL.sh (i := 0) rfl (by decide) (by decide)) (by decide)) (fun _ => ?_)
    refine r_iconst (pc := 47) dX12_number_47 (inRk rfl) ?_
    obtain ⟨o9, h⟩ := h
    refine r_iadd (pc := 48) dX12_number_48 o9 ?_
    refine r_putI (pc := 49) dX12_number_49 (k9 := 4) CL_12 (by decide) (by decide) w_1419 rfl rfl (fun h9 => absurd h9 (by decide +kernel)) (okO_of (N := 42) (hL.sh (i := 0) rfl (by decide) (by decide)) (by decide)) ?_
    refine nmS (fun τ10 e10 => ?_)
    replace h := h τ10 e10
    have hL := hL.wI e10 (by decide) (.inl (by decide))
    refine r_aload_n (pc := 52) dX12_number_52 rfl rfl ?_
    refine c_VI0N (M := mX12_number) (pc := 53) (As := []) dX12_number_53 K_X12_here w_1566 ⟨by decide, by decide⟩ (Nat.le_of_ble_eq_true rfl) rfl rfl (ci := 12) rfl rfl (by decide) (okO_of (N := 42) (hL.sh (i := 0) rfl (by decide) (by decide)) (by decide)) (h hL) (fun r11 τ12 h8 hr9 => ?_) rfl
    replace hL := h8.1
    replace h := h8.2 hr9
    refine c_SI0N (M := mX12_number) (pc := 56) (As := [vi r11]) dX12_number_56 K_X12_isDigit w_1596 ⟨by decide, by decide⟩ (Nat.le_of_ble_eq_true rfl) rfl rfl (h hL) (fun r13 τ14 h8 hr9 => ?_) rfl
    replace hL := h8.1
    replace h := h8.2 hr9
    refine r_if_ne (pc := 59) (tgt := 71) dX12_number_59 (by decide) (fun c9 => ?_) (fun c9 => ?_)
    · replace h := h.1 c9
      refine r_iconst (pc := 71) dX12_number_71 (inRk rfl) ?_
      refine r_istore (pc := 72) dX12_number_72 (by decide) (l2 := [some (vr 172), some (vi x1), some (vi x2), some (vi (gI τ2 172 4)), some (vi 0)]) rfl ?_
      exact (h hL)
    · replace h := h.2 c9
      refine r_aload_n (pc := 62) dX12_number_62 rfl rfl ?_
      refine r_iconst (pc := 63) dX12_number_63 (inRk rfl) ?_
      refine r_aload_n (pc := 64) dX12_number_64 rfl rfl ?_
      refine r_getI (pc := 65) dX12_number_65 (k9 := 4) CL_12 (by decide) (by decide) w_1419 rfl (okO_of (N := 42) (hL.sh (i := 0) rfl (by decide) (by decide)) (by decide)) (fun _ => ?_)
      refine c_VV0N (M := mX12_number) (pc := 68) (As := [vi 1, vi (gI τ14 172 4)]) dX12_number_68 K_X12_wrong w_1588 ⟨by decide, by decide⟩ (Nat.le_of_ble_eq_true rfl) rfl rfl (ci := 12) rfl rfl (by decide) (okO_of (N := 42) (hL.sh (i := 0) rfl (by decide) (by decide)) (by decide)) (h hL) (fun τ16 h8 => ?_) rfl
      replace hL := h8.1
      replace h := h8.2
      refine r_iconst (pc := 71) dX12_number_71 (inRk rfl) ?_
      refine r_istore (pc := 72) dX12_number_72 (by decide) (l2 := [some (vr 172), some (vi x1), some (vi x2), some (vi (gI τ2 172 4)), some (vi 0)]) rfl ?_
      exact (h hL)
theorem B_X12_number_74 {g : Sg} {c t : Nat} (hL : Lay LM g c t σ) {x1 : Int} {x2 : Int} {x3 : Int} {x4 : Int} (h : (Lay LM g c t σ → CC E mX12_byteAt [vr 172, vi (gI σ 172 4)] σ (KI (fun r1 τ2 => Lay LM g c t τ2 ∧ (inR r1 → (Lay LM g c t τ2 → CC E mX12_isDigit [vi r1] τ2 (KI (fun r3 τ4 => Lay LM g c t τ4 ∧ (inR r3 → ((r3 = 0 → ((x2 = 0 → (Lay LM g c t τ4 → GG E mX12_number 134 [some (vr 172), some (vi x1), none, some (vi x3), some (vi x4)] [] τ4 rc rs Q)) ∧ (¬ (x2 = 0) → inR (-x4) ∧ (Lay LM g c t τ4 → GG E mX12_number 134 [some (vr 172), some (vi x1), none, some (vi x3), some (vi (-x4))] [] τ4 rc rs Q)))) ∧ (¬ (r3 = 0) → inR (10 * x4) ∧ (Lay LM g c t τ4 → CC E mX12_byteAt [vr 172, vi (gI τ4 172 4)] τ4 (KI (fun r7 τ8 => Lay LM g c t τ8 ∧ (inR r7 → inR ((10 * x4) + r7) ∧ inR (((10 * x4) + r7) - 48) ∧ (Lay LM g c t τ8 → CC E mX12_less [vi 100000, vi (((10 * x4) + r7) - 48)] τ8 (KI (fun r11 τ12 => Lay LM g c t τ12 ∧ (inR r11 → inR ((gI τ12 172 4) + 1) ∧ ∀ τ14 : Sg, τ14 = sI τ12 172 4 ((gI τ12 172 4) + 1) → (Lay LM g c t τ14 → GG E mX12_number 74 [some (vr 172), some (vi x1), some (vi x2), some (vi x3), some (vi r11)] [] τ14 rc rs Q))) (fun _ _ => False))))) (fun _ _ => False))))))) (fun _ _ => False))))) (fun _ _ => False)))) : GG E mX12_number 74 [some (vr 172), some (vi x1), some (vi x2), some (vi x3), some (vi x4)] [] σ rc rs Q := by
  refine r_aload_n (pc := 74) dX12_number_74 rfl rfl ?_
  refine r_aload_n (pc := 75) dX12_number_75 rfl rfl ?_
  refine r_getI (pc := 76) dX12_number_76 (k9 := 4) CL_12 (by decide) (by decide) w_1419 rfl (okO_of (N := 42) (hL.sh (i := 0) rfl (by decide) (by decide)) (by decide)) (fun _ => ?_)
  refine c_VI0N (M := mX12_number) (pc := 79) (As := [vi (gI σ 172 4)]) dX12_number_79 K_X12_byteAt w_1570 ⟨by decide, by decide⟩ (Nat.le_of_ble_eq_true rfl) rfl rfl (ci := 12) rfl rfl (by decide) (okO_of (N := 42) (hL.sh (i := 0) rfl (by decide) (by decide)) (by decide)) (h hL) (fun r1 τ2 h8 hr9 => ?_) rfl
  replace hL := h8.1
  replace h := h8.2 hr9
  refine c_SI0N (M := mX12_number) (pc := 82) (As := [vi r1]) dX12_number_82 K_X12_isDigit w_1596 ⟨by decide, by decide⟩ (Nat.le_of_ble_eq_true rfl) rfl rfl (h hL) (fun r3 τ4 h8 hr9 => ?_) rfl
  replace hL := h8.1
  replace h := h8.2 hr9
  refine r_if_eq (pc := 85) (tgt := 125) dX12_number_85 (by decide) (fun c9 => ?_) (fun c9 => ?_)
  · replace h := h.1 c9
    refine r_iload_n (pc := 125) dX12_number_125 rfl rfl ?_
    refine r_if_eq (pc := 126) (tgt := 134) dX12_number_126 (by decide) (fun c9 => ?_) (fun c9 => ?_)
    · replace h := h.1 c9
      exact GG.msk [true, true, false, true, true] (h hL)
    · replace h := h.2 c9
      refine r_iload (pc := 129) dX12_number_129 rfl ?_
      obtain ⟨o5, h⟩ := h
      refine r_ineg (pc := 131) dX12_number_131 o5 ?_
      refine r_istore (pc := 132) dX12_number_132 (by decide) (l2 := [some (vr 172), some (vi x1), some (vi x2), some (vi x3), some (vi (-x4))]) rfl ?_
      exact GG.msk [true, true, false, true, true] (h hL)
  · replace h := h.2 c9
    refine r_ldcI (pc := 88) dX12_number_88 w_1599 ?_
    change GG _ _ _ _ (vi 100000 :: _) _ _ _ _
    refine r_bipush (pc := 90) dX12_number_90 (by decide) ?_
    refine r_iload (pc := 92) dX12_number_92 rfl ?_
    obtain ⟨o6, h⟩ := h
    refine r_imul (pc := 94) dX12_number_94 o6 ?_
    refine r_aload_n (pc := 95) dX12_number_95 rfl rfl ?_
    refine r_aload_n (pc := 96) dX12_number_96 rfl rfl ?_
    refine r_getI (pc := 97) dX12_number_97 (k9 := 4) CL_12 (by decide) (by decide) w_1419 rfl (okO_of (N := 42) (hL.sh (i := 0) rfl (by decide) (by decide)) (by decide)) (fun _ => ?_)
    refine c_VI0N (M := mX12_number) (pc := 100) (As := [vi (gI τ4 172 4)]) dX12_number_100 K_X12_byteAt w_1570 ⟨by decide, by decide⟩ (Nat.le_of_ble_eq_true rfl) rfl rfl (ci := 12) rfl rfl (by decide) (okO_of (N := 42) (hL.sh (i := 0) rfl (by decide) (by decide)) (by decide)) (h hL) (fun r7 τ8 h8 hr9 => ?_) rfl
    replace hL := h8.1
    replace h := h8.2 hr9
    obtain ⟨o9, h⟩ := h
    refine r_iadd (pc := 103) dX12_number_103 o9 ?_
    refine r_bipush (pc := 104) dX12_number_104 (by decide) ?_
    obtain ⟨o10, h⟩ := h
    refine r_isub (pc := 106) dX12_number_106 o10 ?_
    refine c_SI0N (M := mX12_number) (pc := 107) (As := [vi 100000, vi (((10 * x4) + r7) - 48)]) dX12_number_107 K_X12_less w_1600 ⟨by decide, by decide⟩ (Nat.le_of_ble_eq_true rfl) rfl rfl (h hL) (fun r11 τ12 h8 hr9 => ?_) rfl
    replace hL := h8.1
    replace h := h8.2 hr9
    refine r_istore (pc := 110) dX12_number_110 (by decide) (l2 := [some (vr 172), some (vi x1), some (vi x2), some (vi x3), some (vi r11)]) rfl ?_
    refine r_aload_n (pc := 112) dX12_number_112 rfl rfl ?_
    refine r_dup (pc := 113) dX12_number_113 (fun _ h9 => nomatch h9) ?_
    refine r_getI (pc := 114) dX12_number_114 (k9 := 4) CL_12 (by decide) (by decide) w_1419 rfl (okO_of (N := 42) (hL.sh (i := 0) rfl (by decide) (by decide)) (by decide)) (fun _ => ?_)
    refine r_iconst (pc := 117) dX12_number_117 (inRk rfl) ?_
    obtain ⟨o13, h⟩ := h
    refine r_iadd (pc := 118) dX12_number_118 o13 ?_
    refine r_putI (pc := 119) dX12_number_119 (k9 := 4) CL_12 (by decide) (by decide) w_1419 rfl rfl (fun h9 => absurd h9 (by decide +kernel)) (okO_of (N := 42) (hL.sh (i := 0) rfl (by decide) (by decide)) (by decide)) ?_
    refine nmS (fun τ14 e14 => ?_)
    replace h := h τ14 e14
    have hL := hL.wI e14 (by decide) (.inl (by decide))
    refine r_goto (pc := 122) (tgt := 74) dX12_number_122 (by decide) ?_
    exact (h hL)
theorem B_X12_number_134 {g : Sg} {c t : Nat} (hL : Lay LM g c t σ) {x1 : Int} {x3 : Int} {x4 : Int} (h : ((x1 = 0 → ((x4 = 2 → (Lay LM g c t σ → CC E mX12_fine [vr 172] σ (KI (fun r1 τ2 => Lay LM g c t τ2 ∧ (inR r1 → ((r1 = 0 → (Lay LM g c t τ2 → Q (.inl (some (vi 0))) τ2)) ∧ (¬ (r1 = 0) → (Lay LM g c t τ2 → Q (.inl (some (vi x4))) τ2))))) (fun _ _ => False)))) ∧ (¬ (x4 = 2) → ((x4 = 3 → (Lay LM g c t σ → CC E mX12_fine [vr 172] σ (KI (fun r3 τ4 => Lay LM g c t τ4 ∧ (inR r3 → ((r3 = 0 → (Lay LM g c t τ4 → Q (.inl (some (vi 0))) τ4)) ∧ (¬ (r3 = 0) → (Lay LM g c t τ4 → Q (.inl (some (vi x4))) τ4))))) (fun _ _ => False)))) ∧ (¬ (x4 = 3) → ((x4 = 5 → (Lay LM g c t σ → CC E mX12_fine [vr 172] σ (KI (fun r5 τ6 => Lay LM g c t τ6 ∧ (inR r5 → ((r5 = 0 → (Lay LM g c t τ6 → Q (.inl (some (vi 0))) τ6)) ∧ (¬ (r5 = 0) → (Lay LM g c t τ6 → Q (.inl (some (vi x4))) τ6))))) (fun _ _ => False)))) ∧ (¬ (x4 = 5) → (Lay LM g c t σ → CC E mX12_wrong [vr 172, vi 2, vi x3] σ (KV (fun τ8 => Lay LM g c t τ8 ∧ (Lay LM g c t τ8 → CC E mX12_fine [vr 172] τ8 (KI (fun r9 τ10 => Lay LM g c t τ10 ∧ (inR r9 → ((r9 = 0 → (Lay LM g c t τ10 → Q (.inl (some (vi 0))) τ10)) ∧ (¬ (r9 = 0) → (Lay LM g c t τ10 → Q (.inl (some (vi x4))) τ10))))) (fun _ _ => False)))) (fun _ _ => False)))))))))) ∧ (¬ (x1 = 0) → (Lay LM g c t σ → CC E mX12_in [vi x4, vi (-4), vi 4] σ (KI (fun r11 τ12 => Lay LM g c t τ12 ∧ (inR r11 → ((r11 ≠ 0 → (Lay LM g c t τ12 → CC E mX12_fine [vr 172] τ12 (KI (fun r13 τ14 => Lay LM g c t τ14 ∧ (inR r13 → ((r13 = 0 → (Lay LM g c t τ14 → Q (.inl (some (vi 0))) τ14)) ∧ (¬ (r13 = 0) → (Lay LM g c t τ14 → Q (.inl (some (vi x4))) τ14))))) (fun _ _ => False)))) ∧ (r11 = 0 → (Lay LM g c t τ12 → CC E mX12_wrong [vr 172, vi 2, vi x3] τ12 (KV (fun τ16 => Lay LM g c t τ16 ∧ (Lay LM g c t τ16 → CC E mX12_fine [vr 172] τ16 (KI (fun r17 τ18 => Lay LM g c t τ18 ∧ (inR r17 → ((r17 = 0 → (Lay LM g c t τ18 → Q (.inl (some (vi 0))) τ18)) ∧ (¬ (r17 = 0) → (Lay LM g c t τ18 → Q (.inl (some (vi x4))) τ18))))) (fun _ _ => False)))) (fun _ _ => False))))))) (fun _ _ => False)))))) : GG E mX12_number 134 [some (vr 172), some (vi x1), none, some (vi x3), some (vi x4)] [] σ rc rs Q := by
  refine r_iload_n (pc := 134) dX12_number_134 rfl rfl ?_
  refine r_if_eq (pc := 135) (tgt := 152) dX12_number_135 (by decide) (fun c9 => ?_) (fun c9 => ?_)
  · replace h := h.1 c9
    refine r_iload (pc := 152) dX12_number_152 rfl ?_
    refine r_iconst (pc := 154) dX12_number_154 (inRk rfl) ?_
    refine r_icmp_eq (pc := 155) (tgt := 176) dX12_number_155 (by decide) (fun c9 => ?_) (fun c9 => ?_)
    · replace h := h.1 c9
      refine r_aload_n (pc := 176) dX12_number_176 rfl rfl ?_
      refine c_VI0N (M := mX12_number) (pc := 177) (As := []) dX12_number_177 K_X12_fine w_1579 ⟨by decide, by decide⟩ (Nat.le_of_ble_eq_true rfl) rfl rfl (ci := 12) rfl rfl (by decide) (okO_of (N := 42) (hL.sh (i := 0) rfl (by decide) (by decide)) (by decide)) (h hL) (fun r1 τ2 h8 hr9 => ?_) rfl
      replace hL := h8.1
      replace h := h8.2 hr9
      refine r_if_eq (pc := 180) (tgt := 188) dX12_number_180 (by decide) (fun c9 => ?_) (fun c9 => ?_)
      · replace h := h.1 c9
        refine r_iconst (pc := 188) dX12_number_188 (inRk rfl) ?_
        exact r_ireturn (pc := 189) (ty := .int) dX12_number_189 (by decide +kernel) rfl (nar_i _) (h hL)
      · replace h := h.2 c9
        refine r_iload (pc := 183) dX12_number_183 rfl ?_
        refine r_goto (pc := 185) (tgt := 189) dX12_number_185 (by decide) ?_
        exact r_ireturn (pc := 189) (ty := .int) dX12_number_189 (by decide +kernel) rfl (nar_i _) (h hL)
    · replace h := h.2 c9
      refine r_iload (pc := 158) dX12_number_158 rfl ?_
      refine r_iconst (pc := 160) dX12_number_160 (inRk rfl) ?_
      refine r_icmp_eq (pc := 161) (tgt := 176) dX12_number_161 (by decide) (fun c9 => ?_) (fun c9 => ?_)
      · replace h := h.1 c9
        refine r_aload_n (pc := 176) dX12_number_176 rfl rfl ?_
        refine c_VI0N (M := mX12_number) (pc := 177) (As := []) dX12_number_177 K_X12_fine w_1579 ⟨by decide, by decide⟩ (Nat.le_of_ble_eq_true rfl) rfl rfl (ci := 12) rfl rfl (by decide) (okO_of (N := 42) (hL.sh (i := 0) rfl (by decide) (by decide)) (by decide)) (h hL) (fun r3 τ4 h8 hr9 => ?_) rfl
        replace hL := h8.1
        replace h := h8.2 hr9
        refine r_if_eq (pc := 180) (tgt := 188) dX12_number_180 (by decide) (fun c9 => ?_) (fun c9 => ?_)
        · replace h := h.1 c9
          refine r_iconst (pc := 188) dX12_number_188 (inRk rfl) ?_
          exact r_ireturn (pc := 189) (ty := .int) dX12_number_189 (by decide +kernel) rfl (nar_i _) (h hL)
        · replace h := h.2 c9
          refine r_iload (pc := 183) dX12_number_183 rfl ?_
          refine r_goto (pc := 185) (tgt := 189) dX12_number_185 (by decide) ?_
          exact r_ireturn (pc := 189) (ty := .int) dX12_number_189 (by decide +kernel) rfl (nar_i _) (h hL)
      · replace h := h.2 c9
        refine r_iload (pc := 164) dX12_number_164 rfl ?_
        refine r_iconst (pc := 166) dX12_number_166 (inRk rfl) ?_
        refine r_icmp_eq (pc := 167) (tgt := 176) dX12_number_167 (by decide) (fun c9 => ?_) (fun c9 => ?_)
        · replace h := h.1 c9
          refine r_aload_n (pc := 176) dX12_number_176 rfl rfl ?_
          refine c_VI0N (M := mX12_number) (pc := 177) (As := []) dX12_number_177 K_X12_fine w_1579 ⟨by decide, by decide⟩ (Nat.le_of_ble_eq_true rfl) rfl rfl (ci := 12) rfl rfl (by decide) (okO_of (N := 42) (hL.sh (i := 0) rfl (by decide) (by decide)) (by decide)) (h hL) (fun r5 τ6 h8 hr9 => ?_) rfl
          replace hL := h8.1
          replace h := h8.2 hr9
          refine r_if_eq (pc := 180) (tgt := 188) dX12_number_180 (by decide) (fun c9 => ?_) (fun c9 => ?_)
          · replace h := h.1 c9
            refine r_iconst (pc := 188) dX12_number_188 (inRk rfl) ?_
            exact r_ireturn (pc := 189) (ty := .int) dX12_number_189 (by decide +kernel) rfl (nar_i _) (h hL)
          · replace h := h.2 c9
            refine r_iload (pc := 183) dX12_number_183 rfl ?_
            refine r_goto (pc := 185) (tgt := 189) dX12_number_185 (by decide) ?_
            exact r_ireturn (pc := 189) (ty := .int) dX12_number_189 (by decide +kernel) rfl (nar_i _) (h hL)
        · replace h := h.2 c9
          refine r_aload_n (pc := 170) dX12_number_170 rfl rfl ?_
          refine r_iconst (pc := 171) dX12_number_171 (inRk rfl) ?_
          refine r_iload_n (pc := 172) dX12_number_172 rfl rfl ?_
          refine c_VV0N (M := mX12_number) (pc := 173) (As := [vi 2, vi x3]) dX12_number_173 K_X12_wrong w_1588 ⟨by decide, by decide⟩ (Nat.le_of_ble_eq_true rfl) rfl rfl (ci := 12) rfl rfl (by decide) (okO_of (N := 42) (hL.sh (i := 0) rfl (by decide) (by decide)) (by decide)) (h hL) (fun τ8 h8 => ?_) rfl
          replace hL := h8.1
          replace h := h8.2
          refine r_aload_n (pc := 176) dX12_number_176 rfl rfl ?_
          refine c_VI0N (M := mX12_number) (pc := 177) (As := []) dX12_number_177 K_X12_fine w_1579 ⟨by decide, by decide⟩ (Nat.le_of_ble_eq_true rfl) rfl rfl (ci := 12) rfl rfl (by decide) (okO_of (N := 42) (hL.sh (i := 0) rfl (by decide) (by decide)) (by decide)) (h hL) (fun r9 τ10 h8 hr9 => ?_) rfl
          replace hL := h8.1
          replace h := h8.2 hr9
          refine r_if_eq (pc := 180) (tgt := 188) dX12_number_180 (by decide) (fun c9 => ?_) (fun c9 => ?_)
          · replace h := h.1 c9
            refine r_iconst (pc := 188) dX12_number_188 (inRk rfl) ?_
            exact r_ireturn (pc := 189) (ty := .int) dX12_number_189 (by decide +kernel) rfl (nar_i _) (h hL)
          · replace h := h.2 c9
            refine r_iload (pc := 183) dX12_number_183 rfl ?_
            refine r_goto (pc := 185) (tgt := 189) dX12_number_185 (by decide) ?_
            exact r_ireturn (pc := 189) (ty := .int) dX12_number_189 (by decide +kernel) rfl (nar_i _) (h hL)
  · replace h := h.2 c9
    refine r_iload (pc := 138) dX12_number_138 rfl ?_
    refine r_bipush (pc := 140) dX12_number_140 (by decide) ?_
    refine r_iconst (pc := 142) dX12_number_142 (inRk rfl) ?_
    refine c_SI0N (M := mX12_number) (pc := 143) (As := [vi x4, vi (-4), vi 4]) dX12_number_143 K_X12_in w_1559 ⟨by decide, by decide⟩ (Nat.le_of_ble_eq_true rfl) rfl rfl (h hL) (fun r11 τ12 h8 hr9 => ?_) rfl
    replace hL := h8.1
    replace h := h8.2 hr9
    refine r_if_ne (pc := 146) (tgt := 176) dX12_number_146 (by decide) (fun c9 => ?_) (fun c9 => ?_)
    · replace h := h.1 c9
      refine r_aload_n (pc := 176) dX12_number_176 rfl rfl ?_
      refine c_VI0N (M := mX12_number) (pc := 177) (As := []) dX12_number_177 K_X12_fine w_1579 ⟨by decide, by decide⟩ (Nat.le_of_ble_eq_true rfl) rfl rfl (ci := 12) rfl rfl (by decide) (okO_of (N := 42) (hL.sh (i := 0) rfl (by decide) (by decide)) (by decide)) (h hL) (fun r13 τ14 h8 hr9 => ?_) rfl
      replace hL := h8.1
      replace h := h8.2 hr9
      refine r_if_eq (pc := 180) (tgt := 188) dX12_number_180 (by decide) (fun c9 => ?_) (fun c9 => ?_)
      · replace h := h.1 c9
        refine r_iconst (pc := 188) dX12_number_188 (inRk rfl) ?_
        exact r_ireturn (pc := 189) (ty := .int) dX12_number_189 (by decide +kernel) rfl (nar_i _) (h hL)
      · replace h := h.2 c9
        refine r_iload (pc := 183) dX12_number_183 rfl ?_
        refine r_goto (pc := 185) (tgt := 189) dX12_number_185 (by decide) ?_
        exact r_ireturn (pc := 189) (ty := .int) dX12_number_189 (by decide +kernel) rfl (nar_i _) (h hL)
    · replace h := h.2 c9
      refine r_goto (pc := 149) (tgt := 170) dX12_number_149 (by decide) ?_
      refine r_aload_n (pc := 170) dX12_number_170 rfl rfl ?_
      refine r_iconst (pc := 171) dX12_number_171 (inRk rfl) ?_
      refine r_iload_n (pc := 172) dX12_number_172 rfl rfl ?_
      refine c_VV0N (M := mX12_number) (pc := 173) (As := [vi 2, vi x3]) dX12_number_173 K_X12_wrong w_1588 ⟨by decide, by decide⟩ (Nat.le_of_ble_eq_true rfl) rfl rfl (ci := 12) rfl rfl (by decide) (okO_of (N := 42) (hL.sh (i := 0) rfl (by decide) (by decide)) (by decide)) (h hL) (fun τ16 h8 => ?_) rfl
      replace hL := h8.1
      replace h := h8.2
      refine r_aload_n (pc := 176) dX12_number_176 rfl rfl ?_
      refine c_VI0N (M := mX12_number) (pc := 177) (As := []) dX12_number_177 K_X12_fine w_1579 ⟨by decide, by decide⟩ (Nat.le_of_ble_eq_true rfl) rfl rfl (ci := 12) rfl rfl (by decide) (okO_of (N := 42) (hL.sh (i := 0) rfl (by decide) (by decide)) (by decide)) (h hL) (fun r17 τ18 h8 hr9 => ?_) rfl
      replace hL := h8.1
      replace h := h8.2 hr9
      refine r_if_eq (pc := 180) (tgt := 188) dX12_number_180 (by decide) (fun c9 => ?_) (fun c9 => ?_)
      · replace h := h.1 c9
        refine r_iconst (pc := 188) dX12_number_188 (inRk rfl) ?_
        exact r_ireturn (pc := 189) (ty := .int) dX12_number_189 (by decide +kernel) rfl (nar_i _) (h hL)
      · replace h := h.2 c9
        refine r_iload (pc := 183) dX12_number_183 rfl ?_
        refine r_goto (pc := 185) (tgt := 189) dX12_number_185 (by decide) ?_
        exact r_ireturn (pc := 189) (ty := .int) dX12_number_189 (by decide +kernel) rfl (nar_i _) (h hL)
theorem C_X12_number {a0 : Nat} {x1 : Int} (h : GG E mX12_number 0 [some (vr a0), some (vi x1), none, none, none] [] σ 0 0 Q) : CC E mX12_number [vr a0, vi x1] σ Q := CC.of (by decide +kernel) rfl (by decide +kernel) (fun h9 => nomatch h9) (Nat.le_of_ble_eq_true rfl) h
theorem dX12_of_0 : decode cX12_of 0 = .ok (.aload_n 0, 1) := by decide +kernel
theorem dX12_of_1 : decode cX12_of 1 = .ok (.iconst 0, 1) := by decide +kernel
theorem dX12_of_2 : decode cX12_of 2 = .ok (.putfield 99, 3) := by decide +kernel
theorem dX12_of_5 : decode cX12_of 5 = .ok (.aload_n 0, 1) := by decide +kernel
theorem dX12_of_6 : decode cX12_of 6 = .ok (.aload_n 0, 1) := by decide +kernel
theorem dX12_of_7 : decode cX12_of 7 = .ok (.iload_n 1, 1) := by decide +kernel
theorem dX12_of_8 : decode cX12_of 8 = .ok (.invokevirtual 335, 3) := by decide +kernel
theorem dX12_of_11 : decode cX12_of 11 = .ok (.ifCond .ne 7, 3) := by decide +kernel
theorem dX12_of_14 : decode cX12_of 14 = .ok (.iconst 1, 1) := by decide +kernel
theorem dX12_of_15 : decode cX12_of 15 = .ok (.goto 4, 3) := by decide +kernel
theorem dX12_of_18 : decode cX12_of 18 = .ok (.iconst 0, 1) := by decide +kernel
theorem dX12_of_19 : decode cX12_of 19 = .ok (.iconst 1, 1) := by decide +kernel
theorem dX12_of_20 : decode cX12_of 20 = .ok (.iconst 0, 1) := by decide +kernel
theorem dX12_of_21 : decode cX12_of 21 = .ok (.invokevirtual 177, 3) := by decide +kernel
theorem dX12_of_24 : decode cX12_of 24 = .ok (.ifCond .ne 27, 3) := by decide +kernel
theorem dX12_of_27 : decode cX12_of 27 = .ok (.aload_n 0, 1) := by decide +kernel
theorem dX12_of_28 : decode cX12_of 28 = .ok (.iload_n 2, 1) := by decide +kernel
theorem dX12_of_29 : decode cX12_of 29 = .ok (.iconst 0, 1) := by decide +kernel
theorem dX12_of_30 : decode cX12_of 30 = .ok (.bipush 6, 2) := by decide +kernel
theorem dX12_of_32 : decode cX12_of 32 = .ok (.invokestatic 141, 3) := by decide +kernel
theorem dX12_of_35 : decode cX12_of 35 = .ok (.ifCond .ne 7, 3) := by decide +kernel
theorem dX12_of_38 : decode cX12_of 38 = .ok (.iconst 1, 1) := by decide +kernel
theorem dX12_of_39 : decode cX12_of 39 = .ok (.goto 4, 3) := by decide +kernel
theorem dX12_of_42 : decode cX12_of 42 = .ok (.iconst 0, 1) := by decide +kernel
theorem dX12_of_43 : decode cX12_of 43 = .ok (.iconst 2, 1) := by decide +kernel
theorem dX12_of_44 : decode cX12_of 44 = .ok (.iconst 1, 1) := by decide +kernel
theorem dX12_of_45 : decode cX12_of 45 = .ok (.invokevirtual 177, 3) := by decide +kernel
theorem dX12_of_48 : decode cX12_of 48 = .ok (.ifCond .eq 5, 3) := by decide +kernel
theorem dX12_of_51 : decode cX12_of 51 = .ok (.iconst 0, 1) := by decide +kernel
theorem dX12_of_52 : decode cX12_of 52 = .ok (.ireturn, 1) := by decide +kernel
theorem dX12_of_53 : decode cX12_of 53 = .ok (.iload_n 2, 1) := by decide +kernel
theorem dX12_of_54 : decode cX12_of 54 = .ok (.tableswitch 83 0 4 #[34, 41, 48, 60, 77], 34) := by decide +kernel
theorem dX12_of_88 : decode cX12_of 88 = .ok (.aload_n 0, 1) := by decide +kernel
theorem dX12_of_89 : decode cX12_of 89 = .ok (.getfield 52, 3) := by decide +kernel
theorem dX12_of_92 : decode cX12_of 92 = .ok (.iload_n 1, 1) := by decide +kernel
theorem dX12_of_93 : decode cX12_of 93 = .ok (.iaload, 1) := by decide +kernel
theorem dX12_of_94 : decode cX12_of 94 = .ok (.ireturn, 1) := by decide +kernel
theorem dX12_of_95 : decode cX12_of 95 = .ok (.aload_n 0, 1) := by decide +kernel
theorem dX12_of_96 : decode cX12_of 96 = .ok (.getfield 49, 3) := by decide +kernel
theorem dX12_of_99 : decode cX12_of 99 = .ok (.iload_n 1, 1) := by decide +kernel
theorem dX12_of_100 : decode cX12_of 100 = .ok (.iaload, 1) := by decide +kernel
theorem dX12_of_101 : decode cX12_of 101 = .ok (.ireturn, 1) := by decide +kernel
theorem dX12_of_102 : decode cX12_of 102 = .ok (.aload_n 0, 1) := by decide +kernel
theorem dX12_of_103 : decode cX12_of 103 = .ok (.getfield 40, 3) := by decide +kernel
theorem dX12_of_106 : decode cX12_of 106 = .ok (.aload_n 0, 1) := by decide +kernel
theorem dX12_of_107 : decode cX12_of 107 = .ok (.getfield 49, 3) := by decide +kernel
theorem dX12_of_110 : decode cX12_of 110 = .ok (.iload_n 1, 1) := by decide +kernel
theorem dX12_of_111 : decode cX12_of 111 = .ok (.iaload, 1) := by decide +kernel
theorem dX12_of_112 : decode cX12_of 112 = .ok (.iaload, 1) := by decide +kernel
theorem dX12_of_113 : decode cX12_of 113 = .ok (.ireturn, 1) := by decide +kernel
theorem dX12_of_114 : decode cX12_of 114 = .ok (.aload_n 0, 1) := by decide +kernel
theorem dX12_of_115 : decode cX12_of 115 = .ok (.getfield 46, 3) := by decide +kernel
theorem dX12_of_118 : decode cX12_of 118 = .ok (.aload_n 0, 1) := by decide +kernel
theorem dX12_of_119 : decode cX12_of 119 = .ok (.getfield 43, 3) := by decide +kernel
theorem dX12_of_122 : decode cX12_of 122 = .ok (.aload_n 0, 1) := by decide +kernel
theorem dX12_of_123 : decode cX12_of 123 = .ok (.getfield 49, 3) := by decide +kernel
theorem dX12_of_126 : decode cX12_of 126 = .ok (.iload_n 1, 1) := by decide +kernel
theorem dX12_of_127 : decode cX12_of 127 = .ok (.iaload, 1) := by decide +kernel
theorem dX12_of_128 : decode cX12_of 128 = .ok (.iaload, 1) := by decide +kernel
theorem dX12_of_129 : decode cX12_of 129 = .ok (.iaload, 1) := by decide +kernel
theorem dX12_of_130 : decode cX12_of 130 = .ok (.ireturn, 1) := by decide +kernel
theorem dX12_of_131 : decode cX12_of 131 = .ok (.aload_n 0, 1) := by decide +kernel
theorem dX12_of_132 : decode cX12_of 132 = .ok (.iload_n 1, 1) := by decide +kernel
theorem dX12_of_133 : decode cX12_of 133 = .ok (.invokevirtual 290, 3) := by decide +kernel
theorem dX12_of_136 : decode cX12_of 136 = .ok (.ireturn, 1) := by decide +kernel
theorem dX12_of_137 : decode cX12_of 137 = .ok (.aload_n 0, 1) := by decide +kernel
theorem dX12_of_138 : decode cX12_of 138 = .ok (.getfield 34, 3) := by decide +kernel
theorem dX12_of_141 : decode cX12_of 141 = .ok (.aload_n 0, 1) := by decide +kernel
theorem dX12_of_142 : decode cX12_of 142 = .ok (.getfield 49, 3) := by decide +kernel
theorem dX12_of_145 : decode cX12_of 145 = .ok (.iload_n 1, 1) := by decide +kernel
theorem dX12_of_146 : decode cX12_of 146 = .ok (.iaload, 1) := by decide +kernel
theorem dX12_of_147 : decode cX12_of 147 = .ok (.aaload, 1) := by decide +kernel
theorem dX12_of_148 : decode cX12_of 148 = .ok (.iload_n 2, 1) := by decide +kernel
theorem dX12_of_149 : decode cX12_of 149 = .ok (.iconst 5, 1) := by decide +kernel
theorem dX12_of_150 : decode cX12_of 150 = .ok (.isub, 1) := by decide +kernel
theorem dX12_of_151 : decode cX12_of 151 = .ok (.iaload, 1) := by decide +kernel
theorem dX12_of_152 : decode cX12_of 152 = .ok (.ireturn, 1) := by decide +kernel
theorem B_X12_of_0 {g : Sg} {c t : Nat} (hL : Lay LM g c t σ) {x1 : Int} {x2 : Int} (h : ∀ τ1 : Sg, τ1 = sI σ 172 0 0 → (Lay LM g c t τ1 → CC E mX12_isClass [vr 172, vi x1] τ1 (KI (fun r2 τ3 => Lay LM g c t τ3 ∧ (inR r2 → ((r2 ≠ 0 → (Lay LM g c t τ3 → CC E mX12_bad [vr 172, vi 0, vi 1, vi 0] τ3 (KI (fun r4 τ5 => Lay LM g c t τ5 ∧ (inR r4 → ((r4 ≠ 0 → (Lay LM g c t τ5 → GG E mX12_of 51 [none, none, none] [] τ5 rc rs Q)) ∧ (r4 = 0 → (Lay LM g c t τ5 → CC E mX12_in [vi x2, vi 0, vi 6] τ5 (KI (fun r6 τ7 => Lay LM g c t τ7 ∧ (inR r6 → ((r6 ≠ 0 → (Lay LM g c t τ7 → CC E mX12_bad [vr 172, vi 0, vi 2, vi 1] τ7 (KI (fun r8 τ9 => Lay LM g c t τ9 ∧ (inR r8 → ((r8 = 0 → (Lay LM g c t τ9 → GG E mX12_of 53 [some (vr 172), some (vi x1), some (vi x2)] [] τ9 rc rs Q)) ∧ (¬ (r8 = 0) → (Lay LM g c t τ9 → GG E mX12_of 51 [none, none, none] [] τ9 rc rs Q))))) (fun _ _ => False)))) ∧ (r6 = 0 → (Lay LM g c t τ7 → CC E mX12_bad [vr 172, vi 1, vi 2, vi 1] τ7 (KI (fun r10 τ11 => Lay LM g c t τ11 ∧ (inR r10 → ((r10 = 0 → (Lay LM g c t τ11 → GG E mX12_of 53 [some (vr 172), some (vi x1), some (vi x2)] [] τ11 rc rs Q)) ∧ (¬ (r10 = 0) → (Lay LM g c t τ11 → GG E mX12_of 51 [none, none, none] [] τ11 rc rs Q))))) (fun _ _ => False))))))) (fun _ _ => False))))))) (fun _ _ => False)))) ∧ (r2 = 0 → (Lay LM g c t τ3 → CC E mX12_bad [vr 172, vi 1, vi 1, vi 0] τ3 (KI (fun r12 τ13 => Lay LM g c t τ13 ∧ (inR r12 → ((r12 ≠ 0 → (Lay LM g c t τ13 → GG E mX12_of 51 [none, none, none] [] τ13 rc rs Q)) ∧ (r12 = 0 → (Lay LM g c t τ13 → CC E mX12_in [vi x2, vi 0, vi 6] τ13 (KI (fun r14 τ15 => Lay LM g c t τ15 ∧ (inR r14 → ((r14 ≠ 0 → (Lay LM g c t τ15 → CC E mX12_bad [vr 172, vi 0, vi 2, vi 1] τ15 (KI (fun r16 τ17 => Lay LM g c t τ17 ∧ (inR r16 → ((r16 = 0 → (Lay LM g c t τ17 → GG E mX12_of 53 [some (vr 172), some (vi x1), some (vi x2)] [] τ17 rc rs Q)) ∧ (¬ (r16 = 0) → (Lay LM g c t τ17 → GG E mX12_of 51 [none, none, none] [] τ17 rc rs Q))))) (fun _ _ => False)))) ∧ (r14 = 0 → (Lay LM g c t τ15 → CC E mX12_bad [vr 172, vi 1, vi 2, vi 1] τ15 (KI (fun r18 τ19 => Lay LM g c t τ19 ∧ (inR r18 → ((r18 = 0 → (Lay LM g c t τ19 → GG E mX12_of 53 [some (vr 172), some (vi x1), some (vi x2)] [] τ19 rc rs Q)) ∧ (¬ (r18 = 0) → (Lay LM g c t τ19 → GG E mX12_of 51 [none, none, none] [] τ19 rc rs Q))))) (fun _ _ => False))))))) (fun _ _ => False))))))) (fun _ _ => False))))))) (fun _ _ => False)))) : GG E mX12_of 0 [some (vr 172), some (vi x1), some (vi x2)] [] σ rc rs Q := by
  refine r_aload_n (pc := 0) dX12_of_0 rfl rfl ?_
  refine r_iconst (pc := 1) dX12_of_1 (inRk rfl) ?_
  refine r_putI (pc := 2) dX12_of_2 (k9 := 0) CL_12 (by decide) (by decide) w_1415 rfl rfl (fun h9 => absurd h9 (by decide +kernel)) (okO_of (N := 42) (hL.sh (i := 0) rfl (by decide) (by decide)) (by decide)) ?_
  refine nmS (fun τ1 e1 => ?_)
  replace h := h τ1 e1
  have hL := hL.wI e1 (by decide) (.inl (by decide))
  refine r_aload_n (pc := 5) dX12_of_5 rfl rfl ?_
  refine r_aload_n (pc := 6) dX12_of_6 rfl rfl ?_
  refine r_iload_n (pc := 7) dX12_of_7 rfl rfl ?_
  refine c_VI0N (M := mX12_of) (pc := 8) (As := [vi x1]) dX12_of_8 K_X12_isClass w_1766 ⟨by decide, by decide⟩ (Nat.le_of_ble_eq_true rfl) rfl rfl (ci := 12) rfl rfl (by decide) (okO_of (N := 42) (hL.sh (i := 0) rfl (by decide) (by decide)) (by decide)) (h hL) (fun r2 τ3 h8 hr9 => ?_) rfl
  replace hL := h8.1
  replace h := h8.2 hr9
  refine r_if_ne (pc := 11) (tgt := 18) dX12_of_11 (by decide) (fun c9 => ?_) (fun c9 => ?_)
  · replace h := h.1 c9
    refine r_iconst (pc := 18) dX12_of_18 (inRk rfl) ?_
    refine r_iconst (pc := 19) dX12_of_19 (inRk rfl) ?_
    refine r_iconst (pc := 20) dX12_of_20 (inRk rfl) ?_
    refine c_VI0N (M := mX12_of) (pc := 21) (As := [vi 0, vi 1, vi 0]) dX12_of_21 K_X12_bad w_1562 ⟨by decide, by decide⟩ (Nat.le_of_ble_eq_true rfl) rfl rfl (ci := 12) rfl rfl (by decide) (okO_of (N := 42) (hL.sh (i := 0) rfl (by decide) (by decide)) (by decide)) (h hL) (fun r4 τ5 h8 hr9 => ?_) rfl
    replace hL := h8.1
    replace h := h8.2 hr9
    refine r_if_ne (pc := 24) (tgt := 51) dX12_of_24 (by decide) (fun c9 => ?_) (fun c9 => ?_)
    · replace h := h.1 c9
      exact GG.msk [false, false, false] (h hL)
    · replace h := h.2 c9
      refine r_aload_n (pc := 27) dX12_of_27 rfl rfl ?_
      refine r_iload_n (pc := 28) dX12_of_28 rfl rfl ?_
      refine r_iconst (pc := 29) dX12_of_29 (inRk rfl) ?_
      refine r_bipush (pc := 30) dX12_of_30 (by decide) ?_
      refine c_SI0N (M := mX12_of) (pc := 32) (As := [vi x2, vi 0, vi 6]) dX12_of_32 K_X12_in w_1559 ⟨by decide, by decide⟩ (Nat.le_of_ble_eq_true rfl) rfl rfl (h hL) (fun r6 τ7 h8 hr9 => ?_) rfl
      replace hL := h8.1
      replace h := h8.2 hr9
      refine r_if_ne (pc := 35) (tgt := 42) dX12_of_35 (by decide) (fun c9 => ?_) (fun c9 => ?_)
      · replace h := h.1 c9
        refine r_iconst (pc := 42) dX12_of_42 (inRk rfl) ?_
        refine r_iconst (pc := 43) dX12_of_43 (inRk rfl) ?_
        refine r_iconst (pc := 44) dX12_of_44 (inRk rfl) ?_
        refine c_VI0N (M := mX12_of) (pc := 45) (As := [vi 0, vi 2, vi 1]) dX12_of_45 K_X12_bad w_1562 ⟨by decide, by decide⟩ (Nat.le_of_ble_eq_true rfl) rfl rfl (ci := 12) rfl rfl (by decide) (okO_of (N := 42) (hL.sh (i := 0) rfl (by decide) (by decide)) (by decide)) (h hL) (fun r8 τ9 h8 hr9 => ?_) rfl
        replace hL := h8.1
        replace h := h8.2 hr9
        refine r_if_eq (pc := 48) (tgt := 53) dX12_of_48 (by decide) (fun c9 => ?_) (fun c9 => ?_)
        · replace h := h.1 c9
          exact (h hL)
        · replace h := h.2 c9
          exact GG.msk [false, false, false] (h hL)
      · replace h := h.2 c9
        refine r_iconst (pc := 38) dX12_of_38 (inRk rfl) ?_
        refine r_goto (pc := 39) (tgt := 43) dX12_of_39 (by decide) ?_
        refine r_iconst (pc := 43) dX12_of_43 (inRk rfl) ?_
        refine r_iconst (pc := 44) dX12_of_44 (inRk rfl) ?_
        refine c_VI0N (M := mX12_of) (pc := 45) (As := [vi 1, vi 2, vi 1]) dX12_of_45 K_X12_bad w_1562 ⟨by decide, by decide⟩ (Nat.le_of_ble_eq_true rfl) rfl rfl (ci := 12) rfl rfl (by decide) (okO_of (N := 42) (hL.sh (i := 0) rfl (by decide) (by decide)) (by decide)) (h hL) (fun r10 τ11 h8 hr9 => ?_) rfl
        replace hL := h8.1
        replace h := h8.2 hr9
        refine r_if_eq (pc := 48) (tgt := 53) dX12_of_48 (by decide) (fun c9 => ?_) (fun c9 => ?_)
        · replace h := h.1 c9
          exact (h hL)
        · replace h := h.2 c9
          exact GG.msk [false, false, false] (h hL)
  · replace h := h.2 c9
    refine r_iconst (pc := 14) dX12_of_14 (inRk rfl) ?_
    refine r_goto (pc := 15) (tgt := 19) dX12_of_15 (by decide) ?_
    refine r_iconst (pc := 19) dX12_of_19 (inRk rfl) ?_
    refine r_iconst (pc := 20) dX12_of_20 (inRk rfl) ?_
    refine c_VI0N (M := mX12_of) (pc := 21) (As := [vi 1, vi 1, vi 0]) dX12_of_21 K_X12_bad w_1562 ⟨by decide, by decide⟩ (Nat.le_of_ble_eq_true rfl) rfl rfl (ci := 12) rfl rfl (by decide) (okO_of (N := 42) (hL.sh (i := 0) rfl (by decide) (by decide)) (by decide)) (h hL) (fun r12 τ13 h8 hr9 => ?_) rfl
    replace hL := h8.1
    replace h := h8.2 hr9
    refine r_if_ne (pc := 24) (tgt := 51) dX12_of_24 (by decide) (fun c9 => ?_) (fun c9 => ?_)
    · replace h := h.1 c9
      exact GG.msk [false, false, false] (h hL)
    · replace h := h.2 c9
      refine r_aload_n (pc := 27) dX12_of_27 rfl rfl ?_
      refine r_iload_n (pc := 28) dX12_of_28 rfl rfl ?_
      refine r_iconst (pc := 29) dX12_of_29 (inRk rfl) ?_
      refine r_bipush (pc := 30) dX12_of_30 (by decide) ?_
      refine c_SI0N (M := mX12_of) (pc := 32) (As := [vi x2, vi 0, vi 6]) dX12_of_32 K_X12_in w_1559 ⟨by decide, by decide⟩ (Nat.le_of_ble_eq_true rfl) rfl rfl (h hL) (fun r14 τ15 h8 hr9 => ?_) rfl
      replace hL := h8.1
      replace h := h8.2 hr9
      refine r_if_ne (pc := 35) (tgt := 42) dX12_of_35 (by decide) (fun c9 => ?_) (fun c9 => ?_)
      · replace h := h.1 c9
        refine r_iconst (pc := 42) dX12_of_42 (inRk rfl) ?_
        refine r_iconst (pc := 43) dX12_of_43 (inRk rfl) ?_
        refine r_iconst (pc := 44) dX12_of_44 (inRk rfl) ?_
        refine c_VI0N (M := mX12_of) (pc := 45) (As := [vi 0, vi 2, vi 1]) dX12_of_45 K_X12_bad w_1562 ⟨by decide, by decide⟩ (Nat.le_of_ble_eq_true rfl) rfl rfl (ci := 12) rfl rfl (by decide) (okO_of (N := 42) (hL.sh (i := 0) rfl (by decide) (by decide)) (by decide)) (h hL) (fun r16 τ17 h8 hr9 => ?_) rfl
        replace hL := h8.1
        replace h := h8.2 hr9
        refine r_if_eq (pc := 48) (tgt := 53) dX12_of_48 (by decide) (fun c9 => ?_) (fun c9 => ?_)
        · replace h := h.1 c9
          exact (h hL)
        · replace h := h.2 c9
          exact GG.msk [false, false, false] (h hL)
      · replace h := h.2 c9
        refine r_iconst (pc := 38) dX12_of_38 (inRk rfl) ?_
        refine r_goto (pc := 39) (tgt := 43) dX12_of_39 (by decide) ?_
        refine r_iconst (pc := 43) dX12_of_43 (inRk rfl) ?_
        refine r_iconst (pc := 44) dX12_of_44 (inRk rfl) ?_
        refine c_VI0N (M := mX12_of) (pc := 45) (As := [vi 1, vi 2, vi 1]) dX12_of_45 K_X12_bad w_1562 ⟨by decide, by decide⟩ (Nat.le_of_ble_eq_true rfl) rfl rfl (ci := 12) rfl rfl (by decide) (okO_of (N := 42) (hL.sh (i := 0) rfl (by decide) (by decide)) (by decide)) (h hL) (fun r18 τ19 h8 hr9 => ?_) rfl
        replace hL := h8.1
        replace h := h8.2 hr9
        refine r_if_eq (pc := 48) (tgt := 53) dX12_of_48 (by decide) (fun c9 => ?_) (fun c9 => ?_)
        · replace h := h.1 c9
          exact (h hL)
        · replace h := h.2 c9
          exact GG.msk [false, false, false] (h hL)
theorem B_X12_of_51 {g : Sg} {c t : Nat} (hL : Lay LM g c t σ)  (h : (Lay LM g c t σ → Q (.inl (some (vi 0))) σ)) : GG E mX12_of 51 [none, none, none] [] σ rc rs Q := by
  refine r_iconst (pc := 51) dX12_of_51 (inRk rfl) ?_
  exact r_ireturn (pc := 52) (ty := .int) dX12_of_52 (by decide +kernel) rfl (nar_i _) (h hL)
theorem B_X12_of_53 {g : Sg} {c t : Nat} (hL : Lay LM g c t σ) {x1 : Int} {x2 : Int} (h : ((x2 = 0 → (0 ≤ x1 ∧ x1 < 120) ∧ (Lay LM g c t σ → Q (.inl (some (vi (gI σ 555 x1.toNat)))) σ)) ∧ (x2 = 1 → (0 ≤ x1 ∧ x1 < 120) ∧ (Lay LM g c t σ → Q (.inl (some (vi (gI σ 554 x1.toNat)))) σ)) ∧ (x2 = 2 → (0 ≤ x1 ∧ x1 < 120) ∧ (0 ≤ (gI σ 554 x1.toNat) ∧ (gI σ 554 x1.toNat) < 120) ∧ (Lay LM g c t σ → Q (.inl (some (vi (gI σ 551 (gI σ 554 x1.toNat).toNat)))) σ)) ∧ (x2 = 3 → (0 ≤ x1 ∧ x1 < 120) ∧ (0 ≤ (gI σ 554 x1.toNat) ∧ (gI σ 554 x1.toNat) < 120) ∧ (0 ≤ (gI σ 552 (gI σ 554 x1.toNat).toNat) ∧ (gI σ 552 (gI σ 554 x1.toNat).toNat) < 120) ∧ (Lay LM g c t σ → Q (.inl (some (vi (gI σ 553 (gI σ 552 (gI σ 554 x1.toNat).toNat).toNat)))) σ)) ∧ (x2 = 4 → (Lay LM g c t σ → CC E mX12_natural [vr 172, vi x1] σ (KI (fun r8 τ9 => Lay LM g c t τ9 ∧ (inR r8 → (Lay LM g c t τ9 → Q (.inl (some (vi r8))) τ9))) (fun _ _ => False)))) ∧ ((x2 < 0 ∨ 4 < x2) → (0 ≤ x1 ∧ x1 < 120) ∧ (0 ≤ (gI σ 554 x1.toNat) ∧ (gI σ 554 x1.toNat) < 120) ∧ inR (x2 - 5) ∧ (0 ≤ (x2 - 5) ∧ (x2 - 5) < 8) ∧ (Lay LM g c t σ → Q (.inl (some (vi (gI σ (310 + (gI σ 554 x1.toNat).toNat) (x2 - 5).toNat)))) σ)))) : GG E mX12_of 53 [some (vr 172), some (vi x1), some (vi x2)] [] σ rc rs Q := by
  refine r_iload_n (pc := 53) dX12_of_53 rfl rfl ?_
  have c8 : x2 = 0 ∨ x2 = 1 ∨ x2 = 2 ∨ x2 = 3 ∨ x2 = 4 ∨ (x2 < 0 ∨ 4 < x2) := by omega
  rcases c8 with c9 | c9 | c9 | c9 | c9 | c9
  · replace h := h.1 c9
    refine r_tabE (pc := 54) (tgt := 88) dX12_of_54 c9 (by decide) (by decide) rfl (by decide) ?_
    refine r_aload_n (pc := 88) dX12_of_88 rfl rfl ?_
    refine r_getR (pc := 89) dX12_of_89 (k9 := 26) CL_12 (by decide) (by decide) w_1441 rfl (okO_of (N := 42) (hL.sh (i := 0) rfl (by decide) (by decide)) (by decide)) ?_
    refine eqR (y := 555) (hL.rf (i := 12) rfl) ?_
    refine r_iload_n (pc := 92) dX12_of_92 rfl rfl ?_
    obtain ⟨o1, h⟩ := h
    refine r_iaload (pc := 93) dX12_of_93 (okA_of (c := 20) (n := 120) (hL.sh (i := 17) rfl (by decide) (by decide)) (by decide) o1) ?_
    exact r_ireturn (pc := 94) (ty := .int) dX12_of_94 (by decide +kernel) rfl (nar_i _) (h hL)
  · replace h := h.2.1 c9
    refine r_tabE (pc := 54) (tgt := 95) dX12_of_54 c9 (by decide) (by decide) rfl (by decide) ?_
    refine r_aload_n (pc := 95) dX12_of_95 rfl rfl ?_
    refine r_getR (pc := 96) dX12_of_96 (k9 := 25) CL_12 (by decide) (by decide) w_1440 rfl (okO_of (N := 42) (hL.sh (i := 0) rfl (by decide) (by decide)) (by decide)) ?_
    refine eqR (y := 554) (hL.rf (i := 11) rfl) ?_
    refine r_iload_n (pc := 99) dX12_of_99 rfl rfl ?_
    obtain ⟨o2, h⟩ := h
    refine r_iaload (pc := 100) dX12_of_100 (okA_of (c := 20) (n := 120) (hL.sh (i := 16) rfl (by decide) (by decide)) (by decide) o2) ?_
    exact r_ireturn (pc := 101) (ty := .int) dX12_of_101 (by decide +kernel) rfl (nar_i _) (h hL)
  · replace h := h.2.2.1 c9
    refine r_tabE (pc := 54) (tgt := 102) dX12_of_54 c9 (by decide) (by decide) rfl (by decide) ?_
    refine r_aload_n (pc := 102) dX12_of_102 rfl rfl ?_
    refine r_getR (pc := 103) dX12_of_103 (k9 := 22) CL_12 (by decide) (by decide) w_1437 rfl (okO_of (N := 42) (hL.sh (i := 0) rfl (by decide) (by decide)) (by decide)) ?_
    refine eqR (y := 551) (hL.rf (i := 8) rfl) ?_
    refine r_aload_n (pc := 106) dX12_of_106 rfl rfl ?_
    refine r_getR (pc := 107) dX12_of_107 (k9 := 25) CL_12 (by decide) (by decide) w_1440 rfl (okO_of (N := 42) (hL.sh (i := 0) rfl (by decide) (by decide)) (by decide)) ?_
    refine eqR (y := 554) (hL.rf (i := 11) rfl) ?_
    refine r_iload_n (pc := 110) dX12_of_110 rfl rfl ?_
    obtain ⟨o3, h⟩ := h
    refine r_iaload (pc := 111) dX12_of_111 (okA_of (c := 20) (n := 120) (hL.sh (i := 16) rfl (by decide) (by decide)) (by decide) o3) ?_
    obtain ⟨o4, h⟩ := h
    refine r_iaload (pc := 112) dX12_of_112 (okA_of (c := 20) (n := 120) (hL.sh (i := 13) rfl (by decide) (by decide)) (by decide) o4) ?_
    exact r_ireturn (pc := 113) (ty := .int) dX12_of_113 (by decide +kernel) rfl (nar_i _) (h hL)
  · replace h := h.2.2.2.1 c9
    refine r_tabE (pc := 54) (tgt := 114) dX12_of_54 c9 (by decide) (by decide) rfl (by decide) ?_
    refine r_aload_n (pc := 114) dX12_of_114 rfl rfl ?_
    refine r_getR (pc := 115) dX12_of_115 (k9 := 24) CL_12 (by decide) (by decide) w_1439 rfl (okO_of (N := 42) (hL.sh (i := 0) rfl (by decide) (by decide)) (by decide)) ?_
    refine eqR (y := 553) (hL.rf (i := 10) rfl) ?_
    refine r_aload_n (pc := 118) dX12_of_118 rfl rfl ?_
    refine r_getR (pc := 119) dX12_of_119 (k9 := 23) CL_12 (by decide) (by decide) w_1438 rfl (okO_of (N := 42) (hL.sh (i := 0) rfl (by decide) (by decide)) (by decide)) ?_
    refine eqR (y := 552) (hL.rf (i := 9) rfl) ?_
    refine r_aload_n (pc := 122) dX12_of_122 rfl rfl ?_
    refine r_getR (pc := 123) dX12_of_123 (k9 := 25) CL_12 (by decide) (by decide) w_1440 rfl (okO_of (N := 42) (hL.sh (i := 0) rfl (by decide) (by decide)) (by decide)) ?_
    refine eqR (y := 554) (hL.rf (i := 11) rfl) ?_
    refine r_iload_n (pc := 126) dX12_of_126 rfl rfl ?_
    obtain ⟨o5, h⟩ := h
    refine r_iaload (pc := 127) dX12_of_127 (okA_of (c := 20) (n := 120) (hL.sh (i := 16) rfl (by decide) (by decide)) (by decide) o5) ?_
    obtain ⟨o6, h⟩ := h
    refine r_iaload (pc := 128) dX12_of_128 (okA_of (c := 20) (n := 120) (hL.sh (i := 14) rfl (by decide) (by decide)) (by decide) o6) ?_
    obtain ⟨o7, h⟩ := h
    refine r_iaload (pc := 129) dX12_of_129 (okA_of (c := 20) (n := 120) (hL.sh (i := 15) rfl (by decide) (by decide)) (by decide) o7) ?_
    exact r_ireturn (pc := 130) (ty := .int) dX12_of_130 (by decide +kernel) rfl (nar_i _) (h hL)
  · replace h := h.2.2.2.2.1 c9
    refine r_tabE (pc := 54) (tgt := 131) dX12_of_54 c9 (by decide) (by decide) rfl (by decide) ?_
    refine r_aload_n (pc := 131) dX12_of_131 rfl rfl ?_
    refine r_iload_n (pc := 132) dX12_of_132 rfl rfl ?_
    refine c_VI0N (M := mX12_of) (pc := 133) (As := [vi x1]) dX12_of_133 K_X12_natural w_1734 ⟨by decide, by decide⟩ (Nat.le_of_ble_eq_true rfl) rfl rfl (ci := 12) rfl rfl (by decide) (okO_of (N := 42) (hL.sh (i := 0) rfl (by decide) (by decide)) (by decide)) (h hL) (fun r8 τ9 h8 hr9 => ?_) rfl
    replace hL := h8.1
    replace h := h8.2 hr9
    exact r_ireturn (pc := 136) (ty := .int) dX12_of_136 (by decide +kernel) rfl (nar_i _) (h hL)
  · replace h := h.2.2.2.2.2 c9
    refine r_tabOut (pc := 54) (tgt := 137) dX12_of_54 c9 (by decide) ?_
    refine r_aload_n (pc := 137) dX12_of_137 rfl rfl ?_
    refine r_getR (pc := 138) dX12_of_138 (k9 := 20) CL_12 (by decide) (by decide) w_1435 rfl (okO_of (N := 42) (hL.sh (i := 0) rfl (by decide) (by decide)) (by decide)) ?_
    refine eqR (y := 309) (hL.rf (i := 6) rfl) ?_
    refine r_aload_n (pc := 141) dX12_of_141 rfl rfl ?_
    refine r_getR (pc := 142) dX12_of_142 (k9 := 25) CL_12 (by decide) (by decide) w_1440 rfl (okO_of (N := 42) (hL.sh (i := 0) rfl (by decide) (by decide)) (by decide)) ?_
    refine eqR (y := 554) (hL.rf (i := 11) rfl) ?_
    refine r_iload_n (pc := 145) dX12_of_145 rfl rfl ?_
    obtain ⟨o10, h⟩ := h
    refine r_iaload (pc := 146) dX12_of_146 (okA_of (c := 20) (n := 120) (hL.sh (i := 16) rfl (by decide) (by decide)) (by decide) o10) ?_
    obtain ⟨o11, h⟩ := h
    refine r_aaload (pc := 147) dX12_of_147 (okB_of (c := 24) (n := 120) (hL.sh (i := 9) rfl (by decide) (by decide)) (by decide) o11) ?_
    have q12 : 310 ≤ 310 + (gI σ 554 x1.toNat).toNat ∧ 310 + (gI σ 554 x1.toNat).toNat < 430 := ⟨Nat.le_add_right _ _, rowB o11 (by decide)⟩
    refine eqR (y := 310 + (gI σ 554 x1.toNat).toNat) (hL.rx (i := 2) rfl (rowC o11 (by decide))) ?_
    refine r_iload_n (pc := 148) dX12_of_148 rfl rfl ?_
    refine r_iconst (pc := 149) dX12_of_149 (inRk rfl) ?_
    obtain ⟨o13, h⟩ := h
    refine r_isub (pc := 150) dX12_of_150 o13 ?_
    obtain ⟨o14, h⟩ := h
    refine r_iaload (pc := 151) dX12_of_151 (okA_of (c := 20) (n := 8) (hL.sh (i := 10) rfl q12.1 q12.2) (Nat.le_trans (by decide) q12.1) o14) ?_
    exact r_ireturn (pc := 152) (ty := .int) dX12_of_152 (by decide +kernel) rfl (nar_i _) (h hL)
theorem C_X12_of {a0 : Nat} {x1 : Int} {x2 : Int} (h : GG E mX12_of 0 [some (vr a0), some (vi x1), some (vi x2)] [] σ 0 0 Q) : CC E mX12_of [vr a0, vi x1, vi x2] σ Q := CC.of (by decide +kernel) rfl (by decide +kernel) (fun h9 => nomatch h9) (Nat.le_of_ble_eq_true rfl) h
theorem dX12_ofOrder_0 : decode cX12_ofOrder 0 = .ok (.aload_n 0, 1) := by decide +kernel
theorem dX12_ofOrder_1 : decode cX12_ofOrder 1 = .ok (.iconst 0, 1) := by decide +kernel
theorem dX12_ofOrder_2 : decode cX12_ofOrder 2 = .ok (.putfield 99, 3) := by decide +kernel
theorem dX12_ofOrder_5 : decode cX12_ofOrder 5 = .ok (.aload_n 0, 1) := by decide +kernel
theorem dX12_ofOrder_6 : decode cX12_ofOrder 6 = .ok (.iload_n 1, 1) := by decide +kernel
theorem dX12_ofOrder_7 : decode cX12_ofOrder 7 = .ok (.iconst 1, 1) := by decide +kernel
theorem dX12_ofOrder_8 : decode cX12_ofOrder 8 = .ok (.bipush 120, 2) := by decide +kernel
theorem dX12_ofOrder_10 : decode cX12_ofOrder 10 = .ok (.invokestatic 141, 3) := by decide +kernel
theorem dX12_ofOrder_13 : decode cX12_ofOrder 13 = .ok (.ifCond .eq 12, 3) := by decide +kernel
theorem dX12_ofOrder_16 : decode cX12_ofOrder 16 = .ok (.iload_n 2, 1) := by decide +kernel
theorem dX12_ofOrder_17 : decode cX12_ofOrder 17 = .ok (.iconst 0, 1) := by decide +kernel
theorem dX12_ofOrder_18 : decode cX12_ofOrder 18 = .ok (.iconst 1, 1) := by decide +kernel
theorem dX12_ofOrder_19 : decode cX12_ofOrder 19 = .ok (.invokestatic 141, 3) := by decide +kernel
theorem dX12_ofOrder_22 : decode cX12_ofOrder 22 = .ok (.ifCond .ne 7, 3) := by decide +kernel
theorem dX12_ofOrder_25 : decode cX12_ofOrder 25 = .ok (.iconst 1, 1) := by decide +kernel
theorem dX12_ofOrder_26 : decode cX12_ofOrder 26 = .ok (.goto 4, 3) := by decide +kernel
theorem dX12_ofOrder_29 : decode cX12_ofOrder 29 = .ok (.iconst 0, 1) := by decide +kernel
theorem dX12_ofOrder_30 : decode cX12_ofOrder 30 = .ok (.iconst 1, 1) := by decide +kernel
theorem dX12_ofOrder_31 : decode cX12_ofOrder 31 = .ok (.iconst 1, 1) := by decide +kernel
theorem dX12_ofOrder_32 : decode cX12_ofOrder 32 = .ok (.invokevirtual 177, 3) := by decide +kernel
theorem dX12_ofOrder_35 : decode cX12_ofOrder 35 = .ok (.ifCond .eq 5, 3) := by decide +kernel
theorem dX12_ofOrder_38 : decode cX12_ofOrder 38 = .ok (.iconst 0, 1) := by decide +kernel
theorem dX12_ofOrder_39 : decode cX12_ofOrder 39 = .ok (.ireturn, 1) := by decide +kernel
theorem dX12_ofOrder_40 : decode cX12_ofOrder 40 = .ok (.iconst 0, 1) := by decide +kernel
theorem dX12_ofOrder_41 : decode cX12_ofOrder 41 = .ok (.istore_n 3, 1) := by decide +kernel
theorem dX12_ofOrder_42 : decode cX12_ofOrder 42 = .ok (.iconst (-1), 1) := by decide +kernel
theorem dX12_ofOrder_43 : decode cX12_ofOrder 43 = .ok (.istore 4, 2) := by decide +kernel
theorem dX12_ofOrder_45 : decode cX12_ofOrder 45 = .ok (.aload_n 0, 1) := by decide +kernel
theorem dX12_ofOrder_46 : decode cX12_ofOrder 46 = .ok (.getfield 192, 3) := by decide +kernel
theorem dX12_ofOrder_49 : decode cX12_ofOrder 49 = .ok (.iconst 1, 1) := by decide +kernel
theorem dX12_ofOrder_50 : decode cX12_ofOrder 50 = .ok (.isub, 1) := by decide +kernel
theorem dX12_ofOrder_51 : decode cX12_ofOrder 51 = .ok (.istore 5, 2) := by decide +kernel
theorem dX12_ofOrder_53 : decode cX12_ofOrder 53 = .ok (.iload 5, 2) := by decide +kernel
theorem dX12_ofOrder_55 : decode cX12_ofOrder 55 = .ok (.ifCond .lt 30, 3) := by decide +kernel
theorem dX12_ofOrder_58 : decode cX12_ofOrder 58 = .ok (.aload_n 0, 1) := by decide +kernel
theorem dX12_ofOrder_59 : decode cX12_ofOrder 59 = .ok (.getfield 40, 3) := by decide +kernel
theorem dX12_ofOrder_62 : decode cX12_ofOrder 62 = .ok (.iload 5, 2) := by decide +kernel
theorem dX12_ofOrder_64 : decode cX12_ofOrder 64 = .ok (.iaload, 1) := by decide +kernel
theorem dX12_ofOrder_65 : decode cX12_ofOrder 65 = .ok (.iload_n 1, 1) := by decide +kernel
theorem dX12_ofOrder_66 : decode cX12_ofOrder 66 = .ok (.if_icmp .eq 6, 3) := by decide +kernel
theorem dX12_ofOrder_69 : decode cX12_ofOrder 69 = .ok (.goto 10, 3) := by decide +kernel
theorem dX12_ofOrder_72 : decode cX12_ofOrder 72 = .ok (.iinc 3 1, 3) := by decide +kernel
theorem dX12_ofOrder_75 : decode cX12_ofOrder 75 = .ok (.iload 5, 2) := by decide +kernel
theorem dX12_ofOrder_77 : decode cX12_ofOrder 77 = .ok (.istore 4, 2) := by decide +kernel
theorem dX12_ofOrder_79 : decode cX12_ofOrder 79 = .ok (.iinc 5 (-1), 3) := by decide +kernel
theorem dX12_ofOrder_82 : decode cX12_ofOrder 82 = .ok (.goto (-29), 3) := by decide +kernel
theorem dX12_ofOrder_85 : decode cX12_ofOrder 85 = .ok (.iload_n 2, 1) := by decide +kernel
theorem dX12_ofOrder_86 : decode cX12_ofOrder 86 = .ok (.ifCond .ne 8, 3) := by decide +kernel
theorem dX12_ofOrder_89 : decode cX12_ofOrder 89 = .ok (.iload 4, 2) := by decide +kernel
theorem dX12_ofOrder_91 : decode cX12_ofOrder 91 = .ok (.goto 4, 3) := by decide +kernel
theorem dX12_ofOrder_94 : decode cX12_ofOrder 94 = .ok (.iload_n 3, 1) := by decide +kernel
theorem dX12_ofOrder_95 : decode cX12_ofOrder 95 = .ok (.ireturn, 1) := by decide +kernel
theorem B_X12_ofOrder_0 {g : Sg} {c t : Nat} (hL : Lay LM g c t σ) {x1 : Int} {x2 : Int} (h : ∀ τ1 : Sg, τ1 = sI σ 172 0 0 → (Lay LM g c t τ1 → CC E mX12_in [vi x1, vi 1, vi 120] τ1 (KI (fun r2 τ3 => Lay LM g c t τ3 ∧ (inR r2 → ((r2 = 0 → (Lay LM g c t τ3 → CC E mX12_bad [vr 172, vi 1, vi 1, vi 1] τ3 (KI (fun r4 τ5 => Lay LM g c t τ5 ∧ (inR r4 → ((r4 = 0 → inR ((gI τ5 172 15) - 1) ∧ (Lay LM g c t τ5 → GG E mX12_ofOrder 53 [some (vr 172), some (vi x1), some (vi x2), some (vi 0), some (vi (-1)), some (vi ((gI τ5 172 15) - 1))] [] τ5 rc rs Q)) ∧ (¬ (r4 = 0) → (Lay LM g c t τ5 → Q (.inl (some (vi 0))) τ5))))) (fun _ _ => False)))) ∧ (¬ (r2 = 0) → (Lay LM g c t τ3 → CC E mX12_in [vi x2, vi 0, vi 1] τ3 (KI (fun r7 τ8 => Lay LM g c t τ8 ∧ (inR r7 → ((r7 ≠ 0 → (Lay LM g c t τ8 → CC E mX12_bad [vr 172, vi 0, vi 1, vi 1] τ8 (KI (fun r9 τ10 => Lay LM g c t τ10 ∧ (inR r9 → ((r9 = 0 → inR ((gI τ10 172 15) - 1) ∧ (Lay LM g c t τ10 → GG E mX12_ofOrder 53 [some (vr 172), some (vi x1), some (vi x2), some (vi 0), some (vi (-1)), some (vi ((gI τ10 172 15) - 1))] [] τ10 rc rs Q)) ∧ (¬ (r9 = 0) → (Lay LM g c t τ10 → Q (.inl (some (vi 0))) τ10))))) (fun _ _ => False)))) ∧ (r7 = 0 → (Lay LM g c t τ8 → CC E mX12_bad [vr 172, vi 1, vi 1, vi 1] τ8 (KI (fun r12 τ13 => Lay LM g c t τ13 ∧ (inR r12 → ((r12 = 0 → inR ((gI τ13 172 15) - 1) ∧ (Lay LM g c t τ13 → GG E mX12_ofOrder 53 [some (vr 172), some (vi x1), some (vi x2), some (vi 0), some (vi (-1)), some (vi ((gI τ13 172 15) - 1))] [] τ13 rc rs Q)) ∧ (¬ (r12 = 0) → (Lay LM g c t τ13 → Q (.inl (some (vi 0))) τ13))))) (fun _ _ => False))))))) (fun _ _ => False))))))) (fun _ _ => False)))) : GG E mX12_ofOrder 0 [some (vr 172), some (vi x1), some (vi x2), none, none, none] [] σ rc rs Q := by
  refine r_aload_n (pc := 0) dX12_ofOrder_0 rfl rfl ?_
  refine r_iconst (pc := 1) dX12_ofOrder_1 (inRk rfl) ?_
  refine r_putI (pc := 2) dX12_ofOrder_2 (k9 := 0) CL_12 (by decide) (by decide) w_1415 rfl rfl (fun h9 => absurd h9 (by decide +kernel)) (okO_of (N := 42) (hL.sh (i := 0) rfl (by decide) (by decide)) (by decide)) ?_
  refine nmS (fun τ1 e1 => ?_)
  replace h := h τ1 e1
  have hL := hL.wI e1 (by decide) (.inl (by decide))
  refine r_aload_n (pc := 5) dX12_ofOrder_5 rfl rfl ?_
  refine r_iload_n (pc := 6) dX12_ofOrder_6 rfl rfl ?_
  refine r_iconst (pc := 7) dX12_ofOrder_7 (inRk rfl) ?_
  refine r_bipush (pc := 8) dX12_ofOrder_8 (by decide) ?_
  refine c_SI0N (M := mX12_ofOrder) (pc := 10) (As := [vi x1, vi 1, vi 120]) dX12_ofOrder_10 K_X12_in w_1559 ⟨by decide, by decide⟩ (Nat.le_of_ble_eq_true rfl) rfl rfl (h hL) (fun r2 τ3 h8 hr9 => ?_) rfl
  replace hL := h8.1
  replace h := h8.2 hr9
  refine r_if_eq (pc := 13) (tgt := 25) dX12_ofOrder_13 (by decide) (fun c9 => ?_) (fun c9 => ?_)
  · replace h := h.1 c9
    refine r_iconst (pc := 25) dX12_ofOrder_25 (inRk rfl) ?_
    refine r_goto (pc := 26) (tgt := 30) dX12_ofOrder_26 (by decide) ?_
    refine r_iconst (pc := 30) dX12_ofOrder_30 (inRk rfl) ?_
    refine r_iconst (pc := 31) dX12_ofOrder_31 (inRk rfl) ?_
    refine c_VI0N (M := mX12_ofOrder) (pc := 32) (As := [vi 1, vi 1, vi 1]) dX12_ofOrder_32 K_X12_bad w_1562 ⟨by decide, by decide⟩ (Nat.le_of_ble_eq_true rfl) rfl rfl (ci := 12) rfl rfl (by decide) (okO_of (N := 42) (hL.sh (i := 0) rfl (by decide) (by decide)) (by decide)) (h hL) (fun r4 τ5 h8 hr9 => ?_) rfl
    replace hL := h8.1
    replace h := h8.2 hr9
    refine r_if_eq (pc := 35) (tgt := 40) dX12_ofOrder_35 (by decide) (fun c9 => ?_) (fun c9 => ?_)
    · replace h := h.1 c9
      refine r_iconst (pc := 40) dX12_ofOrder_40 (inRk rfl) ?_
      refine r_istore_n (pc := 41) dX12_ofOrder_41 rfl (by decide) (l2 := [some (vr 172), some (vi x1), some (vi x2), some (vi 0), none, none]) rfl ?_
      refine r_iconst (pc := 42) dX12_ofOrder_42 (inRk rfl) ?_
      refine r_istore (pc := 43) dX12_ofOrder_43 (by decide) (l2 := [some (vr 172), some (vi x1), some (vi x2), some (vi 0), some (vi (-1)), none]) rfl ?_
      refine r_aload_n (pc := 45) dX12_ofOrder_45 rfl rfl ?_
      refine r_getI (pc := 46) dX12_ofOrder_46 (k9 := 15) CL_12 (by decide) (by decide) w_1430 rfl (okO_of (N := 42) (hL.sh (i := 0) rfl (by decide) (by decide)) (by decide)) (fun _ => ?_)
      refine r_iconst (pc := 49) dX12_ofOrder_49 (inRk rfl) ?_
      obtain ⟨o6, h⟩ := h
      refine r_isub (pc := 50) dX12_ofOrder_50 o6 ?_
      refine r_istore (pc := 51) dX12_ofOrder_51 (by decide) (l2 := [some (vr 172), some (vi x1), some (vi x2), some (vi 0), some (vi (-1)), some (vi ((gI τ5 172 15) - 1))]) rfl ?_
      exact (h hL)
    · replace h := h.2 c9
      refine r_iconst (pc := 38) dX12_ofOrder_38 (inRk rfl) ?_
      exact r_ireturn (pc := 39) (ty := .int) dX12_ofOrder_39 (by decide +kernel) rfl (nar_i _) (h hL)
  · replace h := h.2 c9
    refine r_iload_n (pc := 16) dX12_ofOrder_16 rfl rfl ?_
    refine r_iconst (pc := 17) dX12_ofOrder_17 (inRk rfl) ?_
    refine r_iconst (pc := 18) dX12_ofOrder_18 (inRk rfl) ?_
    refine c_SI0N (M := mX12_ofOrder) (pc := 19) (As := [vi x2, vi 0, vi 1]) dX12_ofOrder_19 K_X12_in w_1559 ⟨by decide, by decide⟩ (Nat.le_of_ble_eq_true rfl) rfl rfl (h hL) (fun r7 τ8 h8 hr9 => ?_) rfl
    replace hL := h8.1
    replace h := h8.2 hr9
    refine r_if_ne (pc := 22) (tgt := 29) dX12_ofOrder_22 (by decide) (fun c9 => ?_) (fun c9 => ?_)
    · replace h := h.1 c9
      refine r_iconst (pc := 29) dX12_ofOrder_29 (inRk rfl) ?_
      refine r_iconst (pc := 30) dX12_ofOrder_30 (inRk rfl) ?_
      refine r_iconst (pc := 31) dX12_ofOrder_31 (inRk rfl) ?_
      refine c_VI0N (M := mX12_ofOrder) (pc := 32) (As := [vi 0, vi 1, vi 1]) dX12_ofOrder_32 K_X12_bad w_1562 ⟨by decide, by decide⟩ (Nat.le_of_ble_eq_true rfl) rfl rfl (ci := 12) rfl rfl (by decide) (okO_of (N := 42) (hL.sh (i := 0) rfl (by decide) (by decide)) (by decide)) (h hL) (fun r9 τ10 h8 hr9 => ?_) rfl
      replace hL := h8.1
      replace h := h8.2 hr9
      refine r_if_eq (pc := 35) (tgt := 40) dX12_ofOrder_35 (by decide) (fun c9 => ?_) (fun c9 => ?_)
      · replace h := h.1 c9
        refine r_iconst (pc := 40) dX12_ofOrder_40 (inRk rfl) ?_
        refine r_istore_n (pc := 41) dX12_ofOrder_41 rfl (by decide) (l2 := [some (vr 172), some (vi x1), some (vi x2), some (vi 0), none, none]) rfl ?_
        refine r_iconst (pc := 42) dX12_ofOrder_42 (inRk rfl) ?_
        refine r_istore (pc := 43) dX12_ofOrder_43 (by decide) (l2 := [some (vr 172), some (vi x1), some (vi x2), some (vi 0), some (vi (-1)), none]) rfl ?_
        refine r_aload_n (pc := 45) dX12_ofOrder_45 rfl rfl ?_
        refine r_getI (pc := 46) dX12_ofOrder_46 (k9 := 15) CL_12 (by decide) (by decide) w_1430 rfl (okO_of (N := 42) (hL.sh (i := 0) rfl (by decide) (by decide)) (by decide)) (fun _ => ?_)
        refine r_iconst (pc := 49) dX12_ofOrder_49 (inRk rfl) ?_
        obtain ⟨o11, h⟩ := h
        refine r_isub (pc := 50) dX12_ofOrder_50 o11 ?_
        refine r_istore (pc := 51) dX12_ofOrder_51 (by decide) (l2 := [some (vr 172), some (vi x1), some (vi x2), some (vi 0), some (vi (-1)), some (vi ((gI τ10 172 15) - 1))]) rfl ?_
        exact (h hL)
      · replace h := h.2 c9
        refine r_iconst (pc := 38) dX12_ofOrder_38 (inRk rfl) ?_
        exact r_ireturn (pc := 39) (ty := .int) dX12_ofOrder_39 (by decide +kernel) rfl (nar_i _) (h hL)
    · replace h := h.2 c9
      refine r_iconst (pc := 25) dX12_ofOrder_25 (inRk rfl) ?_
      refine r_goto (pc := 26) (tgt := 30) dX12_ofOrder_26 (by decide) ?_
      refine r_iconst (pc := 30) dX12_ofOrder_30 (inRk rfl) ?_
      refine r_iconst (pc := 31) dX12_ofOrder_31 (inRk rfl) ?_
      refine c_VI0N (M := mX12_ofOrder) (pc := 32) (As := [vi 1, vi 1, vi 1]) dX12_ofOrder_32 K_X12_bad w_1562 ⟨by decide, by decide⟩ (Nat.le_of_ble_eq_true rfl) rfl rfl (ci := 12) rfl rfl (by decide) (okO_of (N := 42) (hL.sh (i := 0) rfl (by decide) (by decide)) (by decide)) (h hL) (fun r12 τ13 h8 hr9 => ?_) rfl
      replace hL := h8.1
      replace h := h8.2 hr9
      refine r_if_eq (pc := 35) (tgt := 40) dX12_ofOrder_35 (by decide) (fun c9 => ?_) (fun c9 => ?_)
      · replace h := h.1 c9
        refine r_iconst (pc := 40) dX12_ofOrder_40 (inRk rfl) ?_
        refine r_istore_n (pc := 41) dX12_ofOrder_41 rfl (by decide) (l2 := [some (vr 172), some (vi x1), some (vi x2), some (vi 0), none, none]) rfl ?_
        refine r_iconst (pc := 42) dX12_ofOrder_42 (inRk rfl) ?_
        refine r_istore (pc := 43) dX12_ofOrder_43 (by decide) (l2 := [some (vr 172), some (vi x1), some (vi x2), some (vi 0), some (vi (-1)), none]) rfl ?_
        refine r_aload_n (pc := 45) dX12_ofOrder_45 rfl rfl ?_
        refine r_getI (pc := 46) dX12_ofOrder_46 (k9 := 15) CL_12 (by decide) (by decide) w_1430 rfl (okO_of (N := 42) (hL.sh (i := 0) rfl (by decide) (by decide)) (by decide)) (fun _ => ?_)
        refine r_iconst (pc := 49) dX12_ofOrder_49 (inRk rfl) ?_
        obtain ⟨o14, h⟩ := h
        refine r_isub (pc := 50) dX12_ofOrder_50 o14 ?_
        refine r_istore (pc := 51) dX12_ofOrder_51 (by decide) (l2 := [some (vr 172), some (vi x1), some (vi x2), some (vi 0), some (vi (-1)), some (vi ((gI τ13 172 15) - 1))]) rfl ?_
        exact (h hL)
      · replace h := h.2 c9
        refine r_iconst (pc := 38) dX12_ofOrder_38 (inRk rfl) ?_
        exact r_ireturn (pc := 39) (ty := .int) dX12_ofOrder_39 (by decide +kernel) rfl (nar_i _) (h hL)
theorem B_X12_ofOrder_53 {g : Sg} {c t : Nat} (hL : Lay LM g c t σ) {x1 : Int} {x2 : Int} {x3 : Int} {x4 : Int} {x5 : Int} (h : ((x5 < 0 → ((x2 ≠ 0 → (Lay LM g c t σ → Q (.inl (some (vi x3))) σ)) ∧ (x2 = 0 → (Lay LM g c t σ → Q (.inl (some (vi x4))) σ)))) ∧ (¬ (x5 < 0) → (0 ≤ x5 ∧ x5 < 120) ∧ (((gI σ 551 x5.toNat) = x1 → inR (x3 + 1) ∧ inR (x5 + (-1)) ∧ (Lay LM g c t σ → GG E mX12_ofOrder 53 [some (vr 172), some (vi x1), some (vi x2), some (vi (x3 + 1)), some (vi x5), some (vi (x5 + (-1)))] [] σ rc rs Q)) ∧ (¬ ((gI σ 551 x5.toNat) = x1) → inR (x5 + (-1)) ∧ (Lay LM g c t σ → GG E mX12_ofOrder 53 [some (vr 172), some (vi x1), some (vi x2), some (vi x3), some (vi x4), some (vi (x5 + (-1)))] [] σ rc rs Q)))))) : GG E mX12_ofOrder 53 [some (vr 172), some (vi x1), some (vi x2), some (vi x3), some (vi x4), some (vi x5)] [] σ rc rs Q := by
  refine r_iload (pc := 53) dX12_ofOrder_53 rfl ?_
  refine r_if_lt (pc := 55) (tgt := 85) dX12_ofOrder_55 (by decide) (fun c9 => ?_) (fun c9 => ?_)
  · replace h := h.1 c9
    refine r_iload_n (pc := 85) dX12_ofOrder_85 rfl rfl ?_
    refine r_if_ne (pc := 86) (tgt := 94) dX12_ofOrder_86 (by decide) (fun c9 => ?_) (fun c9 => ?_)
    · replace h := h.1 c9
      refine r_iload_n (pc := 94) dX12_ofOrder_94 rfl rfl ?_
      exact r_ireturn (pc := 95) (ty := .int) dX12_ofOrder_95 (by decide +kernel) rfl (nar_i _) (h hL)
    · replace h := h.2 c9
      refine r_iload (pc := 89) dX12_ofOrder_89 rfl ?_
      refine r_goto (pc := 91) (tgt := 95) dX12_ofOrder_91 (by decide) ?_
      exact r_ireturn (pc := 95) (ty := .int) dX12_ofOrder_95 (by decide +kernel) rfl (nar_i _) (h hL)
  · replace h := h.2 c9
    refine r_aload_n (pc := 58) dX12_ofOrder_58 rfl rfl ?_
    refine r_getR (pc := 59) dX12_ofOrder_59 (k9 := 22) CL_12 (by decide) (by decide) w_1437 rfl (okO_of (N := 42) (hL.sh (i := 0) rfl (by decide) (by decide)) (by decide)) ?_
    refine eqR (y := 551) (hL.rf (i := 8) rfl) ?_
    refine r_iload (pc := 62) dX12_ofOrder_62 rfl ?_
    obtain ⟨o1, h⟩ := h
    refine r_iaload (pc := 64) dX12_ofOrder_64 (okA_of (c := 20) (n := 120) (hL.sh (i := 13) rfl (by decide) (by decide)) (by decide) o1) ?_
    refine r_iload_n (pc := 65) dX12_ofOrder_65 rfl rfl ?_
    refine r_icmp_eq (pc := 66) (tgt := 72) dX12_ofOrder_66 (by decide) (fun c9 => ?_) (fun c9 => ?_)
    · replace h := h.1 c9
      obtain ⟨o2, h⟩ := h
      refine r_iinc (pc := 72) dX12_ofOrder_72 rfl (by decide) o2 (l2 := [some (vr 172), some (vi x1), some (vi x2), some (vi (x3 + 1)), some (vi x4), some (vi x5)]) rfl ?_
      refine r_iload (pc := 75) dX12_ofOrder_75 rfl ?_
      refine r_istore (pc := 77) dX12_ofOrder_77 (by decide) (l2 := [some (vr 172), some (vi x1), some (vi x2), some (vi (x3 + 1)), some (vi x5), some (vi x5)]) rfl ?_
      obtain ⟨o3, h⟩ := h
      refine r_iinc (pc := 79) dX12_ofOrder_79 rfl (by decide) o3 (l2 := [some (vr 172), some (vi x1), some (vi x2), some (vi (x3 + 1)), some (vi x5), some (vi (x5 + (-1)))]) rfl ?_
      refine r_goto (pc := 82) (tgt := 53) dX12_ofOrder_82 (by decide) ?_
      exact (h hL)
    · replace h := h.2 c9
      refine r_goto (pc := 69) (tgt := 79) dX12_ofOrder_69 (by decide) ?_
      obtain ⟨o4, h⟩ := h
      refine r_iinc (pc := 79) dX12_ofOrder_79 rfl (by decide) o4 (l2 := [some (vr 172), some (vi x1), some (vi x2), some (vi x3), some (vi x4), some (vi (x5 + (-1)))]) rfl ?_
      refine r_goto (pc := 82) (tgt := 53) dX12_ofOrder_82 (by decide) ?_
      exact (h hL)
theorem C_X12_ofOrder {a0 : Nat} {x1 : Int} {x2 : Int} (h : GG E mX12_ofOrder 0 [some (vr a0), some (vi x1), some (vi x2), none, none, none] [] σ 0 0 Q) : CC E mX12_ofOrder [vr a0, vi x1, vi x2] σ Q := CC.of (by decide +kernel) rfl (by decide +kernel) (fun h9 => nomatch h9) (Nat.le_of_ble_eq_true rfl) h
theorem dX12_often_0 : decode cX12_often 0 = .ok (.aload_n 0, 1) := by decide +kernel
theorem dX12_often_1 : decode cX12_often 1 = .ok (.iconst 0, 1) := by decide +kernel
theorem dX12_often_2 : decode cX12_often 2 = .ok (.putfield 99, 3) := by decide +kernel
theorem dX12_often_5 : decode cX12_often 5 = .ok (.aload_n 0, 1) := by decide +kernel
theorem dX12_often_6 : decode cX12_often 6 = .ok (.aload_n 0, 1) := by decide +kernel
theorem dX12_often_7 : decode cX12_often 7 = .ok (.iload_n 1, 1) := by decide +kernel
theorem dX12_often_8 : decode cX12_often 8 = .ok (.invokevirtual 335, 3) := by decide +kernel
theorem dX12_often_11 : decode cX12_often 11 = .ok (.ifCond .eq 19, 3) := by decide +kernel
theorem dX12_often_14 : decode cX12_often 14 = .ok (.aload_n 0, 1) := by decide +kernel
theorem dX12_often_15 : decode cX12_often 15 = .ok (.iload_n 2, 1) := by decide +kernel
theorem dX12_often_16 : decode cX12_often 16 = .ok (.invokevirtual 335, 3) := by decide +kernel
theorem dX12_often_19 : decode cX12_often 19 = .ok (.ifCond .eq 11, 3) := by decide +kernel
theorem dX12_often_22 : decode cX12_often 22 = .ok (.aload_n 0, 1) := by decide +kernel
theorem dX12_often_23 : decode cX12_often 23 = .ok (.iload_n 3, 1) := by decide +kernel
theorem dX12_often_24 : decode cX12_often 24 = .ok (.invokevirtual 335, 3) := by decide +kernel
theorem dX12_often_27 : decode cX12_often 27 = .ok (.ifCond .ne 7, 3) := by decide +kernel
theorem dX12_often_30 : decode cX12_often 30 = .ok (.iconst 1, 1) := by decide +kernel
theorem dX12_often_31 : decode cX12_often 31 = .ok (.goto 4, 3) := by decide +kernel
theorem dX12_often_34 : decode cX12_often 34 = .ok (.iconst 0, 1) := by decide +kernel
theorem dX12_often_35 : decode cX12_often 35 = .ok (.iconst 1, 1) := by decide +kernel
theorem dX12_often_36 : decode cX12_often 36 = .ok (.iconst 0, 1) := by decide +kernel
theorem dX12_often_37 : decode cX12_often 37 = .ok (.invokevirtual 177, 3) := by decide +kernel
theorem dX12_often_40 : decode cX12_often 40 = .ok (.ifCond .eq 5, 3) := by decide +kernel
theorem dX12_often_43 : decode cX12_often 43 = .ok (.iconst 0, 1) := by decide +kernel
theorem dX12_often_44 : decode cX12_often 44 = .ok (.ireturn, 1) := by decide +kernel
theorem dX12_often_45 : decode cX12_often 45 = .ok (.aload_n 0, 1) := by decide +kernel
theorem dX12_often_46 : decode cX12_often 46 = .ok (.invokevirtual 317, 3) := by decide +kernel
theorem dX12_often_49 : decode cX12_often 49 = .ok (.aload_n 0, 1) := by decide +kernel
theorem dX12_often_50 : decode cX12_often 50 = .ok (.iload_n 1, 1) := by decide +kernel
theorem dX12_often_51 : decode cX12_often 51 = .ok (.iload_n 2, 1) := by decide +kernel
theorem dX12_often_52 : decode cX12_often 52 = .ok (.iload_n 3, 1) := by decide +kernel
theorem dX12_often_53 : decode cX12_often 53 = .ok (.invokevirtual 344, 3) := by decide +kernel
theorem dX12_often_56 : decode cX12_often 56 = .ok (.ireturn, 1) := by decide +kernel
theorem B_X12_often_0 {g : Sg} {c t : Nat} (hL : Lay LM g c t σ) {x1 : Int} {x2 : Int} {x3 : Int} (h : ∀ τ1 : Sg, τ1 = sI σ 172 0 0 → (Lay LM g c t τ1 → CC E mX12_isClass [vr 172, vi x1] τ1 (KI (fun r2 τ3 => Lay LM g c t τ3 ∧ (inR r2 → ((r2 = 0 → (Lay LM g c t τ3 → CC E mX12_bad [vr 172, vi 1, vi 1, vi 0] τ3 (KI (fun r4 τ5 => Lay LM g c t τ5 ∧ (inR r4 → ((r4 = 0 → (Lay LM g c t τ5 → GG E mX12_often 45 [some (vr 172), some (vi x1), some (vi x2), some (vi x3)] [] τ5 rc rs Q)) ∧ (¬ (r4 = 0) → (Lay LM g c t τ5 → GG E mX12_often 43 [none, none, none, none] [] τ5 rc rs Q))))) (fun _ _ => False)))) ∧ (¬ (r2 = 0) → (Lay LM g c t τ3 → CC E mX12_isClass [vr 172, vi x2] τ3 (KI (fun r6 τ7 => Lay LM g c t τ7 ∧ (inR r6 → ((r6 = 0 → (Lay LM g c t τ7 → CC E mX12_bad [vr 172, vi 1, vi 1, vi 0] τ7 (KI (fun r8 τ9 => Lay LM g c t τ9 ∧ (inR r8 → ((r8 = 0 → (Lay LM g c t τ9 → GG E mX12_often 45 [some (vr 172), some (vi x1), some (vi x2), some (vi x3)] [] τ9 rc rs Q)) ∧ (¬ (r8 = 0) → (Lay LM g c t τ9 → GG E mX12_often 43 [none, none, none, none] [] τ9 rc rs Q))))) (fun _ _ => False)))) ∧ (¬ (r6 = 0) → (Lay LM g c t τ7 → CC E mX12_isClass [vr 172, vi x3] τ7 (KI (fun r10 τ11 => Lay LM g c t τ11 ∧ (inR r10 → ((r10 ≠ 0 → (Lay LM g c t τ11 → CC E mX12_bad [vr 172, vi 0, vi 1, vi 0] τ11 (KI (fun r12 τ13 => Lay LM g c t τ13 ∧ (inR r12 → ((r12 = 0 → (Lay LM g c t τ13 → GG E mX12_often 45 [some (vr 172), some (vi x1), some (vi x2), some (vi x3)] [] τ13 rc rs Q)) ∧ (¬ (r12 = 0) → (Lay LM g c t τ13 → GG E mX12_often 43 [none, none, none, none] [] τ13 rc rs Q))))) (fun _ _ => False)))) ∧ (r10 = 0 → (Lay LM g c t τ11 → CC E mX12_bad [vr 172, vi 1, vi 1, vi 0] τ11 (KI (fun r14 τ15 => Lay LM g c t τ15 ∧ (inR r14 → ((r14 = 0 → (Lay LM g c t τ15 → GG E mX12_often 45 [some (vr 172), some (vi x1), some (vi x2), some (vi x3)] [] τ15 rc rs Q)) ∧ (¬ (r14 = 0) → (Lay LM g c t τ15 → GG E mX12_often 43 [none, none, none, none] [] τ15 rc rs Q))))) (fun _ _ => False))))))) (fun _ _ => False))))))) (fun _ _ => False))))))) (fun _ _ => False)))) : GG E mX12_often 0 [some (vr 172), some (vi x1), some (vi x2), some (vi x3)] [] σ rc rs Q := by
  refine r_aload_n (pc := 0) dX12_often_0 rfl rfl ?_
  refine r_iconst (pc := 1) dX12_often_1 (inRk rfl) ?_
  refine r_putI (pc := 2) dX12_often_2 (k9 := 0) CL_12 (by decide) (by decide) w_1415 rfl rfl (fun h9 => absurd h9 (by decide +kernel)) (okO_of (N := 42) (hL.sh (i := 0) rfl (by decide) (by decide)) (by decide)) ?_
  refine nmS (fun τ1 e1 => ?_)
  replace h := h τ1 e1
  have hL := hL.wI e1 (by decide) (.inl (by decide))
  refine r_aload_n (pc := 5) dX12_often_5 rfl rfl ?_
  refine r_aload_n (pc := 6) dX12_often_6 rfl rfl ?_
  refine r_iload_n (pc := 7) dX12_often_7 rfl rfl ?_
  refine c_VI0N (M := mX12_often) (pc := 8) (As := [vi x1]) dX12_often_8 K_X12_isClass w_1766 ⟨by decide, by decide⟩ (Nat.le_of_ble_eq_true rfl) rfl rfl (ci := 12) rfl rfl (by decide) (okO_of (N := 42) (hL.sh (i := 0) rfl (by decide) (by decide)) (by decide)) (h hL) (fun r2 τ3 h8 hr9 => ?_) rfl
  replace hL := h8.1
  replace h := h8.2 hr9
  refine r_if_eq (pc := 11) (tgt := 30) dX12_often_11 (by decide) (fun c9 => ?_) (fun c9 => ?_)
  · replace h := h.1 c9
    refine r_iconst (pc := 30) dX12_often_30 (inRk rfl) ?_
    refine r_goto (pc := 31) (tgt := 35) dX12_often_31 (by decide) ?_
    refine r_iconst (pc := 35) dX12_often_35 (inRk rfl) ?_
    refine r_iconst (pc := 36) dX12_often_36 (inRk rfl) ?_
    refine c_VI0N (M := mX12_often) (pc := 37) (As := [vi 1, vi 1, vi 0]) dX12_often_37 K_X12_bad w_1562 ⟨by decide, by decide⟩ (Nat.le_of_ble_eq_true rfl) rfl rfl (ci := 12) rfl rfl (by decide) (okO_of (N := 42) (hL.sh (i := 0) rfl (by decide) (by decide)) (by decide)) (h hL) (fun r4 τ5 h8 hr9 => ?_) rfl
    replace hL := h8.1
    replace h := h8.2 hr9
    refine r_if_eq (pc := 40) (tgt := 45) dX12_often_40 (by decide) (fun c9 => ?_) (fun c9 => ?_)
    · replace h := h.1 c9
      exact (h hL)
    · replace h := h.2 c9
      exact GG.msk [false, false, false, false] (h hL)
  · replace h := h.2 c9
    refine r_aload_n (pc := 14) dX12_often_14 rfl rfl ?_
    refine r_iload_n (pc := 15) dX12_often_15 rfl rfl ?_
    refine c_VI0N (M := mX12_often) (pc := 16) (As := [vi x2]) dX12_often_16 K_X12_isClass w_1766 ⟨by decide, by decide⟩ (Nat.le_of_ble_eq_true rfl) rfl rfl (ci := 12) rfl rfl (by decide) (okO_of (N := 42) (hL.sh (i := 0) rfl (by decide) (by decide)) (by decide)) (h hL) (fun r6 τ7 h8 hr9 => ?_) rfl
    replace hL := h8.1
    replace h := h8.2 hr9
    refine r_if_eq (pc := 19) (tgt := 30) dX12_often_19 (by decide) (fun c9 => ?_) (fun c9 => ?_)
    · replace h := h.1 c9
      refine r_iconst (pc := 30) dX12_often_30 (inRk rfl) ?_
      refine r_goto (pc := 31) (tgt := 35) dX12_often_31 (by decide) ?_
      refine r_iconst (pc := 35) dX12_often_35 (inRk rfl) ?_
      refine r_iconst (pc := 36) dX12_often_36 (inRk rfl) ?_
      refine c_VI0N (M := mX12_often) (pc := 37) (As := [vi 1, vi 1, vi 0]) dX12_often_37 K_X12_bad w_1562 ⟨by decide, by decide⟩ (Nat.le_of_ble_eq_true rfl) rfl rfl (ci := 12) rfl rfl (by decide) (okO_of (N := 42) (hL.sh (i := 0) rfl (by decide) (by decide)) (by decide)) (h hL) (fun r8 τ9 h8 hr9 => ?_) rfl
      replace hL := h8.1
      replace h := h8.2 hr9
      refine r_if_eq (pc := 40) (tgt := 45) dX12_often_40 (by decide) (fun c9 => ?_) (fun c9 => ?_)
      · replace h := h.1 c9
        exact (h hL)
      · replace h := h.2 c9
        exact GG.msk [false, false, false, false] (h hL)
    · replace h := h.2 c9
      refine r_aload_n (pc := 22) dX12_often_22 rfl rfl ?_
      refine r_iload_n (pc := 23) dX12_often_23 rfl rfl ?_
      refine c_VI0N (M := mX12_often) (pc := 24) (As := [vi x3]) dX12_often_24 K_X12_isClass w_1766 ⟨by decide, by decide⟩ (Nat.le_of_ble_eq_true rfl) rfl rfl (ci := 12) rfl rfl (by decide) (okO_of (N := 42) (hL.sh (i := 0) rfl (by decide) (by decide)) (by decide)) (h hL) (fun r10 τ11 h8 hr9 => ?_) rfl
      replace hL := h8.1
      replace h := h8.2 hr9
      refine r_if_ne (pc := 27) (tgt := 34) dX12_often_27 (by decide) (fun c9 => ?_) (fun c9 => ?_)
      · replace h := h.1 c9
        refine r_iconst (pc := 34) dX12_often_34 (inRk rfl) ?_
        refine r_iconst (pc := 35) dX12_often_35 (inRk rfl) ?_
        refine r_iconst (pc := 36) dX12_often_36 (inRk rfl) ?_
        refine c_VI0N (M := mX12_often) (pc := 37) (As := [vi 0, vi 1, vi 0]) dX12_often_37 K_X12_bad w_1562 ⟨by decide, by decide⟩ (Nat.le_of_ble_eq_true rfl) rfl rfl (ci := 12) rfl rfl (by decide) (okO_of (N := 42) (hL.sh (i := 0) rfl (by decide) (by decide)) (by decide)) (h hL) (fun r12 τ13 h8 hr9 => ?_) rfl
        replace hL := h8.1
        replace h := h8.2 hr9
        refine r_if_eq (pc := 40) (tgt := 45) dX12_often_40 (by decide) (fun c9 => ?_) (fun c9 => ?_)
        · replace h := h.1 c9
          exact (h hL)
        · replace h := h.2 c9
          exact GG.msk [false, false, false, false] (h hL)
      · replace h := h.2 c9
        refine r_iconst (pc := 30) dX12_often_30 (inRk rfl) ?_
        refine r_goto (pc := 31) (tgt := 35) dX12_often_31 (by decide) ?_
        refine r_iconst (pc := 35) dX12_often_35 (inRk rfl) ?_
        refine r_iconst (pc := 36) dX12_often_36 (inRk rfl) ?_
        refine c_VI0N (M := mX12_often) (pc := 37) (As := [vi 1, vi 1, vi 0]) dX12_often_37 K_X12_bad w_1562 ⟨by decide, by decide⟩ (Nat.le_of_ble_eq_true rfl) rfl rfl (ci := 12) rfl rfl (by decide) (okO_of (N := 42) (hL.sh (i := 0) rfl (by decide) (by decide)) (by decide)) (h hL) (fun r14 τ15 h8 hr9 => ?_) rfl
        replace hL := h8.1
        replace h := h8.2 hr9
        refine r_if_eq (pc := 40) (tgt := 45) dX12_often_40 (by decide) (fun c9 => ?_) (fun c9 => ?_)
        · replace h := h.1 c9
          exact (h hL)
        · replace h := h.2 c9
          exact GG.msk [false, false, false, false] (h hL)
theorem B_X12_often_43 {g : Sg} {c t : Nat} (hL : Lay LM g c t σ)  (h : (Lay LM g c t σ → Q (.inl (some (vi 0))) σ)) : GG E mX12_often 43 [none, none, none, none] [] σ rc rs Q := by
  refine r_iconst (pc := 43) dX12_often_43 (inRk rfl) ?_
  exact r_ireturn (pc := 44) (ty := .int) dX12_often_44 (by decide +kernel) rfl (nar_i _) (h hL)
theorem B_X12_often_45 {g : Sg} {c t : Nat} (hL : Lay LM g c t σ) {x1 : Int} {x2 : Int} {x3 : Int} (h : (Lay LM g c t σ → CC E mX12_laysRows [vr 172] σ (KV (fun τ2 => Lay LM g c t τ2 ∧ (Lay LM g c t τ2 → CC E mX12_oftenOf [vr 172, vi x1, vi x2, vi x3] τ2 (KI (fun r3 τ4 => Lay LM g c t τ4 ∧ (inR r3 → (Lay LM g c t τ4 → Q (.inl (some (vi r3))) τ4))) (fun _ _ => False)))) (fun _ _ => False)))) : GG E mX12_often 45 [some (vr 172), some (vi x1), some (vi x2), some (vi x3)] [] σ rc rs Q := by
  refine r_aload_n (pc := 45) dX12_often_45 rfl rfl ?_
  refine c_VV0N (M := mX12_often) (pc := 46) (As := []) dX12_often_46 K_X12_laysRows w_1652 ⟨by decide, by decide⟩ (Nat.le_of_ble_eq_true rfl) rfl rfl (ci := 12) rfl rfl (by decide) (okO_of (N := 42) (hL.sh (i := 0) rfl (by decide) (by decide)) (by decide)) (h hL) (fun τ2 h8 => ?_) rfl
  replace hL := h8.1
  replace h := h8.2
  refine r_aload_n (pc := 49) dX12_often_49 rfl rfl ?_
  refine r_iload_n (pc := 50) dX12_often_50 rfl rfl ?_
  refine r_iload_n (pc := 51) dX12_often_51 rfl rfl ?_
  refine r_iload_n (pc := 52) dX12_often_52 rfl rfl ?_
  refine c_VI0N (M := mX12_often) (pc := 53) (As := [vi x1, vi x2, vi x3]) dX12_often_53 K_X12_oftenOf w_1798 ⟨by decide, by decide⟩ (Nat.le_of_ble_eq_true rfl) rfl rfl (ci := 12) rfl rfl (by decide) (okO_of (N := 42) (hL.sh (i := 0) rfl (by decide) (by decide)) (by decide)) (h hL) (fun r3 τ4 h8 hr9 => ?_) rfl
  replace hL := h8.1
  replace h := h8.2 hr9
  exact r_ireturn (pc := 56) (ty := .int) dX12_often_56 (by decide +kernel) rfl (nar_i _) (h hL)
theorem C_X12_often {a0 : Nat} {x1 : Int} {x2 : Int} {x3 : Int} (h : GG E mX12_often 0 [some (vr a0), some (vi x1), some (vi x2), some (vi x3)] [] σ 0 0 Q) : CC E mX12_often [vr a0, vi x1, vi x2, vi x3] σ Q := CC.of (by decide +kernel) rfl (by decide +kernel) (fun h9 => nomatch h9) (Nat.le_of_ble_eq_true rfl) h
theorem dX12_oftenIn_0 : decode cX12_oftenIn 0 = .ok (.lconst 0, 1) := by decide +kernel
theorem dX12_oftenIn_1 : decode cX12_oftenIn 1 = .ok (.lstore_n 3, 1) := by decide +kernel
theorem dX12_oftenIn_2 : decode cX12_oftenIn 2 = .ok (.iconst 0, 1) := by decide +kernel
theorem dX12_oftenIn_3 : decode cX12_oftenIn 3 = .ok (.istore 5, 2) := by decide +kernel
theorem dX12_oftenIn_5 : decode cX12_oftenIn 5 = .ok (.iload 5, 2) := by decide +kernel
theorem dX12_oftenIn_7 : decode cX12_oftenIn 7 = .ok (.aload_n 0, 1) := by decide +kernel
theorem dX12_oftenIn_8 : decode cX12_oftenIn 8 = .ok (.getfield 231, 3) := by decide +kernel
theorem dX12_oftenIn_11 : decode cX12_oftenIn 11 = .ok (.if_icmp .ge 57, 3) := by decide +kernel
theorem dX12_oftenIn_14 : decode cX12_oftenIn 14 = .ok (.lload_n 3, 1) := by decide +kernel
theorem dX12_oftenIn_15 : decode cX12_oftenIn 15 = .ok (.aload_n 0, 1) := by decide +kernel
theorem dX12_oftenIn_16 : decode cX12_oftenIn 16 = .ok (.aload_n 0, 1) := by decide +kernel
theorem dX12_oftenIn_17 : decode cX12_oftenIn 17 = .ok (.getfield 52, 3) := by decide +kernel
theorem dX12_oftenIn_20 : decode cX12_oftenIn 20 = .ok (.iload 5, 2) := by decide +kernel
theorem dX12_oftenIn_22 : decode cX12_oftenIn 22 = .ok (.iaload, 1) := by decide +kernel
theorem dX12_oftenIn_23 : decode cX12_oftenIn 23 = .ok (.i2l, 1) := by decide +kernel
theorem dX12_oftenIn_24 : decode cX12_oftenIn 24 = .ok (.aload_n 1, 1) := by decide +kernel
theorem dX12_oftenIn_25 : decode cX12_oftenIn 25 = .ok (.iload 5, 2) := by decide +kernel
theorem dX12_oftenIn_27 : decode cX12_oftenIn 27 = .ok (.iaload, 1) := by decide +kernel
theorem dX12_oftenIn_28 : decode cX12_oftenIn 28 = .ok (.i2l, 1) := by decide +kernel
theorem dX12_oftenIn_29 : decode cX12_oftenIn 29 = .ok (.lmul, 1) := by decide +kernel
theorem dX12_oftenIn_30 : decode cX12_oftenIn 30 = .ok (.invokevirtual 250, 3) := by decide +kernel
theorem dX12_oftenIn_33 : decode cX12_oftenIn 33 = .ok (.i2l, 1) := by decide +kernel
theorem dX12_oftenIn_34 : decode cX12_oftenIn 34 = .ok (.aload_n 0, 1) := by decide +kernel
theorem dX12_oftenIn_35 : decode cX12_oftenIn 35 = .ok (.getfield 70, 3) := by decide +kernel
theorem dX12_oftenIn_38 : decode cX12_oftenIn 38 = .ok (.iload_n 2, 1) := by decide +kernel
theorem dX12_oftenIn_39 : decode cX12_oftenIn 39 = .ok (.aaload, 1) := by decide +kernel
theorem dX12_oftenIn_40 : decode cX12_oftenIn 40 = .ok (.aload_n 0, 1) := by decide +kernel
theorem dX12_oftenIn_41 : decode cX12_oftenIn 41 = .ok (.getfield 46, 3) := by decide +kernel
theorem dX12_oftenIn_44 : decode cX12_oftenIn 44 = .ok (.aload_n 0, 1) := by decide +kernel
theorem dX12_oftenIn_45 : decode cX12_oftenIn 45 = .ok (.getfield 43, 3) := by decide +kernel
theorem dX12_oftenIn_48 : decode cX12_oftenIn 48 = .ok (.aload_n 0, 1) := by decide +kernel
theorem dX12_oftenIn_49 : decode cX12_oftenIn 49 = .ok (.getfield 49, 3) := by decide +kernel
theorem dX12_oftenIn_52 : decode cX12_oftenIn 52 = .ok (.iload 5, 2) := by decide +kernel
theorem dX12_oftenIn_54 : decode cX12_oftenIn 54 = .ok (.iaload, 1) := by decide +kernel
theorem dX12_oftenIn_55 : decode cX12_oftenIn 55 = .ok (.iaload, 1) := by decide +kernel
theorem dX12_oftenIn_56 : decode cX12_oftenIn 56 = .ok (.iaload, 1) := by decide +kernel
theorem dX12_oftenIn_57 : decode cX12_oftenIn 57 = .ok (.iaload, 1) := by decide +kernel
theorem dX12_oftenIn_58 : decode cX12_oftenIn 58 = .ok (.i2l, 1) := by decide +kernel
theorem dX12_oftenIn_59 : decode cX12_oftenIn 59 = .ok (.lmul, 1) := by decide +kernel
theorem dX12_oftenIn_60 : decode cX12_oftenIn 60 = .ok (.ladd, 1) := by decide +kernel
theorem dX12_oftenIn_61 : decode cX12_oftenIn 61 = .ok (.lstore_n 3, 1) := by decide +kernel
theorem dX12_oftenIn_62 : decode cX12_oftenIn 62 = .ok (.iinc 5 1, 3) := by decide +kernel
theorem dX12_oftenIn_65 : decode cX12_oftenIn 65 = .ok (.goto (-60), 3) := by decide +kernel
theorem dX12_oftenIn_68 : decode cX12_oftenIn 68 = .ok (.aload_n 0, 1) := by decide +kernel
theorem dX12_oftenIn_69 : decode cX12_oftenIn 69 = .ok (.aload_n 0, 1) := by decide +kernel
theorem dX12_oftenIn_70 : decode cX12_oftenIn 70 = .ok (.lload_n 3, 1) := by decide +kernel
theorem dX12_oftenIn_71 : decode cX12_oftenIn 71 = .ok (.invokevirtual 250, 3) := by decide +kernel
theorem dX12_oftenIn_74 : decode cX12_oftenIn 74 = .ok (.aload_n 0, 1) := by decide +kernel
theorem dX12_oftenIn_75 : decode cX12_oftenIn 75 = .ok (.getfield 192, 3) := by decide +kernel
theorem dX12_oftenIn_78 : decode cX12_oftenIn 78 = .ok (.aload_n 0, 1) := by decide +kernel
theorem dX12_oftenIn_79 : decode cX12_oftenIn 79 = .ok (.getfield 241, 3) := by decide +kernel
theorem dX12_oftenIn_82 : decode cX12_oftenIn 82 = .ok (.irem, 1) := by decide +kernel
theorem dX12_oftenIn_83 : decode cX12_oftenIn 83 = .ok (.invokevirtual 254, 3) := by decide +kernel
theorem dX12_oftenIn_86 : decode cX12_oftenIn 86 = .ok (.ireturn, 1) := by decide +kernel
theorem B_X12_oftenIn_0 {g : Sg} {c t : Nat} (hL : Lay LM g c t σ) {a1 : Nat} {n1 : Nat} (p1 : PA LM a1 n1) {x2 : Int} (h : (Lay LM g c t σ → GG E mX12_oftenIn 5 [some (vr 172), some (vr a1), some (vi x2), some (vl 0), none, some (vi 0)] [] σ rc rs Q)) : GG E mX12_oftenIn 0 [some (vr 172), some (vr a1), some (vi x2), none, none, none] [] σ rc rs Q := by
  refine r_lconst (pc := 0) (x := 0) dX12_oftenIn_0 rfl ?_
  refine r_lstore_n (pc := 1) dX12_oftenIn_1 rfl (by decide) (l2 := [some (vr 172), some (vr a1), some (vi x2), some (vl 0), none, none]) rfl ?_
  refine r_iconst (pc := 2) dX12_oftenIn_2 (inRk rfl) ?_
  refine r_istore (pc := 3) dX12_oftenIn_3 (by decide) (l2 := [some (vr 172), some (vr a1), some (vi x2), some (vl 0), none, some (vi 0)]) rfl ?_
  exact (h hL)
theorem B_X12_oftenIn_5 {g : Sg} {c t : Nat} (hL : Lay LM g c t σ) {a1 : Nat} {n1 : Nat} (p1 : PA LM a1 n1) {x2 : Int} {y3 : Int} {x5 : Int} (h : (((gI σ 172 16) ≤ x5 → (Lay LM g c t σ → CC E mX12_mod [vr 172, vl y3] σ (KI (fun r1 τ2 => Lay LM g c t τ2 ∧ (inR r1 → (gI τ2 172 18) ≠ 0 ∧ (Lay LM g c t τ2 → CC E mX12_over [vr 172, vi r1, vi ((gI τ2 172 15).tmod (gI τ2 172 18))] τ2 (KI (fun r4 τ5 => Lay LM g c t τ5 ∧ (inR r4 → (Lay LM g c t τ5 → Q (.inl (some (vi r4))) τ5))) (fun _ _ => False))))) (fun _ _ => False)))) ∧ (¬ ((gI σ 172 16) ≤ x5) → (0 ≤ x5 ∧ x5 < 120) ∧ (0 ≤ x5 ∧ x5 < (n1 : Int)) ∧ ∀ v8 : Int, v8 = wL ((gI σ 555 x5.toNat) * (gI σ a1 x5.toNat)) → (Lay LM g c t σ → CC E mX12_mod [vr 172, vl v8] σ (KI (fun r9 τ10 => Lay LM g c t τ10 ∧ (inR r9 → (0 ≤ x2 ∧ x2 < 48) ∧ ∀ b12 : Nat, b12 = gR τ10 2913 x2.toNat → (2914 ≤ b12 ∧ b12 < 2962) → (0 ≤ (gI τ10 554 x5.toNat) ∧ (gI τ10 554 x5.toNat) < 120) ∧ (0 ≤ (gI τ10 552 (gI τ10 554 x5.toNat).toNat) ∧ (gI τ10 552 (gI τ10 554 x5.toNat).toNat) < 120) ∧ (0 ≤ (gI τ10 553 (gI τ10 552 (gI τ10 554 x5.toNat).toNat).toNat) ∧ (gI τ10 553 (gI τ10 552 (gI τ10 554 x5.toNat).toNat).toNat) < 48) ∧ ∀ v17 : Int, v17 = gI τ10 b12 (gI τ10 553 (gI τ10 552 (gI τ10 554 x5.toNat).toNat).toNat).toNat → inR (x5 + 1) ∧ (Lay LM g c t τ10 → GG E mX12_oftenIn 5 [some (vr 172), some (vr a1), some (vi x2), some (vl (wL (y3 + (wL (r9 * v17))))), none, some (vi (x5 + 1))] [] τ10 rc rs Q))) (fun _ _ => False)))))) : GG E mX12_oftenIn 5 [some (vr 172), some (vr a1), some (vi x2), some (vl y3), none, some (vi x5)] [] σ rc rs Q := by
  refine r_iload (pc := 5) dX12_oftenIn_5 rfl ?_
  refine r_aload_n (pc := 7) dX12_oftenIn_7 rfl rfl ?_
  refine r_getI (pc := 8) dX12_oftenIn_8 (k9 := 16) CL_12 (by decide) (by decide) w_1431 rfl (okO_of (N := 42) (hL.sh (i := 0) rfl (by decide) (by decide)) (by decide)) (fun _ => ?_)
  refine r_icmp_ge (pc := 11) (tgt := 68) dX12_oftenIn_11 (by decide) (fun c9 => ?_) (fun c9 => ?_)
  · replace h := h.1 c9
    refine r_aload_n (pc := 68) dX12_oftenIn_68 rfl rfl ?_
    refine r_aload_n (pc := 69) dX12_oftenIn_69 rfl rfl ?_
    refine r_lload_n (pc := 70) dX12_oftenIn_70 rfl rfl ?_
    refine c_VI0N (M := mX12_oftenIn) (pc := 71) (As := [vl y3]) dX12_oftenIn_71 K_X12_mod w_1666 ⟨by decide, by decide⟩ (Nat.le_of_ble_eq_true rfl) rfl rfl (ci := 12) rfl rfl (by decide) (okO_of (N := 42) (hL.sh (i := 0) rfl (by decide) (by decide)) (by decide)) (h hL) (fun r1 τ2 h8 hr9 => ?_) rfl
    replace hL := h8.1
    replace h := h8.2 hr9
    refine r_aload_n (pc := 74) dX12_oftenIn_74 rfl rfl ?_
    refine r_getI (pc := 75) dX12_oftenIn_75 (k9 := 15) CL_12 (by decide) (by decide) w_1430 rfl (okO_of (N := 42) (hL.sh (i := 0) rfl (by decide) (by decide)) (by decide)) (fun _ => ?_)
    refine r_aload_n (pc := 78) dX12_oftenIn_78 rfl rfl ?_
    refine r_getI (pc := 79) dX12_oftenIn_79 (k9 := 18) CL_12 (by decide) (by decide) w_1433 rfl (okO_of (N := 42) (hL.sh (i := 0) rfl (by decide) (by decide)) (by decide)) (fun _ => ?_)
    obtain ⟨o3, h⟩ := h
    refine r_irem (pc := 82) dX12_oftenIn_82 o3 ?_
    refine c_VI0N (M := mX12_oftenIn) (pc := 83) (As := [vi r1, vi ((gI τ2 172 15).tmod (gI τ2 172 18))]) dX12_oftenIn_83 K_X12_over w_1674 ⟨by decide, by decide⟩ (Nat.le_of_ble_eq_true rfl) rfl rfl (ci := 12) rfl rfl (by decide) (okO_of (N := 42) (hL.sh (i := 0) rfl (by decide) (by decide)) (by decide)) (h hL) (fun r4 τ5 h8 hr9 => ?_) rfl
    replace hL := h8.1
    replace h := h8.2 hr9
    exact r_ireturn (pc := 86) (ty := .int) dX12_oftenIn_86 (by decide +kernel) rfl (nar_i _) (h hL)
  · replace h := h.2 c9
    refine r_lload_n (pc := 14) dX12_oftenIn_14 rfl rfl ?_
    refine r_aload_n (pc := 15) dX12_oftenIn_15 rfl rfl ?_
    refine r_aload_n (pc := 16) dX12_oftenIn_16 rfl rfl ?_
    refine r_getR (pc := 17) dX12_oftenIn_17 (k9 := 26) CL_12 (by decide) (by decide) w_1441 rfl (okO_of (N := 42) (hL.sh (i := 0) rfl (by decide) (by decide)) (by decide)) ?_
    refine eqR (y := 555) (hL.rf (i := 12) rfl) ?_
    refine r_iload (pc := 20) dX12_oftenIn_20 rfl ?_
    obtain ⟨o6, h⟩ := h
    refine r_iaload (pc := 22) dX12_oftenIn_22 (okA_of (c := 20) (n := 120) (hL.sh (i := 17) rfl (by decide) (by decide)) (by decide) o6) ?_
    refine r_i2l (pc := 23) dX12_oftenIn_23 ?_
    refine r_aload_n (pc := 24) dX12_oftenIn_24 rfl rfl ?_
    refine r_iload (pc := 25) dX12_oftenIn_25 rfl ?_
    obtain ⟨o7, h⟩ := h
    refine r_iaload (pc := 27) dX12_oftenIn_27 (okA_of (c := 20) (n := n1) (p1.sh hL) p1.2.2.1 o7) ?_
    refine r_i2l (pc := 28) dX12_oftenIn_28 ?_
    refine r_lmul (pc := 29) dX12_oftenIn_29 ?_
    refine nmL (fun v8 e9 => ?_)
    replace h := h v8 e9
    refine c_VI0N (M := mX12_oftenIn) (pc := 30) (As := [vl v8]) dX12_oftenIn_30 K_X12_mod w_1666 ⟨by decide, by decide⟩ (Nat.le_of_ble_eq_true rfl) rfl rfl (ci := 12) rfl rfl (by decide) (okO_of (N := 42) (hL.sh (i := 0) rfl (by decide) (by decide)) (by decide)) (h hL) (fun r9 τ10 h8 hr9 => ?_) rfl
    replace hL := h8.1
    replace h := h8.2 hr9
    refine r_i2l (pc := 33) dX12_oftenIn_33 ?_
    refine r_aload_n (pc := 34) dX12_oftenIn_34 rfl rfl ?_
    refine r_getR (pc := 35) dX12_oftenIn_35 (k9 := 33) CL_12 (by decide) (by decide) w_1448 rfl (okO_of (N := 42) (hL.sh (i := 0) rfl (by decide) (by decide)) (by decide)) ?_
    refine eqR (y := 2913) (hL.rf (i := 18) rfl) ?_
    refine r_iload_n (pc := 38) dX12_oftenIn_38 rfl rfl ?_
    obtain ⟨o11, h⟩ := h
    refine r_aaload (pc := 39) dX12_oftenIn_39 (okB_of (c := 24) (n := 48) (hL.sh (i := 25) rfl (by decide) (by decide)) (by decide) o11) ?_
    refine nmR (fun b12 e9 => ?_)
    have q13 : (2914 ≤ b12 ∧ b12 < 2962) := e9 ▸ hL.rsw (i := 1) rfl (rowC o11 (by decide))
    replace h := h b12 e9 q13
    refine r_aload_n (pc := 40) dX12_oftenIn_40 rfl rfl ?_
    refine r_getR (pc := 41) dX12_oftenIn_41 (k9 := 24) CL_12 (by decide) (by decide) w_1439 rfl (okO_of (N := 42) (hL.sh (i := 0) rfl (by decide) (by decide)) (by decide)) ?_
    refine eqR (y := 553) (hL.rf (i := 10) rfl) ?_
    refine r_aload_n (pc := 44) dX12_oftenIn_44 rfl rfl ?_
    refine r_getR (pc := 45) dX12_oftenIn_45 (k9 := 23) CL_12 (by decide) (by decide) w_1438 rfl (okO_of (N := 42) (hL.sh (i := 0) rfl (by decide) (by decide)) (by decide)) ?_
    refine eqR (y := 552) (hL.rf (i := 9) rfl) ?_
    refine r_aload_n (pc := 48) dX12_oftenIn_48 rfl rfl ?_
    refine r_getR (pc := 49) dX12_oftenIn_49 (k9 := 25) CL_12 (by decide) (by decide) w_1440 rfl (okO_of (N := 42) (hL.sh (i := 0) rfl (by decide) (by decide)) (by decide)) ?_
    refine eqR (y := 554) (hL.rf (i := 11) rfl) ?_
    refine r_iload (pc := 52) dX12_oftenIn_52 rfl ?_
    refine r_iaload (pc := 54) dX12_oftenIn_54 (okA_of (c := 20) (n := 120) (hL.sh (i := 16) rfl (by decide) (by decide)) (by decide) o6) ?_
    obtain ⟨o14, h⟩ := h
    refine r_iaload (pc := 55) dX12_oftenIn_55 (okA_of (c := 20) (n := 120) (hL.sh (i := 14) rfl (by decide) (by decide)) (by decide) o14) ?_
    obtain ⟨o15, h⟩ := h
    refine r_iaload (pc := 56) dX12_oftenIn_56 (okA_of (c := 20) (n := 120) (hL.sh (i := 15) rfl (by decide) (by decide)) (by decide) o15) ?_
    obtain ⟨o16, h⟩ := h
    refine r_iaload (pc := 57) dX12_oftenIn_57 (okA_of (c := 20) (n := 48) (hL.sh (i := 26) rfl q13.1 q13.2) (Nat.le_trans (by decide) q13.1) o16) ?_
    refine nmI (fun v17 e9 => ?_)
    replace h := h v17 e9
    refine r_i2l (pc := 58) dX12_oftenIn_58 ?_
    refine r_lmul (pc := 59) dX12_oftenIn_59 ?_
    refine r_ladd (pc := 60) dX12_oftenIn_60 ?_
    refine r_lstore_n (pc := 61) dX12_oftenIn_61 rfl (by decide) (l2 := [some (vr 172), some (vr a1), some (vi x2), some (vl (wL (y3 + (wL (r9 * v17))))), none, some (vi x5)]) rfl ?_
    obtain ⟨o18, h⟩ := h
    refine r_iinc (pc := 62) dX12_oftenIn_62 rfl (by decide) o18 (l2 := [some (vr 172), some (vr a1), some (vi x2), some (vl (wL (y3 + (wL (r9 * v17))))), none, some (vi (x5 + 1))]) rfl ?_
    refine r_goto (pc := 65) (tgt := 5) dX12_oftenIn_65 (by decide) ?_
    exact (h hL)
theorem C_X12_oftenIn {a0 : Nat} {a1 : Nat} {x2 : Int} (h : GG E mX12_oftenIn 0 [some (vr a0), some (vr a1), some (vi x2), none, none, none] [] σ 0 0 Q) : CC E mX12_oftenIn [vr a0, vr a1, vi x2] σ Q := CC.of (by decide +kernel) rfl (by decide +kernel) (fun h9 => nomatch h9) (Nat.le_of_ble_eq_true rfl) h
theorem dX12_oftenOf_0 : decode cX12_oftenOf 0 = .ok (.iconst 0, 1) := by decide +kernel
theorem dX12_oftenOf_1 : decode cX12_oftenOf 1 = .ok (.istore 4, 2) := by decide +kernel
theorem dX12_oftenOf_3 : decode cX12_oftenOf 3 = .ok (.iload 4, 2) := by decide +kernel
theorem dX12_oftenOf_5 : decode cX12_oftenOf 5 = .ok (.aload_n 0, 1) := by decide +kernel
theorem dX12_oftenOf_6 : decode cX12_oftenOf 6 = .ok (.getfield 231, 3) := by decide +kernel
theorem dX12_oftenOf_9 : decode cX12_oftenOf 9 = .ok (.if_icmp .ge 41, 3) := by decide +kernel
theorem dX12_oftenOf_12 : decode cX12_oftenOf 12 = .ok (.aload_n 0, 1) := by decide +kernel
theorem dX12_oftenOf_13 : decode cX12_oftenOf 13 = .ok (.getfield 76, 3) := by decide +kernel
theorem dX12_oftenOf_16 : decode cX12_oftenOf 16 = .ok (.iload 4, 2) := by decide +kernel
theorem dX12_oftenOf_18 : decode cX12_oftenOf 18 = .ok (.aload_n 0, 1) := by decide +kernel
theorem dX12_oftenOf_19 : decode cX12_oftenOf 19 = .ok (.aload_n 0, 1) := by decide +kernel
theorem dX12_oftenOf_20 : decode cX12_oftenOf 20 = .ok (.getfield 70, 3) := by decide +kernel
theorem dX12_oftenOf_23 : decode cX12_oftenOf 23 = .ok (.iload_n 1, 1) := by decide +kernel
theorem dX12_oftenOf_24 : decode cX12_oftenOf 24 = .ok (.aaload, 1) := by decide +kernel
theorem dX12_oftenOf_25 : decode cX12_oftenOf 25 = .ok (.iload 4, 2) := by decide +kernel
theorem dX12_oftenOf_27 : decode cX12_oftenOf 27 = .ok (.iaload, 1) := by decide +kernel
theorem dX12_oftenOf_28 : decode cX12_oftenOf 28 = .ok (.i2l, 1) := by decide +kernel
theorem dX12_oftenOf_29 : decode cX12_oftenOf 29 = .ok (.aload_n 0, 1) := by decide +kernel
theorem dX12_oftenOf_30 : decode cX12_oftenOf 30 = .ok (.getfield 70, 3) := by decide +kernel
theorem dX12_oftenOf_33 : decode cX12_oftenOf 33 = .ok (.iload_n 2, 1) := by decide +kernel
theorem dX12_oftenOf_34 : decode cX12_oftenOf 34 = .ok (.aaload, 1) := by decide +kernel
theorem dX12_oftenOf_35 : decode cX12_oftenOf 35 = .ok (.iload 4, 2) := by decide +kernel
theorem dX12_oftenOf_37 : decode cX12_oftenOf 37 = .ok (.iaload, 1) := by decide +kernel
theorem dX12_oftenOf_38 : decode cX12_oftenOf 38 = .ok (.i2l, 1) := by decide +kernel
theorem dX12_oftenOf_39 : decode cX12_oftenOf 39 = .ok (.lmul, 1) := by decide +kernel
theorem dX12_oftenOf_40 : decode cX12_oftenOf 40 = .ok (.invokevirtual 250, 3) := by decide +kernel
theorem dX12_oftenOf_43 : decode cX12_oftenOf 43 = .ok (.iastore, 1) := by decide +kernel
theorem dX12_oftenOf_44 : decode cX12_oftenOf 44 = .ok (.iinc 4 1, 3) := by decide +kernel
theorem dX12_oftenOf_47 : decode cX12_oftenOf 47 = .ok (.goto (-44), 3) := by decide +kernel
theorem dX12_oftenOf_50 : decode cX12_oftenOf 50 = .ok (.aload_n 0, 1) := by decide +kernel
theorem dX12_oftenOf_51 : decode cX12_oftenOf 51 = .ok (.aload_n 0, 1) := by decide +kernel
theorem dX12_oftenOf_52 : decode cX12_oftenOf 52 = .ok (.getfield 76, 3) := by decide +kernel
theorem dX12_oftenOf_55 : decode cX12_oftenOf 55 = .ok (.iload_n 3, 1) := by decide +kernel
theorem dX12_oftenOf_56 : decode cX12_oftenOf 56 = .ok (.invokevirtual 286, 3) := by decide +kernel
theorem dX12_oftenOf_59 : decode cX12_oftenOf 59 = .ok (.ireturn, 1) := by decide +kernel
theorem B_X12_oftenOf_0 {g : Sg} {c t : Nat} (hL : Lay LM g c t σ) {x1 : Int} {x2 : Int} {x3 : Int} (h : (Lay LM g c t σ → GG E mX12_oftenOf 3 [some (vr 172), some (vi x1), some (vi x2), some (vi x3), some (vi 0)] [] σ rc rs Q)) : GG E mX12_oftenOf 0 [some (vr 172), some (vi x1), some (vi x2), some (vi x3), none] [] σ rc rs Q := by
  refine r_iconst (pc := 0) dX12_oftenOf_0 (inRk rfl) ?_
  refine r_istore (pc := 1) dX12_oftenOf_1 (by decide) (l2 := [some (vr 172), some (vi x1), some (vi x2), some (vi x3), some (vi 0)]) rfl ?_
  exact (h hL)
theorem B_X12_oftenOf_3 {g : Sg} {c t : Nat} (hL : Lay LM g c t σ) {x1 : Int} {x2 : Int} {x3 : Int} {x4 : Int} (h : (((gI σ 172 16) ≤ x4 → (Lay LM g c t σ → CC E mX12_oftenIn [vr 172, vr 2963, vi x3] σ (KI (fun r1 τ2 => Lay LM g c t τ2 ∧ (inR r1 → (Lay LM g c t τ2 → Q (.inl (some (vi r1))) τ2))) (fun _ _ => False)))) ∧ (¬ ((gI σ 172 16) ≤ x4) → (0 ≤ x1 ∧ x1 < 48) ∧ ∀ b4 : Nat, b4 = gR σ 2913 x1.toNat → (2914 ≤ b4 ∧ b4 < 2962) → (0 ≤ x4 ∧ x4 < 48) ∧ (0 ≤ x2 ∧ x2 < 48) ∧ ∀ b8 : Nat, b8 = gR σ 2913 x2.toNat → (2914 ≤ b8 ∧ b8 < 2962) → (Lay LM g c t σ → CC E mX12_mod [vr 172, vl (wL ((gI σ b4 x4.toNat) * (gI σ b8 x4.toNat)))] σ (KI (fun r10 τ11 => Lay LM g c t τ11 ∧ (inR r10 → ∀ τ12 : Sg, τ12 = sI τ11 2963 x4.toNat r10 → inR (x4 + 1) ∧ (Lay LM g c t τ12 → GG E mX12_oftenOf 3 [some (vr 172), some (vi x1), some (vi x2), some (vi x3), some (vi (x4 + 1))] [] τ12 rc rs Q))) (fun _ _ => False)))))) : GG E mX12_oftenOf 3 [some (vr 172), some (vi x1), some (vi x2), some (vi x3), some (vi x4)] [] σ rc rs Q := by
  refine r_iload (pc := 3) dX12_oftenOf_3 rfl ?_
  refine r_aload_n (pc := 5) dX12_oftenOf_5 rfl rfl ?_
  refine r_getI (pc := 6) dX12_oftenOf_6 (k9 := 16) CL_12 (by decide) (by decide) w_1431 rfl (okO_of (N := 42) (hL.sh (i := 0) rfl (by decide) (by decide)) (by decide)) (fun _ => ?_)
  refine r_icmp_ge (pc := 9) (tgt := 50) dX12_oftenOf_9 (by decide) (fun c9 => ?_) (fun c9 => ?_)
  · replace h := h.1 c9
    refine r_aload_n (pc := 50) dX12_oftenOf_50 rfl rfl ?_
    refine r_aload_n (pc := 51) dX12_oftenOf_51 rfl rfl ?_
    refine r_getR (pc := 52) dX12_oftenOf_52 (k9 := 36) CL_12 (by decide) (by decide) w_1451 rfl (okO_of (N := 42) (hL.sh (i := 0) rfl (by decide) (by decide)) (by decide)) ?_
    refine eqR (y := 2963) (hL.rf (i := 20) rfl) ?_
    refine r_iload_n (pc := 55) dX12_oftenOf_55 rfl rfl ?_
    refine c_VI0N (M := mX12_oftenOf) (pc := 56) (As := [vr 2963, vi x3]) dX12_oftenOf_56 K_X12_oftenIn w_1738 ⟨by decide, by decide⟩ (Nat.le_of_ble_eq_true rfl) rfl rfl (ci := 12) rfl rfl (by decide) (okO_of (N := 42) (hL.sh (i := 0) rfl (by decide) (by decide)) (by decide)) (h hL) (fun r1 τ2 h8 hr9 => ?_) rfl
    replace hL := h8.1
    replace h := h8.2 hr9
    exact r_ireturn (pc := 59) (ty := .int) dX12_oftenOf_59 (by decide +kernel) rfl (nar_i _) (h hL)
  · replace h := h.2 c9
    refine r_aload_n (pc := 12) dX12_oftenOf_12 rfl rfl ?_
    refine r_getR (pc := 13) dX12_oftenOf_13 (k9 := 36) CL_12 (by decide) (by decide) w_1451 rfl (okO_of (N := 42) (hL.sh (i := 0) rfl (by decide) (by decide)) (by decide)) ?_
    refine eqR (y := 2963) (hL.rf (i := 20) rfl) ?_
    refine r_iload (pc := 16) dX12_oftenOf_16 rfl ?_
    refine r_aload_n (pc := 18) dX12_oftenOf_18 rfl rfl ?_
    refine r_aload_n (pc := 19) dX12_oftenOf_19 rfl rfl ?_
    refine r_getR (pc := 20) dX12_oftenOf_20 (k9 := 33) CL_12 (by decide) (by decide) w_1448 rfl (okO_of (N := 42) (hL.sh (i := 0) rfl (by decide) (by decide)) (by decide)) ?_
    refine eqR (y := 2913) (hL.rf (i := 18) rfl) ?_
    refine r_iload_n (pc := 23) dX12_oftenOf_23 rfl rfl ?_
    obtain ⟨o3, h⟩ := h
    refine r_aaload (pc := 24) dX12_oftenOf_24 (okB_of (c := 24) (n := 48) (hL.sh (i := 25) rfl (by decide) (by decide)) (by decide) o3) ?_
    refine nmR (fun b4 e9 => ?_)
    have q5 : (2914 ≤ b4 ∧ b4 < 2962) := e9 ▸ hL.rsw (i := 1) rfl (rowC o3 (by decide))
    replace h := h b4 e9 q5
    refine r_iload (pc := 25) dX12_oftenOf_25 rfl ?_
    obtain ⟨o6, h⟩ := h
    refine r_iaload (pc := 27) dX12_oftenOf_27 (okA_of (c := 20) (n := 48) (hL.sh (i := 26) rfl q5.1 q5.2) (Nat.le_trans (by decide) q5.1) o6) ?_
    refine r_i2l (pc := 28) dX12_oftenOf_28 ?_
    refine r_aload_n (pc := 29) dX12_oftenOf_29 rfl rfl ?_
    refine r_getR (pc := 30) dX12_oftenOf_30 (k9 := 33) CL_12 (by decide) (by decide) w_1448 rfl (okO_of (N := 42) (hL.sh (i := 0) rfl (by decide) (by decide)) (by decide)) ?_
    refine eqR (y := 2913) (hL.rf (i := 18) rfl) ?_
    refine r_iload_n (pc := 33) dX12_oftenOf_33 rfl rfl ?_
    obtain ⟨o7, h⟩ := h
    refine r_aaload (pc := 34) dX12_oftenOf_34 (okB_of (c := 24) (n := 48) (hL.sh (i := 25) rfl (by decide) (by decide)) (by decide) o7) ?_
    refine nmR (fun b8 e9 => ?_)
    have q9 : (2914 ≤ b8 ∧ b8 < 2962) := e9 ▸ hL.rsw (i := 1) rfl (rowC o7 (by decide))
    replace h := h b8 e9 q9
    refine r_iload (pc := 35) dX12_oftenOf_35 rfl ?_
    refine r_iaload (pc := 37) dX12_oftenOf_37 (okA_of (c := 20) (n := 48) (hL.sh (i := 26) rfl q9.1 q9.2) (Nat.le_trans (by decide) q9.1) o6) ?_
    refine r_i2l (pc := 38) dX12_oftenOf_38 ?_
    refine r_lmul (pc := 39) dX12_oftenOf_39 ?_
    refine c_VI0N (M := mX12_oftenOf) (pc := 40) (As := [vl (wL ((gI σ b4 x4.toNat) * (gI σ b8 x4.toNat)))]) dX12_oftenOf_40 K_X12_mod w_1666 ⟨by decide, by decide⟩ (Nat.le_of_ble_eq_true rfl) rfl rfl (ci := 12) rfl rfl (by decide) (okO_of (N := 42) (hL.sh (i := 0) rfl (by decide) (by decide)) (by decide)) (h hL) (fun r10 τ11 h8 hr9 => ?_) rfl
    replace hL := h8.1
    replace h := h8.2 hr9
    refine r_iastore (pc := 43) dX12_oftenOf_43 (okB_of (c := 20) (n := 48) (hL.sh (i := 28) rfl (by decide) (by decide)) (by decide) o6) ?_
    refine nmS (fun τ12 e12 => ?_)
    replace h := h τ12 e12
    have hL := hL.wI e12 (by decide) (.inl (by decide))
    obtain ⟨o13, h⟩ := h
    refine r_iinc (pc := 44) dX12_oftenOf_44 rfl (by decide) o13 (l2 := [some (vr 172), some (vi x1), some (vi x2), some (vi x3), some (vi (x4 + 1))]) rfl ?_
    refine r_goto (pc := 47) (tgt := 3) dX12_oftenOf_47 (by decide) ?_
    exact (h hL)
theorem C_X12_oftenOf {a0 : Nat} {x1 : Int} {x2 : Int} {x3 : Int} (h : GG E mX12_oftenOf 0 [some (vr a0), some (vi x1), some (vi x2), some (vi x3), none] [] σ 0 0 Q) : CC E mX12_oftenOf [vr a0, vi x1, vi x2, vi x3] σ Q := CC.of (by decide +kernel) rfl (by decide +kernel) (fun h9 => nomatch h9) (Nat.le_of_ble_eq_true rfl) h
theorem dX12_opposite_0 : decode cX12_opposite 0 = .ok (.aload_n 0, 1) := by decide +kernel
theorem dX12_opposite_1 : decode cX12_opposite 1 = .ok (.iconst 0, 1) := by decide +kernel
theorem dX12_opposite_2 : decode cX12_opposite 2 = .ok (.putfield 99, 3) := by decide +kernel
theorem dX12_opposite_5 : decode cX12_opposite 5 = .ok (.aload_n 0, 1) := by decide +kernel
theorem dX12_opposite_6 : decode cX12_opposite 6 = .ok (.aload_n 0, 1) := by decide +kernel
theorem dX12_opposite_7 : decode cX12_opposite 7 = .ok (.iload_n 1, 1) := by decide +kernel
theorem dX12_opposite_8 : decode cX12_opposite 8 = .ok (.invokevirtual 335, 3) := by decide +kernel
theorem dX12_opposite_11 : decode cX12_opposite 11 = .ok (.ifCond .ne 7, 3) := by decide +kernel
theorem dX12_opposite_14 : decode cX12_opposite 14 = .ok (.iconst 1, 1) := by decide +kernel
theorem dX12_opposite_15 : decode cX12_opposite 15 = .ok (.goto 4, 3) := by decide +kernel
theorem dX12_opposite_18 : decode cX12_opposite 18 = .ok (.iconst 0, 1) := by decide +kernel
theorem dX12_opposite_19 : decode cX12_opposite 19 = .ok (.iconst 1, 1) := by decide +kernel
theorem dX12_opposite_20 : decode cX12_opposite 20 = .ok (.iconst 0, 1) := by decide +kernel
theorem dX12_opposite_21 : decode cX12_opposite 21 = .ok (.invokevirtual 177, 3) := by decide +kernel
theorem dX12_opposite_24 : decode cX12_opposite 24 = .ok (.ifCond .eq 5, 3) := by decide +kernel
theorem dX12_opposite_27 : decode cX12_opposite 27 = .ok (.iconst 0, 1) := by decide +kernel
theorem dX12_opposite_28 : decode cX12_opposite 28 = .ok (.ireturn, 1) := by decide +kernel
theorem dX12_opposite_29 : decode cX12_opposite 29 = .ok (.aload_n 0, 1) := by decide +kernel
theorem dX12_opposite_30 : decode cX12_opposite 30 = .ok (.invokevirtual 317, 3) := by decide +kernel
theorem dX12_opposite_33 : decode cX12_opposite 33 = .ok (.iconst 0, 1) := by decide +kernel
theorem dX12_opposite_34 : decode cX12_opposite 34 = .ok (.istore_n 2, 1) := by decide +kernel
theorem dX12_opposite_35 : decode cX12_opposite 35 = .ok (.iload_n 2, 1) := by decide +kernel
theorem dX12_opposite_36 : decode cX12_opposite 36 = .ok (.aload_n 0, 1) := by decide +kernel
theorem dX12_opposite_37 : decode cX12_opposite 37 = .ok (.getfield 231, 3) := by decide +kernel
theorem dX12_opposite_40 : decode cX12_opposite 40 = .ok (.if_icmp .ge 79, 3) := by decide +kernel
theorem dX12_opposite_43 : decode cX12_opposite 43 = .ok (.iconst 1, 1) := by decide +kernel
theorem dX12_opposite_44 : decode cX12_opposite 44 = .ok (.istore_n 3, 1) := by decide +kernel
theorem dX12_opposite_45 : decode cX12_opposite 45 = .ok (.iconst 0, 1) := by decide +kernel
theorem dX12_opposite_46 : decode cX12_opposite 46 = .ok (.istore 4, 2) := by decide +kernel
theorem dX12_opposite_48 : decode cX12_opposite 48 = .ok (.iload 4, 2) := by decide +kernel
theorem dX12_opposite_50 : decode cX12_opposite 50 = .ok (.aload_n 0, 1) := by decide +kernel
theorem dX12_opposite_51 : decode cX12_opposite 51 = .ok (.getfield 231, 3) := by decide +kernel
theorem dX12_opposite_54 : decode cX12_opposite 54 = .ok (.if_icmp .ge 53, 3) := by decide +kernel
theorem dX12_opposite_57 : decode cX12_opposite 57 = .ok (.iload_n 3, 1) := by decide +kernel
theorem dX12_opposite_58 : decode cX12_opposite 58 = .ok (.aload_n 0, 1) := by decide +kernel
theorem dX12_opposite_59 : decode cX12_opposite 59 = .ok (.getfield 70, 3) := by decide +kernel
theorem dX12_opposite_62 : decode cX12_opposite 62 = .ok (.iload_n 2, 1) := by decide +kernel
theorem dX12_opposite_63 : decode cX12_opposite 63 = .ok (.aaload, 1) := by decide +kernel
theorem dX12_opposite_64 : decode cX12_opposite 64 = .ok (.iload 4, 2) := by decide +kernel
theorem dX12_opposite_66 : decode cX12_opposite 66 = .ok (.iaload, 1) := by decide +kernel
theorem dX12_opposite_67 : decode cX12_opposite 67 = .ok (.aload_n 0, 1) := by decide +kernel
theorem dX12_opposite_68 : decode cX12_opposite 68 = .ok (.getfield 70, 3) := by decide +kernel
theorem dX12_opposite_71 : decode cX12_opposite 71 = .ok (.iload_n 1, 1) := by decide +kernel
theorem dX12_opposite_72 : decode cX12_opposite 72 = .ok (.aaload, 1) := by decide +kernel
theorem dX12_opposite_73 : decode cX12_opposite 73 = .ok (.aload_n 0, 1) := by decide +kernel
theorem dX12_opposite_74 : decode cX12_opposite 74 = .ok (.getfield 46, 3) := by decide +kernel
theorem dX12_opposite_77 : decode cX12_opposite 77 = .ok (.aload_n 0, 1) := by decide +kernel
theorem dX12_opposite_78 : decode cX12_opposite 78 = .ok (.getfield 43, 3) := by decide +kernel
theorem dX12_opposite_81 : decode cX12_opposite 81 = .ok (.aload_n 0, 1) := by decide +kernel
theorem dX12_opposite_82 : decode cX12_opposite 82 = .ok (.getfield 49, 3) := by decide +kernel
theorem dX12_opposite_85 : decode cX12_opposite 85 = .ok (.iload 4, 2) := by decide +kernel
theorem dX12_opposite_87 : decode cX12_opposite 87 = .ok (.iaload, 1) := by decide +kernel
theorem dX12_opposite_88 : decode cX12_opposite 88 = .ok (.iaload, 1) := by decide +kernel
theorem dX12_opposite_89 : decode cX12_opposite 89 = .ok (.iaload, 1) := by decide +kernel
theorem dX12_opposite_90 : decode cX12_opposite 90 = .ok (.iaload, 1) := by decide +kernel
theorem dX12_opposite_91 : decode cX12_opposite 91 = .ok (.if_icmp .ne 7, 3) := by decide +kernel
theorem dX12_opposite_94 : decode cX12_opposite 94 = .ok (.iconst 1, 1) := by decide +kernel
theorem dX12_opposite_95 : decode cX12_opposite 95 = .ok (.goto 4, 3) := by decide +kernel
theorem dX12_opposite_98 : decode cX12_opposite 98 = .ok (.iconst 0, 1) := by decide +kernel
theorem dX12_opposite_99 : decode cX12_opposite 99 = .ok (.iand, 1) := by decide +kernel
theorem dX12_opposite_100 : decode cX12_opposite 100 = .ok (.istore_n 3, 1) := by decide +kernel
theorem dX12_opposite_101 : decode cX12_opposite 101 = .ok (.iinc 4 1, 3) := by decide +kernel
theorem dX12_opposite_104 : decode cX12_opposite 104 = .ok (.goto (-56), 3) := by decide +kernel
theorem dX12_opposite_107 : decode cX12_opposite 107 = .ok (.iload_n 3, 1) := by decide +kernel
theorem dX12_opposite_108 : decode cX12_opposite 108 = .ok (.ifCond .eq 5, 3) := by decide +kernel
theorem dX12_opposite_111 : decode cX12_opposite 111 = .ok (.iload_n 2, 1) := by decide +kernel
theorem dX12_opposite_112 : decode cX12_opposite 112 = .ok (.ireturn, 1) := by decide +kernel
theorem dX12_opposite_113 : decode cX12_opposite 113 = .ok (.iinc 2 1, 3) := by decide +kernel
theorem dX12_opposite_116 : decode cX12_opposite 116 = .ok (.goto (-81), 3) := by decide +kernel
theorem dX12_opposite_119 : decode cX12_opposite 119 = .ok (.iconst (-1), 1) := by decide +kernel
theorem dX12_opposite_120 : decode cX12_opposite 120 = .ok (.ireturn, 1) := by decide +kernel
theorem B_X12_opposite_0 {g : Sg} {c t : Nat} (hL : Lay LM g c t σ) {x1 : Int} (h : ∀ τ1 : Sg, τ1 = sI σ 172 0 0 → (Lay LM g c t τ1 → CC E mX12_isClass [vr 172, vi x1] τ1 (KI (fun r2 τ3 => Lay LM g c t τ3 ∧ (inR r2 → ((r2 ≠ 0 → (Lay LM g c t τ3 → CC E mX12_bad [vr 172, vi 0, vi 1, vi 0] τ3 (KI (fun r4 τ5 => Lay LM g c t τ5 ∧ (inR r4 → ((r4 = 0 → (Lay LM g c t τ5 → CC E mX12_laysRows [vr 172] τ5 (KV (fun τ7 => Lay LM g c t τ7 ∧ (Lay LM g c t τ7 → GG E mX12_opposite 35 [some (vr 172), some (vi x1), some (vi 0), none, none] [] τ7 rc rs Q)) (fun _ _ => False)))) ∧ (¬ (r4 = 0) → (Lay LM g c t τ5 → Q (.inl (some (vi 0))) τ5))))) (fun _ _ => False)))) ∧ (r2 = 0 → (Lay LM g c t τ3 → CC E mX12_bad [vr 172, vi 1, vi 1, vi 0] τ3 (KI (fun r8 τ9 => Lay LM g c t τ9 ∧ (inR r8 → ((r8 = 0 → (Lay LM g c t τ9 → CC E mX12_laysRows [vr 172] τ9 (KV (fun τ11 => Lay LM g c t τ11 ∧ (Lay LM g c t τ11 → GG E mX12_opposite 35 [some (vr 172), some (vi x1), some (vi 0), none, none] [] τ11 rc rs Q)) (fun _ _ => False)))) ∧ (¬ (r8 = 0) → (Lay LM g c t τ9 → Q (.inl (some (vi 0))) τ9))))) (fun _ _ => False))))))) (fun _ _ => False)))) : GG E mX12_opposite 0 [some (vr 172), some (vi x1), none, none, none] [] σ rc rs Q := by
  refine r_aload_n (pc := 0) dX12_opposite_0 rfl rfl ?_
  refine r_iconst (pc := 1) dX12_opposite_1 (inRk rfl) ?_
  refine r_putI (pc := 2) dX12_opposite_2 (k9 := 0) CL_12 (by decide) (by decide) w_1415 rfl rfl (fun h9 => absurd h9 (by decide +kernel)) (okO_of (N := 42) (hL.sh (i := 0) rfl (by decide) (by decide)) (by decide)) ?_
  refine nmS (fun τ1 e1 => ?_)
  replace h := h τ1 e1
  have hL := hL.wI e1 (by decide) (.inl (by decide))
  refine r_aload_n (pc := 5) dX12_opposite_5 rfl rfl ?_
  refine r_aload_n (pc := 6) dX12_opposite_6 rfl rfl ?_
  refine r_iload_n (pc := 7) dX12_opposite_7 rfl rfl ?_
  refine c_VI0N (M := mX12_opposite) (pc := 8) (As := [vi x1]) dX12_opposite_8 K_X12_isClass w_1766 ⟨by decide, by decide⟩ (Nat.le_of_ble_eq_true rfl) rfl rfl (ci := 12) rfl rfl (by decide) (okO_of (N := 42) (hL.sh (i := 0) rfl (by decide) (by decide)) (by decide)) (h hL) (fun r2 τ3 h8 hr9 => ?_) rfl
  replace hL := h8.1
  replace h := h8.2 hr9
  refine r_if_ne (pc := 11) (tgt := 18) dX12_opposite_11 (by decide) (fun c9 => ?_) (fun c9 => ?_)
  · replace h := h.1 c9
    refine r_iconst (pc := 18) dX12_opposite_18 (inRk rfl) ?_
    refine r_iconst (pc := 19) dX12_opposite_19 (inRk rfl) ?_
    refine r_iconst (pc := 20) dX12_opposite_20 (inRk rfl) ?_
    refine c_VI0N (M := mX12_opposite) (pc := 21) (As := [vi 0, vi 1, vi 0]) dX12_opposite_21 K_X12_bad w_1562 ⟨by decide, by decide⟩ (Nat.le_of_ble_eq_true rfl) rfl rfl (ci := 12) rfl rfl (by decide) (okO_of (N := 42) (hL.sh (i := 0) rfl (by decide) (by decide)) (by decide)) (h hL) (fun r4 τ5 h8 hr9 => ?_) rfl
    replace hL := h8.1
    replace h := h8.2 hr9
    refine r_if_eq (pc := 24) (tgt := 29) dX12_opposite_24 (by decide) (fun c9 => ?_) (fun c9 => ?_)
    · replace h := h.1 c9
      refine r_aload_n (pc := 29) dX12_opposite_29 rfl rfl ?_
      refine c_VV0N (M := mX12_opposite) (pc := 30) (As := []) dX12_opposite_30 K_X12_laysRows w_1652 ⟨by decide, by decide⟩ (Nat.le_of_ble_eq_true rfl) rfl rfl (ci := 12) rfl rfl (by decide) (okO_of (N := 42) (hL.sh (i := 0) rfl (by decide) (by decide)) (by decide)) (h hL) (fun τ7 h8 => ?_) rfl
      replace hL := h8.1
      replace h := h8.2
      refine r_iconst (pc := 33) dX12_opposite_33 (inRk rfl) ?_
      refine r_istore_n (pc := 34) dX12_opposite_34 rfl (by decide) (l2 := [some (vr 172), some (vi x1), some (vi 0), none, none]) rfl ?_
      exact (h hL)
    · replace h := h.2 c9
      refine r_iconst (pc := 27) dX12_opposite_27 (inRk rfl) ?_
      exact r_ireturn (pc := 28) (ty := .int) dX12_opposite_28 (by decide +kernel) rfl (nar_i _) (h hL)
  · replace h := h.2 c9
    refine r_iconst (pc := 14) dX12_opposite_14 (inRk rfl) ?_
    refine r_goto (pc := 15) (tgt := 19) dX12_opposite_15 (by decide) ?_
    refine r_iconst (pc := 19) dX12_opposite_19 (inRk rfl) ?_
    refine r_iconst (pc := 20) dX12_opposite_20 (inRk rfl) ?_
    refine c_VI0N (M := mX12_opposite) (pc := 21) (As := [vi 1, vi 1, vi 0]) dX12_opposite_21 K_X12_bad w_1562 ⟨by decide, by decide⟩ (Nat.le_of_ble_eq_true rfl) rfl rfl (ci := 12) rfl rfl (by decide) (okO_of (N := 42) (hL.sh (i := 0) rfl (by decide) (by decide)) (by decide)) (h hL) (fun r8 τ9 h8 hr9 => ?_) rfl
    replace hL := h8.1
    replace h := h8.2 hr9
    refine r_if_eq (pc := 24) (tgt := 29) dX12_opposite_24 (by decide) (fun c9 => ?_) (fun c9 => ?_)
    · replace h := h.1 c9
      refine r_aload_n (pc := 29) dX12_opposite_29 rfl rfl ?_
      refine c_VV0N (M := mX12_opposite) (pc := 30) (As := []) dX12_opposite_30 K_X12_laysRows w_1652 ⟨by decide, by decide⟩ (Nat.le_of_ble_eq_true rfl) rfl rfl (ci := 12) rfl rfl (by decide) (okO_of (N := 42) (hL.sh (i := 0) rfl (by decide) (by decide)) (by decide)) (h hL) (fun τ11 h8 => ?_) rfl
      replace hL := h8.1
      replace h := h8.2
      refine r_iconst (pc := 33) dX12_opposite_33 (inRk rfl) ?_
      refine r_istore_n (pc := 34) dX12_opposite_34 rfl (by decide) (l2 := [some (vr 172), some (vi x1), some (vi 0), none, none]) rfl ?_
      exact (h hL)
    · replace h := h.2 c9
      refine r_iconst (pc := 27) dX12_opposite_27 (inRk rfl) ?_
      exact r_ireturn (pc := 28) (ty := .int) dX12_opposite_28 (by decide +kernel) rfl (nar_i _) (h hL)
theorem B_X12_opposite_35 {g : Sg} {c t : Nat} (hL : Lay LM g c t σ) {x1 : Int} {x2 : Int} (h : (((gI σ 172 16) ≤ x2 → (Lay LM g c t σ → Q (.inl (some (vi (-1)))) σ)) ∧ (¬ ((gI σ 172 16) ≤ x2) → (Lay LM g c t σ → GG E mX12_opposite 48 [some (vr 172), some (vi x1), some (vi x2), some (vi 1), some (vi 0)] [] σ rc rs Q)))) : GG E mX12_opposite 35 [some (vr 172), some (vi x1), some (vi x2), none, none] [] σ rc rs Q := by
  refine r_iload_n (pc := 35) dX12_opposite_35 rfl rfl ?_
  refine r_aload_n (pc := 36) dX12_opposite_36 rfl rfl ?_
  refine r_getI (pc := 37) dX12_opposite_37 (k9 := 16) CL_12 (by decide) (by decide) w_1431 rfl (okO_of (N := 42) (hL.sh (i := 0) rfl (by decide) (by decide)) (by decide)) (fun _ => ?_)
  refine r_icmp_ge (pc := 40) (tgt := 119) dX12_opposite_40 (by decide) (fun c9 => ?_) (fun c9 => ?_)
  · replace h := h.1 c9
    refine r_iconst (pc := 119) dX12_opposite_119 (inRk rfl) ?_
    exact r_ireturn (pc := 120) (ty := .int) dX12_opposite_120 (by decide +kernel) rfl (nar_i _) (h hL)
  · replace h := h.2 c9
    refine r_iconst (pc := 43) dX12_opposite_43 (inRk rfl) ?_
    refine r_istore_n (pc := 44) dX12_opposite_44 rfl (by decide) (l2 := [some (vr 172), some (vi x1), some (vi x2), some (vi 1), none]) rfl ?_
    refine r_iconst (pc := 45) dX12_opposite_45 (inRk rfl) ?_
    refine r_istore (pc := 46) dX12_opposite_46 (by decide) (l2 := [some (vr 172), some (vi x1), some (vi x2), some (vi 1), some (vi 0)]) rfl ?_
    exact (h hL)
theorem B_X12_opposite_48 {g : Sg} {c t : Nat} (hL : Lay LM g c t σ) {x1 : Int} {x2 : Int} {x3 : Int} {x4 : Int} (h : (((gI σ 172 16) ≤ x4 → ((x3 = 0 → inR (x2 + 1) ∧ (Lay LM g c t σ → GG E mX12_opposite 35 [some (vr 172), some (vi x1), some (vi (x2 + 1)), none, none] [] σ rc rs Q)) ∧ (¬ (x3 = 0) → (Lay LM g c t σ → Q (.inl (some (vi x2))) σ)))) ∧ (¬ ((gI σ 172 16) ≤ x4) → (0 ≤ x2 ∧ x2 < 48) ∧ ∀ b3 : Nat, b3 = gR σ 2913 x2.toNat → (2914 ≤ b3 ∧ b3 < 2962) → (0 ≤ x4 ∧ x4 < 48) ∧ (0 ≤ x1 ∧ x1 < 48) ∧ ∀ b7 : Nat, b7 = gR σ 2913 x1.toNat → (2914 ≤ b7 ∧ b7 < 2962) → (0 ≤ x4 ∧ x4 < 120) ∧ (0 ≤ (gI σ 554 x4.toNat) ∧ (gI σ 554 x4.toNat) < 120) ∧ (0 ≤ (gI σ 552 (gI σ 554 x4.toNat).toNat) ∧ (gI σ 552 (gI σ 554 x4.toNat).toNat) < 120) ∧ (0 ≤ (gI σ 553 (gI σ 552 (gI σ 554 x4.toNat).toNat).toNat) ∧ (gI σ 553 (gI σ 552 (gI σ 554 x4.toNat).toNat).toNat) < 48) ∧ ∀ v13 : Int, v13 = gI σ b7 (gI σ 553 (gI σ 552 (gI σ 554 x4.toNat).toNat).toNat).toNat → (((gI σ b3 x4.toNat) ≠ v13 → inR (x4 + 1) ∧ (Lay LM g c t σ → GG E mX12_opposite 48 [some (vr 172), some (vi x1), some (vi x2), some (vi (b_iandq x3 0)), some (vi (x4 + 1))] [] σ rc rs Q)) ∧ ((gI σ b3 x4.toNat) = v13 → inR (x4 + 1) ∧ (Lay LM g c t σ → GG E mX12_opposite 48 [some (vr 172), some (vi x1), some (vi x2), some (vi (b_iandq x3 1)), some (vi (x4 + 1))] [] σ rc rs Q)))))) : GG E mX12_opposite 48 [some (vr 172), some (vi x1), some (vi x2), some (vi x3), some (vi x4)] [] σ rc rs Q := by
  refine r_iload (pc := 48) dX12_opposite_48 rfl ?_
  refine r_aload_n (pc := 50) dX12_opposite_50 rfl rfl ?_
  refine r_getI (pc := 51) dX12_opposite_51 (k9 := 16) CL_12 (by decide) (by decide) w_1431 rfl (okO_of (N := 42) (hL.sh (i := 0) rfl (by decide) (by decide)) (by decide)) (fun _ => ?_)
  refine r_icmp_ge (pc := 54) (tgt := 107) dX12_opposite_54 (by decide) (fun c9 => ?_) (fun c9 => ?_)
  · replace h := h.1 c9
    refine r_iload_n (pc := 107) dX12_opposite_107 rfl rfl ?_
    refine r_if_eq (pc := 108) (tgt := 113) dX12_opposite_108 (by decide) (fun c9 => ?_) (fun c9 => ?_)
    · replace h := h.1 c9
      obtain ⟨o1, h⟩ := h
      refine r_iinc (pc := 113) dX12_opposite_113 rfl (by decide) o1 (l2 := [some (vr 172), some (vi x1), some (vi (x2 + 1)), some (vi x3), some (vi x4)]) rfl ?_
      refine r_goto (pc := 116) (tgt := 35) dX12_opposite_116 (by decide) ?_
      exact GG.msk [true, true, true, false, false] (h hL)
    · replace h := h.2 c9
      refine r_iload_n (pc := 111) dX12_opposite_111 rfl rfl ?_
      exact r_ireturn (pc := 112) (ty := .int) dX12_opposite_112 (by decide +kernel) rfl (nar_i _) (h hL)
  · replace h := h.2 c9
    refine r_iload_n (pc := 57) dX12_opposite_57 rfl rfl ?_
    refine r_aload_n (pc := 58) dX12_opposite_58 rfl rfl ?_
    refine r_getR (pc := 59) dX12_opposite_59 (k9 := 33) CL_12 (by decide) (by decide) w_1448 rfl (okO_of (N := 42) (hL.sh (i := 0) rfl (by decide) (by decide)) (by decide)) ?_
    refine eqR (y := 2913) (hL.rf (i := 18) rfl) ?_
    refine r_iload_n (pc := 62) dX12_opposite_62 rfl rfl ?_
    obtain ⟨o2, h⟩ := h
    refine r_aaload (pc := 63) dX12_opposite_63 (okB_of (c := 24) (n := 48) (hL.sh (i := 25) rfl (by decide) (by decide)) (by decide) o2) ?_
    refine nmR (fun b3 e9 => ?_)
    have q4 : (2914 ≤ b3 ∧ b3 < 2962) := e9 ▸ hL.rsw (i := 1) rfl (rowC o2 (by decide))
    replace h := h b3 e9 q4
    refine r_iload (pc := 64) dX12_opposite_64 rfl ?_
    obtain ⟨o5, h⟩ := h
    refine r_iaload (pc := 66) dX12_opposite_66 (okA_of (c := 20) (n := 48) (hL.sh (i := 26) rfl q4.1 q4.2) (Nat.le_trans (by decide) q4.1) o5) ?_
    refine r_aload_n (pc := 67) dX12_opposite_67 rfl rfl ?_
    refine r_getR (pc := 68) dX12_opposite_68 (k9 := 33) CL_12 (by decide) (by decide) w_1448 rfl (okO_of (N := 42) (hL.sh (i := 0) rfl (by decide) (by decide)) (by decide)) ?_
    refine eqR (y := 2913) (hL.rf (i := 18) rfl) ?_
    refine r_iload_n (pc := 71) dX12_opposite_71 rfl rfl ?_
    obtain ⟨o6, h⟩ := h
    refine r_aaload (pc := 72) dX12_opposite_72 (okB_of (c := 24) (n := 48) (hL.sh (i := 25) rfl (by decide) (by decide)) (by decide) o6) ?_
    refine nmR (fun b7 e9 => ?_)
    have q8 : (2914 ≤ b7 ∧ b7 < 2962) := e9 ▸ hL.rsw (i := 1) rfl (rowC o6 (by decide))
    replace h := h b7 e9 q8
    refine r_aload_n (pc := 73) dX12_opposite_73 rfl rfl ?_
    refine r_getR (pc := 74) dX12_opposite_74 (k9 := 24) CL_12 (by decide) (by decide) w_1439 rfl (okO_of (N := 42) (hL.sh (i := 0) rfl (by decide) (by decide)) (by decide)) ?_
    refine eqR (y := 553) (hL.rf (i := 10) rfl) ?_
    refine r_aload_n (pc := 77) dX12_opposite_77 rfl rfl ?_
    refine r_getR (pc := 78) dX12_opposite_78 (k9 := 23) CL_12 (by decide) (by decide) w_1438 rfl (okO_of (N := 42) (hL.sh (i := 0) rfl (by decide) (by decide)) (by decide)) ?_
    refine eqR (y := 552) (hL.rf (i := 9) rfl) ?_
    refine r_aload_n (pc := 81) dX12_opposite_81 rfl rfl ?_
    refine r_getR (pc := 82) dX12_opposite_82 (k9 := 25) CL_12 (by decide) (by decide) w_1440 rfl (okO_of (N := 42) (hL.sh (i := 0) rfl (by decide) (by decide)) (by decide)) ?_
    refine eqR (y := 554) (hL.rf (i := 11) rfl) ?_
    refine r_iload (pc := 85) dX12_opposite_85 rfl ?_
    obtain ⟨o9, h⟩ := h
    refine r_iaload (pc := 87) dX12_opposite_87 (okA_of (c := 20) (n := 120) (hL.sh (i := 16) rfl (by decide) (by decide)) (by decide) o9) ?_
    obtain ⟨o10, h⟩ := h
    refine r_iaload (pc := 88) dX12_opposite_88 (okA_of (c := 20) (n := 120) (hL.sh (i := 14) rfl (by decide) (by decide)) (by decide) o10) ?_
    obtain ⟨o11, h⟩ := h
    refine r_iaload (pc := 89) dX12_opposite_89 (okA_of (c := 20) (n := 120) (hL.sh (i := 15) rfl (by decide) (by decide)) (by decide) o11) ?_
    obtain ⟨o12, h⟩ := h
    refine r_iaload (pc := 90) dX12_opposite_90 (okA_of (c := 20) (n := 48) (hL.sh (i := 26) rfl q8.1 q8.2) (Nat.le_trans (by decide) q8.1) o12) ?_
    refine nmI (fun v13 e9 => ?_)
    replace h := h v13 e9
    refine r_icmp_ne (pc := 91) (tgt := 98) dX12_opposite_91 (by decide) (fun c9 => ?_) (fun c9 => ?_)
    · replace h := h.1 c9
      refine r_iconst (pc := 98) dX12_opposite_98 (inRk rfl) ?_
      refine r_iand (pc := 99) dX12_opposite_99 ?_
      refine r_istore_n (pc := 100) dX12_opposite_100 rfl (by decide) (l2 := [some (vr 172), some (vi x1), some (vi x2), some (vi (b_iandq x3 0)), some (vi x4)]) rfl ?_
      obtain ⟨o14, h⟩ := h
      refine r_iinc (pc := 101) dX12_opposite_101 rfl (by decide) o14 (l2 := [some (vr 172), some (vi x1), some (vi x2), some (vi (b_iandq x3 0)), some (vi (x4 + 1))]) rfl ?_
      refine r_goto (pc := 104) (tgt := 48) dX12_opposite_104 (by decide) ?_
      exact (h hL)
    · replace h := h.2 c9
      refine r_iconst (pc := 94) dX12_opposite_94 (inRk rfl) ?_
      refine r_goto (pc := 95) (tgt := 99) dX12_opposite_95 (by decide) ?_
      refine r_iand (pc := 99) dX12_opposite_99 ?_
      refine r_istore_n (pc := 100) dX12_opposite_100 rfl (by decide) (l2 := [some (vr 172), some (vi x1), some (vi x2), some (vi (b_iandq x3 1)), some (vi x4)]) rfl ?_
      obtain ⟨o15, h⟩ := h
      refine r_iinc (pc := 101) dX12_opposite_101 rfl (by decide) o15 (l2 := [some (vr 172), some (vi x1), some (vi x2), some (vi (b_iandq x3 1)), some (vi (x4 + 1))]) rfl ?_
      refine r_goto (pc := 104) (tgt := 48) dX12_opposite_104 (by decide) ?_
      exact (h hL)
theorem C_X12_opposite {a0 : Nat} {x1 : Int} (h : GG E mX12_opposite 0 [some (vr a0), some (vi x1), none, none, none] [] σ 0 0 Q) : CC E mX12_opposite [vr a0, vi x1] σ Q := CC.of (by decide +kernel) rfl (by decide +kernel) (fun h9 => nomatch h9) (Nat.le_of_ble_eq_true rfl) h
theorem dX12_over_0 : decode cX12_over 0 = .ok (.iconst 1, 1) := by decide +kernel
theorem dX12_over_1 : decode cX12_over 1 = .ok (.istore_n 3, 1) := by decide +kernel
theorem dX12_over_2 : decode cX12_over 2 = .ok (.aload_n 0, 1) := by decide +kernel
theorem dX12_over_3 : decode cX12_over 3 = .ok (.getfield 241, 3) := by decide +kernel
theorem dX12_over_6 : decode cX12_over 6 = .ok (.iconst 2, 1) := by decide +kernel
theorem dX12_over_7 : decode cX12_over 7 = .ok (.isub, 1) := by decide +kernel
theorem dX12_over_8 : decode cX12_over 8 = .ok (.istore 4, 2) := by decide +kernel
theorem dX12_over_10 : decode cX12_over 10 = .ok (.iload_n 2, 1) := by decide +kernel
theorem dX12_over_11 : decode cX12_over 11 = .ok (.istore 5, 2) := by decide +kernel
theorem dX12_over_13 : decode cX12_over 13 = .ok (.iload 4, 2) := by decide +kernel
theorem dX12_over_15 : decode cX12_over 15 = .ok (.ifCond .le 44, 3) := by decide +kernel
theorem dX12_over_18 : decode cX12_over 18 = .ok (.iload 4, 2) := by decide +kernel
theorem dX12_over_20 : decode cX12_over 20 = .ok (.iconst 2, 1) := by decide +kernel
theorem dX12_over_21 : decode cX12_over 21 = .ok (.irem, 1) := by decide +kernel
theorem dX12_over_22 : decode cX12_over 22 = .ok (.iconst 1, 1) := by decide +kernel
theorem dX12_over_23 : decode cX12_over 23 = .ok (.if_icmp .ne 14, 3) := by decide +kernel
theorem dX12_over_26 : decode cX12_over 26 = .ok (.aload_n 0, 1) := by decide +kernel
theorem dX12_over_27 : decode cX12_over 27 = .ok (.iload_n 3, 1) := by decide +kernel
theorem dX12_over_28 : decode cX12_over 28 = .ok (.i2l, 1) := by decide +kernel
theorem dX12_over_29 : decode cX12_over 29 = .ok (.iload 5, 2) := by decide +kernel
theorem dX12_over_31 : decode cX12_over 31 = .ok (.i2l, 1) := by decide +kernel
theorem dX12_over_32 : decode cX12_over 32 = .ok (.lmul, 1) := by decide +kernel
theorem dX12_over_33 : decode cX12_over 33 = .ok (.invokevirtual 250, 3) := by decide +kernel
theorem dX12_over_36 : decode cX12_over 36 = .ok (.istore_n 3, 1) := by decide +kernel
theorem dX12_over_37 : decode cX12_over 37 = .ok (.aload_n 0, 1) := by decide +kernel
theorem dX12_over_38 : decode cX12_over 38 = .ok (.iload 5, 2) := by decide +kernel
theorem dX12_over_40 : decode cX12_over 40 = .ok (.i2l, 1) := by decide +kernel
theorem dX12_over_41 : decode cX12_over 41 = .ok (.iload 5, 2) := by decide +kernel
theorem dX12_over_43 : decode cX12_over 43 = .ok (.i2l, 1) := by decide +kernel
theorem dX12_over_44 : decode cX12_over 44 = .ok (.lmul, 1) := by decide +kernel
theorem dX12_over_45 : decode cX12_over 45 = .ok (.invokevirtual 250, 3) := by decide +kernel
theorem dX12_over_48 : decode cX12_over 48 = .ok (.istore 5, 2) := by decide +kernel
theorem dX12_over_50 : decode cX12_over 50 = .ok (.iload 4, 2) := by decide +kernel
theorem dX12_over_52 : decode cX12_over 52 = .ok (.iconst 2, 1) := by decide +kernel
theorem dX12_over_53 : decode cX12_over 53 = .ok (.idiv, 1) := by decide +kernel
theorem dX12_over_54 : decode cX12_over 54 = .ok (.istore 4, 2) := by decide +kernel
theorem dX12_over_56 : decode cX12_over 56 = .ok (.goto (-43), 3) := by decide +kernel
theorem dX12_over_59 : decode cX12_over 59 = .ok (.aload_n 0, 1) := by decide +kernel
theorem dX12_over_60 : decode cX12_over 60 = .ok (.iload_n 1, 1) := by decide +kernel
theorem dX12_over_61 : decode cX12_over 61 = .ok (.i2l, 1) := by decide +kernel
theorem dX12_over_62 : decode cX12_over 62 = .ok (.iload_n 3, 1) := by decide +kernel
theorem dX12_over_63 : decode cX12_over 63 = .ok (.i2l, 1) := by decide +kernel
theorem dX12_over_64 : decode cX12_over 64 = .ok (.lmul, 1) := by decide +kernel
theorem dX12_over_65 : decode cX12_over 65 = .ok (.invokevirtual 250, 3) := by decide +kernel
theorem dX12_over_68 : decode cX12_over 68 = .ok (.ireturn, 1) := by decide +kernel
theorem B_X12_over_0 {g : Sg} {c t : Nat} (hL : Lay LM g c t σ) {x1 : Int} {x2 : Int} (h : inR ((gI σ 172 18) - 2) ∧ (Lay LM g c t σ → GG E mX12_over 13 [some (vr 172), some (vi x1), none, some (vi 1), some (vi ((gI σ 172 18) - 2)), some (vi x2)] [] σ rc rs Q)) : GG E mX12_over 0 [some (vr 172), some (vi x1), some (vi x2), none, none, none] [] σ rc rs Q := by
  refine r_iconst (pc := 0) dX12_over_0 (inRk rfl) ?_
  refine r_istore_n (pc := 1) dX12_over_1 rfl (by decide) (l2 := [some (vr 172), some (vi x1), some (vi x2), some (vi 1), none, none]) rfl ?_
  refine r_aload_n (pc := 2) dX12_over_2 rfl rfl ?_
  refine r_getI (pc := 3) dX12_over_3 (k9 := 18) CL_12 (by decide) (by decide) w_1433 rfl (okO_of (N := 42) (hL.sh (i := 0) rfl (by decide) (by decide)) (by decide)) (fun _ => ?_)
  refine r_iconst (pc := 6) dX12_over_6 (inRk rfl) ?_
  obtain ⟨o1, h⟩ := h
  refine r_isub (pc := 7) dX12_over_7 o1 ?_
  refine r_istore (pc := 8) dX12_over_8 (by decide) (l2 := [some (vr 172), some (vi x1), some (vi x2), some (vi 1), some (vi ((gI σ 172 18) - 2)), none]) rfl ?_
  refine r_iload_n (pc := 10) dX12_over_10 rfl rfl ?_
  refine r_istore (pc := 11) dX12_over_11 (by decide) (l2 := [some (vr 172), some (vi x1), some (vi x2), some (vi 1), some (vi ((gI σ 172 18) - 2)), some (vi x2)]) rfl ?_
  exact GG.msk [true, true, false, true, true, true] (h hL)
theorem B_X12_over_13 {g : Sg} {c t : Nat} (hL : Lay LM g c t σ) {x1 : Int} {x3 : Int} {x4 : Int} {x5 : Int} (h : ((x4 ≤ 0 → (Lay LM g c t σ → CC E mX12_mod [vr 172, vl (wL (x1 * x3))] σ (KI (fun r1 τ2 => Lay LM g c t τ2 ∧ (inR r1 → (Lay LM g c t τ2 → Q (.inl (some (vi r1))) τ2))) (fun _ _ => False)))) ∧ (¬ (x4 ≤ 0) → (((x4.tmod 2) ≠ 1 → (Lay LM g c t σ → CC E mX12_mod [vr 172, vl (wL (x5 * x5))] σ (KI (fun r3 τ4 => Lay LM g c t τ4 ∧ (inR r3 → inR (x4.tdiv 2) ∧ (Lay LM g c t τ4 → GG E mX12_over 13 [some (vr 172), some (vi x1), none, some (vi x3), some (vi (x4.tdiv 2)), some (vi r3)] [] τ4 rc rs Q))) (fun _ _ => False)))) ∧ ((x4.tmod 2) = 1 → (Lay LM g c t σ → CC E mX12_mod [vr 172, vl (wL (x3 * x5))] σ (KI (fun r6 τ7 => Lay LM g c t τ7 ∧ (inR r6 → (Lay LM g c t τ7 → CC E mX12_mod [vr 172, vl (wL (x5 * x5))] τ7 (KI (fun r8 τ9 => Lay LM g c t τ9 ∧ (inR r8 → inR (x4.tdiv 2) ∧ (Lay LM g c t τ9 → GG E mX12_over 13 [some (vr 172), some (vi x1), none, some (vi r6), some (vi (x4.tdiv 2)), some (vi r8)] [] τ9 rc rs Q))) (fun _ _ => False))))) (fun _ _ => False)))))))) : GG E mX12_over 13 [some (vr 172), some (vi x1), none, some (vi x3), some (vi x4), some (vi x5)] [] σ rc rs Q := by
  refine r_iload (pc := 13) dX12_over_13 rfl ?_
  refine r_if_le (pc := 15) (tgt := 59) dX12_over_15 (by decide) (fun c9 => ?_) (fun c9 => ?_)
  · replace h := h.1 c9
    refine r_aload_n (pc := 59) dX12_over_59 rfl rfl ?_
    refine r_iload_n (pc := 60) dX12_over_60 rfl rfl ?_
    refine r_i2l (pc := 61) dX12_over_61 ?_
    refine r_iload_n (pc := 62) dX12_over_62 rfl rfl ?_
    refine r_i2l (pc := 63) dX12_over_63 ?_
    refine r_lmul (pc := 64) dX12_over_64 ?_
    refine c_VI0N (M := mX12_over) (pc := 65) (As := [vl (wL (x1 * x3))]) dX12_over_65 K_X12_mod w_1666 ⟨by decide, by decide⟩ (Nat.le_of_ble_eq_true rfl) rfl rfl (ci := 12) rfl rfl (by decide) (okO_of (N := 42) (hL.sh (i := 0) rfl (by decide) (by decide)) (by decide)) (h hL) (fun r1 τ2 h8 hr9 => ?_) rfl
    replace hL := h8.1
    replace h := h8.2 hr9
    exact r_ireturn (pc := 68) (ty := .int) dX12_over_68 (by decide +kernel) rfl (nar_i _) (h hL)
  · replace h := h.2 c9
    refine r_iload (pc := 18) dX12_over_18 rfl ?_
    refine r_iconst (pc := 20) dX12_over_20 (inRk rfl) ?_
    refine r_irem (pc := 21) dX12_over_21 (by decide) ?_
    refine r_iconst (pc := 22) dX12_over_22 (inRk rfl) ?_
    refine r_icmp_ne (pc := 23) (tgt := 37) dX12_over_23 (by decide) (fun c9 => ?_) (fun c9 => ?_)
    · replace h := h.1 c9
      refine r_aload_n (pc := 37) dX12_over_37 rfl rfl ?_
      refine r_iload (pc := 38) dX12_over_38 rfl ?_
      refine r_i2l (pc := 40) dX12_over_40 ?_
      refine r_iload (pc := 41) dX12_over_41 rfl ?_
      refine r_i2l (pc := 43) dX12_over_43 ?_
      refine r_lmul (pc := 44) dX12_over_44 ?_
      refine c_VI0N (M := mX12_over) (pc := 45) (As := [vl (wL (x5 * x5))]) dX12_over_45 K_X12_mod w_1666 ⟨by decide, by decide⟩ (Nat.le_of_ble_eq_true rfl) rfl rfl (ci := 12) rfl rfl (by decide) (okO_of (N := 42) (hL.sh (i := 0) rfl (by decide) (by decide)) (by decide)) (h hL) (fun r3 τ4 h8 hr9 => ?_) rfl
      replace hL := h8.1
      replace h := h8.2 hr9
      refine r_istore (pc := 48) dX12_over_48 (by decide) (l2 := [some (vr 172), some (vi x1), none, some (vi x3), some (vi x4), some (vi r3)]) rfl ?_
      refine r_iload (pc := 50) dX12_over_50 rfl ?_
      refine r_iconst (pc := 52) dX12_over_52 (inRk rfl) ?_
      obtain ⟨o5, h⟩ := h
      refine r_idiv (pc := 53) dX12_over_53 (by decide) o5 ?_
      refine r_istore (pc := 54) dX12_over_54 (by decide) (l2 := [some (vr 172), some (vi x1), none, some (vi x3), some (vi (x4.tdiv 2)), some (vi r3)]) rfl ?_
      refine r_goto (pc := 56) (tgt := 13) dX12_over_56 (by decide) ?_
      exact (h hL)
    · replace h := h.2 c9
      refine r_aload_n (pc := 26) dX12_over_26 rfl rfl ?_
      refine r_iload_n (pc := 27) dX12_over_27 rfl rfl ?_
      refine r_i2l (pc := 28) dX12_over_28 ?_
      refine r_iload (pc := 29) dX12_over_29 rfl ?_
      refine r_i2l (pc := 31) dX12_over_31 ?_
      refine r_lmul (pc := 32) dX12_over_32 ?_
      refine c_VI0N (M := mX12_over) (pc := 33) (As := [vl (wL (x3 * x5))]) dX12_over_33 K_X12_mod w_1666 ⟨by decide, by decide⟩ (Nat.le_of_ble_eq_true rfl) rfl rfl (ci := 12) rfl rfl (by decide) (okO_of (N := 42) (hL.sh (i := 0) rfl (by decide) (by decide)) (by decide)) (h hL) (fun r6 τ7 h8 hr9 => ?_) rfl
      replace hL := h8.1
      replace h := h8.2 hr9
      refine r_istore_n (pc := 36) dX12_over_36 rfl (by decide) (l2 := [some (vr 172), some (vi x1), none, some (vi r6), some (vi x4), some (vi x5)]) rfl ?_
      refine r_aload_n (pc := 37) dX12_over_37 rfl rfl ?_
      refine r_iload (pc := 38) dX12_over_38 rfl ?_
      refine r_i2l (pc := 40) dX12_over_40 ?_
      refine r_iload (pc := 41) dX12_over_41 rfl ?_
      refine r_i2l (pc := 43) dX12_over_43 ?_
      refine r_lmul (pc := 44) dX12_over_44 ?_
      refine c_VI0N (M := mX12_over) (pc := 45) (As := [vl (wL (x5 * x5))]) dX12_over_45 K_X12_mod w_1666 ⟨by decide, by decide⟩ (Nat.le_of_ble_eq_true rfl) rfl rfl (ci := 12) rfl rfl (by decide) (okO_of (N := 42) (hL.sh (i := 0) rfl (by decide) (by decide)) (by decide)) (h hL) (fun r8 τ9 h8 hr9 => ?_) rfl
      replace hL := h8.1
      replace h := h8.2 hr9
      refine r_istore (pc := 48) dX12_over_48 (by decide) (l2 := [some (vr 172), some (vi x1), none, some (vi r6), some (vi x4), some (vi r8)]) rfl ?_
      refine r_iload (pc := 50) dX12_over_50 rfl ?_
      refine r_iconst (pc := 52) dX12_over_52 (inRk rfl) ?_
      obtain ⟨o10, h⟩ := h
      refine r_idiv (pc := 53) dX12_over_53 (by decide) o10 ?_
      refine r_istore (pc := 54) dX12_over_54 (by decide) (l2 := [some (vr 172), some (vi x1), none, some (vi r6), some (vi (x4.tdiv 2)), some (vi r8)]) rfl ?_
      refine r_goto (pc := 56) (tgt := 13) dX12_over_56 (by decide) ?_
      exact (h hL)
theorem C_X12_over {a0 : Nat} {x1 : Int} {x2 : Int} (h : GG E mX12_over 0 [some (vr a0), some (vi x1), some (vi x2), none, none, none] [] σ 0 0 Q) : CC E mX12_over [vr a0, vi x1, vi x2] σ Q := CC.of (by decide +kernel) rfl (by decide +kernel) (fun h9 => nomatch h9) (Nat.le_of_ble_eq_true rfl) h
theorem dX12_placeIn_0 : decode cX12_placeIn 0 = .ok (.iconst 0, 1) := by decide +kernel
theorem dX12_placeIn_1 : decode cX12_placeIn 1 = .ok (.istore_n 3, 1) := by decide +kernel
theorem dX12_placeIn_2 : decode cX12_placeIn 2 = .ok (.iload_n 3, 1) := by decide +kernel
theorem dX12_placeIn_3 : decode cX12_placeIn 3 = .ok (.iload_n 1, 1) := by decide +kernel
theorem dX12_placeIn_4 : decode cX12_placeIn 4 = .ok (.if_icmp .ge 21, 3) := by decide +kernel
theorem dX12_placeIn_7 : decode cX12_placeIn 7 = .ok (.aload_n 0, 1) := by decide +kernel
theorem dX12_placeIn_8 : decode cX12_placeIn 8 = .ok (.iload_n 3, 1) := by decide +kernel
theorem dX12_placeIn_9 : decode cX12_placeIn 9 = .ok (.aaload, 1) := by decide +kernel
theorem dX12_placeIn_10 : decode cX12_placeIn 10 = .ok (.aload_n 2, 1) := by decide +kernel
theorem dX12_placeIn_11 : decode cX12_placeIn 11 = .ok (.invokestatic 206, 3) := by decide +kernel
theorem dX12_placeIn_14 : decode cX12_placeIn 14 = .ok (.ifCond .eq 5, 3) := by decide +kernel
theorem dX12_placeIn_17 : decode cX12_placeIn 17 = .ok (.iload_n 3, 1) := by decide +kernel
theorem dX12_placeIn_18 : decode cX12_placeIn 18 = .ok (.ireturn, 1) := by decide +kernel
theorem dX12_placeIn_19 : decode cX12_placeIn 19 = .ok (.iinc 3 1, 3) := by decide +kernel
theorem dX12_placeIn_22 : decode cX12_placeIn 22 = .ok (.goto (-20), 3) := by decide +kernel
theorem dX12_placeIn_25 : decode cX12_placeIn 25 = .ok (.iconst (-1), 1) := by decide +kernel
theorem dX12_placeIn_26 : decode cX12_placeIn 26 = .ok (.ireturn, 1) := by decide +kernel
theorem B_X12_placeIn_0 {a0 : Nat} {x1 : Int} {a2 : Nat} (h : GG E mX12_placeIn 2 [some (vr a0), some (vi x1), some (vr a2), some (vi 0)] [] σ rc rs Q) : GG E mX12_placeIn 0 [some (vr a0), some (vi x1), some (vr a2), none] [] σ rc rs Q := by
  refine r_iconst (pc := 0) dX12_placeIn_0 (inRk rfl) ?_
  refine r_istore_n (pc := 1) dX12_placeIn_1 rfl (by decide) (l2 := [some (vr a0), some (vi x1), some (vr a2), some (vi 0)]) rfl ?_
  exact h
theorem B_X12_placeIn_2 {a0 : Nat} {x1 : Int} {a2 : Nat} {x3 : Int} (h : ((x1 ≤ x3 → Q (.inl (some (vi (-1)))) σ) ∧ (¬ (x1 ≤ x3) → okB 24 σ a0 x3 ∧ CC E mX12_areAlike [vr (gR σ a0 x3.toNat), vr a2] σ (KI (fun r2 τ3 => inR r2 → ((r2 = 0 → inR (x3 + 1) ∧ GG E mX12_placeIn 2 [some (vr a0), some (vi x1), some (vr a2), some (vi (x3 + 1))] [] τ3 rc rs Q) ∧ (¬ (r2 = 0) → Q (.inl (some (vi x3))) τ3))) (fun _ _ => False))))) : GG E mX12_placeIn 2 [some (vr a0), some (vi x1), some (vr a2), some (vi x3)] [] σ rc rs Q := by
  refine r_iload_n (pc := 2) dX12_placeIn_2 rfl rfl ?_
  refine r_iload_n (pc := 3) dX12_placeIn_3 rfl rfl ?_
  refine r_icmp_ge (pc := 4) (tgt := 25) dX12_placeIn_4 (by decide) (fun c9 => ?_) (fun c9 => ?_)
  · replace h := h.1 c9
    refine r_iconst (pc := 25) dX12_placeIn_25 (inRk rfl) ?_
    exact r_ireturn (pc := 26) (ty := .int) dX12_placeIn_26 (by decide +kernel) rfl (nar_i _) h
  · replace h := h.2 c9
    refine r_aload_n (pc := 7) dX12_placeIn_7 rfl rfl ?_
    refine r_iload_n (pc := 8) dX12_placeIn_8 rfl rfl ?_
    obtain ⟨o1, h⟩ := h
    refine r_aaload (pc := 9) dX12_placeIn_9 o1 ?_
    refine r_aload_n (pc := 10) dX12_placeIn_10 rfl rfl ?_
    refine c_SI0N (M := mX12_placeIn) (pc := 11) (As := [vr (gR σ a0 x3.toNat), vr a2]) dX12_placeIn_11 K_X12_areAlike w_1398 ⟨by decide, by decide⟩ (Nat.le_of_ble_eq_true rfl) rfl rfl h (fun r2 τ3 h8 hr9 => ?_) rfl
    replace h := h8 hr9
    refine r_if_eq (pc := 14) (tgt := 19) dX12_placeIn_14 (by decide) (fun c9 => ?_) (fun c9 => ?_)
    · replace h := h.1 c9
      obtain ⟨o4, h⟩ := h
      refine r_iinc (pc := 19) dX12_placeIn_19 rfl (by decide) o4 (l2 := [some (vr a0), some (vi x1), some (vr a2), some (vi (x3 + 1))]) rfl ?_
      refine r_goto (pc := 22) (tgt := 2) dX12_placeIn_22 (by decide) ?_
      exact h
    · replace h := h.2 c9
      refine r_iload_n (pc := 17) dX12_placeIn_17 rfl rfl ?_
      exact r_ireturn (pc := 18) (ty := .int) dX12_placeIn_18 (by decide +kernel) rfl (nar_i _) h
theorem C_X12_placeIn {a0 : Nat} {x1 : Int} {a2 : Nat} (h : GG E mX12_placeIn 0 [some (vr a0), some (vi x1), some (vr a2), none] [] σ 0 0 Q) : CC E mX12_placeIn [vr a0, vi x1, vr a2] σ Q := CC.of (by decide +kernel) rfl (by decide +kernel) (fun h9 => nomatch h9) (Nat.le_of_ble_eq_true rfl) h
theorem dX12_power_0 : decode cX12_power 0 = .ok (.aload_n 0, 1) := by decide +kernel
theorem dX12_power_1 : decode cX12_power 1 = .ok (.iconst 0, 1) := by decide +kernel
theorem dX12_power_2 : decode cX12_power 2 = .ok (.putfield 99, 3) := by decide +kernel
theorem dX12_power_5 : decode cX12_power 5 = .ok (.aload_n 0, 1) := by decide +kernel
theorem dX12_power_6 : decode cX12_power 6 = .ok (.aload_n 0, 1) := by decide +kernel
theorem dX12_power_7 : decode cX12_power 7 = .ok (.iload_n 1, 1) := by decide +kernel
theorem dX12_power_8 : decode cX12_power 8 = .ok (.invokevirtual 332, 3) := by decide +kernel
theorem dX12_power_11 : decode cX12_power 11 = .ok (.ifCond .ne 7, 3) := by decide +kernel
theorem dX12_power_14 : decode cX12_power 14 = .ok (.iconst 1, 1) := by decide +kernel
theorem dX12_power_15 : decode cX12_power 15 = .ok (.goto 4, 3) := by decide +kernel
theorem dX12_power_18 : decode cX12_power 18 = .ok (.iconst 0, 1) := by decide +kernel
theorem dX12_power_19 : decode cX12_power 19 = .ok (.iconst 1, 1) := by decide +kernel
theorem dX12_power_20 : decode cX12_power 20 = .ok (.iconst 0, 1) := by decide +kernel
theorem dX12_power_21 : decode cX12_power 21 = .ok (.invokevirtual 177, 3) := by decide +kernel
theorem dX12_power_24 : decode cX12_power 24 = .ok (.ifCond .eq 5, 3) := by decide +kernel
theorem dX12_power_27 : decode cX12_power 27 = .ok (.iconst 0, 1) := by decide +kernel
theorem dX12_power_28 : decode cX12_power 28 = .ok (.ireturn, 1) := by decide +kernel
theorem dX12_power_29 : decode cX12_power 29 = .ok (.iload_n 2, 1) := by decide +kernel
theorem dX12_power_30 : decode cX12_power 30 = .ok (.aload_n 0, 1) := by decide +kernel
theorem dX12_power_31 : decode cX12_power 31 = .ok (.getfield 40, 3) := by decide +kernel
theorem dX12_power_34 : decode cX12_power 34 = .ok (.iload_n 1, 1) := by decide +kernel
theorem dX12_power_35 : decode cX12_power 35 = .ok (.iaload, 1) := by decide +kernel
theorem dX12_power_36 : decode cX12_power 36 = .ok (.irem, 1) := by decide +kernel
theorem dX12_power_37 : decode cX12_power 37 = .ok (.istore_n 3, 1) := by decide +kernel
theorem dX12_power_38 : decode cX12_power 38 = .ok (.iconst 0, 1) := by decide +kernel
theorem dX12_power_39 : decode cX12_power 39 = .ok (.istore 4, 2) := by decide +kernel
theorem dX12_power_41 : decode cX12_power 41 = .ok (.iload_n 3, 1) := by decide +kernel
theorem dX12_power_42 : decode cX12_power 42 = .ok (.ifCond .ge 14, 3) := by decide +kernel
theorem dX12_power_45 : decode cX12_power 45 = .ok (.iload_n 3, 1) := by decide +kernel
theorem dX12_power_46 : decode cX12_power 46 = .ok (.aload_n 0, 1) := by decide +kernel
theorem dX12_power_47 : decode cX12_power 47 = .ok (.getfield 40, 3) := by decide +kernel
theorem dX12_power_50 : decode cX12_power 50 = .ok (.iload_n 1, 1) := by decide +kernel
theorem dX12_power_51 : decode cX12_power 51 = .ok (.iaload, 1) := by decide +kernel
theorem dX12_power_52 : decode cX12_power 52 = .ok (.iadd, 1) := by decide +kernel
theorem dX12_power_53 : decode cX12_power 53 = .ok (.goto 4, 3) := by decide +kernel
theorem dX12_power_56 : decode cX12_power 56 = .ok (.iload_n 3, 1) := by decide +kernel
theorem dX12_power_57 : decode cX12_power 57 = .ok (.istore 5, 2) := by decide +kernel
theorem dX12_power_59 : decode cX12_power 59 = .ok (.iload 5, 2) := by decide +kernel
theorem dX12_power_61 : decode cX12_power 61 = .ok (.ifCond .le 20, 3) := by decide +kernel
theorem dX12_power_64 : decode cX12_power 64 = .ok (.aload_n 0, 1) := by decide +kernel
theorem dX12_power_65 : decode cX12_power 65 = .ok (.getfield 37, 3) := by decide +kernel
theorem dX12_power_68 : decode cX12_power 68 = .ok (.iload 4, 2) := by decide +kernel
theorem dX12_power_70 : decode cX12_power 70 = .ok (.aaload, 1) := by decide +kernel
theorem dX12_power_71 : decode cX12_power 71 = .ok (.iload_n 1, 1) := by decide +kernel
theorem dX12_power_72 : decode cX12_power 72 = .ok (.iaload, 1) := by decide +kernel
theorem dX12_power_73 : decode cX12_power 73 = .ok (.istore 4, 2) := by decide +kernel
theorem dX12_power_75 : decode cX12_power 75 = .ok (.iinc 5 (-1), 3) := by decide +kernel
theorem dX12_power_78 : decode cX12_power 78 = .ok (.goto (-19), 3) := by decide +kernel
theorem dX12_power_81 : decode cX12_power 81 = .ok (.iload 4, 2) := by decide +kernel
theorem dX12_power_83 : decode cX12_power 83 = .ok (.ireturn, 1) := by decide +kernel
theorem B_X12_power_0 {g : Sg} {c t : Nat} (hL : Lay LM g c t σ) {x1 : Int} {x2 : Int} (h : ∀ τ1 : Sg, τ1 = sI σ 172 0 0 → (Lay LM g c t τ1 → CC E mX12_isElement [vr 172, vi x1] τ1 (KI (fun r2 τ3 => Lay LM g c t τ3 ∧ (inR r2 → ((r2 ≠ 0 → (Lay LM g c t τ3 → CC E mX12_bad [vr 172, vi 0, vi 1, vi 0] τ3 (KI (fun r4 τ5 => Lay LM g c t τ5 ∧ (inR r4 → ((r4 = 0 → (Lay LM g c t τ5 → GG E mX12_power 29 [some (vr 172), some (vi x1), some (vi x2), none, none, none] [] τ5 rc rs Q)) ∧ (¬ (r4 = 0) → (Lay LM g c t τ5 → GG E mX12_power 27 [none, none, none, none, none, none] [] τ5 rc rs Q))))) (fun _ _ => False)))) ∧ (r2 = 0 → (Lay LM g c t τ3 → CC E mX12_bad [vr 172, vi 1, vi 1, vi 0] τ3 (KI (fun r6 τ7 => Lay LM g c t τ7 ∧ (inR r6 → ((r6 = 0 → (Lay LM g c t τ7 → GG E mX12_power 29 [some (vr 172), some (vi x1), some (vi x2), none, none, none] [] τ7 rc rs Q)) ∧ (¬ (r6 = 0) → (Lay LM g c t τ7 → GG E mX12_power 27 [none, none, none, none, none, none] [] τ7 rc rs Q))))) (fun _ _ => False))))))) (fun _ _ => False)))) : GG E mX12_power 0 [some (vr 172), some (vi x1), some (vi x2), none, none, none] [] σ rc rs Q := by
  refine r_aload_n (pc := 0) dX12_power_0 rfl rfl ?_
  refine r_iconst (pc := 1) dX12_power_1 (inRk rfl) ?_
  refine r_putI (pc := 2) dX12_power_2 (k9 := 0) CL_12 (by decide) (by decide) w_1415 rfl rfl (fun h9 => absurd h9 (by decide +kernel)) (okO_of (N := 42) (hL.sh (i := 0) rfl (by decide) (by decide)) (by decide)) ?_
  refine nmS (fun τ1 e1 => ?_)
  replace h := h τ1 e1
  have hL := hL.wI e1 (by decide) (.inl (by decide))
  refine r_aload_n (pc := 5) dX12_power_5 rfl rfl ?_
  refine r_aload_n (pc := 6) dX12_power_6 rfl rfl ?_
  refine r_iload_n (pc := 7) dX12_power_7 rfl rfl ?_
  refine c_VI0N (M := mX12_power) (pc := 8) (As := [vi x1]) dX12_power_8 K_X12_isElement w_1746 ⟨by decide, by decide⟩ (Nat.le_of_ble_eq_true rfl) rfl rfl (ci := 12) rfl rfl (by decide) (okO_of (N := 42) (hL.sh (i := 0) rfl (by decide) (by decide)) (by decide)) (h hL) (fun r2 τ3 h8 hr9 => ?_) rfl
  replace hL := h8.1
  replace h := h8.2 hr9
  refine r_if_ne (pc := 11) (tgt := 18) dX12_power_11 (by decide) (fun c9 => ?_) (fun c9 => ?_)
  · replace h := h.1 c9
    refine r_iconst (pc := 18) dX12_power_18 (inRk rfl) ?_
    refine r_iconst (pc := 19) dX12_power_19 (inRk rfl) ?_
    refine r_iconst (pc := 20) dX12_power_20 (inRk rfl) ?_
    refine c_VI0N (M := mX12_power) (pc := 21) (As := [vi 0, vi 1, vi 0]) dX12_power_21 K_X12_bad w_1562 ⟨by decide, by decide⟩ (Nat.le_of_ble_eq_true rfl) rfl rfl (ci := 12) rfl rfl (by decide) (okO_of (N := 42) (hL.sh (i := 0) rfl (by decide) (by decide)) (by decide)) (h hL) (fun r4 τ5 h8 hr9 => ?_) rfl
    replace hL := h8.1
    replace h := h8.2 hr9
    refine r_if_eq (pc := 24) (tgt := 29) dX12_power_24 (by decide) (fun c9 => ?_) (fun c9 => ?_)
    · replace h := h.1 c9
      exact (h hL)
    · replace h := h.2 c9
      exact GG.msk [false, false, false, false, false, false] (h hL)
  · replace h := h.2 c9
    refine r_iconst (pc := 14) dX12_power_14 (inRk rfl) ?_
    refine r_goto (pc := 15) (tgt := 19) dX12_power_15 (by decide) ?_
    refine r_iconst (pc := 19) dX12_power_19 (inRk rfl) ?_
    refine r_iconst (pc := 20) dX12_power_20 (inRk rfl) ?_
    refine c_VI0N (M := mX12_power) (pc := 21) (As := [vi 1, vi 1, vi 0]) dX12_power_21 K_X12_bad w_1562 ⟨by decide, by decide⟩ (Nat.le_of_ble_eq_true rfl) rfl rfl (ci := 12) rfl rfl (by decide) (okO_of (N := 42) (hL.sh (i := 0) rfl (by decide) (by decide)) (by decide)) (h hL) (fun r6 τ7 h8 hr9 => ?_) rfl
    replace hL := h8.1
    replace h := h8.2 hr9
    refine r_if_eq (pc := 24) (tgt := 29) dX12_power_24 (by decide) (fun c9 => ?_) (fun c9 => ?_)
    · replace h := h.1 c9
      exact (h hL)
    · replace h := h.2 c9
      exact GG.msk [false, false, false, false, false, false] (h hL)
theorem B_X12_power_27 {g : Sg} {c t : Nat} (hL : Lay LM g c t σ)  (h : (Lay LM g c t σ → Q (.inl (some (vi 0))) σ)) : GG E mX12_power 27 [none, none, none, none, none, none] [] σ rc rs Q := by
  refine r_iconst (pc := 27) dX12_power_27 (inRk rfl) ?_
  exact r_ireturn (pc := 28) (ty := .int) dX12_power_28 (by decide +kernel) rfl (nar_i _) (h hL)
theorem B_X12_power_29 {g : Sg} {c t : Nat} (hL : Lay LM g c t σ) {x1 : Int} {x2 : Int} (h : (0 ≤ x1 ∧ x1 < 120) ∧ (gI σ 551 x1.toNat) ≠ 0 ∧ ((0 ≤ (x2.tmod (gI σ 551 x1.toNat)) → (Lay LM g c t σ → GG E mX12_power 59 [some (vr 172), some (vi x1), none, none, some (vi 0), some (vi (x2.tmod (gI σ 551 x1.toNat)))] [] σ rc rs Q)) ∧ (¬ (0 ≤ (x2.tmod (gI σ 551 x1.toNat))) → inR ((x2.tmod (gI σ 551 x1.toNat)) + (gI σ 551 x1.toNat)) ∧ ∀ v4 : Int, v4 = (x2.tmod (gI σ 551 x1.toNat)) + (gI σ 551 x1.toNat) → (Lay LM g c t σ → GG E mX12_power 59 [some (vr 172), some (vi x1), none, none, some (vi 0), some (vi v4)] [] σ rc rs Q)))) : GG E mX12_power 29 [some (vr 172), some (vi x1), some (vi x2), none, none, none] [] σ rc rs Q := by
  refine r_iload_n (pc := 29) dX12_power_29 rfl rfl ?_
  refine r_aload_n (pc := 30) dX12_power_30 rfl rfl ?_
  refine r_getR (pc := 31) dX12_power_31 (k9 := 22) CL_12 (by decide) (by decide) w_1437 rfl (okO_of (N := 42) (hL.sh (i := 0) rfl (by decide) (by decide)) (by decide)) ?_
  refine eqR (y := 551) (hL.rf (i := 8) rfl) ?_
  refine r_iload_n (pc := 34) dX12_power_34 rfl rfl ?_
  obtain ⟨o1, h⟩ := h
  refine r_iaload (pc := 35) dX12_power_35 (okA_of (c := 20) (n := 120) (hL.sh (i := 13) rfl (by decide) (by decide)) (by decide) o1) ?_
  obtain ⟨o2, h⟩ := h
  refine r_irem (pc := 36) dX12_power_36 o2 ?_
  refine r_istore_n (pc := 37) dX12_power_37 rfl (by decide) (l2 := [some (vr 172), some (vi x1), some (vi x2), some (vi (x2.tmod (gI σ 551 x1.toNat))), none, none]) rfl ?_
  refine r_iconst (pc := 38) dX12_power_38 (inRk rfl) ?_
  refine r_istore (pc := 39) dX12_power_39 (by decide) (l2 := [some (vr 172), some (vi x1), some (vi x2), some (vi (x2.tmod (gI σ 551 x1.toNat))), some (vi 0), none]) rfl ?_
  refine r_iload_n (pc := 41) dX12_power_41 rfl rfl ?_
  refine r_if_ge (pc := 42) (tgt := 56) dX12_power_42 (by decide) (fun c9 => ?_) (fun c9 => ?_)
  · replace h := h.1 c9
    refine r_iload_n (pc := 56) dX12_power_56 rfl rfl ?_
    refine r_istore (pc := 57) dX12_power_57 (by decide) (l2 := [some (vr 172), some (vi x1), some (vi x2), some (vi (x2.tmod (gI σ 551 x1.toNat))), some (vi 0), some (vi (x2.tmod (gI σ 551 x1.toNat)))]) rfl ?_
    exact GG.msk [true, true, false, false, true, true] (h hL)
  · replace h := h.2 c9
    refine r_iload_n (pc := 45) dX12_power_45 rfl rfl ?_
    refine r_aload_n (pc := 46) dX12_power_46 rfl rfl ?_
    refine r_getR (pc := 47) dX12_power_47 (k9 := 22) CL_12 (by decide) (by decide) w_1437 rfl (okO_of (N := 42) (hL.sh (i := 0) rfl (by decide) (by decide)) (by decide)) ?_
    refine eqR (y := 551) (hL.rf (i := 8) rfl) ?_
    refine r_iload_n (pc := 50) dX12_power_50 rfl rfl ?_
    refine r_iaload (pc := 51) dX12_power_51 (okA_of (c := 20) (n := 120) (hL.sh (i := 13) rfl (by decide) (by decide)) (by decide) o1) ?_
    obtain ⟨o3, h⟩ := h
    refine r_iadd (pc := 52) dX12_power_52 o3 ?_
    refine nmI (fun v4 e9 => ?_)
    replace h := h v4 e9
    refine r_goto (pc := 53) (tgt := 57) dX12_power_53 (by decide) ?_
    refine r_istore (pc := 57) dX12_power_57 (by decide) (l2 := [some (vr 172), some (vi x1), some (vi x2), some (vi (x2.tmod (gI σ 551 x1.toNat))), some (vi 0), some (vi v4)]) rfl ?_
    exact GG.msk [true, true, false, false, true, true] (h hL)
theorem B_X12_power_59 {g : Sg} {c t : Nat} (hL : Lay LM g c t σ) {x1 : Int} {x4 : Int} {x5 : Int} (h : ((x5 ≤ 0 → (Lay LM g c t σ → Q (.inl (some (vi x4))) σ)) ∧ (¬ (x5 ≤ 0) → (0 ≤ x4 ∧ x4 < 120) ∧ (0 ≤ x1 ∧ x1 < 120) ∧ inR (x5 + (-1)) ∧ (Lay LM g c t σ → GG E mX12_power 59 [some (vr 172), some (vi x1), none, none, some (vi (gI σ (431 + x4.toNat) x1.toNat)), some (vi (x5 + (-1)))] [] σ rc rs Q)))) : GG E mX12_power 59 [some (vr 172), some (vi x1), none, none, some (vi x4), some (vi x5)] [] σ rc rs Q := by
  refine r_iload (pc := 59) dX12_power_59 rfl ?_
  refine r_if_le (pc := 61) (tgt := 81) dX12_power_61 (by decide) (fun c9 => ?_) (fun c9 => ?_)
  · replace h := h.1 c9
    refine r_iload (pc := 81) dX12_power_81 rfl ?_
    exact r_ireturn (pc := 83) (ty := .int) dX12_power_83 (by decide +kernel) rfl (nar_i _) (h hL)
  · replace h := h.2 c9
    refine r_aload_n (pc := 64) dX12_power_64 rfl rfl ?_
    refine r_getR (pc := 65) dX12_power_65 (k9 := 21) CL_12 (by decide) (by decide) w_1436 rfl (okO_of (N := 42) (hL.sh (i := 0) rfl (by decide) (by decide)) (by decide)) ?_
    refine eqR (y := 430) (hL.rf (i := 7) rfl) ?_
    refine r_iload (pc := 68) dX12_power_68 rfl ?_
    obtain ⟨o1, h⟩ := h
    refine r_aaload (pc := 70) dX12_power_70 (okB_of (c := 24) (n := 120) (hL.sh (i := 11) rfl (by decide) (by decide)) (by decide) o1) ?_
    have q2 : 431 ≤ 431 + x4.toNat ∧ 431 + x4.toNat < 551 := ⟨Nat.le_add_right _ _, rowB o1 (by decide)⟩
    refine eqR (y := 431 + x4.toNat) (hL.rx (i := 3) rfl (rowC o1 (by decide))) ?_
    refine r_iload_n (pc := 71) dX12_power_71 rfl rfl ?_
    obtain ⟨o3, h⟩ := h
    refine r_iaload (pc := 72) dX12_power_72 (okA_of (c := 20) (n := 120) (hL.sh (i := 12) rfl q2.1 q2.2) (Nat.le_trans (by decide) q2.1) o3) ?_
    refine r_istore (pc := 73) dX12_power_73 (by decide) (l2 := [some (vr 172), some (vi x1), none, none, some (vi (gI σ (431 + x4.toNat) x1.toNat)), some (vi x5)]) rfl ?_
    obtain ⟨o4, h⟩ := h
    refine r_iinc (pc := 75) dX12_power_75 rfl (by decide) o4 (l2 := [some (vr 172), some (vi x1), none, none, some (vi (gI σ (431 + x4.toNat) x1.toNat)), some (vi (x5 + (-1)))]) rfl ?_
    refine r_goto (pc := 78) (tgt := 59) dX12_power_78 (by decide) ?_
    exact (h hL)
theorem C_X12_power {a0 : Nat} {x1 : Int} {x2 : Int} (h : GG E mX12_power 0 [some (vr a0), some (vi x1), some (vi x2), none, none, none] [] σ 0 0 Q) : CC E mX12_power [vr a0, vi x1, vi x2] σ Q := CC.of (by decide +kernel) rfl (by decide +kernel) (fun h9 => nomatch h9) (Nat.le_of_ble_eq_true rfl) h
theorem dX12_print_0 : decode cX12_print 0 = .ok (.aload_n 0, 1) := by decide +kernel
theorem dX12_print_1 : decode cX12_print 1 = .ok (.iconst 0, 1) := by decide +kernel
theorem dX12_print_2 : decode cX12_print 2 = .ok (.putfield 99, 3) := by decide +kernel
theorem dX12_print_5 : decode cX12_print 5 = .ok (.lconst 0, 1) := by decide +kernel
theorem dX12_print_6 : decode cX12_print 6 = .ok (.lstore_n 1, 1) := by decide +kernel
theorem dX12_print_7 : decode cX12_print 7 = .ok (.iconst 0, 1) := by decide +kernel
theorem dX12_print_8 : decode cX12_print 8 = .ok (.istore_n 3, 1) := by decide +kernel
theorem dX12_print_9 : decode cX12_print 9 = .ok (.iload_n 3, 1) := by decide +kernel
theorem dX12_print_10 : decode cX12_print 10 = .ok (.aload_n 0, 1) := by decide +kernel
theorem dX12_print_11 : decode cX12_print 11 = .ok (.getfield 192, 3) := by decide +kernel
theorem dX12_print_14 : decode cX12_print 14 = .ok (.if_icmp .ge 35, 3) := by decide +kernel
theorem dX12_print_17 : decode cX12_print 17 = .ok (.ldc2_w 359, 3) := by decide +kernel
theorem dX12_print_20 : decode cX12_print 20 = .ok (.ldc2_w 359, 3) := by decide +kernel
theorem dX12_print_23 : decode cX12_print 23 = .ok (.lload_n 1, 1) := by decide +kernel
theorem dX12_print_24 : decode cX12_print 24 = .ok (.lmul, 1) := by decide +kernel
theorem dX12_print_25 : decode cX12_print 25 = .ok (.aload_n 0, 1) := by decide +kernel
theorem dX12_print_26 : decode cX12_print 26 = .ok (.getfield 40, 3) := by decide +kernel
theorem dX12_print_29 : decode cX12_print 29 = .ok (.iload_n 3, 1) := by decide +kernel
theorem dX12_print_30 : decode cX12_print 30 = .ok (.iaload, 1) := by decide +kernel
theorem dX12_print_31 : decode cX12_print 31 = .ok (.i2l, 1) := by decide +kernel
theorem dX12_print_32 : decode cX12_print 32 = .ok (.ladd, 1) := by decide +kernel
theorem dX12_print_33 : decode cX12_print 33 = .ok (.lmul, 1) := by decide +kernel
theorem dX12_print_34 : decode cX12_print 34 = .ok (.aload_n 0, 1) := by decide +kernel
theorem dX12_print_35 : decode cX12_print 35 = .ok (.getfield 46, 3) := by decide +kernel
theorem dX12_print_38 : decode cX12_print 38 = .ok (.iload_n 3, 1) := by decide +kernel
theorem dX12_print_39 : decode cX12_print 39 = .ok (.iaload, 1) := by decide +kernel
theorem dX12_print_40 : decode cX12_print 40 = .ok (.i2l, 1) := by decide +kernel
theorem dX12_print_41 : decode cX12_print 41 = .ok (.ladd, 1) := by decide +kernel
theorem dX12_print_42 : decode cX12_print 42 = .ok (.lstore_n 1, 1) := by decide +kernel
theorem dX12_print_43 : decode cX12_print 43 = .ok (.iinc 3 1, 3) := by decide +kernel
theorem dX12_print_46 : decode cX12_print 46 = .ok (.goto (-37), 3) := by decide +kernel
theorem dX12_print_49 : decode cX12_print 49 = .ok (.lload_n 1, 1) := by decide +kernel
theorem dX12_print_50 : decode cX12_print 50 = .ok (.lreturn, 1) := by decide +kernel
theorem B_X12_print_0 {g : Sg} {c t : Nat} (hL : Lay LM g c t σ)  (h : ∀ τ1 : Sg, τ1 = sI σ 172 0 0 → (Lay LM g c t τ1 → GG E mX12_print 9 [some (vr 172), some (vl 0), none, some (vi 0)] [] τ1 rc rs Q)) : GG E mX12_print 0 [some (vr 172), none, none, none] [] σ rc rs Q := by
  refine r_aload_n (pc := 0) dX12_print_0 rfl rfl ?_
  refine r_iconst (pc := 1) dX12_print_1 (inRk rfl) ?_
  refine r_putI (pc := 2) dX12_print_2 (k9 := 0) CL_12 (by decide) (by decide) w_1415 rfl rfl (fun h9 => absurd h9 (by decide +kernel)) (okO_of (N := 42) (hL.sh (i := 0) rfl (by decide) (by decide)) (by decide)) ?_
  refine nmS (fun τ1 e1 => ?_)
  replace h := h τ1 e1
  have hL := hL.wI e1 (by decide) (.inl (by decide))
  refine r_lconst (pc := 5) (x := 0) dX12_print_5 rfl ?_
  refine r_lstore_n (pc := 6) dX12_print_6 rfl (by decide) (l2 := [some (vr 172), some (vl 0), none, none]) rfl ?_
  refine r_iconst (pc := 7) dX12_print_7 (inRk rfl) ?_
  refine r_istore_n (pc := 8) dX12_print_8 rfl (by decide) (l2 := [some (vr 172), some (vl 0), none, some (vi 0)]) rfl ?_
  exact (h hL)
theorem B_X12_print_9 {g : Sg} {c t : Nat} (hL : Lay LM g c t σ) {y1 : Int} {x3 : Int} (h : (((gI σ 172 15) ≤ x3 → (Lay LM g c t σ → Q (.inl (some (vl y1))) σ)) ∧ (¬ ((gI σ 172 15) ≤ x3) → (0 ≤ x3 ∧ x3 < 120) ∧ ∀ v2 : Int, v2 = wL (31 * (wL ((wL (31 * y1)) + (gI σ 551 x3.toNat)))) → inR (x3 + 1) ∧ (Lay LM g c t σ → GG E mX12_print 9 [some (vr 172), some (vl (wL (v2 + (gI σ 553 x3.toNat)))), none, some (vi (x3 + 1))] [] σ rc rs Q)))) : GG E mX12_print 9 [some (vr 172), some (vl y1), none, some (vi x3)] [] σ rc rs Q := by
  refine r_iload_n (pc := 9) dX12_print_9 rfl rfl ?_
  refine r_aload_n (pc := 10) dX12_print_10 rfl rfl ?_
  refine r_getI (pc := 11) dX12_print_11 (k9 := 15) CL_12 (by decide) (by decide) w_1430 rfl (okO_of (N := 42) (hL.sh (i := 0) rfl (by decide) (by decide)) (by decide)) (fun _ => ?_)
  refine r_icmp_ge (pc := 14) (tgt := 49) dX12_print_14 (by decide) (fun c9 => ?_) (fun c9 => ?_)
  · replace h := h.1 c9
    refine r_lload_n (pc := 49) dX12_print_49 rfl rfl ?_
    exact r_lreturn (pc := 50) dX12_print_50 (by decide +kernel) rfl (h hL)
  · replace h := h.2 c9
    refine r_ldc2 (pc := 17) dX12_print_17 w_1863 ?_
    change GG _ _ _ _ (vl 31 :: _) _ _ _ _
    refine r_ldc2 (pc := 20) dX12_print_20 w_1863 ?_
    change GG _ _ _ _ (vl 31 :: _) _ _ _ _
    refine r_lload_n (pc := 23) dX12_print_23 rfl rfl ?_
    refine r_lmul (pc := 24) dX12_print_24 ?_
    refine r_aload_n (pc := 25) dX12_print_25 rfl rfl ?_
    refine r_getR (pc := 26) dX12_print_26 (k9 := 22) CL_12 (by decide) (by decide) w_1437 rfl (okO_of (N := 42) (hL.sh (i := 0) rfl (by decide) (by decide)) (by decide)) ?_
    refine eqR (y := 551) (hL.rf (i := 8) rfl) ?_
    refine r_iload_n (pc := 29) dX12_print_29 rfl rfl ?_
    obtain ⟨o1, h⟩ := h
    refine r_iaload (pc := 30) dX12_print_30 (okA_of (c := 20) (n := 120) (hL.sh (i := 13) rfl (by decide) (by decide)) (by decide) o1) ?_
    refine r_i2l (pc := 31) dX12_print_31 ?_
    refine r_ladd (pc := 32) dX12_print_32 ?_
    refine r_lmul (pc := 33) dX12_print_33 ?_
    refine nmL (fun v2 e9 => ?_)
    replace h := h v2 e9
    refine r_aload_n (pc := 34) dX12_print_34 rfl rfl ?_
    refine r_getR (pc := 35) dX12_print_35 (k9 := 24) CL_12 (by decide) (by decide) w_1439 rfl (okO_of (N := 42) (hL.sh (i := 0) rfl (by decide) (by decide)) (by decide)) ?_
    refine eqR (y := 553) (hL.rf (i := 10) rfl) ?_
    refine r_iload_n (pc := 38) dX12_print_38 rfl rfl ?_
    refine r_iaload (pc := 39) dX12_print_39 (okA_of (c := 20) (n := 120) (hL.sh (i := 15) rfl (by decide) (by decide)) (by decide) o1) ?_
    refine r_i2l (pc := 40) dX12_print_40 ?_
    refine r_ladd (pc := 41) dX12_print_41 ?_
    refine r_lstore_n (pc := 42) dX12_print_42 rfl (by decide) (l2 := [some (vr 172), some (vl (wL (v2 + (gI σ 553 x3.toNat)))), none, some (vi x3)]) rfl ?_
    obtain ⟨o3, h⟩ := h
    refine r_iinc (pc := 43) dX12_print_43 rfl (by decide) o3 (l2 := [some (vr 172), some (vl (wL (v2 + (gI σ 553 x3.toNat)))), none, some (vi (x3 + 1))]) rfl ?_
    refine r_goto (pc := 46) (tgt := 9) dX12_print_46 (by decide) ?_
    exact (h hL)
theorem C_X12_print {a0 : Nat} (h : GG E mX12_print 0 [some (vr a0), none, none, none] [] σ 0 0 Q) : CC E mX12_print [vr a0] σ Q := CC.of (by decide +kernel) rfl (by decide +kernel) (fun h9 => nomatch h9) (Nat.le_of_ble_eq_true rfl) h
theorem dX12_product_0 : decode cX12_product 0 = .ok (.aload_n 0, 1) := by decide +kernel
theorem dX12_product_1 : decode cX12_product 1 = .ok (.iconst 0, 1) := by decide +kernel
theorem dX12_product_2 : decode cX12_product 2 = .ok (.putfield 99, 3) := by decide +kernel
theorem dX12_product_5 : decode cX12_product 5 = .ok (.aload_n 0, 1) := by decide +kernel
theorem dX12_product_6 : decode cX12_product 6 = .ok (.aload_n 0, 1) := by decide +kernel
theorem dX12_product_7 : decode cX12_product 7 = .ok (.iload_n 1, 1) := by decide +kernel
theorem dX12_product_8 : decode cX12_product 8 = .ok (.invokevirtual 332, 3) := by decide +kernel
theorem dX12_product_11 : decode cX12_product 11 = .ok (.ifCond .eq 11, 3) := by decide +kernel
theorem dX12_product_14 : decode cX12_product 14 = .ok (.aload_n 0, 1) := by decide +kernel
theorem dX12_product_15 : decode cX12_product 15 = .ok (.iload_n 2, 1) := by decide +kernel
theorem dX12_product_16 : decode cX12_product 16 = .ok (.invokevirtual 332, 3) := by decide +kernel
theorem dX12_product_19 : decode cX12_product 19 = .ok (.ifCond .ne 7, 3) := by decide +kernel
theorem dX12_product_22 : decode cX12_product 22 = .ok (.iconst 1, 1) := by decide +kernel
theorem dX12_product_23 : decode cX12_product 23 = .ok (.goto 4, 3) := by decide +kernel
theorem dX12_product_26 : decode cX12_product 26 = .ok (.iconst 0, 1) := by decide +kernel
theorem dX12_product_27 : decode cX12_product 27 = .ok (.iconst 1, 1) := by decide +kernel
theorem dX12_product_28 : decode cX12_product 28 = .ok (.iconst 0, 1) := by decide +kernel
theorem dX12_product_29 : decode cX12_product 29 = .ok (.invokevirtual 177, 3) := by decide +kernel
theorem dX12_product_32 : decode cX12_product 32 = .ok (.ifCond .eq 5, 3) := by decide +kernel
theorem dX12_product_35 : decode cX12_product 35 = .ok (.iconst 0, 1) := by decide +kernel
theorem dX12_product_36 : decode cX12_product 36 = .ok (.ireturn, 1) := by decide +kernel
theorem dX12_product_37 : decode cX12_product 37 = .ok (.aload_n 0, 1) := by decide +kernel
theorem dX12_product_38 : decode cX12_product 38 = .ok (.getfield 37, 3) := by decide +kernel
theorem dX12_product_41 : decode cX12_product 41 = .ok (.iload_n 1, 1) := by decide +kernel
theorem dX12_product_42 : decode cX12_product 42 = .ok (.aaload, 1) := by decide +kernel
theorem dX12_product_43 : decode cX12_product 43 = .ok (.iload_n 2, 1) := by decide +kernel
theorem dX12_product_44 : decode cX12_product 44 = .ok (.iaload, 1) := by decide +kernel
theorem dX12_product_45 : decode cX12_product 45 = .ok (.ireturn, 1) := by decide +kernel
theorem B_X12_product_0 {g : Sg} {c t : Nat} (hL : Lay LM g c t σ) {x1 : Int} {x2 : Int} (h : ∀ τ1 : Sg, τ1 = sI σ 172 0 0 → (Lay LM g c t τ1 → CC E mX12_isElement [vr 172, vi x1] τ1 (KI (fun r2 τ3 => Lay LM g c t τ3 ∧ (inR r2 → ((r2 = 0 → (Lay LM g c t τ3 → CC E mX12_bad [vr 172, vi 1, vi 1, vi 0] τ3 (KI (fun r4 τ5 => Lay LM g c t τ5 ∧ (inR r4 → ((r4 = 0 → (0 ≤ x1 ∧ x1 < 120) ∧ (0 ≤ x2 ∧ x2 < 120) ∧ (Lay LM g c t τ5 → Q (.inl (some (vi (gI τ5 (431 + x1.toNat) x2.toNat)))) τ5)) ∧ (¬ (r4 = 0) → (Lay LM g c t τ5 → Q (.inl (some (vi 0))) τ5))))) (fun _ _ => False)))) ∧ (¬ (r2 = 0) → (Lay LM g c t τ3 → CC E mX12_isElement [vr 172, vi x2] τ3 (KI (fun r9 τ10 => Lay LM g c t τ10 ∧ (inR r9 → ((r9 ≠ 0 → (Lay LM g c t τ10 → CC E mX12_bad [vr 172, vi 0, vi 1, vi 0] τ10 (KI (fun r11 τ12 => Lay LM g c t τ12 ∧ (inR r11 → ((r11 = 0 → (0 ≤ x1 ∧ x1 < 120) ∧ (0 ≤ x2 ∧ x2 < 120) ∧ (Lay LM g c t τ12 → Q (.inl (some (vi (gI τ12 (431 + x1.toNat) x2.toNat)))) τ12)) ∧ (¬ (r11 = 0) → (Lay LM g c t τ12 → Q (.inl (some (vi 0))) τ12))))) (fun _ _ => False)))) ∧ (r9 = 0 → (Lay LM g c t τ10 → CC E mX12_bad [vr 172, vi 1, vi 1, vi 0] τ10 (KI (fun r16 τ17 => Lay LM g c t τ17 ∧ (inR r16 → ((r16 = 0 → (0 ≤ x1 ∧ x1 < 120) ∧ (0 ≤ x2 ∧ x2 < 120) ∧ (Lay LM g c t τ17 → Q (.inl (some (vi (gI τ17 (431 + x1.toNat) x2.toNat)))) τ17)) ∧ (¬ (r16 = 0) → (Lay LM g c t τ17 → Q (.inl (some (vi 0))) τ17))))) (fun _ _ => False))))))) (fun _ _ => False))))))) (fun _ _ => False)))) : GG E mX12_product 0 [some (vr 172), some (vi x1), some (vi x2)] [] σ rc rs Q := by
  refine r_aload_n (pc := 0) dX12_product_0 rfl rfl ?_
  refine r_iconst (pc := 1) dX12_product_1 (inRk rfl) ?_
  refine r_putI (pc := 2) dX12_product_2 (k9 := 0) CL_12 (by decide) (by decide) w_1415 rfl rfl (fun h9 => absurd h9 (by decide +kernel)) (okO_of (N := 42) (hL.sh (i := 0) rfl (by decide) (by decide)) (by decide)) ?_
  refine nmS (fun τ1 e1 => ?_)
  replace h := h τ1 e1
  have hL := hL.wI e1 (by decide) (.inl (by decide))
  refine r_aload_n (pc := 5) dX12_product_5 rfl rfl ?_
  refine r_aload_n (pc := 6) dX12_product_6 rfl rfl ?_
  refine r_iload_n (pc := 7) dX12_product_7 rfl rfl ?_
  refine c_VI0N (M := mX12_product) (pc := 8) (As := [vi x1]) dX12_product_8 K_X12_isElement w_1746 ⟨by decide, by decide⟩ (Nat.le_of_ble_eq_true rfl) rfl rfl (ci := 12) rfl rfl (by decide) (okO_of (N := 42) (hL.sh (i := 0) rfl (by decide) (by decide)) (by decide)) (h hL) (fun r2 τ3 h8 hr9 => ?_) rfl
  replace hL := h8.1
  replace h := h8.2 hr9
  refine r_if_eq (pc := 11) (tgt := 22) dX12_product_11 (by decide) (fun c9 => ?_) (fun c9 => ?_)
  · replace h := h.1 c9
    refine r_iconst (pc := 22) dX12_product_22 (inRk rfl) ?_
    refine r_goto (pc := 23) (tgt := 27) dX12_product_23 (by decide) ?_
    refine r_iconst (pc := 27) dX12_product_27 (inRk rfl) ?_
    refine r_iconst (pc := 28) dX12_product_28 (inRk rfl) ?_
    refine c_VI0N (M := mX12_product) (pc := 29) (As := [vi 1, vi 1, vi 0]) dX12_product_29 K_X12_bad w_1562 ⟨by decide, by decide⟩ (Nat.le_of_ble_eq_true rfl) rfl rfl (ci := 12) rfl rfl (by decide) (okO_of (N := 42) (hL.sh (i := 0) rfl (by decide) (by decide)) (by decide)) (h hL) (fun r4 τ5 h8 hr9 => ?_) rfl
    replace hL := h8.1
    replace h := h8.2 hr9
    refine r_if_eq (pc := 32) (tgt := 37) dX12_product_32 (by decide) (fun c9 => ?_) (fun c9 => ?_)
    · replace h := h.1 c9
      refine r_aload_n (pc := 37) dX12_product_37 rfl rfl ?_
      refine r_getR (pc := 38) dX12_product_38 (k9 := 21) CL_12 (by decide) (by decide) w_1436 rfl (okO_of (N := 42) (hL.sh (i := 0) rfl (by decide) (by decide)) (by decide)) ?_
      refine eqR (y := 430) (hL.rf (i := 7) rfl) ?_
      refine r_iload_n (pc := 41) dX12_product_41 rfl rfl ?_
      obtain ⟨o6, h⟩ := h
      refine r_aaload (pc := 42) dX12_product_42 (okB_of (c := 24) (n := 120) (hL.sh (i := 11) rfl (by decide) (by decide)) (by decide) o6) ?_
      have q7 : 431 ≤ 431 + x1.toNat ∧ 431 + x1.toNat < 551 := ⟨Nat.le_add_right _ _, rowB o6 (by decide)⟩
      refine eqR (y := 431 + x1.toNat) (hL.rx (i := 3) rfl (rowC o6 (by decide))) ?_
      refine r_iload_n (pc := 43) dX12_product_43 rfl rfl ?_
      obtain ⟨o8, h⟩ := h
      refine r_iaload (pc := 44) dX12_product_44 (okA_of (c := 20) (n := 120) (hL.sh (i := 12) rfl q7.1 q7.2) (Nat.le_trans (by decide) q7.1) o8) ?_
      exact r_ireturn (pc := 45) (ty := .int) dX12_product_45 (by decide +kernel) rfl (nar_i _) (h hL)
    · replace h := h.2 c9
      refine r_iconst (pc := 35) dX12_product_35 (inRk rfl) ?_
      exact r_ireturn (pc := 36) (ty := .int) dX12_product_36 (by decide +kernel) rfl (nar_i _) (h hL)
  · replace h := h.2 c9
    refine r_aload_n (pc := 14) dX12_product_14 rfl rfl ?_
    refine r_iload_n (pc := 15) dX12_product_15 rfl rfl ?_
    refine c_VI0N (M := mX12_product) (pc := 16) (As := [vi x2]) dX12_product_16 K_X12_isElement w_1746 ⟨by decide, by decide⟩ (Nat.le_of_ble_eq_true rfl) rfl rfl (ci := 12) rfl rfl (by decide) (okO_of (N := 42) (hL.sh (i := 0) rfl (by decide) (by decide)) (by decide)) (h hL) (fun r9 τ10 h8 hr9 => ?_) rfl
    replace hL := h8.1
    replace h := h8.2 hr9
    refine r_if_ne (pc := 19) (tgt := 26) dX12_product_19 (by decide) (fun c9 => ?_) (fun c9 => ?_)
    · replace h := h.1 c9
      refine r_iconst (pc := 26) dX12_product_26 (inRk rfl) ?_
      refine r_iconst (pc := 27) dX12_product_27 (inRk rfl) ?_
      refine r_iconst (pc := 28) dX12_product_28 (inRk rfl) ?_
      refine c_VI0N (M := mX12_product) (pc := 29) (As := [vi 0, vi 1, vi 0]) dX12_product_29 K_X12_bad w_1562 ⟨by decide, by decide⟩ (Nat.le_of_ble_eq_true rfl) rfl rfl (ci := 12) rfl rfl (by decide) (okO_of (N := 42) (hL.sh (i := 0) rfl (by decide) (by decide)) (by decide)) (h hL) (fun r11 τ12 h8 hr9 => ?_) rfl
      replace hL := h8.1
      replace h := h8.2 hr9
      refine r_if_eq (pc := 32) (tgt := 37) dX12_product_32 (by decide) (fun c9 => ?_) (fun c9 => ?_)
      · replace h := h.1 c9
        refine r_aload_n (pc := 37) dX12_product_37 rfl rfl ?_
        refine r_getR (pc := 38) dX12_product_38 (k9 := 21) CL_12 (by decide) (by decide) w_1436 rfl (okO_of (N := 42) (hL.sh (i := 0) rfl (by decide) (by decide)) (by decide)) ?_
        refine eqR (y := 430) (hL.rf (i := 7) rfl) ?_
        refine r_iload_n (pc := 41) dX12_product_41 rfl rfl ?_
        obtain ⟨o13, h⟩ := h
        refine r_aaload (pc := 42) dX12_product_42 (okB_of (c := 24) (n := 120) (hL.sh (i := 11) rfl (by decide) (by decide)) (by decide) o13) ?_
        have q14 : 431 ≤ 431 + x1.toNat ∧ 431 + x1.toNat < 551 := ⟨Nat.le_add_right _ _, rowB o13 (by decide)⟩
        refine eqR (y := 431 + x1.toNat) (hL.rx (i := 3) rfl (rowC o13 (by decide))) ?_
        refine r_iload_n (pc := 43) dX12_product_43 rfl rfl ?_
        obtain ⟨o15, h⟩ := h
        refine r_iaload (pc := 44) dX12_product_44 (okA_of (c := 20) (n := 120) (hL.sh (i := 12) rfl q14.1 q14.2) (Nat.le_trans (by decide) q14.1) o15) ?_
        exact r_ireturn (pc := 45) (ty := .int) dX12_product_45 (by decide +kernel) rfl (nar_i _) (h hL)
      · replace h := h.2 c9
        refine r_iconst (pc := 35) dX12_product_35 (inRk rfl) ?_
        exact r_ireturn (pc := 36) (ty := .int) dX12_product_36 (by decide +kernel) rfl (nar_i _) (h hL)
    · replace h := h.2 c9
      refine r_iconst (pc := 22) dX12_product_22 (inRk rfl) ?_
      refine r_goto (pc := 23) (tgt := 27) dX12_product_23 (by decide) ?_
      refine r_iconst (pc := 27) dX12_product_27 (inRk rfl) ?_
      refine r_iconst (pc := 28) dX12_product_28 (inRk rfl) ?_
      refine c_VI0N (M := mX12_product) (pc := 29) (As := [vi 1, vi 1, vi 0]) dX12_product_29 K_X12_bad w_1562 ⟨by decide, by decide⟩ (Nat.le_of_ble_eq_true rfl) rfl rfl (ci := 12) rfl rfl (by decide) (okO_of (N := 42) (hL.sh (i := 0) rfl (by decide) (by decide)) (by decide)) (h hL) (fun r16 τ17 h8 hr9 => ?_) rfl
      replace hL := h8.1
      replace h := h8.2 hr9
      refine r_if_eq (pc := 32) (tgt := 37) dX12_product_32 (by decide) (fun c9 => ?_) (fun c9 => ?_)
      · replace h := h.1 c9
        refine r_aload_n (pc := 37) dX12_product_37 rfl rfl ?_
        refine r_getR (pc := 38) dX12_product_38 (k9 := 21) CL_12 (by decide) (by decide) w_1436 rfl (okO_of (N := 42) (hL.sh (i := 0) rfl (by decide) (by decide)) (by decide)) ?_
        refine eqR (y := 430) (hL.rf (i := 7) rfl) ?_
        refine r_iload_n (pc := 41) dX12_product_41 rfl rfl ?_
        obtain ⟨o18, h⟩ := h
        refine r_aaload (pc := 42) dX12_product_42 (okB_of (c := 24) (n := 120) (hL.sh (i := 11) rfl (by decide) (by decide)) (by decide) o18) ?_
        have q19 : 431 ≤ 431 + x1.toNat ∧ 431 + x1.toNat < 551 := ⟨Nat.le_add_right _ _, rowB o18 (by decide)⟩
        refine eqR (y := 431 + x1.toNat) (hL.rx (i := 3) rfl (rowC o18 (by decide))) ?_
        refine r_iload_n (pc := 43) dX12_product_43 rfl rfl ?_
        obtain ⟨o20, h⟩ := h
        refine r_iaload (pc := 44) dX12_product_44 (okA_of (c := 20) (n := 120) (hL.sh (i := 12) rfl q19.1 q19.2) (Nat.le_trans (by decide) q19.1) o20) ?_
        exact r_ireturn (pc := 45) (ty := .int) dX12_product_45 (by decide +kernel) rfl (nar_i _) (h hL)
      · replace h := h.2 c9
        refine r_iconst (pc := 35) dX12_product_35 (inRk rfl) ?_
        exact r_ireturn (pc := 36) (ty := .int) dX12_product_36 (by decide +kernel) rfl (nar_i _) (h hL)
theorem C_X12_product {a0 : Nat} {x1 : Int} {x2 : Int} (h : GG E mX12_product 0 [some (vr a0), some (vi x1), some (vi x2)] [] σ 0 0 Q) : CC E mX12_product [vr a0, vi x1, vi x2] σ Q := CC.of (by decide +kernel) rfl (by decide +kernel) (fun h9 => nomatch h9) (Nat.le_of_ble_eq_true rfl) h
theorem dX12_readsTurn_0 : decode cX12_readsTurn 0 = .ok (.aload_n 0, 1) := by decide +kernel
theorem dX12_readsTurn_1 : decode cX12_readsTurn 1 = .ok (.invokevirtual 125, 3) := by decide +kernel
theorem dX12_readsTurn_4 : decode cX12_readsTurn 4 = .ok (.pop, 1) := by decide +kernel
theorem dX12_readsTurn_5 : decode cX12_readsTurn 5 = .ok (.aload_n 0, 1) := by decide +kernel
theorem dX12_readsTurn_6 : decode cX12_readsTurn 6 = .ok (.getfield 108, 3) := by decide +kernel
theorem dX12_readsTurn_9 : decode cX12_readsTurn 9 = .ok (.istore_n 1, 1) := by decide +kernel
theorem dX12_readsTurn_10 : decode cX12_readsTurn 10 = .ok (.aload_n 0, 1) := by decide +kernel
theorem dX12_readsTurn_11 : decode cX12_readsTurn 11 = .ok (.ldc 157, 2) := by decide +kernel
theorem dX12_readsTurn_13 : decode cX12_readsTurn 13 = .ok (.invokevirtual 159, 3) := by decide +kernel
theorem dX12_readsTurn_16 : decode cX12_readsTurn 16 = .ok (.ifCond .ne 9, 3) := by decide +kernel
theorem dX12_readsTurn_19 : decode cX12_readsTurn 19 = .ok (.aload_n 0, 1) := by decide +kernel
theorem dX12_readsTurn_20 : decode cX12_readsTurn 20 = .ok (.iconst 1, 1) := by decide +kernel
theorem dX12_readsTurn_21 : decode cX12_readsTurn 21 = .ok (.iload_n 1, 1) := by decide +kernel
theorem dX12_readsTurn_22 : decode cX12_readsTurn 22 = .ok (.invokevirtual 132, 3) := by decide +kernel
theorem dX12_readsTurn_25 : decode cX12_readsTurn 25 = .ok (.aload_n 0, 1) := by decide +kernel
theorem dX12_readsTurn_26 : decode cX12_readsTurn 26 = .ok (.invokevirtual 121, 3) := by decide +kernel
theorem dX12_readsTurn_29 : decode cX12_readsTurn 29 = .ok (.ifCond .eq 21, 3) := by decide +kernel
theorem dX12_readsTurn_32 : decode cX12_readsTurn 32 = .ok (.aload_n 0, 1) := by decide +kernel
theorem dX12_readsTurn_33 : decode cX12_readsTurn 33 = .ok (.getfield 22, 3) := by decide +kernel
theorem dX12_readsTurn_36 : decode cX12_readsTurn 36 = .ok (.iconst 1, 1) := by decide +kernel
theorem dX12_readsTurn_37 : decode cX12_readsTurn 37 = .ok (.aaload, 1) := by decide +kernel
theorem dX12_readsTurn_38 : decode cX12_readsTurn 38 = .ok (.iconst 1, 1) := by decide +kernel
theorem dX12_readsTurn_39 : decode cX12_readsTurn 39 = .ok (.iaload, 1) := by decide +kernel
theorem dX12_readsTurn_40 : decode cX12_readsTurn 40 = .ok (.iconst 4, 1) := by decide +kernel
theorem dX12_readsTurn_41 : decode cX12_readsTurn 41 = .ok (.if_icmp .ne 9, 3) := by decide +kernel
theorem dX12_readsTurn_44 : decode cX12_readsTurn 44 = .ok (.aload_n 0, 1) := by decide +kernel
theorem dX12_readsTurn_45 : decode cX12_readsTurn 45 = .ok (.iconst 3, 1) := by decide +kernel
theorem dX12_readsTurn_46 : decode cX12_readsTurn 46 = .ok (.iload_n 1, 1) := by decide +kernel
theorem dX12_readsTurn_47 : decode cX12_readsTurn 47 = .ok (.invokevirtual 132, 3) := by decide +kernel
theorem dX12_readsTurn_50 : decode cX12_readsTurn 50 = .ok (.aload_n 0, 1) := by decide +kernel
theorem dX12_readsTurn_51 : decode cX12_readsTurn 51 = .ok (.invokevirtual 121, 3) := by decide +kernel
theorem dX12_readsTurn_54 : decode cX12_readsTurn 54 = .ok (.ifCond .ne 4, 3) := by decide +kernel
theorem dX12_readsTurn_57 : decode cX12_readsTurn 57 = .ok (.return_, 1) := by decide +kernel
theorem dX12_readsTurn_58 : decode cX12_readsTurn 58 = .ok (.iconst 2, 1) := by decide +kernel
theorem dX12_readsTurn_59 : decode cX12_readsTurn 59 = .ok (.bipush 8, 2) := by decide +kernel
theorem dX12_readsTurn_61 : decode cX12_readsTurn 61 = .ok (.aload_n 0, 1) := by decide +kernel
theorem dX12_readsTurn_62 : decode cX12_readsTurn 62 = .ok (.getfield 22, 3) := by decide +kernel
theorem dX12_readsTurn_65 : decode cX12_readsTurn 65 = .ok (.iconst 1, 1) := by decide +kernel
theorem dX12_readsTurn_66 : decode cX12_readsTurn 66 = .ok (.aaload, 1) := by decide +kernel
theorem dX12_readsTurn_67 : decode cX12_readsTurn 67 = .ok (.iconst 1, 1) := by decide +kernel
theorem dX12_readsTurn_68 : decode cX12_readsTurn 68 = .ok (.iaload, 1) := by decide +kernel
theorem dX12_readsTurn_69 : decode cX12_readsTurn 69 = .ok (.imul, 1) := by decide +kernel
theorem dX12_readsTurn_70 : decode cX12_readsTurn 70 = .ok (.iadd, 1) := by decide +kernel
theorem dX12_readsTurn_71 : decode cX12_readsTurn 71 = .ok (.istore_n 2, 1) := by decide +kernel
theorem dX12_readsTurn_72 : decode cX12_readsTurn 72 = .ok (.iconst 0, 1) := by decide +kernel
theorem dX12_readsTurn_73 : decode cX12_readsTurn 73 = .ok (.istore_n 3, 1) := by decide +kernel
theorem dX12_readsTurn_74 : decode cX12_readsTurn 74 = .ok (.iload_n 3, 1) := by decide +kernel
theorem dX12_readsTurn_75 : decode cX12_readsTurn 75 = .ok (.bipush 8, 2) := by decide +kernel
theorem dX12_readsTurn_77 : decode cX12_readsTurn 77 = .ok (.if_icmp .ge 24, 3) := by decide +kernel
theorem dX12_readsTurn_80 : decode cX12_readsTurn 80 = .ok (.aload_n 0, 1) := by decide +kernel
theorem dX12_readsTurn_81 : decode cX12_readsTurn 81 = .ok (.getfield 22, 3) := by decide +kernel
theorem dX12_readsTurn_84 : decode cX12_readsTurn 84 = .ok (.iconst 1, 1) := by decide +kernel
theorem dX12_readsTurn_85 : decode cX12_readsTurn 85 = .ok (.aaload, 1) := by decide +kernel
theorem dX12_readsTurn_86 : decode cX12_readsTurn 86 = .ok (.iload_n 2, 1) := by decide +kernel
theorem dX12_readsTurn_87 : decode cX12_readsTurn 87 = .ok (.iload_n 3, 1) := by decide +kernel
theorem dX12_readsTurn_88 : decode cX12_readsTurn 88 = .ok (.iadd, 1) := by decide +kernel
theorem dX12_readsTurn_89 : decode cX12_readsTurn 89 = .ok (.aload_n 0, 1) := by decide +kernel
theorem dX12_readsTurn_90 : decode cX12_readsTurn 90 = .ok (.iconst 1, 1) := by decide +kernel
theorem dX12_readsTurn_91 : decode cX12_readsTurn 91 = .ok (.invokevirtual 163, 3) := by decide +kernel
theorem dX12_readsTurn_94 : decode cX12_readsTurn 94 = .ok (.iastore, 1) := by decide +kernel
theorem dX12_readsTurn_95 : decode cX12_readsTurn 95 = .ok (.iinc 3 1, 3) := by decide +kernel
theorem dX12_readsTurn_98 : decode cX12_readsTurn 98 = .ok (.goto (-24), 3) := by decide +kernel
theorem dX12_readsTurn_101 : decode cX12_readsTurn 101 = .ok (.aload_n 0, 1) := by decide +kernel
theorem dX12_readsTurn_102 : decode cX12_readsTurn 102 = .ok (.invokevirtual 167, 3) := by decide +kernel
theorem dX12_readsTurn_105 : decode cX12_readsTurn 105 = .ok (.aload_n 0, 1) := by decide +kernel
theorem dX12_readsTurn_106 : decode cX12_readsTurn 106 = .ok (.invokevirtual 121, 3) := by decide +kernel
theorem dX12_readsTurn_109 : decode cX12_readsTurn 109 = .ok (.ifCond .eq 18, 3) := by decide +kernel
theorem dX12_readsTurn_112 : decode cX12_readsTurn 112 = .ok (.aload_n 0, 1) := by decide +kernel
theorem dX12_readsTurn_113 : decode cX12_readsTurn 113 = .ok (.iconst 1, 1) := by decide +kernel
theorem dX12_readsTurn_114 : decode cX12_readsTurn 114 = .ok (.iload_n 2, 1) := by decide +kernel
theorem dX12_readsTurn_115 : decode cX12_readsTurn 115 = .ok (.invokevirtual 170, 3) := by decide +kernel
theorem dX12_readsTurn_118 : decode cX12_readsTurn 118 = .ok (.ifCond .ne 9, 3) := by decide +kernel
theorem dX12_readsTurn_121 : decode cX12_readsTurn 121 = .ok (.aload_n 0, 1) := by decide +kernel
theorem dX12_readsTurn_122 : decode cX12_readsTurn 122 = .ok (.iconst 4, 1) := by decide +kernel
theorem dX12_readsTurn_123 : decode cX12_readsTurn 123 = .ok (.iload_n 1, 1) := by decide +kernel
theorem dX12_readsTurn_124 : decode cX12_readsTurn 124 = .ok (.invokevirtual 132, 3) := by decide +kernel
theorem dX12_readsTurn_127 : decode cX12_readsTurn 127 = .ok (.aload_n 0, 1) := by decide +kernel
theorem dX12_readsTurn_128 : decode cX12_readsTurn 128 = .ok (.invokevirtual 121, 3) := by decide +kernel
theorem dX12_readsTurn_131 : decode cX12_readsTurn 131 = .ok (.ifCond .ne 4, 3) := by decide +kernel
theorem dX12_readsTurn_134 : decode cX12_readsTurn 134 = .ok (.return_, 1) := by decide +kernel
theorem dX12_readsTurn_135 : decode cX12_readsTurn 135 = .ok (.aload_n 0, 1) := by decide +kernel
theorem dX12_readsTurn_136 : decode cX12_readsTurn 136 = .ok (.getfield 22, 3) := by decide +kernel
theorem dX12_readsTurn_139 : decode cX12_readsTurn 139 = .ok (.iconst 1, 1) := by decide +kernel
theorem dX12_readsTurn_140 : decode cX12_readsTurn 140 = .ok (.aaload, 1) := by decide +kernel
theorem dX12_readsTurn_141 : decode cX12_readsTurn 141 = .ok (.iconst 1, 1) := by decide +kernel
theorem dX12_readsTurn_142 : decode cX12_readsTurn 142 = .ok (.dup2, 1) := by decide +kernel
theorem dX12_readsTurn_143 : decode cX12_readsTurn 143 = .ok (.iaload, 1) := by decide +kernel
theorem dX12_readsTurn_144 : decode cX12_readsTurn 144 = .ok (.iconst 1, 1) := by decide +kernel
theorem dX12_readsTurn_145 : decode cX12_readsTurn 145 = .ok (.iadd, 1) := by decide +kernel
theorem dX12_readsTurn_146 : decode cX12_readsTurn 146 = .ok (.iastore, 1) := by decide +kernel
theorem dX12_readsTurn_147 : decode cX12_readsTurn 147 = .ok (.aload_n 0, 1) := by decide +kernel
theorem dX12_readsTurn_148 : decode cX12_readsTurn 148 = .ok (.iconst 1, 1) := by decide +kernel
theorem dX12_readsTurn_149 : decode cX12_readsTurn 149 = .ok (.invokevirtual 92, 3) := by decide +kernel
theorem dX12_readsTurn_152 : decode cX12_readsTurn 152 = .ok (.ifCond .ne 9, 3) := by decide +kernel
theorem dX12_readsTurn_155 : decode cX12_readsTurn 155 = .ok (.aload_n 0, 1) := by decide +kernel
theorem dX12_readsTurn_156 : decode cX12_readsTurn 156 = .ok (.iconst 5, 1) := by decide +kernel
theorem dX12_readsTurn_157 : decode cX12_readsTurn 157 = .ok (.iload_n 1, 1) := by decide +kernel
theorem dX12_readsTurn_158 : decode cX12_readsTurn 158 = .ok (.invokevirtual 132, 3) := by decide +kernel
theorem dX12_readsTurn_161 : decode cX12_readsTurn 161 = .ok (.return_, 1) := by decide +kernel
theorem B_X12_readsTurn_0 {g : Sg} {c t : Nat} (hL : Lay LM g c t σ)  (h : (Lay LM g c t σ → CC E mX12_here [vr 172] σ (KI (fun r1 τ2 => Lay LM g c t τ2 ∧ (inR r1 → (Lay LM g c t τ2 → CC E mX12_takes [vr 172, vr 11] τ2 (KI (fun r3 τ4 => Lay LM g c t τ4 ∧ (inR r3 → ((r3 ≠ 0 → (Lay LM g c t τ4 → CC E mX12_fine [vr 172] τ4 (KI (fun r5 τ6 => Lay LM g c t τ6 ∧ (inR r5 → ((r5 = 0 → (Lay LM g c t τ6 → GG E mX12_readsTurn 50 [some (vr 172), some (vi (gI τ2 172 4)), none, none] [] τ6 rc rs Q)) ∧ (¬ (r5 = 0) → (((gI τ6 177 1) ≠ 4 → (Lay LM g c t τ6 → GG E mX12_readsTurn 50 [some (vr 172), some (vi (gI τ2 172 4)), none, none] [] τ6 rc rs Q)) ∧ ((gI τ6 177 1) = 4 → (Lay LM g c t τ6 → CC E mX12_wrong [vr 172, vi 3, vi (gI τ2 172 4)] τ6 (KV (fun τ8 => Lay LM g c t τ8 ∧ (Lay LM g c t τ8 → GG E mX12_readsTurn 50 [some (vr 172), some (vi (gI τ2 172 4)), none, none] [] τ8 rc rs Q)) (fun _ _ => False))))))))) (fun _ _ => False)))) ∧ (r3 = 0 → (Lay LM g c t τ4 → CC E mX12_wrong [vr 172, vi 1, vi (gI τ2 172 4)] τ4 (KV (fun τ10 => Lay LM g c t τ10 ∧ (Lay LM g c t τ10 → CC E mX12_fine [vr 172] τ10 (KI (fun r11 τ12 => Lay LM g c t τ12 ∧ (inR r11 → ((r11 = 0 → (Lay LM g c t τ12 → GG E mX12_readsTurn 50 [some (vr 172), some (vi (gI τ2 172 4)), none, none] [] τ12 rc rs Q)) ∧ (¬ (r11 = 0) → (((gI τ12 177 1) ≠ 4 → (Lay LM g c t τ12 → GG E mX12_readsTurn 50 [some (vr 172), some (vi (gI τ2 172 4)), none, none] [] τ12 rc rs Q)) ∧ ((gI τ12 177 1) = 4 → (Lay LM g c t τ12 → CC E mX12_wrong [vr 172, vi 3, vi (gI τ2 172 4)] τ12 (KV (fun τ14 => Lay LM g c t τ14 ∧ (Lay LM g c t τ14 → GG E mX12_readsTurn 50 [some (vr 172), some (vi (gI τ2 172 4)), none, none] [] τ14 rc rs Q)) (fun _ _ => False))))))))) (fun _ _ => False)))) (fun _ _ => False))))))) (fun _ _ => False))))) (fun _ _ => False)))) : GG E mX12_readsTurn 0 [some (vr 172), none, none, none] [] σ rc rs Q := by
  refine r_aload_n (pc := 0) dX12_readsTurn_0 rfl rfl ?_
  refine c_VI0N (M := mX12_readsTurn) (pc := 1) (As := []) dX12_readsTurn_1 K_X12_here w_1566 ⟨by decide, by decide⟩ (Nat.le_of_ble_eq_true rfl) rfl rfl (ci := 12) rfl rfl (by decide) (okO_of (N := 42) (hL.sh (i := 0) rfl (by decide) (by decide)) (by decide)) (h hL) (fun r1 τ2 h8 hr9 => ?_) rfl
  replace hL := h8.1
  replace h := h8.2 hr9
  refine r_pop (pc := 4) dX12_readsTurn_4 (fun _ h9 => nomatch h9) ?_
  refine r_aload_n (pc := 5) dX12_readsTurn_5 rfl rfl ?_
  refine r_getI (pc := 6) dX12_readsTurn_6 (k9 := 4) CL_12 (by decide) (by decide) w_1419 rfl (okO_of (N := 42) (hL.sh (i := 0) rfl (by decide) (by decide)) (by decide)) (fun _ => ?_)
  refine r_istore_n (pc := 9) dX12_readsTurn_9 rfl (by decide) (l2 := [some (vr 172), some (vi (gI τ2 172 4)), none, none]) rfl ?_
  refine r_aload_n (pc := 10) dX12_readsTurn_10 rfl rfl ?_
  refine r_ldcS (pc := 11) (a := 11) dX12_readsTurn_11 (List.mem_of_getElem? (i := 2) rfl) (by decide) ?_
  refine c_VI0N (M := mX12_readsTurn) (pc := 13) (As := [vr 11]) dX12_readsTurn_13 K_X12_takes w_1575 ⟨by decide, by decide⟩ (Nat.le_of_ble_eq_true rfl) rfl rfl (ci := 12) rfl rfl (by decide) (okO_of (N := 42) (hL.sh (i := 0) rfl (by decide) (by decide)) (by decide)) (h hL) (fun r3 τ4 h8 hr9 => ?_) rfl
  replace hL := h8.1
  replace h := h8.2 hr9
  refine r_if_ne (pc := 16) (tgt := 25) dX12_readsTurn_16 (by decide) (fun c9 => ?_) (fun c9 => ?_)
  · replace h := h.1 c9
    refine r_aload_n (pc := 25) dX12_readsTurn_25 rfl rfl ?_
    refine c_VI0N (M := mX12_readsTurn) (pc := 26) (As := []) dX12_readsTurn_26 K_X12_fine w_1579 ⟨by decide, by decide⟩ (Nat.le_of_ble_eq_true rfl) rfl rfl (ci := 12) rfl rfl (by decide) (okO_of (N := 42) (hL.sh (i := 0) rfl (by decide) (by decide)) (by decide)) (h hL) (fun r5 τ6 h8 hr9 => ?_) rfl
    replace hL := h8.1
    replace h := h8.2 hr9
    refine r_if_eq (pc := 29) (tgt := 50) dX12_readsTurn_29 (by decide) (fun c9 => ?_) (fun c9 => ?_)
    · replace h := h.1 c9
      exact (h hL)
    · replace h := h.2 c9
      refine r_aload_n (pc := 32) dX12_readsTurn_32 rfl rfl ?_
      refine r_getR (pc := 33) dX12_readsTurn_33 (k9 := 9) CL_12 (by decide) (by decide) w_1424 rfl (okO_of (N := 42) (hL.sh (i := 0) rfl (by decide) (by decide)) (by decide)) ?_
      refine eqR (y := 175) (hL.rf (i := 2) rfl) ?_
      refine r_iconst (pc := 36) dX12_readsTurn_36 (inRk rfl) ?_
      refine r_aaload (pc := 37) dX12_readsTurn_37 (okB_of (c := 24) (n := 10) (hL.sh (i := 3) rfl (by decide) (by decide)) (by decide) (by decide)) ?_
      refine eqR (y := 177) (hL.rx (i := 0) rfl (by decide)) ?_
      refine r_iconst (pc := 38) dX12_readsTurn_38 (inRk rfl) ?_
      refine r_iaload (pc := 39) dX12_readsTurn_39 (okA_of (c := 20) (n := 34) (hL.sh (i := 4) rfl (by decide) (by decide)) (by decide) (by decide)) ?_
      refine r_iconst (pc := 40) dX12_readsTurn_40 (inRk rfl) ?_
      refine r_icmp_ne (pc := 41) (tgt := 50) dX12_readsTurn_41 (by decide) (fun c9 => ?_) (fun c9 => ?_)
      · replace h := h.1 c9
        exact (h hL)
      · replace h := h.2 c9
        refine r_aload_n (pc := 44) dX12_readsTurn_44 rfl rfl ?_
        refine r_iconst (pc := 45) dX12_readsTurn_45 (inRk rfl) ?_
        refine r_iload_n (pc := 46) dX12_readsTurn_46 rfl rfl ?_
        refine c_VV0N (M := mX12_readsTurn) (pc := 47) (As := [vi 3, vi (gI τ2 172 4)]) dX12_readsTurn_47 K_X12_wrong w_1588 ⟨by decide, by decide⟩ (Nat.le_of_ble_eq_true rfl) rfl rfl (ci := 12) rfl rfl (by decide) (okO_of (N := 42) (hL.sh (i := 0) rfl (by decide) (by decide)) (by decide)) (h hL) (fun τ8 h8 => ?_) rfl
        replace hL := h8.1
        replace h := h8.2
        exact (h hL)
  · replace h := h.2 c9
    refine r_aload_n (pc := 19) dX12_readsTurn_19 rfl rfl ?_
    refine r_iconst (pc := 20) dX12_readsTurn_20 (inRk rfl) ?_
    refine r_iload_n (pc := 21) dX12_readsTurn_21 rfl rfl ?_
    refine c_VV0N (M := mX12_readsTurn) (pc := 22) (As := [vi 1, vi (gI τ2 172 4)]) dX12_readsTurn_22 K_X12_wrong w_1588 ⟨by decide, by decide⟩ (Nat.le_of_ble_eq_true rfl) rfl rfl (ci := 12) rfl rfl (by decide) (okO_of (N := 42) (hL.sh (i := 0) rfl (by decide) (by decide)) (by decide)) (h hL) (fun τ10 h8 => ?_) rfl
    replace hL := h8.1
    replace h := h8.2
    refine r_aload_n (pc := 25) dX12_readsTurn_25 rfl rfl ?_
    refine c_VI0N (M := mX12_readsTurn) (pc := 26) (As := []) dX12_readsTurn_26 K_X12_fine w_1579 ⟨by decide, by decide⟩ (Nat.le_of_ble_eq_true rfl) rfl rfl (ci := 12) rfl rfl (by decide) (okO_of (N := 42) (hL.sh (i := 0) rfl (by decide) (by decide)) (by decide)) (h hL) (fun r11 τ12 h8 hr9 => ?_) rfl
    replace hL := h8.1
    replace h := h8.2 hr9
    refine r_if_eq (pc := 29) (tgt := 50) dX12_readsTurn_29 (by decide) (fun c9 => ?_) (fun c9 => ?_)
    · replace h := h.1 c9
      exact (h hL)
    · replace h := h.2 c9
      refine r_aload_n (pc := 32) dX12_readsTurn_32 rfl rfl ?_
      refine r_getR (pc := 33) dX12_readsTurn_33 (k9 := 9) CL_12 (by decide) (by decide) w_1424 rfl (okO_of (N := 42) (hL.sh (i := 0) rfl (by decide) (by decide)) (by decide)) ?_
      refine eqR (y := 175) (hL.rf (i := 2) rfl) ?_
      refine r_iconst (pc := 36) dX12_readsTurn_36 (inRk rfl) ?_
      refine r_aaload (pc := 37) dX12_readsTurn_37 (okB_of (c := 24) (n := 10) (hL.sh (i := 3) rfl (by decide) (by decide)) (by decide) (by decide)) ?_
      refine eqR (y := 177) (hL.rx (i := 0) rfl (by decide)) ?_
      refine r_iconst (pc := 38) dX12_readsTurn_38 (inRk rfl) ?_
      refine r_iaload (pc := 39) dX12_readsTurn_39 (okA_of (c := 20) (n := 34) (hL.sh (i := 4) rfl (by decide) (by decide)) (by decide) (by decide)) ?_
      refine r_iconst (pc := 40) dX12_readsTurn_40 (inRk rfl) ?_
      refine r_icmp_ne (pc := 41) (tgt := 50) dX12_readsTurn_41 (by decide) (fun c9 => ?_) (fun c9 => ?_)
      · replace h := h.1 c9
        exact (h hL)
      · replace h := h.2 c9
        refine r_aload_n (pc := 44) dX12_readsTurn_44 rfl rfl ?_
        refine r_iconst (pc := 45) dX12_readsTurn_45 (inRk rfl) ?_
        refine r_iload_n (pc := 46) dX12_readsTurn_46 rfl rfl ?_
        refine c_VV0N (M := mX12_readsTurn) (pc := 47) (As := [vi 3, vi (gI τ2 172 4)]) dX12_readsTurn_47 K_X12_wrong w_1588 ⟨by decide, by decide⟩ (Nat.le_of_ble_eq_true rfl) rfl rfl (ci := 12) rfl rfl (by decide) (okO_of (N := 42) (hL.sh (i := 0) rfl (by decide) (by decide)) (by decide)) (h hL) (fun τ14 h8 => ?_) rfl
        replace hL := h8.1
        replace h := h8.2
        exact (h hL)
theorem B_X12_readsTurn_50 {g : Sg} {c t : Nat} (hL : Lay LM g c t σ) {x1 : Int} (h : (Lay LM g c t σ → CC E mX12_fine [vr 172] σ (KI (fun r1 τ2 => Lay LM g c t τ2 ∧ (inR r1 → ((r1 ≠ 0 → inR (8 * (gI τ2 177 1)) ∧ inR (2 + (8 * (gI τ2 177 1))) ∧ (Lay LM g c t τ2 → GG E mX12_readsTurn 74 [some (vr 172), some (vi x1), some (vi (2 + (8 * (gI τ2 177 1)))), some (vi 0)] [] τ2 rc rs Q)) ∧ (r1 = 0 → (Lay LM g c t τ2 → Q (.inl none) τ2))))) (fun _ _ => False)))) : GG E mX12_readsTurn 50 [some (vr 172), some (vi x1), none, none] [] σ rc rs Q := by
  refine r_aload_n (pc := 50) dX12_readsTurn_50 rfl rfl ?_
  refine c_VI0N (M := mX12_readsTurn) (pc := 51) (As := []) dX12_readsTurn_51 K_X12_fine w_1579 ⟨by decide, by decide⟩ (Nat.le_of_ble_eq_true rfl) rfl rfl (ci := 12) rfl rfl (by decide) (okO_of (N := 42) (hL.sh (i := 0) rfl (by decide) (by decide)) (by decide)) (h hL) (fun r1 τ2 h8 hr9 => ?_) rfl
  replace hL := h8.1
  replace h := h8.2 hr9
  refine r_if_ne (pc := 54) (tgt := 58) dX12_readsTurn_54 (by decide) (fun c9 => ?_) (fun c9 => ?_)
  · replace h := h.1 c9
    refine r_iconst (pc := 58) dX12_readsTurn_58 (inRk rfl) ?_
    refine r_bipush (pc := 59) dX12_readsTurn_59 (by decide) ?_
    refine r_aload_n (pc := 61) dX12_readsTurn_61 rfl rfl ?_
    refine r_getR (pc := 62) dX12_readsTurn_62 (k9 := 9) CL_12 (by decide) (by decide) w_1424 rfl (okO_of (N := 42) (hL.sh (i := 0) rfl (by decide) (by decide)) (by decide)) ?_
    refine eqR (y := 175) (hL.rf (i := 2) rfl) ?_
    refine r_iconst (pc := 65) dX12_readsTurn_65 (inRk rfl) ?_
    refine r_aaload (pc := 66) dX12_readsTurn_66 (okB_of (c := 24) (n := 10) (hL.sh (i := 3) rfl (by decide) (by decide)) (by decide) (by decide)) ?_
    refine eqR (y := 177) (hL.rx (i := 0) rfl (by decide)) ?_
    refine r_iconst (pc := 67) dX12_readsTurn_67 (inRk rfl) ?_
    refine r_iaload (pc := 68) dX12_readsTurn_68 (okA_of (c := 20) (n := 34) (hL.sh (i := 4) rfl (by decide) (by decide)) (by decide) (by decide)) ?_
    obtain ⟨o3, h⟩ := h
    refine r_imul (pc := 69) dX12_readsTurn_69 o3 ?_
    obtain ⟨o4, h⟩ := h
    refine r_iadd (pc := 70) dX12_readsTurn_70 o4 ?_
    refine r_istore_n (pc := 71) dX12_readsTurn_71 rfl (by decide) (l2 := [some (vr 172), some (vi x1), some (vi (2 + (8 * (gI τ2 177 1)))), none]) rfl ?_
    refine r_iconst (pc := 72) dX12_readsTurn_72 (inRk rfl) ?_
    refine r_istore_n (pc := 73) dX12_readsTurn_73 rfl (by decide) (l2 := [some (vr 172), some (vi x1), some (vi (2 + (8 * (gI τ2 177 1)))), some (vi 0)]) rfl ?_
    exact (h hL)
  · replace h := h.2 c9
    exact r_return (pc := 57) dX12_readsTurn_57 (by decide +kernel) rfl (h hL)
theorem B_X12_readsTurn_74 {g : Sg} {c t : Nat} (hL : Lay LM g c t σ) {x1 : Int} {x2 : Int} {x3 : Int} (h : ((8 ≤ x3 → (Lay LM g c t σ → CC E mX12_ends [vr 172] σ (KV (fun τ2 => Lay LM g c t τ2 ∧ (Lay LM g c t τ2 → CC E mX12_fine [vr 172] τ2 (KI (fun r3 τ4 => Lay LM g c t τ4 ∧ (inR r3 → ((r3 = 0 → (Lay LM g c t τ4 → GG E mX12_readsTurn 127 [some (vr 172), some (vi x1), none, none] [] τ4 rc rs Q)) ∧ (¬ (r3 = 0) → (Lay LM g c t τ4 → CC E mX12_isTurn [vr 172, vi 1, vi x2] τ4 (KI (fun r5 τ6 => Lay LM g c t τ6 ∧ (inR r5 → ((r5 ≠ 0 → (Lay LM g c t τ6 → GG E mX12_readsTurn 127 [some (vr 172), some (vi x1), none, none] [] τ6 rc rs Q)) ∧ (r5 = 0 → (Lay LM g c t τ6 → CC E mX12_wrong [vr 172, vi 4, vi x1] τ6 (KV (fun τ8 => Lay LM g c t τ8 ∧ (Lay LM g c t τ8 → GG E mX12_readsTurn 127 [some (vr 172), some (vi x1), none, none] [] τ8 rc rs Q)) (fun _ _ => False))))))) (fun _ _ => False))))))) (fun _ _ => False)))) (fun _ _ => False)))) ∧ (¬ (8 ≤ x3) → inR (x2 + x3) ∧ (Lay LM g c t σ → CC E mX12_number [vr 172, vi 1] σ (KI (fun r10 τ11 => Lay LM g c t τ11 ∧ (inR r10 → (0 ≤ (x2 + x3) ∧ (x2 + x3) < 34) ∧ ∀ τ13 : Sg, τ13 = sI τ11 177 (x2 + x3).toNat r10 → inR (x3 + 1) ∧ (Lay LM g c t τ13 → GG E mX12_readsTurn 74 [some (vr 172), some (vi x1), some (vi x2), some (vi (x3 + 1))] [] τ13 rc rs Q))) (fun _ _ => False)))))) : GG E mX12_readsTurn 74 [some (vr 172), some (vi x1), some (vi x2), some (vi x3)] [] σ rc rs Q := by
  refine r_iload_n (pc := 74) dX12_readsTurn_74 rfl rfl ?_
  refine r_bipush (pc := 75) dX12_readsTurn_75 (by decide) ?_
  refine r_icmp_ge (pc := 77) (tgt := 101) dX12_readsTurn_77 (by decide) (fun c9 => ?_) (fun c9 => ?_)
  · replace h := h.1 c9
    refine r_aload_n (pc := 101) dX12_readsTurn_101 rfl rfl ?_
    refine c_VV0N (M := mX12_readsTurn) (pc := 102) (As := []) dX12_readsTurn_102 K_X12_ends w_1603 ⟨by decide, by decide⟩ (Nat.le_of_ble_eq_true rfl) rfl rfl (ci := 12) rfl rfl (by decide) (okO_of (N := 42) (hL.sh (i := 0) rfl (by decide) (by decide)) (by decide)) (h hL) (fun τ2 h8 => ?_) rfl
    replace hL := h8.1
    replace h := h8.2
    refine r_aload_n (pc := 105) dX12_readsTurn_105 rfl rfl ?_
    refine c_VI0N (M := mX12_readsTurn) (pc := 106) (As := []) dX12_readsTurn_106 K_X12_fine w_1579 ⟨by decide, by decide⟩ (Nat.le_of_ble_eq_true rfl) rfl rfl (ci := 12) rfl rfl (by decide) (okO_of (N := 42) (hL.sh (i := 0) rfl (by decide) (by decide)) (by decide)) (h hL) (fun r3 τ4 h8 hr9 => ?_) rfl
    replace hL := h8.1
    replace h := h8.2 hr9
    refine r_if_eq (pc := 109) (tgt := 127) dX12_readsTurn_109 (by decide) (fun c9 => ?_) (fun c9 => ?_)
    · replace h := h.1 c9
      exact GG.msk [true, true, false, false] (h hL)
    · replace h := h.2 c9
      refine r_aload_n (pc := 112) dX12_readsTurn_112 rfl rfl ?_
      refine r_iconst (pc := 113) dX12_readsTurn_113 (inRk rfl) ?_
      refine r_iload_n (pc := 114) dX12_readsTurn_114 rfl rfl ?_
      refine c_VI0N (M := mX12_readsTurn) (pc := 115) (As := [vi 1, vi x2]) dX12_readsTurn_115 K_X12_isTurn w_1612 ⟨by decide, by decide⟩ (Nat.le_of_ble_eq_true rfl) rfl rfl (ci := 12) rfl rfl (by decide) (okO_of (N := 42) (hL.sh (i := 0) rfl (by decide) (by decide)) (by decide)) (h hL) (fun r5 τ6 h8 hr9 => ?_) rfl
      replace hL := h8.1
      replace h := h8.2 hr9
      refine r_if_ne (pc := 118) (tgt := 127) dX12_readsTurn_118 (by decide) (fun c9 => ?_) (fun c9 => ?_)
      · replace h := h.1 c9
        exact GG.msk [true, true, false, false] (h hL)
      · replace h := h.2 c9
        refine r_aload_n (pc := 121) dX12_readsTurn_121 rfl rfl ?_
        refine r_iconst (pc := 122) dX12_readsTurn_122 (inRk rfl) ?_
        refine r_iload_n (pc := 123) dX12_readsTurn_123 rfl rfl ?_
        refine c_VV0N (M := mX12_readsTurn) (pc := 124) (As := [vi 4, vi x1]) dX12_readsTurn_124 K_X12_wrong w_1588 ⟨by decide, by decide⟩ (Nat.le_of_ble_eq_true rfl) rfl rfl (ci := 12) rfl rfl (by decide) (okO_of (N := 42) (hL.sh (i := 0) rfl (by decide) (by decide)) (by decide)) (h hL) (fun τ8 h8 => ?_) rfl
        replace hL := h8.1
        replace h := h8.2
        exact GG.msk [true, true, false, false] (h hL)
  · replace h := h.2 c9
    refine r_aload_n (pc := 80) dX12_readsTurn_80 rfl rfl ?_
    refine r_getR (pc := 81) dX12_readsTurn_81 (k9 := 9) CL_12 (by decide) (by decide) w_1424 rfl (okO_of (N := 42) (hL.sh (i := 0) rfl (by decide) (by decide)) (by decide)) ?_
    refine eqR (y := 175) (hL.rf (i := 2) rfl) ?_
    refine r_iconst (pc := 84) dX12_readsTurn_84 (inRk rfl) ?_
    refine r_aaload (pc := 85) dX12_readsTurn_85 (okB_of (c := 24) (n := 10) (hL.sh (i := 3) rfl (by decide) (by decide)) (by decide) (by decide)) ?_
    refine eqR (y := 177) (hL.rx (i := 0) rfl (by decide)) ?_
    refine r_iload_n (pc := 86) dX12_readsTurn_86 rfl rfl ?_
    refine r_iload_n (pc := 87) dX12_readsTurn_87 rfl rfl ?_
    obtain ⟨o9, h⟩ := h
    refine r_iadd (pc := 88) dX12_readsTurn_88 o9 ?_
    refine r_aload_n (pc := 89) dX12_readsTurn_89 rfl rfl ?_
    refine r_iconst (pc := 90) dX12_readsTurn_90 (inRk rfl) ?_
    refine c_VI0N (M := mX12_readsTurn) (pc := 91) (As := [vi 1]) dX12_readsTurn_91 K_X12_number w_1592 ⟨by decide, by decide⟩ (Nat.le_of_ble_eq_true rfl) rfl rfl (ci := 12) rfl rfl (by decide) (okO_of (N := 42) (hL.sh (i := 0) rfl (by decide) (by decide)) (by decide)) (h hL) (fun r10 τ11 h8 hr9 => ?_) rfl
    replace hL := h8.1
    replace h := h8.2 hr9
    obtain ⟨o12, h⟩ := h
    refine r_iastore (pc := 94) dX12_readsTurn_94 (okB_of (c := 20) (n := 34) (hL.sh (i := 4) rfl (by decide) (by decide)) (by decide) o12) ?_
    refine nmS (fun τ13 e13 => ?_)
    replace h := h τ13 e13
    have hL := hL.wI e13 (by decide) (.inl (by decide))
    obtain ⟨o14, h⟩ := h
    refine r_iinc (pc := 95) dX12_readsTurn_95 rfl (by decide) o14 (l2 := [some (vr 172), some (vi x1), some (vi x2), some (vi (x3 + 1))]) rfl ?_
    refine r_goto (pc := 98) (tgt := 74) dX12_readsTurn_98 (by decide) ?_
    exact (h hL)
theorem B_X12_readsTurn_127 {g : Sg} {c t : Nat} (hL : Lay LM g c t σ) {x1 : Int} (h : (Lay LM g c t σ → CC E mX12_fine [vr 172] σ (KI (fun r1 τ2 => Lay LM g c t τ2 ∧ (inR r1 → ((r1 ≠ 0 → inR ((gI τ2 177 1) + 1) ∧ ∀ τ4 : Sg, τ4 = sI τ2 177 1 ((gI τ2 177 1) + 1) → (Lay LM g c t τ4 → CC E mX12_closes [vr 172, vi 1] τ4 (KI (fun r5 τ6 => Lay LM g c t τ6 ∧ (inR r5 → ((r5 ≠ 0 → (Lay LM g c t τ6 → Q (.inl none) τ6)) ∧ (r5 = 0 → (Lay LM g c t τ6 → CC E mX12_wrong [vr 172, vi 5, vi x1] τ6 (KV (fun τ8 => Lay LM g c t τ8 ∧ (Lay LM g c t τ8 → Q (.inl none) τ8)) (fun _ _ => False))))))) (fun _ _ => False)))) ∧ (r1 = 0 → (Lay LM g c t τ2 → Q (.inl none) τ2))))) (fun _ _ => False)))) : GG E mX12_readsTurn 127 [some (vr 172), some (vi x1), none, none] [] σ rc rs Q := by
  refine r_aload_n (pc := 127) dX12_readsTurn_127 rfl rfl ?_
  refine c_VI0N (M := mX12_readsTurn) (pc := 128) (As := []) dX12_readsTurn_128 K_X12_fine w_1579 ⟨by decide, by decide⟩ (Nat.le_of_ble_eq_true rfl) rfl rfl (ci := 12) rfl rfl (by decide) (okO_of (N := 42) (hL.sh (i := 0) rfl (by decide) (by decide)) (by decide)) (h hL) (fun r1 τ2 h8 hr9 => ?_) rfl
  replace hL := h8.1
  replace h := h8.2 hr9
  refine r_if_ne (pc := 131) (tgt := 135) dX12_readsTurn_131 (by decide) (fun c9 => ?_) (fun c9 => ?_)
  · replace h := h.1 c9
    refine r_aload_n (pc := 135) dX12_readsTurn_135 rfl rfl ?_
    refine r_getR (pc := 136) dX12_readsTurn_136 (k9 := 9) CL_12 (by decide) (by decide) w_1424 rfl (okO_of (N := 42) (hL.sh (i := 0) rfl (by decide) (by decide)) (by decide)) ?_
    refine eqR (y := 175) (hL.rf (i := 2) rfl) ?_
    refine r_iconst (pc := 139) dX12_readsTurn_139 (inRk rfl) ?_
    refine r_aaload (pc := 140) dX12_readsTurn_140 (okB_of (c := 24) (n := 10) (hL.sh (i := 3) rfl (by decide) (by decide)) (by decide) (by decide)) ?_
    refine eqR (y := 177) (hL.rx (i := 0) rfl (by decide)) ?_
    refine r_iconst (pc := 141) dX12_readsTurn_141 (inRk rfl) ?_
    refine r_dup2_11 (pc := 142) dX12_readsTurn_142 (fun _ h9 => nomatch h9) (fun _ h9 => nomatch h9) ?_
    refine r_iaload (pc := 143) dX12_readsTurn_143 (okA_of (c := 20) (n := 34) (hL.sh (i := 4) rfl (by decide) (by decide)) (by decide) (by decide)) ?_
    refine r_iconst (pc := 144) dX12_readsTurn_144 (inRk rfl) ?_
    obtain ⟨o3, h⟩ := h
    refine r_iadd (pc := 145) dX12_readsTurn_145 o3 ?_
    refine r_iastore (pc := 146) dX12_readsTurn_146 (okB_of (c := 20) (n := 34) (hL.sh (i := 4) rfl (by decide) (by decide)) (by decide) (by decide)) ?_
    refine nmS (fun τ4 e4 => ?_)
    replace h := h τ4 e4
    have hL := hL.wI e4 (by decide) (.inl (by decide))
    refine r_aload_n (pc := 147) dX12_readsTurn_147 rfl rfl ?_
    refine r_iconst (pc := 148) dX12_readsTurn_148 (inRk rfl) ?_
    refine c_VI0N (M := mX12_readsTurn) (pc := 149) (As := [vi 1]) dX12_readsTurn_149 K_X12_closes w_1373 ⟨by decide, by decide⟩ (Nat.le_of_ble_eq_true rfl) rfl rfl (ci := 12) rfl rfl (by decide) (okO_of (N := 42) (hL.sh (i := 0) rfl (by decide) (by decide)) (by decide)) (h hL) (fun r5 τ6 h8 hr9 => ?_) rfl
    replace hL := h8.1
    replace h := h8.2 hr9
    refine r_if_ne (pc := 152) (tgt := 161) dX12_readsTurn_152 (by decide) (fun c9 => ?_) (fun c9 => ?_)
    · replace h := h.1 c9
      exact r_return (pc := 161) dX12_readsTurn_161 (by decide +kernel) rfl (h hL)
    · replace h := h.2 c9
      refine r_aload_n (pc := 155) dX12_readsTurn_155 rfl rfl ?_
      refine r_iconst (pc := 156) dX12_readsTurn_156 (inRk rfl) ?_
      refine r_iload_n (pc := 157) dX12_readsTurn_157 rfl rfl ?_
      refine c_VV0N (M := mX12_readsTurn) (pc := 158) (As := [vi 5, vi x1]) dX12_readsTurn_158 K_X12_wrong w_1588 ⟨by decide, by decide⟩ (Nat.le_of_ble_eq_true rfl) rfl rfl (ci := 12) rfl rfl (by decide) (okO_of (N := 42) (hL.sh (i := 0) rfl (by decide) (by decide)) (by decide)) (h hL) (fun τ8 h8 => ?_) rfl
      replace hL := h8.1
      replace h := h8.2
      exact r_return (pc := 161) dX12_readsTurn_161 (by decide +kernel) rfl (h hL)
  · replace h := h.2 c9
    exact r_return (pc := 134) dX12_readsTurn_134 (by decide +kernel) rfl (h hL)
theorem C_X12_readsTurn {a0 : Nat} (h : GG E mX12_readsTurn 0 [some (vr a0), none, none, none] [] σ 0 0 Q) : CC E mX12_readsTurn [vr a0] σ Q := CC.of (by decide +kernel) rfl (by decide +kernel) (fun h9 => nomatch h9) (Nat.le_of_ble_eq_true rfl) h
theorem dX12_remembers_0 : decode cX12_remembers 0 = .ok (.aload_n 0, 1) := by decide +kernel
theorem dX12_remembers_1 : decode cX12_remembers 1 = .ok (.getfield 189, 3) := by decide +kernel
theorem dX12_remembers_4 : decode cX12_remembers 4 = .ok (.bipush 8, 2) := by decide +kernel
theorem dX12_remembers_6 : decode cX12_remembers 6 = .ok (.if_icmp .ne 37, 3) := by decide +kernel
theorem dX12_remembers_9 : decode cX12_remembers 9 = .ok (.iconst 1, 1) := by decide +kernel
theorem dX12_remembers_10 : decode cX12_remembers 10 = .ok (.istore_n 1, 1) := by decide +kernel
theorem dX12_remembers_11 : decode cX12_remembers 11 = .ok (.iload_n 1, 1) := by decide +kernel
theorem dX12_remembers_12 : decode cX12_remembers 12 = .ok (.bipush 8, 2) := by decide +kernel
theorem dX12_remembers_14 : decode cX12_remembers 14 = .ok (.if_icmp .ge 19, 3) := by decide +kernel
theorem dX12_remembers_17 : decode cX12_remembers 17 = .ok (.aload_n 0, 1) := by decide +kernel
theorem dX12_remembers_18 : decode cX12_remembers 18 = .ok (.iconst 2, 1) := by decide +kernel
theorem dX12_remembers_19 : decode cX12_remembers 19 = .ok (.iload_n 1, 1) := by decide +kernel
theorem dX12_remembers_20 : decode cX12_remembers 20 = .ok (.iadd, 1) := by decide +kernel
theorem dX12_remembers_21 : decode cX12_remembers 21 = .ok (.iconst 1, 1) := by decide +kernel
theorem dX12_remembers_22 : decode cX12_remembers 22 = .ok (.iload_n 1, 1) := by decide +kernel
theorem dX12_remembers_23 : decode cX12_remembers 23 = .ok (.iadd, 1) := by decide +kernel
theorem dX12_remembers_24 : decode cX12_remembers 24 = .ok (.invokevirtual 186, 3) := by decide +kernel
theorem dX12_remembers_27 : decode cX12_remembers 27 = .ok (.iinc 1 1, 3) := by decide +kernel
theorem dX12_remembers_30 : decode cX12_remembers 30 = .ok (.goto (-19), 3) := by decide +kernel
theorem dX12_remembers_33 : decode cX12_remembers 33 = .ok (.aload_n 0, 1) := by decide +kernel
theorem dX12_remembers_34 : decode cX12_remembers 34 = .ok (.dup, 1) := by decide +kernel
theorem dX12_remembers_35 : decode cX12_remembers 35 = .ok (.getfield 189, 3) := by decide +kernel
theorem dX12_remembers_38 : decode cX12_remembers 38 = .ok (.iconst 1, 1) := by decide +kernel
theorem dX12_remembers_39 : decode cX12_remembers 39 = .ok (.isub, 1) := by decide +kernel
theorem dX12_remembers_40 : decode cX12_remembers 40 = .ok (.putfield 189, 3) := by decide +kernel
theorem dX12_remembers_43 : decode cX12_remembers 43 = .ok (.aload_n 0, 1) := by decide +kernel
theorem dX12_remembers_44 : decode cX12_remembers 44 = .ok (.iconst 0, 1) := by decide +kernel
theorem dX12_remembers_45 : decode cX12_remembers 45 = .ok (.iconst 2, 1) := by decide +kernel
theorem dX12_remembers_46 : decode cX12_remembers 46 = .ok (.aload_n 0, 1) := by decide +kernel
theorem dX12_remembers_47 : decode cX12_remembers 47 = .ok (.getfield 189, 3) := by decide +kernel
theorem dX12_remembers_50 : decode cX12_remembers 50 = .ok (.iadd, 1) := by decide +kernel
theorem dX12_remembers_51 : decode cX12_remembers 51 = .ok (.invokevirtual 186, 3) := by decide +kernel
theorem dX12_remembers_54 : decode cX12_remembers 54 = .ok (.aload_n 0, 1) := by decide +kernel
theorem dX12_remembers_55 : decode cX12_remembers 55 = .ok (.dup, 1) := by decide +kernel
theorem dX12_remembers_56 : decode cX12_remembers 56 = .ok (.getfield 189, 3) := by decide +kernel
theorem dX12_remembers_59 : decode cX12_remembers 59 = .ok (.iconst 1, 1) := by decide +kernel
theorem dX12_remembers_60 : decode cX12_remembers 60 = .ok (.iadd, 1) := by decide +kernel
theorem dX12_remembers_61 : decode cX12_remembers 61 = .ok (.putfield 189, 3) := by decide +kernel
theorem dX12_remembers_64 : decode cX12_remembers 64 = .ok (.return_, 1) := by decide +kernel
theorem B_X12_remembers_0 {g : Sg} {c t : Nat} (hL : Lay LM g c t σ)  (h : (((gI σ 172 10) ≠ 8 → inR (2 + (gI σ 172 10)) ∧ (Lay LM g c t σ → CC E mX12_copies [vr 172, vi 0, vi (2 + (gI σ 172 10))] σ (KV (fun τ3 => Lay LM g c t τ3 ∧ inR ((gI τ3 172 10) + 1) ∧ ∀ τ5 : Sg, τ5 = sI τ3 172 10 ((gI τ3 172 10) + 1) → (Lay LM g c t τ5 → Q (.inl none) τ5)) (fun _ _ => False)))) ∧ ((gI σ 172 10) = 8 → (Lay LM g c t σ → GG E mX12_remembers 11 [some (vr 172), some (vi 1)] [] σ rc rs Q)))) : GG E mX12_remembers 0 [some (vr 172), none] [] σ rc rs Q := by
  refine r_aload_n (pc := 0) dX12_remembers_0 rfl rfl ?_
  refine r_getI (pc := 1) dX12_remembers_1 (k9 := 10) CL_12 (by decide) (by decide) w_1425 rfl (okO_of (N := 42) (hL.sh (i := 0) rfl (by decide) (by decide)) (by decide)) (fun _ => ?_)
  refine r_bipush (pc := 4) dX12_remembers_4 (by decide) ?_
  refine r_icmp_ne (pc := 6) (tgt := 43) dX12_remembers_6 (by decide) (fun c9 => ?_) (fun c9 => ?_)
  · replace h := h.1 c9
    refine r_aload_n (pc := 43) dX12_remembers_43 rfl rfl ?_
    refine r_iconst (pc := 44) dX12_remembers_44 (inRk rfl) ?_
    refine r_iconst (pc := 45) dX12_remembers_45 (inRk rfl) ?_
    refine r_aload_n (pc := 46) dX12_remembers_46 rfl rfl ?_
    refine r_getI (pc := 47) dX12_remembers_47 (k9 := 10) CL_12 (by decide) (by decide) w_1425 rfl (okO_of (N := 42) (hL.sh (i := 0) rfl (by decide) (by decide)) (by decide)) (fun _ => ?_)
    obtain ⟨o1, h⟩ := h
    refine r_iadd (pc := 50) dX12_remembers_50 o1 ?_
    refine c_VV0N (M := mX12_remembers) (pc := 51) (As := [vi 0, vi (2 + (gI σ 172 10))]) dX12_remembers_51 K_X12_copies w_1616 ⟨by decide, by decide⟩ (Nat.le_of_ble_eq_true rfl) rfl rfl (ci := 12) rfl rfl (by decide) (okO_of (N := 42) (hL.sh (i := 0) rfl (by decide) (by decide)) (by decide)) (h hL) (fun τ3 h8 => ?_) rfl
    replace hL := h8.1
    replace h := h8.2
    refine r_aload_n (pc := 54) dX12_remembers_54 rfl rfl ?_
    refine r_dup (pc := 55) dX12_remembers_55 (fun _ h9 => nomatch h9) ?_
    refine r_getI (pc := 56) dX12_remembers_56 (k9 := 10) CL_12 (by decide) (by decide) w_1425 rfl (okO_of (N := 42) (hL.sh (i := 0) rfl (by decide) (by decide)) (by decide)) (fun _ => ?_)
    refine r_iconst (pc := 59) dX12_remembers_59 (inRk rfl) ?_
    obtain ⟨o4, h⟩ := h
    refine r_iadd (pc := 60) dX12_remembers_60 o4 ?_
    refine r_putI (pc := 61) dX12_remembers_61 (k9 := 10) CL_12 (by decide) (by decide) w_1425 rfl rfl (fun h9 => absurd h9 (by decide +kernel)) (okO_of (N := 42) (hL.sh (i := 0) rfl (by decide) (by decide)) (by decide)) ?_
    refine nmS (fun τ5 e5 => ?_)
    replace h := h τ5 e5
    have hL := hL.wI e5 (by decide) (.inl (by decide))
    exact r_return (pc := 64) dX12_remembers_64 (by decide +kernel) rfl (h hL)
  · replace h := h.2 c9
    refine r_iconst (pc := 9) dX12_remembers_9 (inRk rfl) ?_
    refine r_istore_n (pc := 10) dX12_remembers_10 rfl (by decide) (l2 := [some (vr 172), some (vi 1)]) rfl ?_
    exact (h hL)
theorem B_X12_remembers_11 {g : Sg} {c t : Nat} (hL : Lay LM g c t σ) {x1 : Int} (h : ((8 ≤ x1 → inR ((gI σ 172 10) - 1) ∧ ∀ τ2 : Sg, τ2 = sI σ 172 10 ((gI σ 172 10) - 1) → inR (2 + (gI τ2 172 10)) ∧ (Lay LM g c t τ2 → CC E mX12_copies [vr 172, vi 0, vi (2 + (gI τ2 172 10))] τ2 (KV (fun τ5 => Lay LM g c t τ5 ∧ inR ((gI τ5 172 10) + 1) ∧ ∀ τ7 : Sg, τ7 = sI τ5 172 10 ((gI τ5 172 10) + 1) → (Lay LM g c t τ7 → Q (.inl none) τ7)) (fun _ _ => False)))) ∧ (¬ (8 ≤ x1) → inR (2 + x1) ∧ inR (1 + x1) ∧ (Lay LM g c t σ → CC E mX12_copies [vr 172, vi (2 + x1), vi (1 + x1)] σ (KV (fun τ11 => Lay LM g c t τ11 ∧ inR (x1 + 1) ∧ (Lay LM g c t τ11 → GG E mX12_remembers 11 [some (vr 172), some (vi (x1 + 1))] [] τ11 rc rs Q)) (fun _ _ => False)))))) : GG E mX12_remembers 11 [some (vr 172), some (vi x1)] [] σ rc rs Q := by
  refine r_iload_n (pc := 11) dX12_remembers_11 rfl rfl ?_
  refine r_bipush (pc := 12) dX12_remembers_12 (by decide) ?_
  refine r_icmp_ge (pc := 14) (tgt := 33) dX12_remembers_14 (by decide) (fun c9 => ?_) (fun c9 => ?_)
  · replace h := h.1 c9
    refine r_aload_n (pc := 33) dX12_remembers_33 rfl rfl ?_
    refine r_dup (pc := 34) dX12_remembers_34 (fun _ h9 => nomatch h9) ?_
    refine r_getI (pc := 35) dX12_remembers_35 (k9 := 10) CL_12 (by decide) (by decide) w_1425 rfl (okO_of (N := 42) (hL.sh (i := 0) rfl (by decide) (by decide)) (by decide)) (fun _ => ?_)
    refine r_iconst (pc := 38) dX12_remembers_38 (inRk rfl) ?_
    obtain ⟨o1, h⟩ := h
    refine r_isub (pc := 39) dX12_remembers_39 o1 ?_
    refine r_putI (pc := 40) dX12_remembers_40 (k9 := 10) CL_12 (by decide) (by decide) w_1425 rfl rfl (fun h9 => absurd h9 (by decide +kernel)) (okO_of (N := 42) (hL.sh (i := 0) rfl (by decide) (by decide)) (by decide)) ?_
    refine nmS (fun τ2 e2 => ?_)
    replace h := h τ2 e2
    have hL := hL.wI e2 (by decide) (.inl (by decide))
    refine r_aload_n (pc := 43) dX12_remembers_43 rfl rfl ?_
    refine r_iconst (pc := 44) dX12_remembers_44 (inRk rfl) ?_
    refine r_iconst (pc := 45) dX12_remembers_45 (inRk rfl) ?_
    refine r_aload_n (pc := 46) dX12_remembers_46 rfl rfl ?_
    refine r_getI (pc := 47) dX12_remembers_47 (k9 := 10) CL_12 (by decide) (by decide) w_1425 rfl (okO_of (N := 42) (hL.sh (i := 0) rfl (by decide) (by decide)) (by decide)) (fun _ => ?_)
    obtain ⟨o3, h⟩ := h
    refine r_iadd (pc := 50) dX12_remembers_50 o3 ?_
    refine c_VV0N (M := mX12_remembers) (pc := 51) (As := [vi 0, vi (2 + (gI τ2 172 10))]) dX12_remembers_51 K_X12_copies w_1616 ⟨by decide, by decide⟩ (Nat.le_of_ble_eq_true rfl) rfl rfl (ci := 12) rfl rfl (by decide) (okO_of (N := 42) (hL.sh (i := 0) rfl (by decide) (by decide)) (by decide)) (h hL) (fun τ5 h8 => ?_) rfl
    replace hL := h8.1
    replace h := h8.2
    refine r_aload_n (pc := 54) dX12_remembers_54 rfl rfl ?_
    refine r_dup (pc := 55) dX12_remembers_55 (fun _ h9 => nomatch h9) ?_
    refine r_getI (pc := 56) dX12_remembers_56 (k9 := 10) CL_12 (by decide) (by decide) w_1425 rfl (okO_of (N := 42) (hL.sh (i := 0) rfl (by decide) (by decide)) (by decide)) (fun _ => ?_)
    refine r_iconst (pc := 59) dX12_remembers_59 (inRk rfl) ?_
    obtain ⟨o6, h⟩ := h
    refine r_iadd (pc := 60) dX12_remembers_60 o6 ?_
    refine r_putI (pc := 61) dX12_remembers_61 (k9 := 10) CL_12 (by decide) (by decide) w_1425 rfl rfl (fun h9 => absurd h9 (by decide +kernel)) (okO_of (N := 42) (hL.sh (i := 0) rfl (by decide) (by decide)) (by decide)) ?_
    refine nmS (fun τ7 e7 => ?_)
    replace h := h τ7 e7
    have hL := hL.wI e7 (by decide) (.inl (by decide))
    exact r_return (pc := 64) dX12_remembers_64 (by decide +kernel) rfl (h hL)
  · replace h := h.2 c9
    refine r_aload_n (pc := 17) dX12_remembers_17 rfl rfl ?_
    refine r_iconst (pc := 18) dX12_remembers_18 (inRk rfl) ?_
    refine r_iload_n (pc := 19) dX12_remembers_19 rfl rfl ?_
    obtain ⟨o8, h⟩ := h
    refine r_iadd (pc := 20) dX12_remembers_20 o8 ?_
    refine r_iconst (pc := 21) dX12_remembers_21 (inRk rfl) ?_
    refine r_iload_n (pc := 22) dX12_remembers_22 rfl rfl ?_
    obtain ⟨o9, h⟩ := h
    refine r_iadd (pc := 23) dX12_remembers_23 o9 ?_
    refine c_VV0N (M := mX12_remembers) (pc := 24) (As := [vi (2 + x1), vi (1 + x1)]) dX12_remembers_24 K_X12_copies w_1616 ⟨by decide, by decide⟩ (Nat.le_of_ble_eq_true rfl) rfl rfl (ci := 12) rfl rfl (by decide) (okO_of (N := 42) (hL.sh (i := 0) rfl (by decide) (by decide)) (by decide)) (h hL) (fun τ11 h8 => ?_) rfl
    replace hL := h8.1
    replace h := h8.2
    obtain ⟨o12, h⟩ := h
    refine r_iinc (pc := 27) dX12_remembers_27 rfl (by decide) o12 (l2 := [some (vr 172), some (vi (x1 + 1))]) rfl ?_
    refine r_goto (pc := 30) (tgt := 11) dX12_remembers_30 (by decide) ?_
    exact (h hL)
theorem C_X12_remembers {a0 : Nat} (h : GG E mX12_remembers 0 [some (vr a0), none] [] σ 0 0 Q) : CC E mX12_remembers [vr a0] σ Q := CC.of (by decide +kernel) rfl (by decide +kernel) (fun h9 => nomatch h9) (Nat.le_of_ble_eq_true rfl) h
theorem dX12_root_0 : decode cX12_root 0 = .ok (.aload_n 0, 1) := by decide +kernel
theorem dX12_root_1 : decode cX12_root 1 = .ok (.getfield 22, 3) := by decide +kernel
theorem dX12_root_4 : decode cX12_root 4 = .ok (.iload_n 1, 1) := by decide +kernel
theorem dX12_root_5 : decode cX12_root 5 = .ok (.aaload, 1) := by decide +kernel
theorem dX12_root_6 : decode cX12_root 6 = .ok (.iconst 0, 1) := by decide +kernel
theorem dX12_root_7 : decode cX12_root 7 = .ok (.iaload, 1) := by decide +kernel
theorem dX12_root_8 : decode cX12_root 8 = .ok (.ireturn, 1) := by decide +kernel
theorem B_X12_root_0 {g : Sg} {c t : Nat} (hL : Lay LM g c t σ) {x1 : Int} (h : (0 ≤ x1 ∧ x1 < 10) ∧ (Lay LM g c t σ → Q (.inl (some (vi (gI σ (176 + x1.toNat) 0)))) σ)) : GG E mX12_root 0 [some (vr 172), some (vi x1)] [] σ rc rs Q := by
  refine r_aload_n (pc := 0) dX12_root_0 rfl rfl ?_
  refine r_getR (pc := 1) dX12_root_1 (k9 := 9) CL_12 (by decide) (by decide) w_1424 rfl (okO_of (N := 42) (hL.sh (i := 0) rfl (by decide) (by decide)) (by decide)) ?_
  refine eqR (y := 175) (hL.rf (i := 2) rfl) ?_
  refine r_iload_n (pc := 4) dX12_root_4 rfl rfl ?_
  obtain ⟨o1, h⟩ := h
  refine r_aaload (pc := 5) dX12_root_5 (okB_of (c := 24) (n := 10) (hL.sh (i := 3) rfl (by decide) (by decide)) (by decide) o1) ?_
  have q2 : 176 ≤ 176 + x1.toNat ∧ 176 + x1.toNat < 186 := ⟨Nat.le_add_right _ _, rowB o1 (by decide)⟩
  refine eqR (y := 176 + x1.toNat) (hL.rx (i := 0) rfl (rowC o1 (by decide))) ?_
  refine r_iconst (pc := 6) dX12_root_6 (inRk rfl) ?_
  refine r_iaload (pc := 7) dX12_root_7 (okA_of (c := 20) (n := 34) (hL.sh (i := 4) rfl q2.1 q2.2) (Nat.le_trans (by decide) q2.1) (by decide)) ?_
  exact r_ireturn (pc := 8) (ty := .int) dX12_root_8 (by decide +kernel) rfl (nar_i _) (h hL)
theorem C_X12_root {a0 : Nat} {x1 : Int} (h : GG E mX12_root 0 [some (vr a0), some (vi x1)] [] σ 0 0 Q) : CC E mX12_root [vr a0, vi x1] σ Q := CC.of (by decide +kernel) rfl (by decide +kernel) (fun h9 => nomatch h9) (Nat.le_of_ble_eq_true rfl) h
theorem dX12_row_0 : decode cX12_row 0 = .ok (.aload_n 0, 1) := by decide +kernel
theorem dX12_row_1 : decode cX12_row 1 = .ok (.iconst 0, 1) := by decide +kernel
theorem dX12_row_2 : decode cX12_row 2 = .ok (.putfield 99, 3) := by decide +kernel
theorem dX12_row_5 : decode cX12_row 5 = .ok (.aload_n 0, 1) := by decide +kernel
theorem dX12_row_6 : decode cX12_row 6 = .ok (.aload_n 0, 1) := by decide +kernel
theorem dX12_row_7 : decode cX12_row 7 = .ok (.iload_n 1, 1) := by decide +kernel
theorem dX12_row_8 : decode cX12_row 8 = .ok (.invokevirtual 335, 3) := by decide +kernel
theorem dX12_row_11 : decode cX12_row 11 = .ok (.ifCond .ne 7, 3) := by decide +kernel
theorem dX12_row_14 : decode cX12_row 14 = .ok (.iconst 1, 1) := by decide +kernel
theorem dX12_row_15 : decode cX12_row 15 = .ok (.goto 4, 3) := by decide +kernel
theorem dX12_row_18 : decode cX12_row 18 = .ok (.iconst 0, 1) := by decide +kernel
theorem dX12_row_19 : decode cX12_row 19 = .ok (.iconst 1, 1) := by decide +kernel
theorem dX12_row_20 : decode cX12_row 20 = .ok (.iconst 0, 1) := by decide +kernel
theorem dX12_row_21 : decode cX12_row 21 = .ok (.invokevirtual 177, 3) := by decide +kernel
theorem dX12_row_24 : decode cX12_row 24 = .ok (.ifCond .eq 5, 3) := by decide +kernel
theorem dX12_row_27 : decode cX12_row 27 = .ok (.iconst 0, 1) := by decide +kernel
theorem dX12_row_28 : decode cX12_row 28 = .ok (.ireturn, 1) := by decide +kernel
theorem dX12_row_29 : decode cX12_row 29 = .ok (.aload_n 0, 1) := by decide +kernel
theorem dX12_row_30 : decode cX12_row 30 = .ok (.invokevirtual 317, 3) := by decide +kernel
theorem dX12_row_33 : decode cX12_row 33 = .ok (.iconst (-1), 1) := by decide +kernel
theorem dX12_row_34 : decode cX12_row 34 = .ok (.istore_n 3, 1) := by decide +kernel
theorem dX12_row_35 : decode cX12_row 35 = .ok (.iconst 0, 1) := by decide +kernel
theorem dX12_row_36 : decode cX12_row 36 = .ok (.istore 4, 2) := by decide +kernel
theorem dX12_row_38 : decode cX12_row 38 = .ok (.iload 4, 2) := by decide +kernel
theorem dX12_row_40 : decode cX12_row 40 = .ok (.sipush 200, 3) := by decide +kernel
theorem dX12_row_43 : decode cX12_row 43 = .ok (.if_icmp .gt 45, 3) := by decide +kernel
theorem dX12_row_46 : decode cX12_row 46 = .ok (.iload_n 2, 1) := by decide +kernel
theorem dX12_row_47 : decode cX12_row 47 = .ok (.ifCond .lt 41, 3) := by decide +kernel
theorem dX12_row_50 : decode cX12_row 50 = .ok (.aload_n 0, 1) := by decide +kernel
theorem dX12_row_51 : decode cX12_row 51 = .ok (.iload 4, 2) := by decide +kernel
theorem dX12_row_53 : decode cX12_row 53 = .ok (.invokevirtual 350, 3) := by decide +kernel
theorem dX12_row_56 : decode cX12_row 56 = .ok (.aload_n 0, 1) := by decide +kernel
theorem dX12_row_57 : decode cX12_row 57 = .ok (.aload_n 0, 1) := by decide +kernel
theorem dX12_row_58 : decode cX12_row 58 = .ok (.getfield 76, 3) := by decide +kernel
theorem dX12_row_61 : decode cX12_row 61 = .ok (.iload_n 1, 1) := by decide +kernel
theorem dX12_row_62 : decode cX12_row 62 = .ok (.invokevirtual 286, 3) := by decide +kernel
theorem dX12_row_65 : decode cX12_row 65 = .ok (.ifCond .ne 6, 3) := by decide +kernel
theorem dX12_row_68 : decode cX12_row 68 = .ok (.goto 14, 3) := by decide +kernel
theorem dX12_row_71 : decode cX12_row 71 = .ok (.iinc 3 1, 3) := by decide +kernel
theorem dX12_row_74 : decode cX12_row 74 = .ok (.iload_n 3, 1) := by decide +kernel
theorem dX12_row_75 : decode cX12_row 75 = .ok (.iload_n 2, 1) := by decide +kernel
theorem dX12_row_76 : decode cX12_row 76 = .ok (.if_icmp .ne 6, 3) := by decide +kernel
theorem dX12_row_79 : decode cX12_row 79 = .ok (.iload 4, 2) := by decide +kernel
theorem dX12_row_81 : decode cX12_row 81 = .ok (.ireturn, 1) := by decide +kernel
theorem dX12_row_82 : decode cX12_row 82 = .ok (.iinc 4 1, 3) := by decide +kernel
theorem dX12_row_85 : decode cX12_row 85 = .ok (.goto (-47), 3) := by decide +kernel
theorem dX12_row_88 : decode cX12_row 88 = .ok (.iconst (-1), 1) := by decide +kernel
theorem dX12_row_89 : decode cX12_row 89 = .ok (.ireturn, 1) := by decide +kernel
theorem B_X12_row_0 {g : Sg} {c t : Nat} (hL : Lay LM g c t σ) {x1 : Int} {x2 : Int} (h : ∀ τ1 : Sg, τ1 = sI σ 172 0 0 → (Lay LM g c t τ1 → CC E mX12_isClass [vr 172, vi x1] τ1 (KI (fun r2 τ3 => Lay LM g c t τ3 ∧ (inR r2 → ((r2 ≠ 0 → (Lay LM g c t τ3 → CC E mX12_bad [vr 172, vi 0, vi 1, vi 0] τ3 (KI (fun r4 τ5 => Lay LM g c t τ5 ∧ (inR r4 → ((r4 = 0 → (Lay LM g c t τ5 → CC E mX12_laysRows [vr 172] τ5 (KV (fun τ7 => Lay LM g c t τ7 ∧ (Lay LM g c t τ7 → GG E mX12_row 38 [some (vr 172), some (vi x1), some (vi x2), some (vi (-1)), some (vi 0)] [] τ7 rc rs Q)) (fun _ _ => False)))) ∧ (¬ (r4 = 0) → (Lay LM g c t τ5 → Q (.inl (some (vi 0))) τ5))))) (fun _ _ => False)))) ∧ (r2 = 0 → (Lay LM g c t τ3 → CC E mX12_bad [vr 172, vi 1, vi 1, vi 0] τ3 (KI (fun r8 τ9 => Lay LM g c t τ9 ∧ (inR r8 → ((r8 = 0 → (Lay LM g c t τ9 → CC E mX12_laysRows [vr 172] τ9 (KV (fun τ11 => Lay LM g c t τ11 ∧ (Lay LM g c t τ11 → GG E mX12_row 38 [some (vr 172), some (vi x1), some (vi x2), some (vi (-1)), some (vi 0)] [] τ11 rc rs Q)) (fun _ _ => False)))) ∧ (¬ (r8 = 0) → (Lay LM g c t τ9 → Q (.inl (some (vi 0))) τ9))))) (fun _ _ => False))))))) (fun _ _ => False)))) : GG E mX12_row 0 [some (vr 172), some (vi x1), some (vi x2), none, none] [] σ rc rs Q := by
  refine r_aload_n (pc := 0) dX12_row_0 rfl rfl ?_
  refine r_iconst (pc := 1) dX12_row_1 (inRk rfl) ?_
  refine r_putI (pc := 2) dX12_row_2 (k9 := 0) CL_12 (by decide) (by decide) w_1415 rfl rfl (fun h9 => absurd h9 (by decide +kernel)) (okO_of (N := 42) (hL.sh (i := 0) rfl (by decide) (by decide)) (by decide)) ?_
  refine nmS (fun τ1 e1 => ?_)
  replace h := h τ1 e1
  have hL := hL.wI e1 (by decide) (.inl (by decide))
  refine r_aload_n (pc := 5) dX12_row_5 rfl rfl ?_
  refine r_aload_n (pc := 6) dX12_row_6 rfl rfl ?_
  refine r_iload_n (pc := 7) dX12_row_7 rfl rfl ?_
  refine c_VI0N (M := mX12_row) (pc := 8) (As := [vi x1]) dX12_row_8 K_X12_isClass w_1766 ⟨by decide, by decide⟩ (Nat.le_of_ble_eq_true rfl) rfl rfl (ci := 12) rfl rfl (by decide) (okO_of (N := 42) (hL.sh (i := 0) rfl (by decide) (by decide)) (by decide)) (h hL) (fun r2 τ3 h8 hr9 => ?_) rfl
  replace hL := h8.1
  replace h := h8.2 hr9
  refine r_if_ne (pc := 11) (tgt := 18) dX12_row_11 (by decide) (fun c9 => ?_) (fun c9 => ?_)
  · replace h := h.1 c9
    refine r_iconst (pc := 18) dX12_row_18 (inRk rfl) ?_
    refine r_iconst (pc := 19) dX12_row_19 (inRk rfl) ?_
    refine r_iconst (pc := 20) dX12_row_20 (inRk rfl) ?_
    refine c_VI0N (M := mX12_row) (pc := 21) (As := [vi 0, vi 1, vi 0]) dX12_row_21 K_X12_bad w_1562 ⟨by decide, by decide⟩ (Nat.le_of_ble_eq_true rfl) rfl rfl (ci := 12) rfl rfl (by decide) (okO_of (N := 42) (hL.sh (i := 0) rfl (by decide) (by decide)) (by decide)) (h hL) (fun r4 τ5 h8 hr9 => ?_) rfl
    replace hL := h8.1
    replace h := h8.2 hr9
    refine r_if_eq (pc := 24) (tgt := 29) dX12_row_24 (by decide) (fun c9 => ?_) (fun c9 => ?_)
    · replace h := h.1 c9
      refine r_aload_n (pc := 29) dX12_row_29 rfl rfl ?_
      refine c_VV0N (M := mX12_row) (pc := 30) (As := []) dX12_row_30 K_X12_laysRows w_1652 ⟨by decide, by decide⟩ (Nat.le_of_ble_eq_true rfl) rfl rfl (ci := 12) rfl rfl (by decide) (okO_of (N := 42) (hL.sh (i := 0) rfl (by decide) (by decide)) (by decide)) (h hL) (fun τ7 h8 => ?_) rfl
      replace hL := h8.1
      replace h := h8.2
      refine r_iconst (pc := 33) dX12_row_33 (inRk rfl) ?_
      refine r_istore_n (pc := 34) dX12_row_34 rfl (by decide) (l2 := [some (vr 172), some (vi x1), some (vi x2), some (vi (-1)), none]) rfl ?_
      refine r_iconst (pc := 35) dX12_row_35 (inRk rfl) ?_
      refine r_istore (pc := 36) dX12_row_36 (by decide) (l2 := [some (vr 172), some (vi x1), some (vi x2), some (vi (-1)), some (vi 0)]) rfl ?_
      exact (h hL)
    · replace h := h.2 c9
      refine r_iconst (pc := 27) dX12_row_27 (inRk rfl) ?_
      exact r_ireturn (pc := 28) (ty := .int) dX12_row_28 (by decide +kernel) rfl (nar_i _) (h hL)
  · replace h := h.2 c9
    refine r_iconst (pc := 14) dX12_row_14 (inRk rfl) ?_
    refine r_goto (pc := 15) (tgt := 19) dX12_row_15 (by decide) ?_
    refine r_iconst (pc := 19) dX12_row_19 (inRk rfl) ?_
    refine r_iconst (pc := 20) dX12_row_20 (inRk rfl) ?_
    refine c_VI0N (M := mX12_row) (pc := 21) (As := [vi 1, vi 1, vi 0]) dX12_row_21 K_X12_bad w_1562 ⟨by decide, by decide⟩ (Nat.le_of_ble_eq_true rfl) rfl rfl (ci := 12) rfl rfl (by decide) (okO_of (N := 42) (hL.sh (i := 0) rfl (by decide) (by decide)) (by decide)) (h hL) (fun r8 τ9 h8 hr9 => ?_) rfl
    replace hL := h8.1
    replace h := h8.2 hr9
    refine r_if_eq (pc := 24) (tgt := 29) dX12_row_24 (by decide) (fun c9 => ?_) (fun c9 => ?_)
    · replace h := h.1 c9
      refine r_aload_n (pc := 29) dX12_row_29 rfl rfl ?_
      refine c_VV0N (M := mX12_row) (pc := 30) (As := []) dX12_row_30 K_X12_laysRows w_1652 ⟨by decide, by decide⟩ (Nat.le_of_ble_eq_true rfl) rfl rfl (ci := 12) rfl rfl (by decide) (okO_of (N := 42) (hL.sh (i := 0) rfl (by decide) (by decide)) (by decide)) (h hL) (fun τ11 h8 => ?_) rfl
      replace hL := h8.1
      replace h := h8.2
      refine r_iconst (pc := 33) dX12_row_33 (inRk rfl) ?_
      refine r_istore_n (pc := 34) dX12_row_34 rfl (by decide) (l2 := [some (vr 172), some (vi x1), some (vi x2), some (vi (-1)), none]) rfl ?_
      refine r_iconst (pc := 35) dX12_row_35 (inRk rfl) ?_
      refine r_istore (pc := 36) dX12_row_36 (by decide) (l2 := [some (vr 172), some (vi x1), some (vi x2), some (vi (-1)), some (vi 0)]) rfl ?_
      exact (h hL)
    · replace h := h.2 c9
      refine r_iconst (pc := 27) dX12_row_27 (inRk rfl) ?_
      exact r_ireturn (pc := 28) (ty := .int) dX12_row_28 (by decide +kernel) rfl (nar_i _) (h hL)
theorem B_X12_row_38 {g : Sg} {c t : Nat} (hL : Lay LM g c t σ) {x1 : Int} {x2 : Int} {x3 : Int} {x4 : Int} (h : ((200 < x4 → (Lay LM g c t σ → Q (.inl (some (vi (-1)))) σ)) ∧ (¬ (200 < x4) → ((x2 < 0 → (Lay LM g c t σ → Q (.inl (some (vi (-1)))) σ)) ∧ (¬ (x2 < 0) → (Lay LM g c t σ → CC E mX12_laysPower [vr 172, vi x4] σ (KV (fun τ2 => Lay LM g c t τ2 ∧ (Lay LM g c t τ2 → CC E mX12_oftenIn [vr 172, vr 2963, vi x1] τ2 (KI (fun r3 τ4 => Lay LM g c t τ4 ∧ (inR r3 → ((r3 ≠ 0 → inR (x3 + 1) ∧ (((x3 + 1) ≠ x2 → inR (x4 + 1) ∧ (Lay LM g c t τ4 → GG E mX12_row 38 [some (vr 172), some (vi x1), some (vi x2), some (vi (x3 + 1)), some (vi (x4 + 1))] [] τ4 rc rs Q)) ∧ ((x3 + 1) = x2 → (Lay LM g c t τ4 → Q (.inl (some (vi x4))) τ4)))) ∧ (r3 = 0 → inR (x4 + 1) ∧ (Lay LM g c t τ4 → GG E mX12_row 38 [some (vr 172), some (vi x1), some (vi x2), some (vi x3), some (vi (x4 + 1))] [] τ4 rc rs Q))))) (fun _ _ => False)))) (fun _ _ => False)))))))) : GG E mX12_row 38 [some (vr 172), some (vi x1), some (vi x2), some (vi x3), some (vi x4)] [] σ rc rs Q := by
  refine r_iload (pc := 38) dX12_row_38 rfl ?_
  refine r_sipush (pc := 40) dX12_row_40 (by decide) ?_
  refine r_icmp_gt (pc := 43) (tgt := 88) dX12_row_43 (by decide) (fun c9 => ?_) (fun c9 => ?_)
  · replace h := h.1 c9
    refine r_iconst (pc := 88) dX12_row_88 (inRk rfl) ?_
    exact r_ireturn (pc := 89) (ty := .int) dX12_row_89 (by decide +kernel) rfl (nar_i _) (h hL)
  · replace h := h.2 c9
    refine r_iload_n (pc := 46) dX12_row_46 rfl rfl ?_
    refine r_if_lt (pc := 47) (tgt := 88) dX12_row_47 (by decide) (fun c9 => ?_) (fun c9 => ?_)
    · replace h := h.1 c9
      refine r_iconst (pc := 88) dX12_row_88 (inRk rfl) ?_
      exact r_ireturn (pc := 89) (ty := .int) dX12_row_89 (by decide +kernel) rfl (nar_i _) (h hL)
    · replace h := h.2 c9
      refine r_aload_n (pc := 50) dX12_row_50 rfl rfl ?_
      refine r_iload (pc := 51) dX12_row_51 rfl ?_
      refine c_VV0N (M := mX12_row) (pc := 53) (As := [vi x4]) dX12_row_53 K_X12_laysPower w_1827 ⟨by decide, by decide⟩ (Nat.le_of_ble_eq_true rfl) rfl rfl (ci := 12) rfl rfl (by decide) (okO_of (N := 42) (hL.sh (i := 0) rfl (by decide) (by decide)) (by decide)) (h hL) (fun τ2 h8 => ?_) rfl
      replace hL := h8.1
      replace h := h8.2
      refine r_aload_n (pc := 56) dX12_row_56 rfl rfl ?_
      refine r_aload_n (pc := 57) dX12_row_57 rfl rfl ?_
      refine r_getR (pc := 58) dX12_row_58 (k9 := 36) CL_12 (by decide) (by decide) w_1451 rfl (okO_of (N := 42) (hL.sh (i := 0) rfl (by decide) (by decide)) (by decide)) ?_
      refine eqR (y := 2963) (hL.rf (i := 20) rfl) ?_
      refine r_iload_n (pc := 61) dX12_row_61 rfl rfl ?_
      refine c_VI0N (M := mX12_row) (pc := 62) (As := [vr 2963, vi x1]) dX12_row_62 K_X12_oftenIn w_1738 ⟨by decide, by decide⟩ (Nat.le_of_ble_eq_true rfl) rfl rfl (ci := 12) rfl rfl (by decide) (okO_of (N := 42) (hL.sh (i := 0) rfl (by decide) (by decide)) (by decide)) (h hL) (fun r3 τ4 h8 hr9 => ?_) rfl
      replace hL := h8.1
      replace h := h8.2 hr9
      refine r_if_ne (pc := 65) (tgt := 71) dX12_row_65 (by decide) (fun c9 => ?_) (fun c9 => ?_)
      · replace h := h.1 c9
        obtain ⟨o5, h⟩ := h
        refine r_iinc (pc := 71) dX12_row_71 rfl (by decide) o5 (l2 := [some (vr 172), some (vi x1), some (vi x2), some (vi (x3 + 1)), some (vi x4)]) rfl ?_
        refine r_iload_n (pc := 74) dX12_row_74 rfl rfl ?_
        refine r_iload_n (pc := 75) dX12_row_75 rfl rfl ?_
        refine r_icmp_ne (pc := 76) (tgt := 82) dX12_row_76 (by decide) (fun c9 => ?_) (fun c9 => ?_)
        · replace h := h.1 c9
          obtain ⟨o6, h⟩ := h
          refine r_iinc (pc := 82) dX12_row_82 rfl (by decide) o6 (l2 := [some (vr 172), some (vi x1), some (vi x2), some (vi (x3 + 1)), some (vi (x4 + 1))]) rfl ?_
          refine r_goto (pc := 85) (tgt := 38) dX12_row_85 (by decide) ?_
          exact (h hL)
        · replace h := h.2 c9
          refine r_iload (pc := 79) dX12_row_79 rfl ?_
          exact r_ireturn (pc := 81) (ty := .int) dX12_row_81 (by decide +kernel) rfl (nar_i _) (h hL)
      · replace h := h.2 c9
        refine r_goto (pc := 68) (tgt := 82) dX12_row_68 (by decide) ?_
        obtain ⟨o7, h⟩ := h
        refine r_iinc (pc := 82) dX12_row_82 rfl (by decide) o7 (l2 := [some (vr 172), some (vi x1), some (vi x2), some (vi x3), some (vi (x4 + 1))]) rfl ?_
        refine r_goto (pc := 85) (tgt := 38) dX12_row_85 (by decide) ?_
        exact (h hL)
theorem C_X12_row {a0 : Nat} {x1 : Int} {x2 : Int} (h : GG E mX12_row 0 [some (vr a0), some (vi x1), some (vi x2), none, none] [] σ 0 0 Q) : CC E mX12_row [vr a0, vi x1, vi x2] σ Q := CC.of (by decide +kernel) rfl (by decide +kernel) (fun h9 => nomatch h9) (Nat.le_of_ble_eq_true rfl) h
theorem dX12_sortsRows_0 : decode cX12_sortsRows 0 = .ok (.iconst 1, 1) := by decide +kernel
theorem dX12_sortsRows_1 : decode cX12_sortsRows 1 = .ok (.istore_n 1, 1) := by decide +kernel
theorem dX12_sortsRows_2 : decode cX12_sortsRows 2 = .ok (.iload_n 1, 1) := by decide +kernel
theorem dX12_sortsRows_3 : decode cX12_sortsRows 3 = .ok (.aload_n 0, 1) := by decide +kernel
theorem dX12_sortsRows_4 : decode cX12_sortsRows 4 = .ok (.getfield 257, 3) := by decide +kernel
theorem dX12_sortsRows_7 : decode cX12_sortsRows 7 = .ok (.if_icmp .ge 94, 3) := by decide +kernel
theorem dX12_sortsRows_10 : decode cX12_sortsRows 10 = .ok (.iload_n 1, 1) := by decide +kernel
theorem dX12_sortsRows_11 : decode cX12_sortsRows 11 = .ok (.istore_n 2, 1) := by decide +kernel
theorem dX12_sortsRows_12 : decode cX12_sortsRows 12 = .ok (.iload_n 2, 1) := by decide +kernel
theorem dX12_sortsRows_13 : decode cX12_sortsRows 13 = .ok (.ifCond .le 82, 3) := by decide +kernel
theorem dX12_sortsRows_16 : decode cX12_sortsRows 16 = .ok (.aload_n 0, 1) := by decide +kernel
theorem dX12_sortsRows_17 : decode cX12_sortsRows 17 = .ok (.iload_n 2, 1) := by decide +kernel
theorem dX12_sortsRows_18 : decode cX12_sortsRows 18 = .ok (.iload_n 2, 1) := by decide +kernel
theorem dX12_sortsRows_19 : decode cX12_sortsRows 19 = .ok (.iconst 1, 1) := by decide +kernel
theorem dX12_sortsRows_20 : decode cX12_sortsRows 20 = .ok (.isub, 1) := by decide +kernel
theorem dX12_sortsRows_21 : decode cX12_sortsRows 21 = .ok (.invokevirtual 263, 3) := by decide +kernel
theorem dX12_sortsRows_24 : decode cX12_sortsRows 24 = .ok (.ifCond .eq 71, 3) := by decide +kernel
theorem dX12_sortsRows_27 : decode cX12_sortsRows 27 = .ok (.aload_n 0, 1) := by decide +kernel
theorem dX12_sortsRows_28 : decode cX12_sortsRows 28 = .ok (.getfield 70, 3) := by decide +kernel
theorem dX12_sortsRows_31 : decode cX12_sortsRows 31 = .ok (.iload_n 2, 1) := by decide +kernel
theorem dX12_sortsRows_32 : decode cX12_sortsRows 32 = .ok (.aaload, 1) := by decide +kernel
theorem dX12_sortsRows_33 : decode cX12_sortsRows 33 = .ok (.astore_n 3, 1) := by decide +kernel
theorem dX12_sortsRows_34 : decode cX12_sortsRows 34 = .ok (.aload_n 0, 1) := by decide +kernel
theorem dX12_sortsRows_35 : decode cX12_sortsRows 35 = .ok (.getfield 70, 3) := by decide +kernel
theorem dX12_sortsRows_38 : decode cX12_sortsRows 38 = .ok (.iload_n 2, 1) := by decide +kernel
theorem dX12_sortsRows_39 : decode cX12_sortsRows 39 = .ok (.aload_n 0, 1) := by decide +kernel
theorem dX12_sortsRows_40 : decode cX12_sortsRows 40 = .ok (.getfield 70, 3) := by decide +kernel
theorem dX12_sortsRows_43 : decode cX12_sortsRows 43 = .ok (.iload_n 2, 1) := by decide +kernel
theorem dX12_sortsRows_44 : decode cX12_sortsRows 44 = .ok (.iconst 1, 1) := by decide +kernel
theorem dX12_sortsRows_45 : decode cX12_sortsRows 45 = .ok (.isub, 1) := by decide +kernel
theorem dX12_sortsRows_46 : decode cX12_sortsRows 46 = .ok (.aaload, 1) := by decide +kernel
theorem dX12_sortsRows_47 : decode cX12_sortsRows 47 = .ok (.aastore, 1) := by decide +kernel
theorem dX12_sortsRows_48 : decode cX12_sortsRows 48 = .ok (.aload_n 0, 1) := by decide +kernel
theorem dX12_sortsRows_49 : decode cX12_sortsRows 49 = .ok (.getfield 70, 3) := by decide +kernel
theorem dX12_sortsRows_52 : decode cX12_sortsRows 52 = .ok (.iload_n 2, 1) := by decide +kernel
theorem dX12_sortsRows_53 : decode cX12_sortsRows 53 = .ok (.iconst 1, 1) := by decide +kernel
theorem dX12_sortsRows_54 : decode cX12_sortsRows 54 = .ok (.isub, 1) := by decide +kernel
theorem dX12_sortsRows_55 : decode cX12_sortsRows 55 = .ok (.aload_n 3, 1) := by decide +kernel
theorem dX12_sortsRows_56 : decode cX12_sortsRows 56 = .ok (.aastore, 1) := by decide +kernel
theorem dX12_sortsRows_57 : decode cX12_sortsRows 57 = .ok (.aload_n 0, 1) := by decide +kernel
theorem dX12_sortsRows_58 : decode cX12_sortsRows 58 = .ok (.getfield 73, 3) := by decide +kernel
theorem dX12_sortsRows_61 : decode cX12_sortsRows 61 = .ok (.iload_n 2, 1) := by decide +kernel
theorem dX12_sortsRows_62 : decode cX12_sortsRows 62 = .ok (.iaload, 1) := by decide +kernel
theorem dX12_sortsRows_63 : decode cX12_sortsRows 63 = .ok (.istore 4, 2) := by decide +kernel
theorem dX12_sortsRows_65 : decode cX12_sortsRows 65 = .ok (.aload_n 0, 1) := by decide +kernel
theorem dX12_sortsRows_66 : decode cX12_sortsRows 66 = .ok (.getfield 73, 3) := by decide +kernel
theorem dX12_sortsRows_69 : decode cX12_sortsRows 69 = .ok (.iload_n 2, 1) := by decide +kernel
theorem dX12_sortsRows_70 : decode cX12_sortsRows 70 = .ok (.aload_n 0, 1) := by decide +kernel
theorem dX12_sortsRows_71 : decode cX12_sortsRows 71 = .ok (.getfield 73, 3) := by decide +kernel
theorem dX12_sortsRows_74 : decode cX12_sortsRows 74 = .ok (.iload_n 2, 1) := by decide +kernel
theorem dX12_sortsRows_75 : decode cX12_sortsRows 75 = .ok (.iconst 1, 1) := by decide +kernel
theorem dX12_sortsRows_76 : decode cX12_sortsRows 76 = .ok (.isub, 1) := by decide +kernel
theorem dX12_sortsRows_77 : decode cX12_sortsRows 77 = .ok (.iaload, 1) := by decide +kernel
theorem dX12_sortsRows_78 : decode cX12_sortsRows 78 = .ok (.iastore, 1) := by decide +kernel
theorem dX12_sortsRows_79 : decode cX12_sortsRows 79 = .ok (.aload_n 0, 1) := by decide +kernel
theorem dX12_sortsRows_80 : decode cX12_sortsRows 80 = .ok (.getfield 73, 3) := by decide +kernel
theorem dX12_sortsRows_83 : decode cX12_sortsRows 83 = .ok (.iload_n 2, 1) := by decide +kernel
theorem dX12_sortsRows_84 : decode cX12_sortsRows 84 = .ok (.iconst 1, 1) := by decide +kernel
theorem dX12_sortsRows_85 : decode cX12_sortsRows 85 = .ok (.isub, 1) := by decide +kernel
theorem dX12_sortsRows_86 : decode cX12_sortsRows 86 = .ok (.iload 4, 2) := by decide +kernel
theorem dX12_sortsRows_88 : decode cX12_sortsRows 88 = .ok (.iastore, 1) := by decide +kernel
theorem dX12_sortsRows_89 : decode cX12_sortsRows 89 = .ok (.iinc 2 (-1), 3) := by decide +kernel
theorem dX12_sortsRows_92 : decode cX12_sortsRows 92 = .ok (.goto (-80), 3) := by decide +kernel
theorem dX12_sortsRows_95 : decode cX12_sortsRows 95 = .ok (.iinc 1 1, 3) := by decide +kernel
theorem dX12_sortsRows_98 : decode cX12_sortsRows 98 = .ok (.goto (-96), 3) := by decide +kernel
theorem dX12_sortsRows_101 : decode cX12_sortsRows 101 = .ok (.return_, 1) := by decide +kernel
theorem B_X12_sortsRows_0 {g : Sg} {c t : Nat} (hL : Lay LM g c t σ)  (h : (Lay LM g c t σ → GG E mX12_sortsRows 2 [some (vr 172), some (vi 1), none, none, none] [] σ rc rs Q)) : GG E mX12_sortsRows 0 [some (vr 172), none, none, none, none] [] σ rc rs Q := by
  refine r_iconst (pc := 0) dX12_sortsRows_0 (inRk rfl) ?_
  refine r_istore_n (pc := 1) dX12_sortsRows_1 rfl (by decide) (l2 := [some (vr 172), some (vi 1), none, none, none]) rfl ?_
  exact (h hL)
theorem B_X12_sortsRows_2 {g : Sg} {c t : Nat} (hL : Lay LM g c t σ) {x1 : Int} (h : (((gI σ 172 35) ≤ x1 → (Lay LM g c t σ → Q (.inl none) σ)) ∧ (¬ ((gI σ 172 35) ≤ x1) → (Lay LM g c t σ → GG E mX12_sortsRows 12 [some (vr 172), some (vi x1), some (vi x1), none, none] [] σ rc rs Q)))) : GG E mX12_sortsRows 2 [some (vr 172), some (vi x1), none, none, none] [] σ rc rs Q := by
  refine r_iload_n (pc := 2) dX12_sortsRows_2 rfl rfl ?_
  refine r_aload_n (pc := 3) dX12_sortsRows_3 rfl rfl ?_
  refine r_getI (pc := 4) dX12_sortsRows_4 (k9 := 35) CL_12 (by decide) (by decide) w_1450 rfl (okO_of (N := 42) (hL.sh (i := 0) rfl (by decide) (by decide)) (by decide)) (fun _ => ?_)
  refine r_icmp_ge (pc := 7) (tgt := 101) dX12_sortsRows_7 (by decide) (fun c9 => ?_) (fun c9 => ?_)
  · replace h := h.1 c9
    exact r_return (pc := 101) dX12_sortsRows_101 (by decide +kernel) rfl (h hL)
  · replace h := h.2 c9
    refine r_iload_n (pc := 10) dX12_sortsRows_10 rfl rfl ?_
    refine r_istore_n (pc := 11) dX12_sortsRows_11 rfl (by decide) (l2 := [some (vr 172), some (vi x1), some (vi x1), none, none]) rfl ?_
    exact (h hL)
theorem B_X12_sortsRows_12 {g : Sg} {c t : Nat} (hL : Lay LM g c t σ) {x1 : Int} {x2 : Int} (h : ((x2 ≤ 0 → inR (x1 + 1) ∧ (Lay LM g c t σ → GG E mX12_sortsRows 2 [some (vr 172), some (vi (x1 + 1)), none, none, none] [] σ rc rs Q)) ∧ (¬ (x2 ≤ 0) → inR (x2 - 1) ∧ (Lay LM g c t σ → CC E mX12_isAhead [vr 172, vi x2, vi (x2 - 1)] σ (KI (fun r3 τ4 => Lay LM g c t τ4 ∧ (inR r3 → ((r3 = 0 → inR (x1 + 1) ∧ (Lay LM g c t τ4 → GG E mX12_sortsRows 2 [some (vr 172), some (vi (x1 + 1)), none, none, none] [] τ4 rc rs Q)) ∧ (¬ (r3 = 0) → (0 ≤ x2 ∧ x2 < 48) ∧ ∀ b7 : Nat, b7 = gR τ4 2913 x2.toNat → (2914 ≤ b7 ∧ b7 < 2962) → (0 ≤ (x2 - 1) ∧ (x2 - 1) < 48) ∧ ∀ b10 : Nat, b10 = gR τ4 2913 (x2 - 1).toNat → (2914 ≤ b10 ∧ b10 < 2962) → ∀ τ12 : Sg, τ12 = sR τ4 2913 x2.toNat b10 → ∀ τ13 : Sg, τ13 = sR τ12 2913 (x2 - 1).toNat b7 → ∀ τ14 : Sg, τ14 = sI τ13 2962 x2.toNat (gI τ13 2962 (x2 - 1).toNat) → ∀ τ15 : Sg, τ15 = sI τ14 2962 (x2 - 1).toNat (gI τ13 2962 x2.toNat) → inR (x2 + (-1)) ∧ (Lay LM g c t τ15 → GG E mX12_sortsRows 12 [some (vr 172), some (vi x1), some (vi (x2 + (-1))), none, none] [] τ15 rc rs Q))))) (fun _ _ => False)))))) : GG E mX12_sortsRows 12 [some (vr 172), some (vi x1), some (vi x2), none, none] [] σ rc rs Q := by
  refine r_iload_n (pc := 12) dX12_sortsRows_12 rfl rfl ?_
  refine r_if_le (pc := 13) (tgt := 95) dX12_sortsRows_13 (by decide) (fun c9 => ?_) (fun c9 => ?_)
  · replace h := h.1 c9
    obtain ⟨o1, h⟩ := h
    refine r_iinc (pc := 95) dX12_sortsRows_95 rfl (by decide) o1 (l2 := [some (vr 172), some (vi (x1 + 1)), some (vi x2), none, none]) rfl ?_
    refine r_goto (pc := 98) (tgt := 2) dX12_sortsRows_98 (by decide) ?_
    exact GG.msk [true, true, false, false, false] (h hL)
  · replace h := h.2 c9
    refine r_aload_n (pc := 16) dX12_sortsRows_16 rfl rfl ?_
    refine r_iload_n (pc := 17) dX12_sortsRows_17 rfl rfl ?_
    refine r_iload_n (pc := 18) dX12_sortsRows_18 rfl rfl ?_
    refine r_iconst (pc := 19) dX12_sortsRows_19 (inRk rfl) ?_
    obtain ⟨o2, h⟩ := h
    refine r_isub (pc := 20) dX12_sortsRows_20 o2 ?_
    refine c_VI0N (M := mX12_sortsRows) (pc := 21) (As := [vi x2, vi (x2 - 1)]) dX12_sortsRows_21 K_X12_isAhead w_1686 ⟨by decide, by decide⟩ (Nat.le_of_ble_eq_true rfl) rfl rfl (ci := 12) rfl rfl (by decide) (okO_of (N := 42) (hL.sh (i := 0) rfl (by decide) (by decide)) (by decide)) (h hL) (fun r3 τ4 h8 hr9 => ?_) rfl
    replace hL := h8.1
    replace h := h8.2 hr9
    refine r_if_eq (pc := 24) (tgt := 95) dX12_sortsRows_24 (by decide) (fun c9 => ?_) (fun c9 => ?_)
    · replace h := h.1 c9
      obtain ⟨o5, h⟩ := h
      refine r_iinc (pc := 95) dX12_sortsRows_95 rfl (by decide) o5 (l2 := [some (vr 172), some (vi (x1 + 1)), some (vi x2), none, none]) rfl ?_
      refine r_goto (pc := 98) (tgt := 2) dX12_sortsRows_98 (by decide) ?_
      exact GG.msk [true, true, false, false, false] (h hL)
    · replace h := h.2 c9
      refine r_aload_n (pc := 27) dX12_sortsRows_27 rfl rfl ?_
      refine r_getR (pc := 28) dX12_sortsRows_28 (k9 := 33) CL_12 (by decide) (by decide) w_1448 rfl (okO_of (N := 42) (hL.sh (i := 0) rfl (by decide) (by decide)) (by decide)) ?_
      refine eqR (y := 2913) (hL.rf (i := 18) rfl) ?_
      refine r_iload_n (pc := 31) dX12_sortsRows_31 rfl rfl ?_
      obtain ⟨o6, h⟩ := h
      refine r_aaload (pc := 32) dX12_sortsRows_32 (okB_of (c := 24) (n := 48) (hL.sh (i := 25) rfl (by decide) (by decide)) (by decide) o6) ?_
      refine nmR (fun b7 e9 => ?_)
      have q8 : (2914 ≤ b7 ∧ b7 < 2962) := e9 ▸ hL.rsw (i := 1) rfl (rowC o6 (by decide))
      replace h := h b7 e9 q8
      refine r_astore_n (pc := 33) dX12_sortsRows_33 rfl (by decide) (l2 := [some (vr 172), some (vi x1), some (vi x2), some (vr b7), none]) rfl ?_
      refine r_aload_n (pc := 34) dX12_sortsRows_34 rfl rfl ?_
      refine r_getR (pc := 35) dX12_sortsRows_35 (k9 := 33) CL_12 (by decide) (by decide) w_1448 rfl (okO_of (N := 42) (hL.sh (i := 0) rfl (by decide) (by decide)) (by decide)) ?_
      refine eqR (y := 2913) (hL.rf (i := 18) rfl) ?_
      refine r_iload_n (pc := 38) dX12_sortsRows_38 rfl rfl ?_
      refine r_aload_n (pc := 39) dX12_sortsRows_39 rfl rfl ?_
      refine r_getR (pc := 40) dX12_sortsRows_40 (k9 := 33) CL_12 (by decide) (by decide) w_1448 rfl (okO_of (N := 42) (hL.sh (i := 0) rfl (by decide) (by decide)) (by decide)) ?_
      refine eqR (y := 2913) (hL.rf (i := 18) rfl) ?_
      refine r_iload_n (pc := 43) dX12_sortsRows_43 rfl rfl ?_
      refine r_iconst (pc := 44) dX12_sortsRows_44 (inRk rfl) ?_
      refine r_isub (pc := 45) dX12_sortsRows_45 o2 ?_
      obtain ⟨o9, h⟩ := h
      refine r_aaload (pc := 46) dX12_sortsRows_46 (okB_of (c := 24) (n := 48) (hL.sh (i := 25) rfl (by decide) (by decide)) (by decide) o9) ?_
      refine nmR (fun b10 e9 => ?_)
      have q11 : (2914 ≤ b10 ∧ b10 < 2962) := e9 ▸ hL.rsw (i := 1) rfl (rowC o9 (by decide))
      replace h := h b10 e9 q11
      refine r_aastore (pc := 47) dX12_sortsRows_47 (okB_of (c := 24) (n := 48) (hL.sh (i := 25) rfl (by decide) (by decide)) (by decide) o6) ⟨(Nat.le_trans (by decide) q11.1), by rw [(hL.sh (i := 26) rfl q11.1 q11.2)]⟩ ?_
      refine nmS (fun τ12 e12 => ?_)
      replace h := h τ12 e12
      have hL := hL.wR e12 (i := 1) rfl q11 (by decide) (by decide)
      refine r_aload_n (pc := 48) dX12_sortsRows_48 rfl rfl ?_
      refine r_getR (pc := 49) dX12_sortsRows_49 (k9 := 33) CL_12 (by decide) (by decide) w_1448 rfl (okO_of (N := 42) (hL.sh (i := 0) rfl (by decide) (by decide)) (by decide)) ?_
      refine eqR (y := 2913) (hL.rf (i := 18) rfl) ?_
      refine r_iload_n (pc := 52) dX12_sortsRows_52 rfl rfl ?_
      refine r_iconst (pc := 53) dX12_sortsRows_53 (inRk rfl) ?_
      refine r_isub (pc := 54) dX12_sortsRows_54 o2 ?_
      refine r_aload_n (pc := 55) dX12_sortsRows_55 rfl rfl ?_
      refine r_aastore (pc := 56) dX12_sortsRows_56 (okB_of (c := 24) (n := 48) (hL.sh (i := 25) rfl (by decide) (by decide)) (by decide) o9) ⟨(Nat.le_trans (by decide) q8.1), by rw [(hL.sh (i := 26) rfl q8.1 q8.2)]⟩ ?_
      refine nmS (fun τ13 e13 => ?_)
      replace h := h τ13 e13
      have hL := hL.wR e13 (i := 1) rfl q8 (by decide) (by decide)
      refine r_aload_n (pc := 57) dX12_sortsRows_57 rfl rfl ?_
      refine r_getR (pc := 58) dX12_sortsRows_58 (k9 := 34) CL_12 (by decide) (by decide) w_1449 rfl (okO_of (N := 42) (hL.sh (i := 0) rfl (by decide) (by decide)) (by decide)) ?_
      refine eqR (y := 2962) (hL.rf (i := 19) rfl) ?_
      refine r_iload_n (pc := 61) dX12_sortsRows_61 rfl rfl ?_
      refine r_iaload (pc := 62) dX12_sortsRows_62 (okA_of (c := 20) (n := 48) (hL.sh (i := 27) rfl (by decide) (by decide)) (by decide) o6) ?_
      refine r_istore (pc := 63) dX12_sortsRows_63 (by decide) (l2 := [some (vr 172), some (vi x1), some (vi x2), some (vr b7), some (vi (gI τ13 2962 x2.toNat))]) rfl ?_
      refine r_aload_n (pc := 65) dX12_sortsRows_65 rfl rfl ?_
      refine r_getR (pc := 66) dX12_sortsRows_66 (k9 := 34) CL_12 (by decide) (by decide) w_1449 rfl (okO_of (N := 42) (hL.sh (i := 0) rfl (by decide) (by decide)) (by decide)) ?_
      refine eqR (y := 2962) (hL.rf (i := 19) rfl) ?_
      refine r_iload_n (pc := 69) dX12_sortsRows_69 rfl rfl ?_
      refine r_aload_n (pc := 70) dX12_sortsRows_70 rfl rfl ?_
      refine r_getR (pc := 71) dX12_sortsRows_71 (k9 := 34) CL_12 (by decide) (by decide) w_1449 rfl (okO_of (N := 42) (hL.sh (i := 0) rfl (by decide) (by decide)) (by decide)) ?_
      refine eqR (y := 2962) (hL.rf (i := 19) rfl) ?_
      refine r_iload_n (pc := 74) dX12_sortsRows_74 rfl rfl ?_
      refine r_iconst (pc := 75) dX12_sortsRows_75 (inRk rfl) ?_
      refine r_isub (pc := 76) dX12_sortsRows_76 o2 ?_
      refine r_iaload (pc := 77) dX12_sortsRows_77 (okA_of (c := 20) (n := 48) (hL.sh (i := 27) rfl (by decide) (by decide)) (by decide) o9) ?_
      refine r_iastore (pc := 78) dX12_sortsRows_78 (okB_of (c := 20) (n := 48) (hL.sh (i := 27) rfl (by decide) (by decide)) (by decide) o6) ?_
      refine nmS (fun τ14 e14 => ?_)
      replace h := h τ14 e14
      have hL := hL.wI e14 (by decide) (.inl (by decide))
      refine r_aload_n (pc := 79) dX12_sortsRows_79 rfl rfl ?_
      refine r_getR (pc := 80) dX12_sortsRows_80 (k9 := 34) CL_12 (by decide) (by decide) w_1449 rfl (okO_of (N := 42) (hL.sh (i := 0) rfl (by decide) (by decide)) (by decide)) ?_
      refine eqR (y := 2962) (hL.rf (i := 19) rfl) ?_
      refine r_iload_n (pc := 83) dX12_sortsRows_83 rfl rfl ?_
      refine r_iconst (pc := 84) dX12_sortsRows_84 (inRk rfl) ?_
      refine r_isub (pc := 85) dX12_sortsRows_85 o2 ?_
      refine r_iload (pc := 86) dX12_sortsRows_86 rfl ?_
      refine r_iastore (pc := 88) dX12_sortsRows_88 (okB_of (c := 20) (n := 48) (hL.sh (i := 27) rfl (by decide) (by decide)) (by decide) o9) ?_
      refine nmS (fun τ15 e15 => ?_)
      replace h := h τ15 e15
      have hL := hL.wI e15 (by decide) (.inl (by decide))
      obtain ⟨o16, h⟩ := h
      refine r_iinc (pc := 89) dX12_sortsRows_89 rfl (by decide) o16 (l2 := [some (vr 172), some (vi x1), some (vi (x2 + (-1))), some (vr b7), some (vi (gI τ13 2962 x2.toNat))]) rfl ?_
      refine r_goto (pc := 92) (tgt := 12) dX12_sortsRows_92 (by decide) ?_
      exact GG.msk [true, true, true, false, false] (h hL)
theorem C_X12_sortsRows {a0 : Nat} (h : GG E mX12_sortsRows 0 [some (vr a0), none, none, none, none] [] σ 0 0 Q) : CC E mX12_sortsRows [vr a0] σ Q := CC.of (by decide +kernel) rfl (by decide +kernel) (fun h9 => nomatch h9) (Nat.le_of_ble_eq_true rfl) h
theorem dX12_status_0 : decode cX12_status 0 = .ok (.aload_n 0, 1) := by decide +kernel
theorem dX12_status_1 : decode cX12_status 1 = .ok (.iconst 0, 1) := by decide +kernel
theorem dX12_status_2 : decode cX12_status 2 = .ok (.putfield 99, 3) := by decide +kernel
theorem dX12_status_5 : decode cX12_status 5 = .ok (.iload_n 1, 1) := by decide +kernel
theorem dX12_status_6 : decode cX12_status 6 = .ok (.iconst 0, 1) := by decide +kernel
theorem dX12_status_7 : decode cX12_status 7 = .ok (.iconst 2, 1) := by decide +kernel
theorem dX12_status_8 : decode cX12_status 8 = .ok (.invokestatic 141, 3) := by decide +kernel
theorem dX12_status_11 : decode cX12_status 11 = .ok (.ifCond .eq 12, 3) := by decide +kernel
theorem dX12_status_14 : decode cX12_status 14 = .ok (.aload_n 0, 1) := by decide +kernel
theorem dX12_status_15 : decode cX12_status 15 = .ok (.getfield 7, 3) := by decide +kernel
theorem dX12_status_18 : decode cX12_status 18 = .ok (.iload_n 1, 1) := by decide +kernel
theorem dX12_status_19 : decode cX12_status 19 = .ok (.iaload, 1) := by decide +kernel
theorem dX12_status_20 : decode cX12_status 20 = .ok (.goto 4, 3) := by decide +kernel
theorem dX12_status_23 : decode cX12_status 23 = .ok (.iconst (-1), 1) := by decide +kernel
theorem dX12_status_24 : decode cX12_status 24 = .ok (.ireturn, 1) := by decide +kernel
theorem B_X12_status_0 {g : Sg} {c t : Nat} (hL : Lay LM g c t σ) {x1 : Int} (h : ∀ τ1 : Sg, τ1 = sI σ 172 0 0 → (Lay LM g c t τ1 → CC E mX12_in [vi x1, vi 0, vi 2] τ1 (KI (fun r2 τ3 => Lay LM g c t τ3 ∧ (inR r2 → ((r2 = 0 → (Lay LM g c t τ3 → Q (.inl (some (vi (-1)))) τ3)) ∧ (¬ (r2 = 0) → (0 ≤ x1 ∧ x1 < 3) ∧ (Lay LM g c t τ3 → Q (.inl (some (vi (gI τ3 173 x1.toNat)))) τ3))))) (fun _ _ => False)))) : GG E mX12_status 0 [some (vr 172), some (vi x1)] [] σ rc rs Q := by
  refine r_aload_n (pc := 0) dX12_status_0 rfl rfl ?_
  refine r_iconst (pc := 1) dX12_status_1 (inRk rfl) ?_
  refine r_putI (pc := 2) dX12_status_2 (k9 := 0) CL_12 (by decide) (by decide) w_1415 rfl rfl (fun h9 => absurd h9 (by decide +kernel)) (okO_of (N := 42) (hL.sh (i := 0) rfl (by decide) (by decide)) (by decide)) ?_
  refine nmS (fun τ1 e1 => ?_)
  replace h := h τ1 e1
  have hL := hL.wI e1 (by decide) (.inl (by decide))
  refine r_iload_n (pc := 5) dX12_status_5 rfl rfl ?_
  refine r_iconst (pc := 6) dX12_status_6 (inRk rfl) ?_
  refine r_iconst (pc := 7) dX12_status_7 (inRk rfl) ?_
  refine c_SI0N (M := mX12_status) (pc := 8) (As := [vi x1, vi 0, vi 2]) dX12_status_8 K_X12_in w_1559 ⟨by decide, by decide⟩ (Nat.le_of_ble_eq_true rfl) rfl rfl (h hL) (fun r2 τ3 h8 hr9 => ?_) rfl
  replace hL := h8.1
  replace h := h8.2 hr9
  refine r_if_eq (pc := 11) (tgt := 23) dX12_status_11 (by decide) (fun c9 => ?_) (fun c9 => ?_)
  · replace h := h.1 c9
    refine r_iconst (pc := 23) dX12_status_23 (inRk rfl) ?_
    exact r_ireturn (pc := 24) (ty := .int) dX12_status_24 (by decide +kernel) rfl (nar_i _) (h hL)
  · replace h := h.2 c9
    refine r_aload_n (pc := 14) dX12_status_14 rfl rfl ?_
    refine r_getR (pc := 15) dX12_status_15 (k9 := 1) CL_12 (by decide) (by decide) w_1416 rfl (okO_of (N := 42) (hL.sh (i := 0) rfl (by decide) (by decide)) (by decide)) ?_
    refine eqR (y := 173) (hL.rf (i := 0) rfl) ?_
    refine r_iload_n (pc := 18) dX12_status_18 rfl rfl ?_
    obtain ⟨o4, h⟩ := h
    refine r_iaload (pc := 19) dX12_status_19 (okA_of (c := 20) (n := 3) (hL.sh (i := 1) rfl (by decide) (by decide)) (by decide) o4) ?_
    refine r_goto (pc := 20) (tgt := 24) dX12_status_20 (by decide) ?_
    exact r_ireturn (pc := 24) (ty := .int) dX12_status_24 (by decide +kernel) rfl (nar_i _) (h hL)
theorem C_X12_status {a0 : Nat} {x1 : Int} (h : GG E mX12_status 0 [some (vr a0), some (vi x1)] [] σ 0 0 Q) : CC E mX12_status [vr a0, vi x1] σ Q := CC.of (by decide +kernel) rfl (by decide +kernel) (fun h9 => nomatch h9) (Nat.le_of_ble_eq_true rfl) h
theorem dX12_stops_0 : decode cX12_stops 0 = .ok (.aload_n 0, 1) := by decide +kernel
theorem dX12_stops_1 : decode cX12_stops 1 = .ok (.getfield 25, 3) := by decide +kernel
theorem dX12_stops_4 : decode cX12_stops 4 = .ok (.iconst 0, 1) := by decide +kernel
theorem dX12_stops_5 : decode cX12_stops 5 = .ok (.iload_n 1, 1) := by decide +kernel
theorem dX12_stops_6 : decode cX12_stops 6 = .ok (.iastore, 1) := by decide +kernel
theorem dX12_stops_7 : decode cX12_stops 7 = .ok (.aload_n 0, 1) := by decide +kernel
theorem dX12_stops_8 : decode cX12_stops 8 = .ok (.getfield 25, 3) := by decide +kernel
theorem dX12_stops_11 : decode cX12_stops 11 = .ok (.iconst 1, 1) := by decide +kernel
theorem dX12_stops_12 : decode cX12_stops 12 = .ok (.iload_n 2, 1) := by decide +kernel
theorem dX12_stops_13 : decode cX12_stops 13 = .ok (.iastore, 1) := by decide +kernel
theorem dX12_stops_14 : decode cX12_stops 14 = .ok (.aload_n 0, 1) := by decide +kernel
theorem dX12_stops_15 : decode cX12_stops 15 = .ok (.getfield 25, 3) := by decide +kernel
theorem dX12_stops_18 : decode cX12_stops 18 = .ok (.iconst 2, 1) := by decide +kernel
theorem dX12_stops_19 : decode cX12_stops 19 = .ok (.iload_n 3, 1) := by decide +kernel
theorem dX12_stops_20 : decode cX12_stops 20 = .ok (.iastore, 1) := by decide +kernel
theorem dX12_stops_21 : decode cX12_stops 21 = .ok (.aload_n 0, 1) := by decide +kernel
theorem dX12_stops_22 : decode cX12_stops 22 = .ok (.getfield 25, 3) := by decide +kernel
theorem dX12_stops_25 : decode cX12_stops 25 = .ok (.iconst 3, 1) := by decide +kernel
theorem dX12_stops_26 : decode cX12_stops 26 = .ok (.iload 4, 2) := by decide +kernel
theorem dX12_stops_28 : decode cX12_stops 28 = .ok (.iastore, 1) := by decide +kernel
theorem dX12_stops_29 : decode cX12_stops 29 = .ok (.iconst 0, 1) := by decide +kernel
theorem dX12_stops_30 : decode cX12_stops 30 = .ok (.ireturn, 1) := by decide +kernel
theorem B_X12_stops_0 {g : Sg} {c t : Nat} (hL : Lay LM g c t σ) {x1 : Int} {x2 : Int} {x3 : Int} {x4 : Int} (h : ∀ τ1 : Sg, τ1 = sI σ 186 0 x1 → ∀ τ2 : Sg, τ2 = sI τ1 186 1 x2 → ∀ τ3 : Sg, τ3 = sI τ2 186 2 x3 → ∀ τ4 : Sg, τ4 = sI τ3 186 3 x4 → (Lay LM g c t τ4 → Q (.inl (some (vi 0))) τ4)) : GG E mX12_stops 0 [some (vr 172), some (vi x1), some (vi x2), some (vi x3), some (vi x4)] [] σ rc rs Q := by
  refine r_aload_n (pc := 0) dX12_stops_0 rfl rfl ?_
  refine r_getR (pc := 1) dX12_stops_1 (k9 := 11) CL_12 (by decide) (by decide) w_1426 rfl (okO_of (N := 42) (hL.sh (i := 0) rfl (by decide) (by decide)) (by decide)) ?_
  refine eqR (y := 186) (hL.rf (i := 3) rfl) ?_
  refine r_iconst (pc := 4) dX12_stops_4 (inRk rfl) ?_
  refine r_iload_n (pc := 5) dX12_stops_5 rfl rfl ?_
  refine r_iastore (pc := 6) dX12_stops_6 (okB_of (c := 20) (n := 4) (hL.sh (i := 5) rfl (by decide) (by decide)) (by decide) (by decide)) ?_
  refine nmS (fun τ1 e1 => ?_)
  replace h := h τ1 e1
  have hL := hL.wI e1 (by decide) (.inl (by decide))
  refine r_aload_n (pc := 7) dX12_stops_7 rfl rfl ?_
  refine r_getR (pc := 8) dX12_stops_8 (k9 := 11) CL_12 (by decide) (by decide) w_1426 rfl (okO_of (N := 42) (hL.sh (i := 0) rfl (by decide) (by decide)) (by decide)) ?_
  refine eqR (y := 186) (hL.rf (i := 3) rfl) ?_
  refine r_iconst (pc := 11) dX12_stops_11 (inRk rfl) ?_
  refine r_iload_n (pc := 12) dX12_stops_12 rfl rfl ?_
  refine r_iastore (pc := 13) dX12_stops_13 (okB_of (c := 20) (n := 4) (hL.sh (i := 5) rfl (by decide) (by decide)) (by decide) (by decide)) ?_
  refine nmS (fun τ2 e2 => ?_)
  replace h := h τ2 e2
  have hL := hL.wI e2 (by decide) (.inl (by decide))
  refine r_aload_n (pc := 14) dX12_stops_14 rfl rfl ?_
  refine r_getR (pc := 15) dX12_stops_15 (k9 := 11) CL_12 (by decide) (by decide) w_1426 rfl (okO_of (N := 42) (hL.sh (i := 0) rfl (by decide) (by decide)) (by decide)) ?_
  refine eqR (y := 186) (hL.rf (i := 3) rfl) ?_
  refine r_iconst (pc := 18) dX12_stops_18 (inRk rfl) ?_
  refine r_iload_n (pc := 19) dX12_stops_19 rfl rfl ?_
  refine r_iastore (pc := 20) dX12_stops_20 (okB_of (c := 20) (n := 4) (hL.sh (i := 5) rfl (by decide) (by decide)) (by decide) (by decide)) ?_
  refine nmS (fun τ3 e3 => ?_)
  replace h := h τ3 e3
  have hL := hL.wI e3 (by decide) (.inl (by decide))
  refine r_aload_n (pc := 21) dX12_stops_21 rfl rfl ?_
  refine r_getR (pc := 22) dX12_stops_22 (k9 := 11) CL_12 (by decide) (by decide) w_1426 rfl (okO_of (N := 42) (hL.sh (i := 0) rfl (by decide) (by decide)) (by decide)) ?_
  refine eqR (y := 186) (hL.rf (i := 3) rfl) ?_
  refine r_iconst (pc := 25) dX12_stops_25 (inRk rfl) ?_
  refine r_iload (pc := 26) dX12_stops_26 rfl ?_
  refine r_iastore (pc := 28) dX12_stops_28 (okB_of (c := 20) (n := 4) (hL.sh (i := 5) rfl (by decide) (by decide)) (by decide) (by decide)) ?_
  refine nmS (fun τ4 e4 => ?_)
  replace h := h τ4 e4
  have hL := hL.wI e4 (by decide) (.inl (by decide))
  refine r_iconst (pc := 29) dX12_stops_29 (inRk rfl) ?_
  exact r_ireturn (pc := 30) (ty := .boolean) dX12_stops_30 (by decide +kernel) rfl (nar_bool (by decide)) (h hL)
theorem C_X12_stops {a0 : Nat} {x1 : Int} {x2 : Int} {x3 : Int} {x4 : Int} (h : GG E mX12_stops 0 [some (vr a0), some (vi x1), some (vi x2), some (vi x3), some (vi x4)] [] σ 0 0 Q) : CC E mX12_stops [vr a0, vi x1, vi x2, vi x3, vi x4] σ Q := CC.of (by decide +kernel) rfl (by decide +kernel) (fun h9 => nomatch h9) (Nat.le_of_ble_eq_true rfl) h
theorem dX12_takes_0 : decode cX12_takes 0 = .ok (.aload_n 0, 1) := by decide +kernel
theorem dX12_takes_1 : decode cX12_takes 1 = .ok (.invokevirtual 121, 3) := by decide +kernel
theorem dX12_takes_4 : decode cX12_takes 4 = .ok (.ifCond .ne 5, 3) := by decide +kernel
theorem dX12_takes_7 : decode cX12_takes 7 = .ok (.iconst 0, 1) := by decide +kernel
theorem dX12_takes_8 : decode cX12_takes 8 = .ok (.ireturn, 1) := by decide +kernel
theorem dX12_takes_9 : decode cX12_takes 9 = .ok (.aload_n 0, 1) := by decide +kernel
theorem dX12_takes_10 : decode cX12_takes 10 = .ok (.invokevirtual 125, 3) := by decide +kernel
theorem dX12_takes_13 : decode cX12_takes 13 = .ok (.pop, 1) := by decide +kernel
theorem dX12_takes_14 : decode cX12_takes 14 = .ok (.iconst 0, 1) := by decide +kernel
theorem dX12_takes_15 : decode cX12_takes 15 = .ok (.istore_n 2, 1) := by decide +kernel
theorem dX12_takes_16 : decode cX12_takes 16 = .ok (.iload_n 2, 1) := by decide +kernel
theorem dX12_takes_17 : decode cX12_takes 17 = .ok (.aload_n 1, 1) := by decide +kernel
theorem dX12_takes_18 : decode cX12_takes 18 = .ok (.invokevirtual 145, 3) := by decide +kernel
theorem dX12_takes_21 : decode cX12_takes 21 = .ok (.if_icmp .ge 27, 3) := by decide +kernel
theorem dX12_takes_24 : decode cX12_takes 24 = .ok (.aload_n 0, 1) := by decide +kernel
theorem dX12_takes_25 : decode cX12_takes 25 = .ok (.aload_n 0, 1) := by decide +kernel
theorem dX12_takes_26 : decode cX12_takes 26 = .ok (.getfield 108, 3) := by decide +kernel
theorem dX12_takes_29 : decode cX12_takes 29 = .ok (.iload_n 2, 1) := by decide +kernel
theorem dX12_takes_30 : decode cX12_takes 30 = .ok (.iadd, 1) := by decide +kernel
theorem dX12_takes_31 : decode cX12_takes 31 = .ok (.invokevirtual 111, 3) := by decide +kernel
theorem dX12_takes_34 : decode cX12_takes 34 = .ok (.aload_n 1, 1) := by decide +kernel
theorem dX12_takes_35 : decode cX12_takes 35 = .ok (.iload_n 2, 1) := by decide +kernel
theorem dX12_takes_36 : decode cX12_takes 36 = .ok (.invokevirtual 150, 3) := by decide +kernel
theorem dX12_takes_39 : decode cX12_takes 39 = .ok (.if_icmp .ne 9, 3) := by decide +kernel
theorem dX12_takes_42 : decode cX12_takes 42 = .ok (.iinc 2 1, 3) := by decide +kernel
theorem dX12_takes_45 : decode cX12_takes 45 = .ok (.goto (-29), 3) := by decide +kernel
theorem dX12_takes_48 : decode cX12_takes 48 = .ok (.iload_n 2, 1) := by decide +kernel
theorem dX12_takes_49 : decode cX12_takes 49 = .ok (.aload_n 1, 1) := by decide +kernel
theorem dX12_takes_50 : decode cX12_takes 50 = .ok (.invokevirtual 145, 3) := by decide +kernel
theorem dX12_takes_53 : decode cX12_takes 53 = .ok (.if_icmp .lt 19, 3) := by decide +kernel
theorem dX12_takes_56 : decode cX12_takes 56 = .ok (.aload_n 0, 1) := by decide +kernel
theorem dX12_takes_57 : decode cX12_takes 57 = .ok (.aload_n 0, 1) := by decide +kernel
theorem dX12_takes_58 : decode cX12_takes 58 = .ok (.getfield 108, 3) := by decide +kernel
theorem dX12_takes_61 : decode cX12_takes 61 = .ok (.iload_n 2, 1) := by decide +kernel
theorem dX12_takes_62 : decode cX12_takes 62 = .ok (.iadd, 1) := by decide +kernel
theorem dX12_takes_63 : decode cX12_takes 63 = .ok (.invokevirtual 111, 3) := by decide +kernel
theorem dX12_takes_66 : decode cX12_takes 66 = .ok (.invokestatic 154, 3) := by decide +kernel
theorem dX12_takes_69 : decode cX12_takes 69 = .ok (.ifCond .eq 5, 3) := by decide +kernel
theorem dX12_takes_72 : decode cX12_takes 72 = .ok (.iconst 0, 1) := by decide +kernel
theorem dX12_takes_73 : decode cX12_takes 73 = .ok (.ireturn, 1) := by decide +kernel
theorem dX12_takes_74 : decode cX12_takes 74 = .ok (.aload_n 0, 1) := by decide +kernel
theorem dX12_takes_75 : decode cX12_takes 75 = .ok (.dup, 1) := by decide +kernel
theorem dX12_takes_76 : decode cX12_takes 76 = .ok (.getfield 108, 3) := by decide +kernel
theorem dX12_takes_79 : decode cX12_takes 79 = .ok (.iload_n 2, 1) := by decide +kernel
theorem dX12_takes_80 : decode cX12_takes 80 = .ok (.iadd, 1) := by decide +kernel
theorem dX12_takes_81 : decode cX12_takes 81 = .ok (.putfield 108, 3) := by decide +kernel
theorem dX12_takes_84 : decode cX12_takes 84 = .ok (.iconst 1, 1) := by decide +kernel
theorem dX12_takes_85 : decode cX12_takes 85 = .ok (.ireturn, 1) := by decide +kernel
theorem B_X12_takes_0 {g : Sg} {c t : Nat} (hL : Lay LM g c t σ) {a1 : Nat} (h : (Lay LM g c t σ → CC E mX12_fine [vr 172] σ (KI (fun r1 τ2 => Lay LM g c t τ2 ∧ (inR r1 → ((r1 ≠ 0 → (Lay LM g c t τ2 → CC E mX12_here [vr 172] τ2 (KI (fun r3 τ4 => Lay LM g c t τ4 ∧ (inR r3 → (Lay LM g c t τ4 → GG E mX12_takes 16 [some (vr 172), some (vr a1), some (vi 0)] [] τ4 rc rs Q))) (fun _ _ => False)))) ∧ (r1 = 0 → (Lay LM g c t τ2 → Q (.inl (some (vi 0))) τ2))))) (fun _ _ => False)))) : GG E mX12_takes 0 [some (vr 172), some (vr a1), none] [] σ rc rs Q := by
  refine r_aload_n (pc := 0) dX12_takes_0 rfl rfl ?_
  refine c_VI0N (M := mX12_takes) (pc := 1) (As := []) dX12_takes_1 K_X12_fine w_1579 ⟨by decide, by decide⟩ (Nat.le_of_ble_eq_true rfl) rfl rfl (ci := 12) rfl rfl (by decide) (okO_of (N := 42) (hL.sh (i := 0) rfl (by decide) (by decide)) (by decide)) (h hL) (fun r1 τ2 h8 hr9 => ?_) rfl
  replace hL := h8.1
  replace h := h8.2 hr9
  refine r_if_ne (pc := 4) (tgt := 9) dX12_takes_4 (by decide) (fun c9 => ?_) (fun c9 => ?_)
  · replace h := h.1 c9
    refine r_aload_n (pc := 9) dX12_takes_9 rfl rfl ?_
    refine c_VI0N (M := mX12_takes) (pc := 10) (As := []) dX12_takes_10 K_X12_here w_1566 ⟨by decide, by decide⟩ (Nat.le_of_ble_eq_true rfl) rfl rfl (ci := 12) rfl rfl (by decide) (okO_of (N := 42) (hL.sh (i := 0) rfl (by decide) (by decide)) (by decide)) (h hL) (fun r3 τ4 h8 hr9 => ?_) rfl
    replace hL := h8.1
    replace h := h8.2 hr9
    refine r_pop (pc := 13) dX12_takes_13 (fun _ h9 => nomatch h9) ?_
    refine r_iconst (pc := 14) dX12_takes_14 (inRk rfl) ?_
    refine r_istore_n (pc := 15) dX12_takes_15 rfl (by decide) (l2 := [some (vr 172), some (vr a1), some (vi 0)]) rfl ?_
    exact (h hL)
  · replace h := h.2 c9
    refine r_iconst (pc := 7) dX12_takes_7 (inRk rfl) ?_
    exact r_ireturn (pc := 8) (ty := .boolean) dX12_takes_8 (by decide +kernel) rfl (nar_bool (by decide)) (h hL)
theorem B_X12_takes_16 {g : Sg} {c t : Nat} (hL : Lay LM g c t σ) {a1 : Nat} {x2 : Int} (h : okT σ a1 ∧ (Lay LM g c t σ → CC E mJ0_length_8abf5 [vr a1] σ (KI (fun r2 τ3 => Lay LM g c t τ3 ∧ (inR r2 → ((r2 ≤ x2 → okT τ3 a1 ∧ (Lay LM g c t τ3 → CC E mJ0_length_8abf5 [vr a1] τ3 (KI (fun r5 τ6 => Lay LM g c t τ6 ∧ (inR r5 → ((x2 < r5 → (Lay LM g c t τ6 → Q (.inl (some (vi 0))) τ6)) ∧ (¬ (x2 < r5) → inR ((gI τ6 172 4) + x2) ∧ (Lay LM g c t τ6 → CC E mX12_byteAt [vr 172, vi ((gI τ6 172 4) + x2)] τ6 (KI (fun r8 τ9 => Lay LM g c t τ9 ∧ (inR r8 → (Lay LM g c t τ9 → CC E mX12_isSmall [vi r8] τ9 (KI (fun r10 τ11 => Lay LM g c t τ11 ∧ (inR r10 → ((r10 = 0 → inR ((gI τ11 172 4) + x2) ∧ ∀ τ13 : Sg, τ13 = sI τ11 172 4 ((gI τ11 172 4) + x2) → (Lay LM g c t τ13 → Q (.inl (some (vi 1))) τ13)) ∧ (¬ (r10 = 0) → (Lay LM g c t τ11 → Q (.inl (some (vi 0))) τ11))))) (fun _ _ => False))))) (fun _ _ => False))))))) (fun _ _ => False)))) ∧ (¬ (r2 ≤ x2) → inR ((gI τ3 172 4) + x2) ∧ (Lay LM g c t τ3 → CC E mX12_byteAt [vr 172, vi ((gI τ3 172 4) + x2)] τ3 (KI (fun r15 τ16 => Lay LM g c t τ16 ∧ (inR r15 → okT τ16 a1 ∧ (Lay LM g c t τ16 → CC E mJ0_charAt_5068e [vr a1, vi x2] τ16 (KI (fun r18 τ19 => Lay LM g c t τ19 ∧ (inR r18 → ((r15 ≠ r18 → okT τ19 a1 ∧ (Lay LM g c t τ19 → CC E mJ0_length_8abf5 [vr a1] τ19 (KI (fun r21 τ22 => Lay LM g c t τ22 ∧ (inR r21 → ((x2 < r21 → (Lay LM g c t τ22 → Q (.inl (some (vi 0))) τ22)) ∧ (¬ (x2 < r21) → inR ((gI τ22 172 4) + x2) ∧ (Lay LM g c t τ22 → CC E mX12_byteAt [vr 172, vi ((gI τ22 172 4) + x2)] τ22 (KI (fun r24 τ25 => Lay LM g c t τ25 ∧ (inR r24 → (Lay LM g c t τ25 → CC E mX12_isSmall [vi r24] τ25 (KI (fun r26 τ27 => Lay LM g c t τ27 ∧ (inR r26 → ((r26 = 0 → inR ((gI τ27 172 4) + x2) ∧ ∀ τ29 : Sg, τ29 = sI τ27 172 4 ((gI τ27 172 4) + x2) → (Lay LM g c t τ29 → Q (.inl (some (vi 1))) τ29)) ∧ (¬ (r26 = 0) → (Lay LM g c t τ27 → Q (.inl (some (vi 0))) τ27))))) (fun _ _ => False))))) (fun _ _ => False))))))) (fun _ _ => False)))) ∧ (r15 = r18 → inR (x2 + 1) ∧ (Lay LM g c t τ19 → GG E mX12_takes 16 [some (vr 172), some (vr a1), some (vi (x2 + 1))] [] τ19 rc rs Q))))) (fun _ _ => False))))) (fun _ _ => False))))))) (fun _ _ => False)))) : GG E mX12_takes 16 [some (vr 172), some (vr a1), some (vi x2)] [] σ rc rs Q := by
  refine r_iload_n (pc := 16) dX12_takes_16 rfl rfl ?_
  refine r_aload_n (pc := 17) dX12_takes_17 rfl rfl ?_
  obtain ⟨o1, h⟩ := h
  refine c_VSI0N (M := mX12_takes) (pc := 18) (As := []) dX12_takes_18 K_J0_length_8abf5 w_1583 ⟨by decide, by decide⟩ (Nat.le_of_ble_eq_true rfl) rfl rfl rfl o1 (h hL) (fun r2 τ3 h8 hr9 => ?_) rfl
  replace hL := h8.1
  replace h := h8.2 hr9
  refine r_icmp_ge (pc := 21) (tgt := 48) dX12_takes_21 (by decide) (fun c9 => ?_) (fun c9 => ?_)
  · replace h := h.1 c9
    refine r_iload_n (pc := 48) dX12_takes_48 rfl rfl ?_
    refine r_aload_n (pc := 49) dX12_takes_49 rfl rfl ?_
    obtain ⟨o4, h⟩ := h
    refine c_VSI0N (M := mX12_takes) (pc := 50) (As := []) dX12_takes_50 K_J0_length_8abf5 w_1583 ⟨by decide, by decide⟩ (Nat.le_of_ble_eq_true rfl) rfl rfl rfl o4 (h hL) (fun r5 τ6 h8 hr9 => ?_) rfl
    replace hL := h8.1
    replace h := h8.2 hr9
    refine r_icmp_lt (pc := 53) (tgt := 72) dX12_takes_53 (by decide) (fun c9 => ?_) (fun c9 => ?_)
    · replace h := h.1 c9
      refine r_iconst (pc := 72) dX12_takes_72 (inRk rfl) ?_
      exact r_ireturn (pc := 73) (ty := .boolean) dX12_takes_73 (by decide +kernel) rfl (nar_bool (by decide)) (h hL)
    · replace h := h.2 c9
      refine r_aload_n (pc := 56) dX12_takes_56 rfl rfl ?_
      refine r_aload_n (pc := 57) dX12_takes_57 rfl rfl ?_
      refine r_getI (pc := 58) dX12_takes_58 (k9 := 4) CL_12 (by decide) (by decide) w_1419 rfl (okO_of (N := 42) (hL.sh (i := 0) rfl (by decide) (by decide)) (by decide)) (fun _ => ?_)
      refine r_iload_n (pc := 61) dX12_takes_61 rfl rfl ?_
      obtain ⟨o7, h⟩ := h
      refine r_iadd (pc := 62) dX12_takes_62 o7 ?_
      refine c_VI0N (M := mX12_takes) (pc := 63) (As := [vi ((gI τ6 172 4) + x2)]) dX12_takes_63 K_X12_byteAt w_1570 ⟨by decide, by decide⟩ (Nat.le_of_ble_eq_true rfl) rfl rfl (ci := 12) rfl rfl (by decide) (okO_of (N := 42) (hL.sh (i := 0) rfl (by decide) (by decide)) (by decide)) (h hL) (fun r8 τ9 h8 hr9 => ?_) rfl
      replace hL := h8.1
      replace h := h8.2 hr9
      refine c_SI0N (M := mX12_takes) (pc := 66) (As := [vi r8]) dX12_takes_66 K_X12_isSmall w_1585 ⟨by decide, by decide⟩ (Nat.le_of_ble_eq_true rfl) rfl rfl (h hL) (fun r10 τ11 h8 hr9 => ?_) rfl
      replace hL := h8.1
      replace h := h8.2 hr9
      refine r_if_eq (pc := 69) (tgt := 74) dX12_takes_69 (by decide) (fun c9 => ?_) (fun c9 => ?_)
      · replace h := h.1 c9
        refine r_aload_n (pc := 74) dX12_takes_74 rfl rfl ?_
        refine r_dup (pc := 75) dX12_takes_75 (fun _ h9 => nomatch h9) ?_
        refine r_getI (pc := 76) dX12_takes_76 (k9 := 4) CL_12 (by decide) (by decide) w_1419 rfl (okO_of (N := 42) (hL.sh (i := 0) rfl (by decide) (by decide)) (by decide)) (fun _ => ?_)
        refine r_iload_n (pc := 79) dX12_takes_79 rfl rfl ?_
        obtain ⟨o12, h⟩ := h
        refine r_iadd (pc := 80) dX12_takes_80 o12 ?_
        refine r_putI (pc := 81) dX12_takes_81 (k9 := 4) CL_12 (by decide) (by decide) w_1419 rfl rfl (fun h9 => absurd h9 (by decide +kernel)) (okO_of (N := 42) (hL.sh (i := 0) rfl (by decide) (by decide)) (by decide)) ?_
        refine nmS (fun τ13 e13 => ?_)
        replace h := h τ13 e13
        have hL := hL.wI e13 (by decide) (.inl (by decide))
        refine r_iconst (pc := 84) dX12_takes_84 (inRk rfl) ?_
        exact r_ireturn (pc := 85) (ty := .boolean) dX12_takes_85 (by decide +kernel) rfl (nar_bool (by decide)) (h hL)
      · replace h := h.2 c9
        refine r_iconst (pc := 72) dX12_takes_72 (inRk rfl) ?_
        exact r_ireturn (pc := 73) (ty := .boolean) dX12_takes_73 (by decide +kernel) rfl (nar_bool (by decide)) (h hL)
  · replace h := h.2 c9
    refine r_aload_n (pc := 24) dX12_takes_24 rfl rfl ?_
    refine r_aload_n (pc := 25) dX12_takes_25 rfl rfl ?_
    refine r_getI (pc := 26) dX12_takes_26 (k9 := 4) CL_12 (by decide) (by decide) w_1419 rfl (okO_of (N := 42) (hL.sh (i := 0) rfl (by decide) (by decide)) (by decide)) (fun _ => ?_)
    refine r_iload_n (pc := 29) dX12_takes_29 rfl rfl ?_
    obtain ⟨o14, h⟩ := h
    refine r_iadd (pc := 30) dX12_takes_30 o14 ?_
    refine c_VI0N (M := mX12_takes) (pc := 31) (As := [vi ((gI τ3 172 4) + x2)]) dX12_takes_31 K_X12_byteAt w_1570 ⟨by decide, by decide⟩ (Nat.le_of_ble_eq_true rfl) rfl rfl (ci := 12) rfl rfl (by decide) (okO_of (N := 42) (hL.sh (i := 0) rfl (by decide) (by decide)) (by decide)) (h hL) (fun r15 τ16 h8 hr9 => ?_) rfl
    replace hL := h8.1
    replace h := h8.2 hr9
    refine r_aload_n (pc := 34) dX12_takes_34 rfl rfl ?_
    refine r_iload_n (pc := 35) dX12_takes_35 rfl rfl ?_
    obtain ⟨o17, h⟩ := h
    refine c_VSI0N (M := mX12_takes) (pc := 36) (As := [vi x2]) dX12_takes_36 K_J0_charAt_5068e w_1584 ⟨by decide, by decide⟩ (Nat.le_of_ble_eq_true rfl) rfl rfl rfl o17 (h hL) (fun r18 τ19 h8 hr9 => ?_) rfl
    replace hL := h8.1
    replace h := h8.2 hr9
    refine r_icmp_ne (pc := 39) (tgt := 48) dX12_takes_39 (by decide) (fun c9 => ?_) (fun c9 => ?_)
    · replace h := h.1 c9
      refine r_iload_n (pc := 48) dX12_takes_48 rfl rfl ?_
      refine r_aload_n (pc := 49) dX12_takes_49 rfl rfl ?_
      obtain ⟨o20, h⟩ := h
      refine c_VSI0N (M := mX12_takes) (pc := 50) (As := []) dX12_takes_50 K_J0_length_8abf5 w_1583 ⟨by decide, by decide⟩ (Nat.le_of_ble_eq_true rfl) rfl rfl rfl o20 (h hL) (fun r21 τ22 h8 hr9 => ?_) rfl
      replace hL := h8.1
      replace h := h8.2 hr9
      refine r_icmp_lt (pc := 53) (tgt := 72) dX12_takes_53 (by decide) (fun c9 => ?_) (fun c9 => ?_)
      · replace h := h.1 c9
        refine r_iconst (pc := 72) dX12_takes_72 (inRk rfl) ?_
        exact r_ireturn (pc := 73) (ty := .boolean) dX12_takes_73 (by decide +kernel) rfl (nar_bool (by decide)) (h hL)
      · replace h := h.2 c9
        refine r_aload_n (pc := 56) dX12_takes_56 rfl rfl ?_
        refine r_aload_n (pc := 57) dX12_takes_57 rfl rfl ?_
        refine r_getI (pc := 58) dX12_takes_58 (k9 := 4) CL_12 (by decide) (by decide) w_1419 rfl (okO_of (N := 42) (hL.sh (i := 0) rfl (by decide) (by decide)) (by decide)) (fun _ => ?_)
        refine r_iload_n (pc := 61) dX12_takes_61 rfl rfl ?_
        obtain ⟨o23, h⟩ := h
        refine r_iadd (pc := 62) dX12_takes_62 o23 ?_
        refine c_VI0N (M := mX12_takes) (pc := 63) (As := [vi ((gI τ22 172 4) + x2)]) dX12_takes_63 K_X12_byteAt w_1570 ⟨by decide, by decide⟩ (Nat.le_of_ble_eq_true rfl) rfl rfl (ci := 12) rfl rfl (by decide) (okO_of (N := 42) (hL.sh (i := 0) rfl (by decide) (by decide)) (by decide)) (h hL) (fun r24 τ25 h8 hr9 => ?_) rfl
        replace hL := h8.1
        replace h := h8.2 hr9
        refine c_SI0N (M := mX12_takes) (pc := 66) (As := [vi r24]) dX12_takes_66 K_X12_isSmall w_1585 ⟨by decide, by decide⟩ (Nat.le_of_ble_eq_true rfl) rfl rfl (h hL) (fun r26 τ27 h8 hr9 => ?_) rfl
        replace hL := h8.1
        replace h := h8.2 hr9
        refine r_if_eq (pc := 69) (tgt := 74) dX12_takes_69 (by decide) (fun c9 => ?_) (fun c9 => ?_)
        · replace h := h.1 c9
          refine r_aload_n (pc := 74) dX12_takes_74 rfl rfl ?_
          refine r_dup (pc := 75) dX12_takes_75 (fun _ h9 => nomatch h9) ?_
          refine r_getI (pc := 76) dX12_takes_76 (k9 := 4) CL_12 (by decide) (by decide) w_1419 rfl (okO_of (N := 42) (hL.sh (i := 0) rfl (by decide) (by decide)) (by decide)) (fun _ => ?_)
          refine r_iload_n (pc := 79) dX12_takes_79 rfl rfl ?_
          obtain ⟨o28, h⟩ := h
          refine r_iadd (pc := 80) dX12_takes_80 o28 ?_
          refine r_putI (pc := 81) dX12_takes_81 (k9 := 4) CL_12 (by decide) (by decide) w_1419 rfl rfl (fun h9 => absurd h9 (by decide +kernel)) (okO_of (N := 42) (hL.sh (i := 0) rfl (by decide) (by decide)) (by decide)) ?_
          refine nmS (fun τ29 e29 => ?_)
          replace h := h τ29 e29
          have hL := hL.wI e29 (by decide) (.inl (by decide))
          refine r_iconst (pc := 84) dX12_takes_84 (inRk rfl) ?_
          exact r_ireturn (pc := 85) (ty := .boolean) dX12_takes_85 (by decide +kernel) rfl (nar_bool (by decide)) (h hL)
        · replace h := h.2 c9
          refine r_iconst (pc := 72) dX12_takes_72 (inRk rfl) ?_
          exact r_ireturn (pc := 73) (ty := .boolean) dX12_takes_73 (by decide +kernel) rfl (nar_bool (by decide)) (h hL)
    · replace h := h.2 c9
      obtain ⟨o30, h⟩ := h
      refine r_iinc (pc := 42) dX12_takes_42 rfl (by decide) o30 (l2 := [some (vr 172), some (vr a1), some (vi (x2 + 1))]) rfl ?_
      refine r_goto (pc := 45) (tgt := 16) dX12_takes_45 (by decide) ?_
      exact (h hL)
theorem C_X12_takes {a0 : Nat} {a1 : Nat} (h : GG E mX12_takes 0 [some (vr a0), some (vr a1), none] [] σ 0 0 Q) : CC E mX12_takes [vr a0, vr a1] σ Q := CC.of (by decide +kernel) rfl (by decide +kernel) (fun h9 => nomatch h9) (Nat.le_of_ble_eq_true rfl) h
theorem dX12_takesRow_0 : decode cX12_takesRow 0 = .ok (.iconst 0, 1) := by decide +kernel
theorem dX12_takesRow_1 : decode cX12_takesRow 1 = .ok (.istore_n 1, 1) := by decide +kernel
theorem dX12_takesRow_2 : decode cX12_takesRow 2 = .ok (.aload_n 0, 1) := by decide +kernel
theorem dX12_takesRow_3 : decode cX12_takesRow 3 = .ok (.getfield 64, 3) := by decide +kernel
theorem dX12_takesRow_6 : decode cX12_takesRow 6 = .ok (.iload_n 1, 1) := by decide +kernel
theorem dX12_takesRow_7 : decode cX12_takesRow 7 = .ok (.iaload, 1) := by decide +kernel
theorem dX12_takesRow_8 : decode cX12_takesRow 8 = .ok (.ifCond .ne 9, 3) := by decide +kernel
theorem dX12_takesRow_11 : decode cX12_takesRow 11 = .ok (.iinc 1 1, 3) := by decide +kernel
theorem dX12_takesRow_14 : decode cX12_takesRow 14 = .ok (.goto (-12), 3) := by decide +kernel
theorem dX12_takesRow_17 : decode cX12_takesRow 17 = .ok (.aload_n 0, 1) := by decide +kernel
theorem dX12_takesRow_18 : decode cX12_takesRow 18 = .ok (.getfield 70, 3) := by decide +kernel
theorem dX12_takesRow_21 : decode cX12_takesRow 21 = .ok (.aload_n 0, 1) := by decide +kernel
theorem dX12_takesRow_22 : decode cX12_takesRow 22 = .ok (.getfield 257, 3) := by decide +kernel
theorem dX12_takesRow_25 : decode cX12_takesRow 25 = .ok (.aaload, 1) := by decide +kernel
theorem dX12_takesRow_26 : decode cX12_takesRow 26 = .ok (.astore_n 2, 1) := by decide +kernel
theorem dX12_takesRow_27 : decode cX12_takesRow 27 = .ok (.iconst 0, 1) := by decide +kernel
theorem dX12_takesRow_28 : decode cX12_takesRow 28 = .ok (.istore_n 3, 1) := by decide +kernel
theorem dX12_takesRow_29 : decode cX12_takesRow 29 = .ok (.iload_n 3, 1) := by decide +kernel
theorem dX12_takesRow_30 : decode cX12_takesRow 30 = .ok (.aload_n 0, 1) := by decide +kernel
theorem dX12_takesRow_31 : decode cX12_takesRow 31 = .ok (.getfield 231, 3) := by decide +kernel
theorem dX12_takesRow_34 : decode cX12_takesRow 34 = .ok (.if_icmp .ge 78, 3) := by decide +kernel
theorem dX12_takesRow_37 : decode cX12_takesRow 37 = .ok (.lconst 0, 1) := by decide +kernel
theorem dX12_takesRow_38 : decode cX12_takesRow 38 = .ok (.lstore 4, 2) := by decide +kernel
theorem dX12_takesRow_40 : decode cX12_takesRow 40 = .ok (.iconst 0, 1) := by decide +kernel
theorem dX12_takesRow_41 : decode cX12_takesRow 41 = .ok (.istore 6, 2) := by decide +kernel
theorem dX12_takesRow_43 : decode cX12_takesRow 43 = .ok (.iload 6, 2) := by decide +kernel
theorem dX12_takesRow_45 : decode cX12_takesRow 45 = .ok (.aload_n 0, 1) := by decide +kernel
theorem dX12_takesRow_46 : decode cX12_takesRow 46 = .ok (.getfield 231, 3) := by decide +kernel
theorem dX12_takesRow_49 : decode cX12_takesRow 49 = .ok (.if_icmp .ge 38, 3) := by decide +kernel
theorem dX12_takesRow_52 : decode cX12_takesRow 52 = .ok (.lload 4, 2) := by decide +kernel
theorem dX12_takesRow_54 : decode cX12_takesRow 54 = .ok (.aload_n 0, 1) := by decide +kernel
theorem dX12_takesRow_55 : decode cX12_takesRow 55 = .ok (.getfield 55, 3) := by decide +kernel
theorem dX12_takesRow_58 : decode cX12_takesRow 58 = .ok (.bipush 48, 2) := by decide +kernel
theorem dX12_takesRow_60 : decode cX12_takesRow 60 = .ok (.iload_n 3, 1) := by decide +kernel
theorem dX12_takesRow_61 : decode cX12_takesRow 61 = .ok (.imul, 1) := by decide +kernel
theorem dX12_takesRow_62 : decode cX12_takesRow 62 = .ok (.iload 6, 2) := by decide +kernel
theorem dX12_takesRow_64 : decode cX12_takesRow 64 = .ok (.iadd, 1) := by decide +kernel
theorem dX12_takesRow_65 : decode cX12_takesRow 65 = .ok (.aaload, 1) := by decide +kernel
theorem dX12_takesRow_66 : decode cX12_takesRow 66 = .ok (.iload_n 1, 1) := by decide +kernel
theorem dX12_takesRow_67 : decode cX12_takesRow 67 = .ok (.iaload, 1) := by decide +kernel
theorem dX12_takesRow_68 : decode cX12_takesRow 68 = .ok (.i2l, 1) := by decide +kernel
theorem dX12_takesRow_69 : decode cX12_takesRow 69 = .ok (.aload_n 0, 1) := by decide +kernel
theorem dX12_takesRow_70 : decode cX12_takesRow 70 = .ok (.getfield 64, 3) := by decide +kernel
theorem dX12_takesRow_73 : decode cX12_takesRow 73 = .ok (.iload 6, 2) := by decide +kernel
theorem dX12_takesRow_75 : decode cX12_takesRow 75 = .ok (.iaload, 1) := by decide +kernel
theorem dX12_takesRow_76 : decode cX12_takesRow 76 = .ok (.i2l, 1) := by decide +kernel
theorem dX12_takesRow_77 : decode cX12_takesRow 77 = .ok (.lmul, 1) := by decide +kernel
theorem dX12_takesRow_78 : decode cX12_takesRow 78 = .ok (.ladd, 1) := by decide +kernel
theorem dX12_takesRow_79 : decode cX12_takesRow 79 = .ok (.lstore 4, 2) := by decide +kernel
theorem dX12_takesRow_81 : decode cX12_takesRow 81 = .ok (.iinc 6 1, 3) := by decide +kernel
theorem dX12_takesRow_84 : decode cX12_takesRow 84 = .ok (.goto (-41), 3) := by decide +kernel
theorem dX12_takesRow_87 : decode cX12_takesRow 87 = .ok (.aload_n 2, 1) := by decide +kernel
theorem dX12_takesRow_88 : decode cX12_takesRow 88 = .ok (.iload_n 3, 1) := by decide +kernel
theorem dX12_takesRow_89 : decode cX12_takesRow 89 = .ok (.aload_n 0, 1) := by decide +kernel
theorem dX12_takesRow_90 : decode cX12_takesRow 90 = .ok (.aload_n 0, 1) := by decide +kernel
theorem dX12_takesRow_91 : decode cX12_takesRow 91 = .ok (.lload 4, 2) := by decide +kernel
theorem dX12_takesRow_93 : decode cX12_takesRow 93 = .ok (.invokevirtual 250, 3) := by decide +kernel
theorem dX12_takesRow_96 : decode cX12_takesRow 96 = .ok (.aload_n 0, 1) := by decide +kernel
theorem dX12_takesRow_97 : decode cX12_takesRow 97 = .ok (.getfield 64, 3) := by decide +kernel
theorem dX12_takesRow_100 : decode cX12_takesRow 100 = .ok (.iload_n 1, 1) := by decide +kernel
theorem dX12_takesRow_101 : decode cX12_takesRow 101 = .ok (.iaload, 1) := by decide +kernel
theorem dX12_takesRow_102 : decode cX12_takesRow 102 = .ok (.invokevirtual 254, 3) := by decide +kernel
theorem dX12_takesRow_105 : decode cX12_takesRow 105 = .ok (.iastore, 1) := by decide +kernel
theorem dX12_takesRow_106 : decode cX12_takesRow 106 = .ok (.iinc 3 1, 3) := by decide +kernel
theorem dX12_takesRow_109 : decode cX12_takesRow 109 = .ok (.goto (-80), 3) := by decide +kernel
theorem dX12_takesRow_112 : decode cX12_takesRow 112 = .ok (.lconst 0, 1) := by decide +kernel
theorem dX12_takesRow_113 : decode cX12_takesRow 113 = .ok (.lstore_n 3, 1) := by decide +kernel
theorem dX12_takesRow_114 : decode cX12_takesRow 114 = .ok (.iconst 0, 1) := by decide +kernel
theorem dX12_takesRow_115 : decode cX12_takesRow 115 = .ok (.istore 5, 2) := by decide +kernel
theorem dX12_takesRow_117 : decode cX12_takesRow 117 = .ok (.iload 5, 2) := by decide +kernel
theorem dX12_takesRow_119 : decode cX12_takesRow 119 = .ok (.aload_n 0, 1) := by decide +kernel
theorem dX12_takesRow_120 : decode cX12_takesRow 120 = .ok (.getfield 231, 3) := by decide +kernel
theorem dX12_takesRow_123 : decode cX12_takesRow 123 = .ok (.if_icmp .ge 49, 3) := by decide +kernel
theorem dX12_takesRow_126 : decode cX12_takesRow 126 = .ok (.lload_n 3, 1) := by decide +kernel
theorem dX12_takesRow_127 : decode cX12_takesRow 127 = .ok (.aload_n 2, 1) := by decide +kernel
theorem dX12_takesRow_128 : decode cX12_takesRow 128 = .ok (.iload 5, 2) := by decide +kernel
theorem dX12_takesRow_130 : decode cX12_takesRow 130 = .ok (.iaload, 1) := by decide +kernel
theorem dX12_takesRow_131 : decode cX12_takesRow 131 = .ok (.i2l, 1) := by decide +kernel
theorem dX12_takesRow_132 : decode cX12_takesRow 132 = .ok (.aload_n 0, 1) := by decide +kernel
theorem dX12_takesRow_133 : decode cX12_takesRow 133 = .ok (.aload_n 2, 1) := by decide +kernel
theorem dX12_takesRow_134 : decode cX12_takesRow 134 = .ok (.aload_n 0, 1) := by decide +kernel
theorem dX12_takesRow_135 : decode cX12_takesRow 135 = .ok (.getfield 46, 3) := by decide +kernel
theorem dX12_takesRow_138 : decode cX12_takesRow 138 = .ok (.aload_n 0, 1) := by decide +kernel
theorem dX12_takesRow_139 : decode cX12_takesRow 139 = .ok (.getfield 43, 3) := by decide +kernel
theorem dX12_takesRow_142 : decode cX12_takesRow 142 = .ok (.aload_n 0, 1) := by decide +kernel
theorem dX12_takesRow_143 : decode cX12_takesRow 143 = .ok (.getfield 49, 3) := by decide +kernel
theorem dX12_takesRow_146 : decode cX12_takesRow 146 = .ok (.iload 5, 2) := by decide +kernel
theorem dX12_takesRow_148 : decode cX12_takesRow 148 = .ok (.iaload, 1) := by decide +kernel
theorem dX12_takesRow_149 : decode cX12_takesRow 149 = .ok (.iaload, 1) := by decide +kernel
theorem dX12_takesRow_150 : decode cX12_takesRow 150 = .ok (.iaload, 1) := by decide +kernel
theorem dX12_takesRow_151 : decode cX12_takesRow 151 = .ok (.iaload, 1) := by decide +kernel
theorem dX12_takesRow_152 : decode cX12_takesRow 152 = .ok (.aload_n 0, 1) := by decide +kernel
theorem dX12_takesRow_153 : decode cX12_takesRow 153 = .ok (.getfield 52, 3) := by decide +kernel
theorem dX12_takesRow_156 : decode cX12_takesRow 156 = .ok (.iload 5, 2) := by decide +kernel
theorem dX12_takesRow_158 : decode cX12_takesRow 158 = .ok (.iaload, 1) := by decide +kernel
theorem dX12_takesRow_159 : decode cX12_takesRow 159 = .ok (.invokevirtual 254, 3) := by decide +kernel
theorem dX12_takesRow_162 : decode cX12_takesRow 162 = .ok (.i2l, 1) := by decide +kernel
theorem dX12_takesRow_163 : decode cX12_takesRow 163 = .ok (.lmul, 1) := by decide +kernel
theorem dX12_takesRow_164 : decode cX12_takesRow 164 = .ok (.ladd, 1) := by decide +kernel
theorem dX12_takesRow_165 : decode cX12_takesRow 165 = .ok (.lstore_n 3, 1) := by decide +kernel
theorem dX12_takesRow_166 : decode cX12_takesRow 166 = .ok (.iinc 5 1, 3) := by decide +kernel
theorem dX12_takesRow_169 : decode cX12_takesRow 169 = .ok (.goto (-52), 3) := by decide +kernel
theorem dX12_takesRow_172 : decode cX12_takesRow 172 = .ok (.iconst 1, 1) := by decide +kernel
theorem dX12_takesRow_173 : decode cX12_takesRow 173 = .ok (.istore 5, 2) := by decide +kernel
theorem dX12_takesRow_175 : decode cX12_takesRow 175 = .ok (.iload 5, 2) := by decide +kernel
theorem dX12_takesRow_177 : decode cX12_takesRow 177 = .ok (.bipush 10, 2) := by decide +kernel
theorem dX12_takesRow_179 : decode cX12_takesRow 179 = .ok (.if_icmp .ge 36, 3) := by decide +kernel
theorem dX12_takesRow_182 : decode cX12_takesRow 182 = .ok (.aload_n 0, 1) := by decide +kernel
theorem dX12_takesRow_183 : decode cX12_takesRow 183 = .ok (.iload 5, 2) := by decide +kernel
theorem dX12_takesRow_185 : decode cX12_takesRow 185 = .ok (.i2l, 1) := by decide +kernel
theorem dX12_takesRow_186 : decode cX12_takesRow 186 = .ok (.iload 5, 2) := by decide +kernel
theorem dX12_takesRow_188 : decode cX12_takesRow 188 = .ok (.i2l, 1) := by decide +kernel
theorem dX12_takesRow_189 : decode cX12_takesRow 189 = .ok (.lmul, 1) := by decide +kernel
theorem dX12_takesRow_190 : decode cX12_takesRow 190 = .ok (.aload_n 0, 1) := by decide +kernel
theorem dX12_takesRow_191 : decode cX12_takesRow 191 = .ok (.lload_n 3, 1) := by decide +kernel
theorem dX12_takesRow_192 : decode cX12_takesRow 192 = .ok (.invokevirtual 250, 3) := by decide +kernel
theorem dX12_takesRow_195 : decode cX12_takesRow 195 = .ok (.i2l, 1) := by decide +kernel
theorem dX12_takesRow_196 : decode cX12_takesRow 196 = .ok (.lmul, 1) := by decide +kernel
theorem dX12_takesRow_197 : decode cX12_takesRow 197 = .ok (.aload_n 0, 1) := by decide +kernel
theorem dX12_takesRow_198 : decode cX12_takesRow 198 = .ok (.getfield 192, 3) := by decide +kernel
theorem dX12_takesRow_201 : decode cX12_takesRow 201 = .ok (.i2l, 1) := by decide +kernel
theorem dX12_takesRow_202 : decode cX12_takesRow 202 = .ok (.lsub, 1) := by decide +kernel
theorem dX12_takesRow_203 : decode cX12_takesRow 203 = .ok (.invokevirtual 250, 3) := by decide +kernel
theorem dX12_takesRow_206 : decode cX12_takesRow 206 = .ok (.ifCond .eq 9, 3) := by decide +kernel
theorem dX12_takesRow_209 : decode cX12_takesRow 209 = .ok (.iinc 5 1, 3) := by decide +kernel
theorem dX12_takesRow_212 : decode cX12_takesRow 212 = .ok (.goto (-37), 3) := by decide +kernel
theorem dX12_takesRow_215 : decode cX12_takesRow 215 = .ok (.aload_n 0, 1) := by decide +kernel
theorem dX12_takesRow_216 : decode cX12_takesRow 216 = .ok (.getfield 73, 3) := by decide +kernel
theorem dX12_takesRow_219 : decode cX12_takesRow 219 = .ok (.aload_n 0, 1) := by decide +kernel
theorem dX12_takesRow_220 : decode cX12_takesRow 220 = .ok (.getfield 257, 3) := by decide +kernel
theorem dX12_takesRow_223 : decode cX12_takesRow 223 = .ok (.iload 5, 2) := by decide +kernel
theorem dX12_takesRow_225 : decode cX12_takesRow 225 = .ok (.iastore, 1) := by decide +kernel
theorem dX12_takesRow_226 : decode cX12_takesRow 226 = .ok (.iconst 0, 1) := by decide +kernel
theorem dX12_takesRow_227 : decode cX12_takesRow 227 = .ok (.istore 6, 2) := by decide +kernel
theorem dX12_takesRow_229 : decode cX12_takesRow 229 = .ok (.iload 6, 2) := by decide +kernel
theorem dX12_takesRow_231 : decode cX12_takesRow 231 = .ok (.aload_n 0, 1) := by decide +kernel
theorem dX12_takesRow_232 : decode cX12_takesRow 232 = .ok (.getfield 231, 3) := by decide +kernel
theorem dX12_takesRow_235 : decode cX12_takesRow 235 = .ok (.if_icmp .ge 37, 3) := by decide +kernel
theorem dX12_takesRow_238 : decode cX12_takesRow 238 = .ok (.aload_n 2, 1) := by decide +kernel
theorem dX12_takesRow_239 : decode cX12_takesRow 239 = .ok (.iload 6, 2) := by decide +kernel
theorem dX12_takesRow_241 : decode cX12_takesRow 241 = .ok (.aload_n 0, 1) := by decide +kernel
theorem dX12_takesRow_242 : decode cX12_takesRow 242 = .ok (.aload_n 0, 1) := by decide +kernel
theorem dX12_takesRow_243 : decode cX12_takesRow 243 = .ok (.iload 5, 2) := by decide +kernel
theorem dX12_takesRow_245 : decode cX12_takesRow 245 = .ok (.i2l, 1) := by decide +kernel
theorem dX12_takesRow_246 : decode cX12_takesRow 246 = .ok (.aload_n 2, 1) := by decide +kernel
theorem dX12_takesRow_247 : decode cX12_takesRow 247 = .ok (.iload 6, 2) := by decide +kernel
theorem dX12_takesRow_249 : decode cX12_takesRow 249 = .ok (.iaload, 1) := by decide +kernel
theorem dX12_takesRow_250 : decode cX12_takesRow 250 = .ok (.i2l, 1) := by decide +kernel
theorem dX12_takesRow_251 : decode cX12_takesRow 251 = .ok (.lmul, 1) := by decide +kernel
theorem dX12_takesRow_252 : decode cX12_takesRow 252 = .ok (.invokevirtual 250, 3) := by decide +kernel
theorem dX12_takesRow_255 : decode cX12_takesRow 255 = .ok (.aload_n 0, 1) := by decide +kernel
theorem dX12_takesRow_256 : decode cX12_takesRow 256 = .ok (.getfield 52, 3) := by decide +kernel
theorem dX12_takesRow_259 : decode cX12_takesRow 259 = .ok (.iload 6, 2) := by decide +kernel
theorem dX12_takesRow_261 : decode cX12_takesRow 261 = .ok (.iaload, 1) := by decide +kernel
theorem dX12_takesRow_262 : decode cX12_takesRow 262 = .ok (.invokevirtual 254, 3) := by decide +kernel
theorem dX12_takesRow_265 : decode cX12_takesRow 265 = .ok (.iastore, 1) := by decide +kernel
theorem dX12_takesRow_266 : decode cX12_takesRow 266 = .ok (.iinc 6 1, 3) := by decide +kernel
theorem dX12_takesRow_269 : decode cX12_takesRow 269 = .ok (.goto (-40), 3) := by decide +kernel
theorem dX12_takesRow_272 : decode cX12_takesRow 272 = .ok (.aload_n 0, 1) := by decide +kernel
theorem dX12_takesRow_273 : decode cX12_takesRow 273 = .ok (.dup, 1) := by decide +kernel
theorem dX12_takesRow_274 : decode cX12_takesRow 274 = .ok (.getfield 257, 3) := by decide +kernel
theorem dX12_takesRow_277 : decode cX12_takesRow 277 = .ok (.iconst 1, 1) := by decide +kernel
theorem dX12_takesRow_278 : decode cX12_takesRow 278 = .ok (.iadd, 1) := by decide +kernel
theorem dX12_takesRow_279 : decode cX12_takesRow 279 = .ok (.putfield 257, 3) := by decide +kernel
theorem dX12_takesRow_282 : decode cX12_takesRow 282 = .ok (.return_, 1) := by decide +kernel
theorem B_X12_takesRow_0 {g : Sg} {c t : Nat} (hL : Lay LM g c t σ)  (h : (Lay LM g c t σ → GG E mX12_takesRow 2 [some (vr 172), some (vi 0), none, none, none, none, none] [] σ rc rs Q)) : GG E mX12_takesRow 0 [some (vr 172), none, none, none, none, none, none] [] σ rc rs Q := by
  refine r_iconst (pc := 0) dX12_takesRow_0 (inRk rfl) ?_
  refine r_istore_n (pc := 1) dX12_takesRow_1 rfl (by decide) (l2 := [some (vr 172), some (vi 0), none, none, none, none, none]) rfl ?_
  exact (h hL)
theorem B_X12_takesRow_2 {g : Sg} {c t : Nat} (hL : Lay LM g c t σ) {x1 : Int} (h : (0 ≤ x1 ∧ x1 < 48) ∧ (((gI σ 2911 x1.toNat) ≠ 0 → (0 ≤ (gI σ 172 35) ∧ (gI σ 172 35) < 48) ∧ ∀ b3 : Nat, b3 = gR σ 2913 (gI σ 172 35).toNat → (2914 ≤ b3 ∧ b3 < 2962) → (Lay LM g c t σ → GG E mX12_takesRow 29 [some (vr 172), some (vi x1), some (vr b3), some (vi 0), none, none, none] [] σ rc rs Q)) ∧ ((gI σ 2911 x1.toNat) = 0 → inR (x1 + 1) ∧ (Lay LM g c t σ → GG E mX12_takesRow 2 [some (vr 172), some (vi (x1 + 1)), none, none, none, none, none] [] σ rc rs Q)))) : GG E mX12_takesRow 2 [some (vr 172), some (vi x1), none, none, none, none, none] [] σ rc rs Q := by
  refine r_aload_n (pc := 2) dX12_takesRow_2 rfl rfl ?_
  refine r_getR (pc := 3) dX12_takesRow_3 (k9 := 31) CL_12 (by decide) (by decide) w_1446 rfl (okO_of (N := 42) (hL.sh (i := 0) rfl (by decide) (by decide)) (by decide)) ?_
  refine eqR (y := 2911) (hL.rf (i := 16) rfl) ?_
  refine r_iload_n (pc := 6) dX12_takesRow_6 rfl rfl ?_
  obtain ⟨o1, h⟩ := h
  refine r_iaload (pc := 7) dX12_takesRow_7 (okA_of (c := 20) (n := 48) (hL.sh (i := 23) rfl (by decide) (by decide)) (by decide) o1) ?_
  refine r_if_ne (pc := 8) (tgt := 17) dX12_takesRow_8 (by decide) (fun c9 => ?_) (fun c9 => ?_)
  · replace h := h.1 c9
    refine r_aload_n (pc := 17) dX12_takesRow_17 rfl rfl ?_
    refine r_getR (pc := 18) dX12_takesRow_18 (k9 := 33) CL_12 (by decide) (by decide) w_1448 rfl (okO_of (N := 42) (hL.sh (i := 0) rfl (by decide) (by decide)) (by decide)) ?_
    refine eqR (y := 2913) (hL.rf (i := 18) rfl) ?_
    refine r_aload_n (pc := 21) dX12_takesRow_21 rfl rfl ?_
    refine r_getI (pc := 22) dX12_takesRow_22 (k9 := 35) CL_12 (by decide) (by decide) w_1450 rfl (okO_of (N := 42) (hL.sh (i := 0) rfl (by decide) (by decide)) (by decide)) (fun _ => ?_)
    obtain ⟨o2, h⟩ := h
    refine r_aaload (pc := 25) dX12_takesRow_25 (okB_of (c := 24) (n := 48) (hL.sh (i := 25) rfl (by decide) (by decide)) (by decide) o2) ?_
    refine nmR (fun b3 e9 => ?_)
    have q4 : (2914 ≤ b3 ∧ b3 < 2962) := e9 ▸ hL.rsw (i := 1) rfl (rowC o2 (by decide))
    replace h := h b3 e9 q4
    refine r_astore_n (pc := 26) dX12_takesRow_26 rfl (by decide) (l2 := [some (vr 172), some (vi x1), some (vr b3), none, none, none, none]) rfl ?_
    refine r_iconst (pc := 27) dX12_takesRow_27 (inRk rfl) ?_
    refine r_istore_n (pc := 28) dX12_takesRow_28 rfl (by decide) (l2 := [some (vr 172), some (vi x1), some (vr b3), some (vi 0), none, none, none]) rfl ?_
    exact (h hL)
  · replace h := h.2 c9
    obtain ⟨o5, h⟩ := h
    refine r_iinc (pc := 11) dX12_takesRow_11 rfl (by decide) o5 (l2 := [some (vr 172), some (vi (x1 + 1)), none, none, none, none, none]) rfl ?_
    refine r_goto (pc := 14) (tgt := 2) dX12_takesRow_14 (by decide) ?_
    exact (h hL)
theorem B_X12_takesRow_29 {g : Sg} {c t : Nat} (hL : Lay LM g c t σ) {x1 : Int} {a2 : Nat} (qa2 : 2914 ≤ a2 ∧ a2 < 2962) {x3 : Int} (h : (((gI σ 172 16) ≤ x3 → (Lay LM g c t σ → GG E mX12_takesRow 117 [some (vr 172), none, some (vr a2), some (vl 0), none, some (vi 0), none] [] σ rc rs Q)) ∧ (¬ ((gI σ 172 16) ≤ x3) → (Lay LM g c t σ → GG E mX12_takesRow 43 [some (vr 172), some (vi x1), some (vr a2), some (vi x3), some (vl 0), none, some (vi 0)] [] σ rc rs Q)))) : GG E mX12_takesRow 29 [some (vr 172), some (vi x1), some (vr a2), some (vi x3), none, none, none] [] σ rc rs Q := by
  refine r_iload_n (pc := 29) dX12_takesRow_29 rfl rfl ?_
  refine r_aload_n (pc := 30) dX12_takesRow_30 rfl rfl ?_
  refine r_getI (pc := 31) dX12_takesRow_31 (k9 := 16) CL_12 (by decide) (by decide) w_1431 rfl (okO_of (N := 42) (hL.sh (i := 0) rfl (by decide) (by decide)) (by decide)) (fun _ => ?_)
  refine r_icmp_ge (pc := 34) (tgt := 112) dX12_takesRow_34 (by decide) (fun c9 => ?_) (fun c9 => ?_)
  · replace h := h.1 c9
    refine r_lconst (pc := 112) (x := 0) dX12_takesRow_112 rfl ?_
    refine r_lstore_n (pc := 113) dX12_takesRow_113 rfl (by decide) (l2 := [some (vr 172), some (vi x1), some (vr a2), some (vl 0), none, none, none]) rfl ?_
    refine r_iconst (pc := 114) dX12_takesRow_114 (inRk rfl) ?_
    refine r_istore (pc := 115) dX12_takesRow_115 (by decide) (l2 := [some (vr 172), some (vi x1), some (vr a2), some (vl 0), none, some (vi 0), none]) rfl ?_
    exact GG.msk [true, false, true, true, false, true, false] (h hL)
  · replace h := h.2 c9
    refine r_lconst (pc := 37) (x := 0) dX12_takesRow_37 rfl ?_
    refine r_lstore (pc := 38) dX12_takesRow_38 (by decide) (l2 := [some (vr 172), some (vi x1), some (vr a2), some (vi x3), some (vl 0), none, none]) rfl ?_
    refine r_iconst (pc := 40) dX12_takesRow_40 (inRk rfl) ?_
    refine r_istore (pc := 41) dX12_takesRow_41 (by decide) (l2 := [some (vr 172), some (vi x1), some (vr a2), some (vi x3), some (vl 0), none, some (vi 0)]) rfl ?_
    exact (h hL)
theorem B_X12_takesRow_43 {g : Sg} {c t : Nat} (hL : Lay LM g c t σ) {x1 : Int} {a2 : Nat} (qa2 : 2914 ≤ a2 ∧ a2 < 2962) {x3 : Int} {y4 : Int} {x6 : Int} (h : (((gI σ 172 16) ≤ x6 → (Lay LM g c t σ → CC E mX12_mod [vr 172, vl y4] σ (KI (fun r1 τ2 => Lay LM g c t τ2 ∧ (inR r1 → (0 ≤ x1 ∧ x1 < 48) ∧ (Lay LM g c t τ2 → CC E mX12_over [vr 172, vi r1, vi (gI τ2 2911 x1.toNat)] τ2 (KI (fun r4 τ5 => Lay LM g c t τ5 ∧ (inR r4 → (0 ≤ x3 ∧ x3 < 48) ∧ ∀ τ7 : Sg, τ7 = sI τ5 a2 x3.toNat r4 → inR (x3 + 1) ∧ (Lay LM g c t τ7 → GG E mX12_takesRow 29 [some (vr 172), some (vi x1), some (vr a2), some (vi (x3 + 1)), none, none, none] [] τ7 rc rs Q))) (fun _ _ => False))))) (fun _ _ => False)))) ∧ (¬ ((gI σ 172 16) ≤ x6) → inR (48 * x3) ∧ inR ((48 * x3) + x6) ∧ (0 ≤ ((48 * x3) + x6) ∧ ((48 * x3) + x6) < 2304) ∧ (0 ≤ x1 ∧ x1 < 48) ∧ (0 ≤ x6 ∧ x6 < 48) ∧ ∀ v15 : Int, v15 = wL ((gI σ (557 + ((48 * x3) + x6).toNat) x1.toNat) * (gI σ 2911 x6.toNat)) → inR (x6 + 1) ∧ (Lay LM g c t σ → GG E mX12_takesRow 43 [some (vr 172), some (vi x1), some (vr a2), some (vi x3), some (vl (wL (y4 + v15))), none, some (vi (x6 + 1))] [] σ rc rs Q)))) : GG E mX12_takesRow 43 [some (vr 172), some (vi x1), some (vr a2), some (vi x3), some (vl y4), none, some (vi x6)] [] σ rc rs Q := by
  refine r_iload (pc := 43) dX12_takesRow_43 rfl ?_
  refine r_aload_n (pc := 45) dX12_takesRow_45 rfl rfl ?_
  refine r_getI (pc := 46) dX12_takesRow_46 (k9 := 16) CL_12 (by decide) (by decide) w_1431 rfl (okO_of (N := 42) (hL.sh (i := 0) rfl (by decide) (by decide)) (by decide)) (fun _ => ?_)
  refine r_icmp_ge (pc := 49) (tgt := 87) dX12_takesRow_49 (by decide) (fun c9 => ?_) (fun c9 => ?_)
  · replace h := h.1 c9
    refine r_aload_n (pc := 87) dX12_takesRow_87 rfl rfl ?_
    refine r_iload_n (pc := 88) dX12_takesRow_88 rfl rfl ?_
    refine r_aload_n (pc := 89) dX12_takesRow_89 rfl rfl ?_
    refine r_aload_n (pc := 90) dX12_takesRow_90 rfl rfl ?_
    refine r_lload (pc := 91) dX12_takesRow_91 rfl ?_
    refine c_VI0N (M := mX12_takesRow) (pc := 93) (As := [vl y4]) dX12_takesRow_93 K_X12_mod w_1666 ⟨by decide, by decide⟩ (Nat.le_of_ble_eq_true rfl) rfl rfl (ci := 12) rfl rfl (by decide) (okO_of (N := 42) (hL.sh (i := 0) rfl (by decide) (by decide)) (by decide)) (h hL) (fun r1 τ2 h8 hr9 => ?_) rfl
    replace hL := h8.1
    replace h := h8.2 hr9
    refine r_aload_n (pc := 96) dX12_takesRow_96 rfl rfl ?_
    refine r_getR (pc := 97) dX12_takesRow_97 (k9 := 31) CL_12 (by decide) (by decide) w_1446 rfl (okO_of (N := 42) (hL.sh (i := 0) rfl (by decide) (by decide)) (by decide)) ?_
    refine eqR (y := 2911) (hL.rf (i := 16) rfl) ?_
    refine r_iload_n (pc := 100) dX12_takesRow_100 rfl rfl ?_
    obtain ⟨o3, h⟩ := h
    refine r_iaload (pc := 101) dX12_takesRow_101 (okA_of (c := 20) (n := 48) (hL.sh (i := 23) rfl (by decide) (by decide)) (by decide) o3) ?_
    refine c_VI0N (M := mX12_takesRow) (pc := 102) (As := [vi r1, vi (gI τ2 2911 x1.toNat)]) dX12_takesRow_102 K_X12_over w_1674 ⟨by decide, by decide⟩ (Nat.le_of_ble_eq_true rfl) rfl rfl (ci := 12) rfl rfl (by decide) (okO_of (N := 42) (hL.sh (i := 0) rfl (by decide) (by decide)) (by decide)) (h hL) (fun r4 τ5 h8 hr9 => ?_) rfl
    replace hL := h8.1
    replace h := h8.2 hr9
    obtain ⟨o6, h⟩ := h
    refine r_iastore (pc := 105) dX12_takesRow_105 (okB_of (c := 20) (n := 48) (hL.sh (i := 26) rfl qa2.1 qa2.2) (Nat.le_trans (by decide) qa2.1) o6) ?_
    refine nmS (fun τ7 e7 => ?_)
    replace h := h τ7 e7
    have hL := hL.wI e7 (Nat.le_trans (by decide) qa2.1) (.inl ⟨Nat.le_trans (by decide) qa2.1, Nat.lt_of_lt_of_le qa2.2 (by decide)⟩)
    obtain ⟨o8, h⟩ := h
    refine r_iinc (pc := 106) dX12_takesRow_106 rfl (by decide) o8 (l2 := [some (vr 172), some (vi x1), some (vr a2), some (vi (x3 + 1)), some (vl y4), none, some (vi x6)]) rfl ?_
    refine r_goto (pc := 109) (tgt := 29) dX12_takesRow_109 (by decide) ?_
    exact GG.msk [true, true, true, true, false, false, false] (h hL)
  · replace h := h.2 c9
    refine r_lload (pc := 52) dX12_takesRow_52 rfl ?_
    refine r_aload_n (pc := 54) dX12_takesRow_54 rfl rfl ?_
    refine r_getR (pc := 55) dX12_takesRow_55 (k9 := 28) CL_12 (by decide) (by decide) w_1443 rfl (okO_of (N := 42) (hL.sh (i := 0) rfl (by decide) (by decide)) (by decide)) ?_
    refine eqR (y := 556) (hL.rf (i := 13) rfl) ?_
    refine r_bipush (pc := 58) dX12_takesRow_58 (by decide) ?_
    refine r_iload_n (pc := 60) dX12_takesRow_60 rfl rfl ?_
    obtain ⟨o9, h⟩ := h
    refine r_imul (pc := 61) dX12_takesRow_61 o9 ?_
    refine r_iload (pc := 62) dX12_takesRow_62 rfl ?_
    obtain ⟨o10, h⟩ := h
    refine r_iadd (pc := 64) dX12_takesRow_64 o10 ?_
    obtain ⟨o11, h⟩ := h
    refine r_aaload (pc := 65) dX12_takesRow_65 (okB_of (c := 24) (n := 2304) (hL.sh (i := 18) rfl (by decide) (by decide)) (by decide) o11) ?_
    have q12 : 557 ≤ 557 + ((48 * x3) + x6).toNat ∧ 557 + ((48 * x3) + x6).toNat < 2861 := ⟨Nat.le_add_right _ _, rowB o11 (by decide)⟩
    refine eqR (y := 557 + ((48 * x3) + x6).toNat) (hL.rx (i := 4) rfl (rowC o11 (by decide))) ?_
    refine r_iload_n (pc := 66) dX12_takesRow_66 rfl rfl ?_
    obtain ⟨o13, h⟩ := h
    refine r_iaload (pc := 67) dX12_takesRow_67 (okA_of (c := 20) (n := 48) (hL.sh (i := 19) rfl q12.1 q12.2) (Nat.le_trans (by decide) q12.1) o13) ?_
    refine r_i2l (pc := 68) dX12_takesRow_68 ?_
    refine r_aload_n (pc := 69) dX12_takesRow_69 rfl rfl ?_
    refine r_getR (pc := 70) dX12_takesRow_70 (k9 := 31) CL_12 (by decide) (by decide) w_1446 rfl (okO_of (N := 42) (hL.sh (i := 0) rfl (by decide) (by decide)) (by decide)) ?_
    refine eqR (y := 2911) (hL.rf (i := 16) rfl) ?_
    refine r_iload (pc := 73) dX12_takesRow_73 rfl ?_
    obtain ⟨o14, h⟩ := h
    refine r_iaload (pc := 75) dX12_takesRow_75 (okA_of (c := 20) (n := 48) (hL.sh (i := 23) rfl (by decide) (by decide)) (by decide) o14) ?_
    refine r_i2l (pc := 76) dX12_takesRow_76 ?_
    refine r_lmul (pc := 77) dX12_takesRow_77 ?_
    refine nmL (fun v15 e9 => ?_)
    replace h := h v15 e9
    refine r_ladd (pc := 78) dX12_takesRow_78 ?_
    refine r_lstore (pc := 79) dX12_takesRow_79 (by decide) (l2 := [some (vr 172), some (vi x1), some (vr a2), some (vi x3), some (vl (wL (y4 + v15))), none, some (vi x6)]) rfl ?_
    obtain ⟨o16, h⟩ := h
    refine r_iinc (pc := 81) dX12_takesRow_81 rfl (by decide) o16 (l2 := [some (vr 172), some (vi x1), some (vr a2), some (vi x3), some (vl (wL (y4 + v15))), none, some (vi (x6 + 1))]) rfl ?_
    refine r_goto (pc := 84) (tgt := 43) dX12_takesRow_84 (by decide) ?_
    exact (h hL)
theorem B_X12_takesRow_117 {g : Sg} {c t : Nat} (hL : Lay LM g c t σ) {a2 : Nat} (qa2 : 2914 ≤ a2 ∧ a2 < 2962) {y3 : Int} {x5 : Int} (h : (((gI σ 172 16) ≤ x5 → (Lay LM g c t σ → GG E mX12_takesRow 175 [some (vr 172), none, some (vr a2), some (vl y3), none, some (vi 1), none] [] σ rc rs Q)) ∧ (¬ ((gI σ 172 16) ≤ x5) → (0 ≤ x5 ∧ x5 < 48) ∧ (0 ≤ x5 ∧ x5 < 120) ∧ (0 ≤ (gI σ 554 x5.toNat) ∧ (gI σ 554 x5.toNat) < 120) ∧ (0 ≤ (gI σ 552 (gI σ 554 x5.toNat).toNat) ∧ (gI σ 552 (gI σ 554 x5.toNat).toNat) < 120) ∧ (0 ≤ (gI σ 553 (gI σ 552 (gI σ 554 x5.toNat).toNat).toNat) ∧ (gI σ 553 (gI σ 552 (gI σ 554 x5.toNat).toNat).toNat) < 48) ∧ ∀ v6 : Int, v6 = gI σ a2 (gI σ 553 (gI σ 552 (gI σ 554 x5.toNat).toNat).toNat).toNat → (Lay LM g c t σ → CC E mX12_over [vr 172, vi v6, vi (gI σ 555 x5.toNat)] σ (KI (fun r7 τ8 => Lay LM g c t τ8 ∧ (inR r7 → inR (x5 + 1) ∧ (Lay LM g c t τ8 → GG E mX12_takesRow 117 [some (vr 172), none, some (vr a2), some (vl (wL (y3 + (wL ((gI σ a2 x5.toNat) * r7))))), none, some (vi (x5 + 1)), none] [] τ8 rc rs Q))) (fun _ _ => False)))))) : GG E mX12_takesRow 117 [some (vr 172), none, some (vr a2), some (vl y3), none, some (vi x5), none] [] σ rc rs Q := by
  refine r_iload (pc := 117) dX12_takesRow_117 rfl ?_
  refine r_aload_n (pc := 119) dX12_takesRow_119 rfl rfl ?_
  refine r_getI (pc := 120) dX12_takesRow_120 (k9 := 16) CL_12 (by decide) (by decide) w_1431 rfl (okO_of (N := 42) (hL.sh (i := 0) rfl (by decide) (by decide)) (by decide)) (fun _ => ?_)
  refine r_icmp_ge (pc := 123) (tgt := 172) dX12_takesRow_123 (by decide) (fun c9 => ?_) (fun c9 => ?_)
  · replace h := h.1 c9
    refine r_iconst (pc := 172) dX12_takesRow_172 (inRk rfl) ?_
    refine r_istore (pc := 173) dX12_takesRow_173 (by decide) (l2 := [some (vr 172), none, some (vr a2), some (vl y3), none, some (vi 1), none]) rfl ?_
    exact (h hL)
  · replace h := h.2 c9
    refine r_lload_n (pc := 126) dX12_takesRow_126 rfl rfl ?_
    refine r_aload_n (pc := 127) dX12_takesRow_127 rfl rfl ?_
    refine r_iload (pc := 128) dX12_takesRow_128 rfl ?_
    obtain ⟨o1, h⟩ := h
    refine r_iaload (pc := 130) dX12_takesRow_130 (okA_of (c := 20) (n := 48) (hL.sh (i := 26) rfl qa2.1 qa2.2) (Nat.le_trans (by decide) qa2.1) o1) ?_
    refine r_i2l (pc := 131) dX12_takesRow_131 ?_
    refine r_aload_n (pc := 132) dX12_takesRow_132 rfl rfl ?_
    refine r_aload_n (pc := 133) dX12_takesRow_133 rfl rfl ?_
    refine r_aload_n (pc := 134) dX12_takesRow_134 rfl rfl ?_
    refine r_getR (pc := 135) dX12_takesRow_135 (k9 := 24) CL_12 (by decide) (by decide) w_1439 rfl (okO_of (N := 42) (hL.sh (i := 0) rfl (by decide) (by decide)) (by decide)) ?_
    refine eqR (y := 553) (hL.rf (i := 10) rfl) ?_
    refine r_aload_n (pc := 138) dX12_takesRow_138 rfl rfl ?_
    refine r_getR (pc := 139) dX12_takesRow_139 (k9 := 23) CL_12 (by decide) (by decide) w_1438 rfl (okO_of (N := 42) (hL.sh (i := 0) rfl (by decide) (by decide)) (by decide)) ?_
    refine eqR (y := 552) (hL.rf (i := 9) rfl) ?_
    refine r_aload_n (pc := 142) dX12_takesRow_142 rfl rfl ?_
    refine r_getR (pc := 143) dX12_takesRow_143 (k9 := 25) CL_12 (by decide) (by decide) w_1440 rfl (okO_of (N := 42) (hL.sh (i := 0) rfl (by decide) (by decide)) (by decide)) ?_
    refine eqR (y := 554) (hL.rf (i := 11) rfl) ?_
    refine r_iload (pc := 146) dX12_takesRow_146 rfl ?_
    obtain ⟨o2, h⟩ := h
    refine r_iaload (pc := 148) dX12_takesRow_148 (okA_of (c := 20) (n := 120) (hL.sh (i := 16) rfl (by decide) (by decide)) (by decide) o2) ?_
    obtain ⟨o3, h⟩ := h
    refine r_iaload (pc := 149) dX12_takesRow_149 (okA_of (c := 20) (n := 120) (hL.sh (i := 14) rfl (by decide) (by decide)) (by decide) o3) ?_
    obtain ⟨o4, h⟩ := h
    refine r_iaload (pc := 150) dX12_takesRow_150 (okA_of (c := 20) (n := 120) (hL.sh (i := 15) rfl (by decide) (by decide)) (by decide) o4) ?_
    obtain ⟨o5, h⟩ := h
    refine r_iaload (pc := 151) dX12_takesRow_151 (okA_of (c := 20) (n := 48) (hL.sh (i := 26) rfl qa2.1 qa2.2) (Nat.le_trans (by decide) qa2.1) o5) ?_
    refine nmI (fun v6 e9 => ?_)
    replace h := h v6 e9
    refine r_aload_n (pc := 152) dX12_takesRow_152 rfl rfl ?_
    refine r_getR (pc := 153) dX12_takesRow_153 (k9 := 26) CL_12 (by decide) (by decide) w_1441 rfl (okO_of (N := 42) (hL.sh (i := 0) rfl (by decide) (by decide)) (by decide)) ?_
    refine eqR (y := 555) (hL.rf (i := 12) rfl) ?_
    refine r_iload (pc := 156) dX12_takesRow_156 rfl ?_
    refine r_iaload (pc := 158) dX12_takesRow_158 (okA_of (c := 20) (n := 120) (hL.sh (i := 17) rfl (by decide) (by decide)) (by decide) o2) ?_
    refine c_VI0N (M := mX12_takesRow) (pc := 159) (As := [vi v6, vi (gI σ 555 x5.toNat)]) dX12_takesRow_159 K_X12_over w_1674 ⟨by decide, by decide⟩ (Nat.le_of_ble_eq_true rfl) rfl rfl (ci := 12) rfl rfl (by decide) (okO_of (N := 42) (hL.sh (i := 0) rfl (by decide) (by decide)) (by decide)) (h hL) (fun r7 τ8 h8 hr9 => ?_) rfl
    replace hL := h8.1
    replace h := h8.2 hr9
    refine r_i2l (pc := 162) dX12_takesRow_162 ?_
    refine r_lmul (pc := 163) dX12_takesRow_163 ?_
    refine r_ladd (pc := 164) dX12_takesRow_164 ?_
    refine r_lstore_n (pc := 165) dX12_takesRow_165 rfl (by decide) (l2 := [some (vr 172), none, some (vr a2), some (vl (wL (y3 + (wL ((gI σ a2 x5.toNat) * r7))))), none, some (vi x5), none]) rfl ?_
    obtain ⟨o9, h⟩ := h
    refine r_iinc (pc := 166) dX12_takesRow_166 rfl (by decide) o9 (l2 := [some (vr 172), none, some (vr a2), some (vl (wL (y3 + (wL ((gI σ a2 x5.toNat) * r7))))), none, some (vi (x5 + 1)), none]) rfl ?_
    refine r_goto (pc := 169) (tgt := 117) dX12_takesRow_169 (by decide) ?_
    exact (h hL)
theorem B_X12_takesRow_175 {g : Sg} {c t : Nat} (hL : Lay LM g c t σ) {a2 : Nat} (qa2 : 2914 ≤ a2 ∧ a2 < 2962) {y3 : Int} {x5 : Int} (h : ((10 ≤ x5 → (0 ≤ (gI σ 172 35) ∧ (gI σ 172 35) < 48) ∧ ∀ τ2 : Sg, τ2 = sI σ 2962 (gI σ 172 35).toNat x5 → (Lay LM g c t τ2 → GG E mX12_takesRow 229 [some (vr 172), none, some (vr a2), none, none, some (vi x5), some (vi 0)] [] τ2 rc rs Q)) ∧ (¬ (10 ≤ x5) → (Lay LM g c t σ → CC E mX12_mod [vr 172, vl y3] σ (KI (fun r3 τ4 => Lay LM g c t τ4 ∧ (inR r3 → ∀ v5 : Int, v5 = wL ((wL ((wL (x5 * x5)) * r3)) - (gI τ4 172 15)) → (Lay LM g c t τ4 → CC E mX12_mod [vr 172, vl v5] τ4 (KI (fun r6 τ7 => Lay LM g c t τ7 ∧ (inR r6 → ((r6 = 0 → (0 ≤ (gI τ7 172 35) ∧ (gI τ7 172 35) < 48) ∧ ∀ τ9 : Sg, τ9 = sI τ7 2962 (gI τ7 172 35).toNat x5 → (Lay LM g c t τ9 → GG E mX12_takesRow 229 [some (vr 172), none, some (vr a2), none, none, some (vi x5), some (vi 0)] [] τ9 rc rs Q)) ∧ (¬ (r6 = 0) → inR (x5 + 1) ∧ (Lay LM g c t τ7 → GG E mX12_takesRow 175 [some (vr 172), none, some (vr a2), some (vl y3), none, some (vi (x5 + 1)), none] [] τ7 rc rs Q))))) (fun _ _ => False))))) (fun _ _ => False)))))) : GG E mX12_takesRow 175 [some (vr 172), none, some (vr a2), some (vl y3), none, some (vi x5), none] [] σ rc rs Q := by
  refine r_iload (pc := 175) dX12_takesRow_175 rfl ?_
  refine r_bipush (pc := 177) dX12_takesRow_177 (by decide) ?_
  refine r_icmp_ge (pc := 179) (tgt := 215) dX12_takesRow_179 (by decide) (fun c9 => ?_) (fun c9 => ?_)
  · replace h := h.1 c9
    refine r_aload_n (pc := 215) dX12_takesRow_215 rfl rfl ?_
    refine r_getR (pc := 216) dX12_takesRow_216 (k9 := 34) CL_12 (by decide) (by decide) w_1449 rfl (okO_of (N := 42) (hL.sh (i := 0) rfl (by decide) (by decide)) (by decide)) ?_
    refine eqR (y := 2962) (hL.rf (i := 19) rfl) ?_
    refine r_aload_n (pc := 219) dX12_takesRow_219 rfl rfl ?_
    refine r_getI (pc := 220) dX12_takesRow_220 (k9 := 35) CL_12 (by decide) (by decide) w_1450 rfl (okO_of (N := 42) (hL.sh (i := 0) rfl (by decide) (by decide)) (by decide)) (fun _ => ?_)
    refine r_iload (pc := 223) dX12_takesRow_223 rfl ?_
    obtain ⟨o1, h⟩ := h
    refine r_iastore (pc := 225) dX12_takesRow_225 (okB_of (c := 20) (n := 48) (hL.sh (i := 27) rfl (by decide) (by decide)) (by decide) o1) ?_
    refine nmS (fun τ2 e2 => ?_)
    replace h := h τ2 e2
    have hL := hL.wI e2 (by decide) (.inl (by decide))
    refine r_iconst (pc := 226) dX12_takesRow_226 (inRk rfl) ?_
    refine r_istore (pc := 227) dX12_takesRow_227 (by decide) (l2 := [some (vr 172), none, some (vr a2), some (vl y3), none, some (vi x5), some (vi 0)]) rfl ?_
    exact GG.msk [true, false, true, false, false, true, true] (h hL)
  · replace h := h.2 c9
    refine r_aload_n (pc := 182) dX12_takesRow_182 rfl rfl ?_
    refine r_iload (pc := 183) dX12_takesRow_183 rfl ?_
    refine r_i2l (pc := 185) dX12_takesRow_185 ?_
    refine r_iload (pc := 186) dX12_takesRow_186 rfl ?_
    refine r_i2l (pc := 188) dX12_takesRow_188 ?_
    refine r_lmul (pc := 189) dX12_takesRow_189 ?_
    refine r_aload_n (pc := 190) dX12_takesRow_190 rfl rfl ?_
    refine r_lload_n (pc := 191) dX12_takesRow_191 rfl rfl ?_
    refine c_VI0N (M := mX12_takesRow) (pc := 192) (As := [vl y3]) dX12_takesRow_192 K_X12_mod w_1666 ⟨by decide, by decide⟩ (Nat.le_of_ble_eq_true rfl) rfl rfl (ci := 12) rfl rfl (by decide) (okO_of (N := 42) (hL.sh (i := 0) rfl (by decide) (by decide)) (by decide)) (h hL) (fun r3 τ4 h8 hr9 => ?_) rfl
    replace hL := h8.1
    replace h := h8.2 hr9
    refine r_i2l (pc := 195) dX12_takesRow_195 ?_
    refine r_lmul (pc := 196) dX12_takesRow_196 ?_
    refine r_aload_n (pc := 197) dX12_takesRow_197 rfl rfl ?_
    refine r_getI (pc := 198) dX12_takesRow_198 (k9 := 15) CL_12 (by decide) (by decide) w_1430 rfl (okO_of (N := 42) (hL.sh (i := 0) rfl (by decide) (by decide)) (by decide)) (fun _ => ?_)
    refine r_i2l (pc := 201) dX12_takesRow_201 ?_
    refine r_lsub (pc := 202) dX12_takesRow_202 ?_
    refine nmL (fun v5 e9 => ?_)
    replace h := h v5 e9
    refine c_VI0N (M := mX12_takesRow) (pc := 203) (As := [vl v5]) dX12_takesRow_203 K_X12_mod w_1666 ⟨by decide, by decide⟩ (Nat.le_of_ble_eq_true rfl) rfl rfl (ci := 12) rfl rfl (by decide) (okO_of (N := 42) (hL.sh (i := 0) rfl (by decide) (by decide)) (by decide)) (h hL) (fun r6 τ7 h8 hr9 => ?_) rfl
    replace hL := h8.1
    replace h := h8.2 hr9
    refine r_if_eq (pc := 206) (tgt := 215) dX12_takesRow_206 (by decide) (fun c9 => ?_) (fun c9 => ?_)
    · replace h := h.1 c9
      refine r_aload_n (pc := 215) dX12_takesRow_215 rfl rfl ?_
      refine r_getR (pc := 216) dX12_takesRow_216 (k9 := 34) CL_12 (by decide) (by decide) w_1449 rfl (okO_of (N := 42) (hL.sh (i := 0) rfl (by decide) (by decide)) (by decide)) ?_
      refine eqR (y := 2962) (hL.rf (i := 19) rfl) ?_
      refine r_aload_n (pc := 219) dX12_takesRow_219 rfl rfl ?_
      refine r_getI (pc := 220) dX12_takesRow_220 (k9 := 35) CL_12 (by decide) (by decide) w_1450 rfl (okO_of (N := 42) (hL.sh (i := 0) rfl (by decide) (by decide)) (by decide)) (fun _ => ?_)
      refine r_iload (pc := 223) dX12_takesRow_223 rfl ?_
      obtain ⟨o8, h⟩ := h
      refine r_iastore (pc := 225) dX12_takesRow_225 (okB_of (c := 20) (n := 48) (hL.sh (i := 27) rfl (by decide) (by decide)) (by decide) o8) ?_
      refine nmS (fun τ9 e9 => ?_)
      replace h := h τ9 e9
      have hL := hL.wI e9 (by decide) (.inl (by decide))
      refine r_iconst (pc := 226) dX12_takesRow_226 (inRk rfl) ?_
      refine r_istore (pc := 227) dX12_takesRow_227 (by decide) (l2 := [some (vr 172), none, some (vr a2), some (vl y3), none, some (vi x5), some (vi 0)]) rfl ?_
      exact GG.msk [true, false, true, false, false, true, true] (h hL)
    · replace h := h.2 c9
      obtain ⟨o10, h⟩ := h
      refine r_iinc (pc := 209) dX12_takesRow_209 rfl (by decide) o10 (l2 := [some (vr 172), none, some (vr a2), some (vl y3), none, some (vi (x5 + 1)), none]) rfl ?_
      refine r_goto (pc := 212) (tgt := 175) dX12_takesRow_212 (by decide) ?_
      exact (h hL)
theorem B_X12_takesRow_229 {g : Sg} {c t : Nat} (hL : Lay LM g c t σ) {a2 : Nat} (qa2 : 2914 ≤ a2 ∧ a2 < 2962) {x5 : Int} {x6 : Int} (h : (((gI σ 172 16) ≤ x6 → inR ((gI σ 172 35) + 1) ∧ ∀ τ2 : Sg, τ2 = sI σ 172 35 ((gI σ 172 35) + 1) → (Lay LM g c t τ2 → Q (.inl none) τ2)) ∧ (¬ ((gI σ 172 16) ≤ x6) → (0 ≤ x6 ∧ x6 < 48) ∧ (Lay LM g c t σ → CC E mX12_mod [vr 172, vl (wL (x5 * (gI σ a2 x6.toNat)))] σ (KI (fun r4 τ5 => Lay LM g c t τ5 ∧ (inR r4 → (0 ≤ x6 ∧ x6 < 120) ∧ (Lay LM g c t τ5 → CC E mX12_over [vr 172, vi r4, vi (gI τ5 555 x6.toNat)] τ5 (KI (fun r7 τ8 => Lay LM g c t τ8 ∧ (inR r7 → ∀ τ9 : Sg, τ9 = sI τ8 a2 x6.toNat r7 → inR (x6 + 1) ∧ (Lay LM g c t τ9 → GG E mX12_takesRow 229 [some (vr 172), none, some (vr a2), none, none, some (vi x5), some (vi (x6 + 1))] [] τ9 rc rs Q))) (fun _ _ => False))))) (fun _ _ => False)))))) : GG E mX12_takesRow 229 [some (vr 172), none, some (vr a2), none, none, some (vi x5), some (vi x6)] [] σ rc rs Q := by
  refine r_iload (pc := 229) dX12_takesRow_229 rfl ?_
  refine r_aload_n (pc := 231) dX12_takesRow_231 rfl rfl ?_
  refine r_getI (pc := 232) dX12_takesRow_232 (k9 := 16) CL_12 (by decide) (by decide) w_1431 rfl (okO_of (N := 42) (hL.sh (i := 0) rfl (by decide) (by decide)) (by decide)) (fun _ => ?_)
  refine r_icmp_ge (pc := 235) (tgt := 272) dX12_takesRow_235 (by decide) (fun c9 => ?_) (fun c9 => ?_)
  · replace h := h.1 c9
    refine r_aload_n (pc := 272) dX12_takesRow_272 rfl rfl ?_
    refine r_dup (pc := 273) dX12_takesRow_273 (fun _ h9 => nomatch h9) ?_
    refine r_getI (pc := 274) dX12_takesRow_274 (k9 := 35) CL_12 (by decide) (by decide) w_1450 rfl (okO_of (N := 42) (hL.sh (i := 0) rfl (by decide) (by decide)) (by decide)) (fun _ => ?_)
    refine r_iconst (pc := 277) dX12_takesRow_277 (inRk rfl) ?_
    obtain ⟨o1, h⟩ := h
    refine r_iadd (pc := 278) dX12_takesRow_278 o1 ?_
    refine r_putI (pc := 279) dX12_takesRow_279 (k9 := 35) CL_12 (by decide) (by decide) w_1450 rfl rfl (fun h9 => absurd h9 (by decide +kernel)) (okO_of (N := 42) (hL.sh (i := 0) rfl (by decide) (by decide)) (by decide)) ?_
    refine nmS (fun τ2 e2 => ?_)
    replace h := h τ2 e2
    have hL := hL.wI e2 (by decide) (.inl (by decide))
    exact r_return (pc := 282) dX12_takesRow_282 (by decide +kernel) rfl (h hL)
  · replace h := h.2 c9
    refine r_aload_n (pc := 238) dX12_takesRow_238 rfl rfl ?_
    refine r_iload (pc := 239) dX12_takesRow_239 rfl ?_
    refine r_aload_n (pc := 241) dX12_takesRow_241 rfl rfl ?_
    refine r_aload_n (pc := 242) dX12_takesRow_242 rfl rfl ?_
    refine r_iload (pc := 243) dX12_takesRow_243 rfl ?_
    refine r_i2l (pc := 245) dX12_takesRow_245 ?_
    refine r_aload_n (pc := 246) dX12_takesRow_246 rfl rfl ?_
    refine r_iload (pc := 247) dX12_takesRow_247 rfl ?_
    obtain ⟨o3, h⟩ := h
    refine r_iaload (pc := 249) dX12_takesRow_249 (okA_of (c := 20) (n := 48) (hL.sh (i := 26) rfl qa2.1 qa2.2) (Nat.le_trans (by decide) qa2.1) o3) ?_
    refine r_i2l (pc := 250) dX12_takesRow_250 ?_
    refine r_lmul (pc := 251) dX12_takesRow_251 ?_
    refine c_VI0N (M := mX12_takesRow) (pc := 252) (As := [vl (wL (x5 * (gI σ a2 x6.toNat)))]) dX12_takesRow_252 K_X12_mod w_1666 ⟨by decide, by decide⟩ (Nat.le_of_ble_eq_true rfl) rfl rfl (ci := 12) rfl rfl (by decide) (okO_of (N := 42) (hL.sh (i := 0) rfl (by decide) (by decide)) (by decide)) (h hL) (fun r4 τ5 h8 hr9 => ?_) rfl
    replace hL := h8.1
    replace h := h8.2 hr9
    refine r_aload_n (pc := 255) dX12_takesRow_255 rfl rfl ?_
    refine r_getR (pc := 256) dX12_takesRow_256 (k9 := 26) CL_12 (by decide) (by decide) w_1441 rfl (okO_of (N := 42) (hL.sh (i := 0) rfl (by decide) (by decide)) (by decide)) ?_
    refine eqR (y := 555) (hL.rf (i := 12) rfl) ?_
    refine r_iload (pc := 259) dX12_takesRow_259 rfl ?_
    obtain ⟨o6, h⟩ := h
    refine r_iaload (pc := 261) dX12_takesRow_261 (okA_of (c := 20) (n := 120) (hL.sh (i := 17) rfl (by decide) (by decide)) (by decide) o6) ?_
    refine c_VI0N (M := mX12_takesRow) (pc := 262) (As := [vi r4, vi (gI τ5 555 x6.toNat)]) dX12_takesRow_262 K_X12_over w_1674 ⟨by decide, by decide⟩ (Nat.le_of_ble_eq_true rfl) rfl rfl (ci := 12) rfl rfl (by decide) (okO_of (N := 42) (hL.sh (i := 0) rfl (by decide) (by decide)) (by decide)) (h hL) (fun r7 τ8 h8 hr9 => ?_) rfl
    replace hL := h8.1
    replace h := h8.2 hr9
    refine r_iastore (pc := 265) dX12_takesRow_265 (okB_of (c := 20) (n := 48) (hL.sh (i := 26) rfl qa2.1 qa2.2) (Nat.le_trans (by decide) qa2.1) o3) ?_
    refine nmS (fun τ9 e9 => ?_)
    replace h := h τ9 e9
    have hL := hL.wI e9 (Nat.le_trans (by decide) qa2.1) (.inl ⟨Nat.le_trans (by decide) qa2.1, Nat.lt_of_lt_of_le qa2.2 (by decide)⟩)
    obtain ⟨o10, h⟩ := h
    refine r_iinc (pc := 266) dX12_takesRow_266 rfl (by decide) o10 (l2 := [some (vr 172), none, some (vr a2), none, none, some (vi x5), some (vi (x6 + 1))]) rfl ?_
    refine r_goto (pc := 269) (tgt := 229) dX12_takesRow_269 (by decide) ?_
    exact (h hL)
theorem C_X12_takesRow {a0 : Nat} (h : GG E mX12_takesRow 0 [some (vr a0), none, none, none, none, none, none] [] σ 0 0 Q) : CC E mX12_takesRow [vr a0] σ Q := CC.of (by decide +kernel) rfl (by decide +kernel) (fun h9 => nomatch h9) (Nat.le_of_ble_eq_true rfl) h
theorem dX12_text_0 : decode cX12_text 0 = .ok (.aload_n 0, 1) := by decide +kernel
theorem dX12_text_1 : decode cX12_text 1 = .ok (.iconst 0, 1) := by decide +kernel
theorem dX12_text_2 : decode cX12_text 2 = .ok (.putfield 99, 3) := by decide +kernel
theorem dX12_text_5 : decode cX12_text 5 = .ok (.aload_n 0, 1) := by decide +kernel
theorem dX12_text_6 : decode cX12_text 6 = .ok (.invokevirtual 174, 3) := by decide +kernel
theorem dX12_text_9 : decode cX12_text 9 = .ok (.aload_n 0, 1) := by decide +kernel
theorem dX12_text_10 : decode cX12_text 10 = .ok (.iload_n 1, 1) := by decide +kernel
theorem dX12_text_11 : decode cX12_text 11 = .ok (.iconst 0, 1) := by decide +kernel
theorem dX12_text_12 : decode cX12_text 12 = .ok (.aload_n 0, 1) := by decide +kernel
theorem dX12_text_13 : decode cX12_text 13 = .ok (.getfield 102, 3) := by decide +kernel
theorem dX12_text_16 : decode cX12_text 16 = .ok (.invokestatic 141, 3) := by decide +kernel
theorem dX12_text_19 : decode cX12_text 19 = .ok (.ifCond .ne 7, 3) := by decide +kernel
theorem dX12_text_22 : decode cX12_text 22 = .ok (.iconst 1, 1) := by decide +kernel
theorem dX12_text_23 : decode cX12_text 23 = .ok (.goto 4, 3) := by decide +kernel
theorem dX12_text_26 : decode cX12_text 26 = .ok (.iconst 0, 1) := by decide +kernel
theorem dX12_text_27 : decode cX12_text 27 = .ok (.iconst 1, 1) := by decide +kernel
theorem dX12_text_28 : decode cX12_text 28 = .ok (.iconst 1, 1) := by decide +kernel
theorem dX12_text_29 : decode cX12_text 29 = .ok (.invokevirtual 177, 3) := by decide +kernel
theorem dX12_text_32 : decode cX12_text 32 = .ok (.ifCond .eq 5, 3) := by decide +kernel
theorem dX12_text_35 : decode cX12_text 35 = .ok (.iconst 0, 1) := by decide +kernel
theorem dX12_text_36 : decode cX12_text 36 = .ok (.ireturn, 1) := by decide +kernel
theorem dX12_text_37 : decode cX12_text 37 = .ok (.aload_n 0, 1) := by decide +kernel
theorem dX12_text_38 : decode cX12_text 38 = .ok (.iconst 0, 1) := by decide +kernel
theorem dX12_text_39 : decode cX12_text 39 = .ok (.putfield 102, 3) := by decide +kernel
theorem dX12_text_42 : decode cX12_text 42 = .ok (.aload_n 0, 1) := by decide +kernel
theorem dX12_text_43 : decode cX12_text 43 = .ok (.iload_n 1, 1) := by decide +kernel
theorem dX12_text_44 : decode cX12_text 44 = .ok (.putfield 105, 3) := by decide +kernel
theorem dX12_text_47 : decode cX12_text 47 = .ok (.aload_n 0, 1) := by decide +kernel
theorem dX12_text_48 : decode cX12_text 48 = .ok (.iconst 0, 1) := by decide +kernel
theorem dX12_text_49 : decode cX12_text 49 = .ok (.putfield 108, 3) := by decide +kernel
theorem dX12_text_52 : decode cX12_text 52 = .ok (.aload_n 0, 1) := by decide +kernel
theorem dX12_text_53 : decode cX12_text 53 = .ok (.iconst 0, 1) := by decide +kernel
theorem dX12_text_54 : decode cX12_text 54 = .ok (.putfield 115, 3) := by decide +kernel
theorem dX12_text_57 : decode cX12_text 57 = .ok (.aload_n 0, 1) := by decide +kernel
theorem dX12_text_58 : decode cX12_text 58 = .ok (.iconst (-1), 1) := by decide +kernel
theorem dX12_text_59 : decode cX12_text 59 = .ok (.putfield 118, 3) := by decide +kernel
theorem dX12_text_62 : decode cX12_text 62 = .ok (.aload_n 0, 1) := by decide +kernel
theorem dX12_text_63 : decode cX12_text 63 = .ok (.getfield 22, 3) := by decide +kernel
theorem dX12_text_66 : decode cX12_text 66 = .ok (.iconst 1, 1) := by decide +kernel
theorem dX12_text_67 : decode cX12_text 67 = .ok (.aaload, 1) := by decide +kernel
theorem dX12_text_68 : decode cX12_text 68 = .ok (.iconst 1, 1) := by decide +kernel
theorem dX12_text_69 : decode cX12_text 69 = .ok (.iconst 0, 1) := by decide +kernel
theorem dX12_text_70 : decode cX12_text 70 = .ok (.iastore, 1) := by decide +kernel
theorem dX12_text_71 : decode cX12_text 71 = .ok (.aload_n 0, 1) := by decide +kernel
theorem dX12_text_72 : decode cX12_text 72 = .ok (.invokevirtual 125, 3) := by decide +kernel
theorem dX12_text_75 : decode cX12_text 75 = .ok (.pop, 1) := by decide +kernel
theorem dX12_text_76 : decode cX12_text 76 = .ok (.aload_n 0, 1) := by decide +kernel
theorem dX12_text_77 : decode cX12_text 77 = .ok (.getfield 108, 3) := by decide +kernel
theorem dX12_text_80 : decode cX12_text 80 = .ok (.istore_n 2, 1) := by decide +kernel
theorem dX12_text_81 : decode cX12_text 81 = .ok (.aload_n 0, 1) := by decide +kernel
theorem dX12_text_82 : decode cX12_text 82 = .ok (.ldc 181, 2) := by decide +kernel
theorem dX12_text_84 : decode cX12_text 84 = .ok (.invokevirtual 159, 3) := by decide +kernel
theorem dX12_text_87 : decode cX12_text 87 = .ok (.ifCond .ne 9, 3) := by decide +kernel
theorem dX12_text_90 : decode cX12_text 90 = .ok (.aload_n 0, 1) := by decide +kernel
theorem dX12_text_91 : decode cX12_text 91 = .ok (.iconst 1, 1) := by decide +kernel
theorem dX12_text_92 : decode cX12_text 92 = .ok (.iload_n 2, 1) := by decide +kernel
theorem dX12_text_93 : decode cX12_text 93 = .ok (.invokevirtual 132, 3) := by decide +kernel
theorem dX12_text_96 : decode cX12_text 96 = .ok (.aload_n 0, 1) := by decide +kernel
theorem dX12_text_97 : decode cX12_text 97 = .ok (.iconst 0, 1) := by decide +kernel
theorem dX12_text_98 : decode cX12_text 98 = .ok (.invokevirtual 163, 3) := by decide +kernel
theorem dX12_text_101 : decode cX12_text 101 = .ok (.istore_n 3, 1) := by decide +kernel
theorem dX12_text_102 : decode cX12_text 102 = .ok (.aload_n 0, 1) := by decide +kernel
theorem dX12_text_103 : decode cX12_text 103 = .ok (.invokevirtual 167, 3) := by decide +kernel
theorem dX12_text_106 : decode cX12_text 106 = .ok (.aload_n 0, 1) := by decide +kernel
theorem dX12_text_107 : decode cX12_text 107 = .ok (.getfield 22, 3) := by decide +kernel
theorem dX12_text_110 : decode cX12_text 110 = .ok (.iconst 1, 1) := by decide +kernel
theorem dX12_text_111 : decode cX12_text 111 = .ok (.aaload, 1) := by decide +kernel
theorem dX12_text_112 : decode cX12_text 112 = .ok (.iconst 0, 1) := by decide +kernel
theorem dX12_text_113 : decode cX12_text 113 = .ok (.iload_n 3, 1) := by decide +kernel
theorem dX12_text_114 : decode cX12_text 114 = .ok (.iastore, 1) := by decide +kernel
theorem dX12_text_115 : decode cX12_text 115 = .ok (.aload_n 0, 1) := by decide +kernel
theorem dX12_text_116 : decode cX12_text 116 = .ok (.invokevirtual 121, 3) := by decide +kernel
theorem dX12_text_119 : decode cX12_text 119 = .ok (.ifCond .eq 18, 3) := by decide +kernel
theorem dX12_text_122 : decode cX12_text 122 = .ok (.aload_n 0, 1) := by decide +kernel
theorem dX12_text_123 : decode cX12_text 123 = .ok (.invokevirtual 125, 3) := by decide +kernel
theorem dX12_text_126 : decode cX12_text 126 = .ok (.iconst (-1), 1) := by decide +kernel
theorem dX12_text_127 : decode cX12_text 127 = .ok (.if_icmp .eq 10, 3) := by decide +kernel
theorem dX12_text_130 : decode cX12_text 130 = .ok (.aload_n 0, 1) := by decide +kernel
theorem dX12_text_131 : decode cX12_text 131 = .ok (.invokevirtual 183, 3) := by decide +kernel
theorem dX12_text_134 : decode cX12_text 134 = .ok (.goto (-19), 3) := by decide +kernel
theorem dX12_text_137 : decode cX12_text 137 = .ok (.aload_n 0, 1) := by decide +kernel
theorem dX12_text_138 : decode cX12_text 138 = .ok (.aload_n 0, 1) := by decide +kernel
theorem dX12_text_139 : decode cX12_text 139 = .ok (.getfield 118, 3) := by decide +kernel
theorem dX12_text_142 : decode cX12_text 142 = .ok (.putfield 13, 3) := by decide +kernel
theorem dX12_text_145 : decode cX12_text 145 = .ok (.aload_n 0, 1) := by decide +kernel
theorem dX12_text_146 : decode cX12_text 146 = .ok (.invokevirtual 121, 3) := by decide +kernel
theorem dX12_text_149 : decode cX12_text 149 = .ok (.ifCond .ne 11, 3) := by decide +kernel
theorem dX12_text_152 : decode cX12_text 152 = .ok (.aload_n 0, 1) := by decide +kernel
theorem dX12_text_153 : decode cX12_text 153 = .ok (.getfield 115, 3) := by decide +kernel
theorem dX12_text_156 : decode cX12_text 156 = .ok (.bipush 10, 2) := by decide +kernel
theorem dX12_text_158 : decode cX12_text 158 = .ok (.isub, 1) := by decide +kernel
theorem dX12_text_159 : decode cX12_text 159 = .ok (.ireturn, 1) := by decide +kernel
theorem dX12_text_160 : decode cX12_text 160 = .ok (.aload_n 0, 1) := by decide +kernel
theorem dX12_text_161 : decode cX12_text 161 = .ok (.iconst 1, 1) := by decide +kernel
theorem dX12_text_162 : decode cX12_text 162 = .ok (.iconst 0, 1) := by decide +kernel
theorem dX12_text_163 : decode cX12_text 163 = .ok (.invokevirtual 186, 3) := by decide +kernel
theorem dX12_text_166 : decode cX12_text 166 = .ok (.aload_n 0, 1) := by decide +kernel
theorem dX12_text_167 : decode cX12_text 167 = .ok (.iconst 0, 1) := by decide +kernel
theorem dX12_text_168 : decode cX12_text 168 = .ok (.putfield 189, 3) := by decide +kernel
theorem dX12_text_171 : decode cX12_text 171 = .ok (.aload_n 0, 1) := by decide +kernel
theorem dX12_text_172 : decode cX12_text 172 = .ok (.iconst 0, 1) := by decide +kernel
theorem dX12_text_173 : decode cX12_text 173 = .ok (.invokevirtual 92, 3) := by decide +kernel
theorem dX12_text_176 : decode cX12_text 176 = .ok (.istore 4, 2) := by decide +kernel
theorem dX12_text_178 : decode cX12_text 178 = .ok (.aload_n 0, 1) := by decide +kernel
theorem dX12_text_179 : decode cX12_text 179 = .ok (.invokevirtual 96, 3) := by decide +kernel
theorem dX12_text_182 : decode cX12_text 182 = .ok (.aload_n 0, 1) := by decide +kernel
theorem dX12_text_183 : decode cX12_text 183 = .ok (.getfield 192, 3) := by decide +kernel
theorem dX12_text_186 : decode cX12_text 186 = .ok (.ireturn, 1) := by decide +kernel
theorem B_X12_text_0 {g : Sg} {c t : Nat} (hL : Lay LM g c t σ) {x1 : Int} (h : ∀ τ1 : Sg, τ1 = sI σ 172 0 0 → (Lay LM g c t τ1 → CC E mX12_nothingWhy [vr 172] τ1 (KV (fun τ3 => Lay LM g c t τ3 ∧ (Lay LM g c t τ3 → CC E mX12_in [vi x1, vi 0, vi (gI τ3 172 2)] τ3 (KI (fun r4 τ5 => Lay LM g c t τ5 ∧ (inR r4 → ((r4 ≠ 0 → (Lay LM g c t τ5 → CC E mX12_bad [vr 172, vi 0, vi 1, vi 1] τ5 (KI (fun r6 τ7 => Lay LM g c t τ7 ∧ (inR r6 → ((r6 = 0 → (Lay LM g c t τ7 → GG E mX12_text 37 [some (vr 172), some (vi x1), none, none, none] [] τ7 rc rs Q)) ∧ (¬ (r6 = 0) → (Lay LM g c t τ7 → GG E mX12_text 35 [none, none, none, none, none] [] τ7 rc rs Q))))) (fun _ _ => False)))) ∧ (r4 = 0 → (Lay LM g c t τ5 → CC E mX12_bad [vr 172, vi 1, vi 1, vi 1] τ5 (KI (fun r8 τ9 => Lay LM g c t τ9 ∧ (inR r8 → ((r8 = 0 → (Lay LM g c t τ9 → GG E mX12_text 37 [some (vr 172), some (vi x1), none, none, none] [] τ9 rc rs Q)) ∧ (¬ (r8 = 0) → (Lay LM g c t τ9 → GG E mX12_text 35 [none, none, none, none, none] [] τ9 rc rs Q))))) (fun _ _ => False))))))) (fun _ _ => False)))) (fun _ _ => False)))) : GG E mX12_text 0 [some (vr 172), some (vi x1), none, none, none] [] σ rc rs Q := by
  refine r_aload_n (pc := 0) dX12_text_0 rfl rfl ?_
  refine r_iconst (pc := 1) dX12_text_1 (inRk rfl) ?_
  refine r_putI (pc := 2) dX12_text_2 (k9 := 0) CL_12 (by decide) (by decide) w_1415 rfl rfl (fun h9 => absurd h9 (by decide +kernel)) (okO_of (N := 42) (hL.sh (i := 0) rfl (by decide) (by decide)) (by decide)) ?_
  refine nmS (fun τ1 e1 => ?_)
  replace h := h τ1 e1
  have hL := hL.wI e1 (by decide) (.inl (by decide))
  refine r_aload_n (pc := 5) dX12_text_5 rfl rfl ?_
  refine c_VV0N (M := mX12_text) (pc := 6) (As := []) dX12_text_6 K_X12_nothingWhy w_1555 ⟨by decide, by decide⟩ (Nat.le_of_ble_eq_true rfl) rfl rfl (ci := 12) rfl rfl (by decide) (okO_of (N := 42) (hL.sh (i := 0) rfl (by decide) (by decide)) (by decide)) (h hL) (fun τ3 h8 => ?_) rfl
  replace hL := h8.1
  replace h := h8.2
  refine r_aload_n (pc := 9) dX12_text_9 rfl rfl ?_
  refine r_iload_n (pc := 10) dX12_text_10 rfl rfl ?_
  refine r_iconst (pc := 11) dX12_text_11 (inRk rfl) ?_
  refine r_aload_n (pc := 12) dX12_text_12 rfl rfl ?_
  refine r_getI (pc := 13) dX12_text_13 (k9 := 2) CL_12 (by decide) (by decide) w_1417 rfl (okO_of (N := 42) (hL.sh (i := 0) rfl (by decide) (by decide)) (by decide)) (fun _ => ?_)
  refine c_SI0N (M := mX12_text) (pc := 16) (As := [vi x1, vi 0, vi (gI τ3 172 2)]) dX12_text_16 K_X12_in w_1559 ⟨by decide, by decide⟩ (Nat.le_of_ble_eq_true rfl) rfl rfl (h hL) (fun r4 τ5 h8 hr9 => ?_) rfl
  replace hL := h8.1
  replace h := h8.2 hr9
  refine r_if_ne (pc := 19) (tgt := 26) dX12_text_19 (by decide) (fun c9 => ?_) (fun c9 => ?_)
  · replace h := h.1 c9
    refine r_iconst (pc := 26) dX12_text_26 (inRk rfl) ?_
    refine r_iconst (pc := 27) dX12_text_27 (inRk rfl) ?_
    refine r_iconst (pc := 28) dX12_text_28 (inRk rfl) ?_
    refine c_VI0N (M := mX12_text) (pc := 29) (As := [vi 0, vi 1, vi 1]) dX12_text_29 K_X12_bad w_1562 ⟨by decide, by decide⟩ (Nat.le_of_ble_eq_true rfl) rfl rfl (ci := 12) rfl rfl (by decide) (okO_of (N := 42) (hL.sh (i := 0) rfl (by decide) (by decide)) (by decide)) (h hL) (fun r6 τ7 h8 hr9 => ?_) rfl
    replace hL := h8.1
    replace h := h8.2 hr9
    refine r_if_eq (pc := 32) (tgt := 37) dX12_text_32 (by decide) (fun c9 => ?_) (fun c9 => ?_)
    · replace h := h.1 c9
      exact (h hL)
    · replace h := h.2 c9
      exact GG.msk [false, false, false, false, false] (h hL)
  · replace h := h.2 c9
    refine r_iconst (pc := 22) dX12_text_22 (inRk rfl) ?_
    refine r_goto (pc := 23) (tgt := 27) dX12_text_23 (by decide) ?_
    refine r_iconst (pc := 27) dX12_text_27 (inRk rfl) ?_
    refine r_iconst (pc := 28) dX12_text_28 (inRk rfl) ?_
    refine c_VI0N (M := mX12_text) (pc := 29) (As := [vi 1, vi 1, vi 1]) dX12_text_29 K_X12_bad w_1562 ⟨by decide, by decide⟩ (Nat.le_of_ble_eq_true rfl) rfl rfl (ci := 12) rfl rfl (by decide) (okO_of (N := 42) (hL.sh (i := 0) rfl (by decide) (by decide)) (by decide)) (h hL) (fun r8 τ9 h8 hr9 => ?_) rfl
    replace hL := h8.1
    replace h := h8.2 hr9
    refine r_if_eq (pc := 32) (tgt := 37) dX12_text_32 (by decide) (fun c9 => ?_) (fun c9 => ?_)
    · replace h := h.1 c9
      exact (h hL)
    · replace h := h.2 c9
      exact GG.msk [false, false, false, false, false] (h hL)
theorem B_X12_text_35 {g : Sg} {c t : Nat} (hL : Lay LM g c t σ)  (h : (Lay LM g c t σ → Q (.inl (some (vi 0))) σ)) : GG E mX12_text 35 [none, none, none, none, none] [] σ rc rs Q := by
  refine r_iconst (pc := 35) dX12_text_35 (inRk rfl) ?_
  exact r_ireturn (pc := 36) (ty := .int) dX12_text_36 (by decide +kernel) rfl (nar_i _) (h hL)
theorem B_X12_text_37 {g : Sg} {c t : Nat} (hL : Lay LM g c t σ) {x1 : Int} (h : ∀ τ1 : Sg, τ1 = sI σ 172 2 0 → ∀ τ2 : Sg, τ2 = sI τ1 172 3 x1 → ∀ τ3 : Sg, τ3 = sI τ2 172 4 0 → ∀ τ4 : Sg, τ4 = sI τ3 172 6 0 → ∀ τ5 : Sg, τ5 = sI τ4 172 7 (-1) → ∀ τ6 : Sg, τ6 = sI τ5 177 1 0 → (Lay LM g c t τ6 → CC E mX12_here [vr 172] τ6 (KI (fun r7 τ8 => Lay LM g c t τ8 ∧ (inR r7 → (Lay LM g c t τ8 → CC E mX12_takes [vr 172, vr 10] τ8 (KI (fun r9 τ10 => Lay LM g c t τ10 ∧ (inR r9 → ((r9 ≠ 0 → (Lay LM g c t τ10 → CC E mX12_number [vr 172, vi 0] τ10 (KI (fun r11 τ12 => Lay LM g c t τ12 ∧ (inR r11 → (Lay LM g c t τ12 → CC E mX12_ends [vr 172] τ12 (KV (fun τ14 => Lay LM g c t τ14 ∧ ∀ τ15 : Sg, τ15 = sI τ14 177 0 r11 → (Lay LM g c t τ15 → GG E mX12_text 115 [some (vr 172), none, none, none, none] [] τ15 rc rs Q)) (fun _ _ => False))))) (fun _ _ => False)))) ∧ (r9 = 0 → (Lay LM g c t τ10 → CC E mX12_wrong [vr 172, vi 1, vi (gI τ8 172 4)] τ10 (KV (fun τ17 => Lay LM g c t τ17 ∧ (Lay LM g c t τ17 → CC E mX12_number [vr 172, vi 0] τ17 (KI (fun r18 τ19 => Lay LM g c t τ19 ∧ (inR r18 → (Lay LM g c t τ19 → CC E mX12_ends [vr 172] τ19 (KV (fun τ21 => Lay LM g c t τ21 ∧ ∀ τ22 : Sg, τ22 = sI τ21 177 0 r18 → (Lay LM g c t τ22 → GG E mX12_text 115 [some (vr 172), none, none, none, none] [] τ22 rc rs Q)) (fun _ _ => False))))) (fun _ _ => False)))) (fun _ _ => False))))))) (fun _ _ => False))))) (fun _ _ => False)))) : GG E mX12_text 37 [some (vr 172), some (vi x1), none, none, none] [] σ rc rs Q := by
  refine r_aload_n (pc := 37) dX12_text_37 rfl rfl ?_
  refine r_iconst (pc := 38) dX12_text_38 (inRk rfl) ?_
  refine r_putI (pc := 39) dX12_text_39 (k9 := 2) CL_12 (by decide) (by decide) w_1417 rfl rfl (fun h9 => absurd h9 (by decide +kernel)) (okO_of (N := 42) (hL.sh (i := 0) rfl (by decide) (by decide)) (by decide)) ?_
  refine nmS (fun τ1 e1 => ?_)
  replace h := h τ1 e1
  have hL := hL.wI e1 (by decide) (.inl (by decide))
  refine r_aload_n (pc := 42) dX12_text_42 rfl rfl ?_
  refine r_iload_n (pc := 43) dX12_text_43 rfl rfl ?_
  refine r_putI (pc := 44) dX12_text_44 (k9 := 3) CL_12 (by decide) (by decide) w_1418 rfl rfl (fun h9 => absurd h9 (by decide +kernel)) (okO_of (N := 42) (hL.sh (i := 0) rfl (by decide) (by decide)) (by decide)) ?_
  refine nmS (fun τ2 e2 => ?_)
  replace h := h τ2 e2
  have hL := hL.wI e2 (by decide) (.inl (by decide))
  refine r_aload_n (pc := 47) dX12_text_47 rfl rfl ?_
  refine r_iconst (pc := 48) dX12_text_48 (inRk rfl) ?_
  refine r_putI (pc := 49) dX12_text_49 (k9 := 4) CL_12 (by decide) (by decide) w_1419 rfl rfl (fun h9 => absurd h9 (by decide +kernel)) (okO_of (N := 42) (hL.sh (i := 0) rfl (by decide) (by decide)) (by decide)) ?_
  refine nmS (fun τ3 e3 => ?_)
  replace h := h τ3 e3
  have hL := hL.wI e3 (by decide) (.inl (by decide))
  refine r_aload_n (pc := 52) dX12_text_52 rfl rfl ?_
  refine r_iconst (pc := 53) dX12_text_53 (inRk rfl) ?_
  refine r_putI (pc := 54) dX12_text_54 (k9 := 6) CL_12 (by decide) (by decide) w_1421 rfl rfl (fun h9 => absurd h9 (by decide +kernel)) (okO_of (N := 42) (hL.sh (i := 0) rfl (by decide) (by decide)) (by decide)) ?_
  refine nmS (fun τ4 e4 => ?_)
  replace h := h τ4 e4
  have hL := hL.wI e4 (by decide) (.inl (by decide))
  refine r_aload_n (pc := 57) dX12_text_57 rfl rfl ?_
  refine r_iconst (pc := 58) dX12_text_58 (inRk rfl) ?_
  refine r_putI (pc := 59) dX12_text_59 (k9 := 7) CL_12 (by decide) (by decide) w_1422 rfl rfl (fun h9 => absurd h9 (by decide +kernel)) (okO_of (N := 42) (hL.sh (i := 0) rfl (by decide) (by decide)) (by decide)) ?_
  refine nmS (fun τ5 e5 => ?_)
  replace h := h τ5 e5
  have hL := hL.wI e5 (by decide) (.inl (by decide))
  refine r_aload_n (pc := 62) dX12_text_62 rfl rfl ?_
  refine r_getR (pc := 63) dX12_text_63 (k9 := 9) CL_12 (by decide) (by decide) w_1424 rfl (okO_of (N := 42) (hL.sh (i := 0) rfl (by decide) (by decide)) (by decide)) ?_
  refine eqR (y := 175) (hL.rf (i := 2) rfl) ?_
  refine r_iconst (pc := 66) dX12_text_66 (inRk rfl) ?_
  refine r_aaload (pc := 67) dX12_text_67 (okB_of (c := 24) (n := 10) (hL.sh (i := 3) rfl (by decide) (by decide)) (by decide) (by decide)) ?_
  refine eqR (y := 177) (hL.rx (i := 0) rfl (by decide)) ?_
  refine r_iconst (pc := 68) dX12_text_68 (inRk rfl) ?_
  refine r_iconst (pc := 69) dX12_text_69 (inRk rfl) ?_
  refine r_iastore (pc := 70) dX12_text_70 (okB_of (c := 20) (n := 34) (hL.sh (i := 4) rfl (by decide) (by decide)) (by decide) (by decide)) ?_
  refine nmS (fun τ6 e6 => ?_)
  replace h := h τ6 e6
  have hL := hL.wI e6 (by decide) (.inl (by decide))
  refine r_aload_n (pc := 71) dX12_text_71 rfl rfl ?_
  refine c_VI0N (M := mX12_text) (pc := 72) (As := []) dX12_text_72 K_X12_here w_1566 ⟨by decide, by decide⟩ (Nat.le_of_ble_eq_true rfl) rfl rfl (ci := 12) rfl rfl (by decide) (okO_of (N := 42) (hL.sh (i := 0) rfl (by decide) (by decide)) (by decide)) (h hL) (fun r7 τ8 h8 hr9 => ?_) rfl
  replace hL := h8.1
  replace h := h8.2 hr9
  refine r_pop (pc := 75) dX12_text_75 (fun _ h9 => nomatch h9) ?_
  refine r_aload_n (pc := 76) dX12_text_76 rfl rfl ?_
  refine r_getI (pc := 77) dX12_text_77 (k9 := 4) CL_12 (by decide) (by decide) w_1419 rfl (okO_of (N := 42) (hL.sh (i := 0) rfl (by decide) (by decide)) (by decide)) (fun _ => ?_)
  refine r_istore_n (pc := 80) dX12_text_80 rfl (by decide) (l2 := [some (vr 172), some (vi x1), some (vi (gI τ8 172 4)), none, none]) rfl ?_
  refine r_aload_n (pc := 81) dX12_text_81 rfl rfl ?_
  refine r_ldcS (pc := 82) (a := 10) dX12_text_82 (List.mem_of_getElem? (i := 3) rfl) (by decide) ?_
  refine c_VI0N (M := mX12_text) (pc := 84) (As := [vr 10]) dX12_text_84 K_X12_takes w_1575 ⟨by decide, by decide⟩ (Nat.le_of_ble_eq_true rfl) rfl rfl (ci := 12) rfl rfl (by decide) (okO_of (N := 42) (hL.sh (i := 0) rfl (by decide) (by decide)) (by decide)) (h hL) (fun r9 τ10 h8 hr9 => ?_) rfl
  replace hL := h8.1
  replace h := h8.2 hr9
  refine r_if_ne (pc := 87) (tgt := 96) dX12_text_87 (by decide) (fun c9 => ?_) (fun c9 => ?_)
  · replace h := h.1 c9
    refine r_aload_n (pc := 96) dX12_text_96 rfl rfl ?_
    refine r_iconst (pc := 97) dX12_text_97 (inRk rfl) ?_
    refine c_VI0N (M := mX12_text) (pc := 98) (As := [vi 0]) dX12_text_98 K_X12_number w_1592 ⟨by decide, by decide⟩ (Nat.le_of_ble_eq_true rfl) rfl rfl (ci := 12) rfl rfl (by decide) (okO_of (N := 42) (hL.sh (i := 0) rfl (by decide) (by decide)) (by decide)) (h hL) (fun r11 τ12 h8 hr9 => ?_) rfl
    replace hL := h8.1
    replace h := h8.2 hr9
    refine r_istore_n (pc := 101) dX12_text_101 rfl (by decide) (l2 := [some (vr 172), some (vi x1), some (vi (gI τ8 172 4)), some (vi r11), none]) rfl ?_
    refine r_aload_n (pc := 102) dX12_text_102 rfl rfl ?_
    refine c_VV0N (M := mX12_text) (pc := 103) (As := []) dX12_text_103 K_X12_ends w_1603 ⟨by decide, by decide⟩ (Nat.le_of_ble_eq_true rfl) rfl rfl (ci := 12) rfl rfl (by decide) (okO_of (N := 42) (hL.sh (i := 0) rfl (by decide) (by decide)) (by decide)) (h hL) (fun τ14 h8 => ?_) rfl
    replace hL := h8.1
    replace h := h8.2
    refine r_aload_n (pc := 106) dX12_text_106 rfl rfl ?_
    refine r_getR (pc := 107) dX12_text_107 (k9 := 9) CL_12 (by decide) (by decide) w_1424 rfl (okO_of (N := 42) (hL.sh (i := 0) rfl (by decide) (by decide)) (by decide)) ?_
    refine eqR (y := 175) (hL.rf (i := 2) rfl) ?_
    refine r_iconst (pc := 110) dX12_text_110 (inRk rfl) ?_
    refine r_aaload (pc := 111) dX12_text_111 (okB_of (c := 24) (n := 10) (hL.sh (i := 3) rfl (by decide) (by decide)) (by decide) (by decide)) ?_
    refine eqR (y := 177) (hL.rx (i := 0) rfl (by decide)) ?_
    refine r_iconst (pc := 112) dX12_text_112 (inRk rfl) ?_
    refine r_iload_n (pc := 113) dX12_text_113 rfl rfl ?_
    refine r_iastore (pc := 114) dX12_text_114 (okB_of (c := 20) (n := 34) (hL.sh (i := 4) rfl (by decide) (by decide)) (by decide) (by decide)) ?_
    refine nmS (fun τ15 e15 => ?_)
    replace h := h τ15 e15
    have hL := hL.wI e15 (by decide) (.inl (by decide))
    exact GG.msk [true, false, false, false, false] (h hL)
  · replace h := h.2 c9
    refine r_aload_n (pc := 90) dX12_text_90 rfl rfl ?_
    refine r_iconst (pc := 91) dX12_text_91 (inRk rfl) ?_
    refine r_iload_n (pc := 92) dX12_text_92 rfl rfl ?_
    refine c_VV0N (M := mX12_text) (pc := 93) (As := [vi 1, vi (gI τ8 172 4)]) dX12_text_93 K_X12_wrong w_1588 ⟨by decide, by decide⟩ (Nat.le_of_ble_eq_true rfl) rfl rfl (ci := 12) rfl rfl (by decide) (okO_of (N := 42) (hL.sh (i := 0) rfl (by decide) (by decide)) (by decide)) (h hL) (fun τ17 h8 => ?_) rfl
    replace hL := h8.1
    replace h := h8.2
    refine r_aload_n (pc := 96) dX12_text_96 rfl rfl ?_
    refine r_iconst (pc := 97) dX12_text_97 (inRk rfl) ?_
    refine c_VI0N (M := mX12_text) (pc := 98) (As := [vi 0]) dX12_text_98 K_X12_number w_1592 ⟨by decide, by decide⟩ (Nat.le_of_ble_eq_true rfl) rfl rfl (ci := 12) rfl rfl (by decide) (okO_of (N := 42) (hL.sh (i := 0) rfl (by decide) (by decide)) (by decide)) (h hL) (fun r18 τ19 h8 hr9 => ?_) rfl
    replace hL := h8.1
    replace h := h8.2 hr9
    refine r_istore_n (pc := 101) dX12_text_101 rfl (by decide) (l2 := [some (vr 172), some (vi x1), some (vi (gI τ8 172 4)), some (vi r18), none]) rfl ?_
    refine r_aload_n (pc := 102) dX12_text_102 rfl rfl ?_
    refine c_VV0N (M := mX12_text) (pc := 103) (As := []) dX12_text_103 K_X12_ends w_1603 ⟨by decide, by decide⟩ (Nat.le_of_ble_eq_true rfl) rfl rfl (ci := 12) rfl rfl (by decide) (okO_of (N := 42) (hL.sh (i := 0) rfl (by decide) (by decide)) (by decide)) (h hL) (fun τ21 h8 => ?_) rfl
    replace hL := h8.1
    replace h := h8.2
    refine r_aload_n (pc := 106) dX12_text_106 rfl rfl ?_
    refine r_getR (pc := 107) dX12_text_107 (k9 := 9) CL_12 (by decide) (by decide) w_1424 rfl (okO_of (N := 42) (hL.sh (i := 0) rfl (by decide) (by decide)) (by decide)) ?_
    refine eqR (y := 175) (hL.rf (i := 2) rfl) ?_
    refine r_iconst (pc := 110) dX12_text_110 (inRk rfl) ?_
    refine r_aaload (pc := 111) dX12_text_111 (okB_of (c := 24) (n := 10) (hL.sh (i := 3) rfl (by decide) (by decide)) (by decide) (by decide)) ?_
    refine eqR (y := 177) (hL.rx (i := 0) rfl (by decide)) ?_
    refine r_iconst (pc := 112) dX12_text_112 (inRk rfl) ?_
    refine r_iload_n (pc := 113) dX12_text_113 rfl rfl ?_
    refine r_iastore (pc := 114) dX12_text_114 (okB_of (c := 20) (n := 34) (hL.sh (i := 4) rfl (by decide) (by decide)) (by decide) (by decide)) ?_
    refine nmS (fun τ22 e22 => ?_)
    replace h := h τ22 e22
    have hL := hL.wI e22 (by decide) (.inl (by decide))
    exact GG.msk [true, false, false, false, false] (h hL)
theorem B_X12_text_115 {g : Sg} {c t : Nat} (hL : Lay LM g c t σ)  (h : (Lay LM g c t σ → CC E mX12_fine [vr 172] σ (KI (fun r1 τ2 => Lay LM g c t τ2 ∧ (inR r1 → ((r1 = 0 → (Lay LM g c t τ2 → GG E mX12_text 137 [some (vr 172), none, none, none, none] [] τ2 rc rs Q)) ∧ (¬ (r1 = 0) → (Lay LM g c t τ2 → CC E mX12_here [vr 172] τ2 (KI (fun r3 τ4 => Lay LM g c t τ4 ∧ (inR r3 → ((r3 = (-1) → (Lay LM g c t τ4 → GG E mX12_text 137 [some (vr 172), none, none, none, none] [] τ4 rc rs Q)) ∧ (¬ (r3 = (-1)) → (Lay LM g c t τ4 → CC E mX12_readsTurn [vr 172] τ4 (KV (fun τ6 => Lay LM g c t τ6 ∧ (Lay LM g c t τ6 → GG E mX12_text 115 [some (vr 172), none, none, none, none] [] τ6 rc rs Q)) (fun _ _ => False))))))) (fun _ _ => False))))))) (fun _ _ => False)))) : GG E mX12_text 115 [some (vr 172), none, none, none, none] [] σ rc rs Q := by
  refine r_aload_n (pc := 115) dX12_text_115 rfl rfl ?_
  refine c_VI0N (M := mX12_text) (pc := 116) (As := []) dX12_text_116 K_X12_fine w_1579 ⟨by decide, by decide⟩ (Nat.le_of_ble_eq_true rfl) rfl rfl (ci := 12) rfl rfl (by decide) (okO_of (N := 42) (hL.sh (i := 0) rfl (by decide) (by decide)) (by decide)) (h hL) (fun r1 τ2 h8 hr9 => ?_) rfl
  replace hL := h8.1
  replace h := h8.2 hr9
  refine r_if_eq (pc := 119) (tgt := 137) dX12_text_119 (by decide) (fun c9 => ?_) (fun c9 => ?_)
  · replace h := h.1 c9
    exact (h hL)
  · replace h := h.2 c9
    refine r_aload_n (pc := 122) dX12_text_122 rfl rfl ?_
    refine c_VI0N (M := mX12_text) (pc := 123) (As := []) dX12_text_123 K_X12_here w_1566 ⟨by decide, by decide⟩ (Nat.le_of_ble_eq_true rfl) rfl rfl (ci := 12) rfl rfl (by decide) (okO_of (N := 42) (hL.sh (i := 0) rfl (by decide) (by decide)) (by decide)) (h hL) (fun r3 τ4 h8 hr9 => ?_) rfl
    replace hL := h8.1
    replace h := h8.2 hr9
    refine r_iconst (pc := 126) dX12_text_126 (inRk rfl) ?_
    refine r_icmp_eq (pc := 127) (tgt := 137) dX12_text_127 (by decide) (fun c9 => ?_) (fun c9 => ?_)
    · replace h := h.1 c9
      exact (h hL)
    · replace h := h.2 c9
      refine r_aload_n (pc := 130) dX12_text_130 rfl rfl ?_
      refine c_VV0N (M := mX12_text) (pc := 131) (As := []) dX12_text_131 K_X12_readsTurn w_1607 ⟨by decide, by decide⟩ (Nat.le_of_ble_eq_true rfl) rfl rfl (ci := 12) rfl rfl (by decide) (okO_of (N := 42) (hL.sh (i := 0) rfl (by decide) (by decide)) (by decide)) (h hL) (fun τ6 h8 => ?_) rfl
      replace hL := h8.1
      replace h := h8.2
      refine r_goto (pc := 134) (tgt := 115) dX12_text_134 (by decide) ?_
      exact (h hL)
theorem B_X12_text_137 {g : Sg} {c t : Nat} (hL : Lay LM g c t σ)  (h : ∀ τ1 : Sg, τ1 = sI σ 172 5 (gI σ 172 7) → (Lay LM g c t τ1 → CC E mX12_fine [vr 172] τ1 (KI (fun r2 τ3 => Lay LM g c t τ3 ∧ (inR r2 → ((r2 ≠ 0 → (Lay LM g c t τ3 → CC E mX12_copies [vr 172, vi 1, vi 0] τ3 (KV (fun τ5 => Lay LM g c t τ5 ∧ ∀ τ6 : Sg, τ6 = sI τ5 172 10 0 → (Lay LM g c t τ6 → CC E mX12_closes [vr 172, vi 0] τ6 (KI (fun r7 τ8 => Lay LM g c t τ8 ∧ (inR r7 → (Lay LM g c t τ8 → CC E mX12_keepsGroup [vr 172] τ8 (KV (fun τ10 => Lay LM g c t τ10 ∧ (Lay LM g c t τ10 → Q (.inl (some (vi (gI τ10 172 15)))) τ10)) (fun _ _ => False))))) (fun _ _ => False)))) (fun _ _ => False)))) ∧ (r2 = 0 → inR ((gI τ3 172 6) - 10) ∧ (Lay LM g c t τ3 → Q (.inl (some (vi ((gI τ3 172 6) - 10)))) τ3))))) (fun _ _ => False)))) : GG E mX12_text 137 [some (vr 172), none, none, none, none] [] σ rc rs Q := by
  refine r_aload_n (pc := 137) dX12_text_137 rfl rfl ?_
  refine r_aload_n (pc := 138) dX12_text_138 rfl rfl ?_
  refine r_getI (pc := 139) dX12_text_139 (k9 := 7) CL_12 (by decide) (by decide) w_1422 rfl (okO_of (N := 42) (hL.sh (i := 0) rfl (by decide) (by decide)) (by decide)) (fun _ => ?_)
  refine r_putI (pc := 142) dX12_text_142 (k9 := 5) CL_12 (by decide) (by decide) w_1420 rfl rfl (fun h9 => absurd h9 (by decide +kernel)) (okO_of (N := 42) (hL.sh (i := 0) rfl (by decide) (by decide)) (by decide)) ?_
  refine nmS (fun τ1 e1 => ?_)
  replace h := h τ1 e1
  have hL := hL.wI e1 (by decide) (.inl (by decide))
  refine r_aload_n (pc := 145) dX12_text_145 rfl rfl ?_
  refine c_VI0N (M := mX12_text) (pc := 146) (As := []) dX12_text_146 K_X12_fine w_1579 ⟨by decide, by decide⟩ (Nat.le_of_ble_eq_true rfl) rfl rfl (ci := 12) rfl rfl (by decide) (okO_of (N := 42) (hL.sh (i := 0) rfl (by decide) (by decide)) (by decide)) (h hL) (fun r2 τ3 h8 hr9 => ?_) rfl
  replace hL := h8.1
  replace h := h8.2 hr9
  refine r_if_ne (pc := 149) (tgt := 160) dX12_text_149 (by decide) (fun c9 => ?_) (fun c9 => ?_)
  · replace h := h.1 c9
    refine r_aload_n (pc := 160) dX12_text_160 rfl rfl ?_
    refine r_iconst (pc := 161) dX12_text_161 (inRk rfl) ?_
    refine r_iconst (pc := 162) dX12_text_162 (inRk rfl) ?_
    refine c_VV0N (M := mX12_text) (pc := 163) (As := [vi 1, vi 0]) dX12_text_163 K_X12_copies w_1616 ⟨by decide, by decide⟩ (Nat.le_of_ble_eq_true rfl) rfl rfl (ci := 12) rfl rfl (by decide) (okO_of (N := 42) (hL.sh (i := 0) rfl (by decide) (by decide)) (by decide)) (h hL) (fun τ5 h8 => ?_) rfl
    replace hL := h8.1
    replace h := h8.2
    refine r_aload_n (pc := 166) dX12_text_166 rfl rfl ?_
    refine r_iconst (pc := 167) dX12_text_167 (inRk rfl) ?_
    refine r_putI (pc := 168) dX12_text_168 (k9 := 10) CL_12 (by decide) (by decide) w_1425 rfl rfl (fun h9 => absurd h9 (by decide +kernel)) (okO_of (N := 42) (hL.sh (i := 0) rfl (by decide) (by decide)) (by decide)) ?_
    refine nmS (fun τ6 e6 => ?_)
    replace h := h τ6 e6
    have hL := hL.wI e6 (by decide) (.inl (by decide))
    refine r_aload_n (pc := 171) dX12_text_171 rfl rfl ?_
    refine r_iconst (pc := 172) dX12_text_172 (inRk rfl) ?_
    refine c_VI0N (M := mX12_text) (pc := 173) (As := [vi 0]) dX12_text_173 K_X12_closes w_1373 ⟨by decide, by decide⟩ (Nat.le_of_ble_eq_true rfl) rfl rfl (ci := 12) rfl rfl (by decide) (okO_of (N := 42) (hL.sh (i := 0) rfl (by decide) (by decide)) (by decide)) (h hL) (fun r7 τ8 h8 hr9 => ?_) rfl
    replace hL := h8.1
    replace h := h8.2 hr9
    refine r_istore (pc := 176) dX12_text_176 (by decide) (l2 := [some (vr 172), none, none, none, some (vi r7)]) rfl ?_
    refine r_aload_n (pc := 178) dX12_text_178 rfl rfl ?_
    refine c_VV0N (M := mX12_text) (pc := 179) (As := []) dX12_text_179 K_X12_keepsGroup w_1401 ⟨by decide, by decide⟩ (Nat.le_of_ble_eq_true rfl) rfl rfl (ci := 12) rfl rfl (by decide) (okO_of (N := 42) (hL.sh (i := 0) rfl (by decide) (by decide)) (by decide)) (h hL) (fun τ10 h8 => ?_) rfl
    replace hL := h8.1
    replace h := h8.2
    refine r_aload_n (pc := 182) dX12_text_182 rfl rfl ?_
    refine r_getI (pc := 183) dX12_text_183 (k9 := 15) CL_12 (by decide) (by decide) w_1430 rfl (okO_of (N := 42) (hL.sh (i := 0) rfl (by decide) (by decide)) (by decide)) (fun _ => ?_)
    exact r_ireturn (pc := 186) (ty := .int) dX12_text_186 (by decide +kernel) rfl (nar_i _) (h hL)
  · replace h := h.2 c9
    refine r_aload_n (pc := 152) dX12_text_152 rfl rfl ?_
    refine r_getI (pc := 153) dX12_text_153 (k9 := 6) CL_12 (by decide) (by decide) w_1421 rfl (okO_of (N := 42) (hL.sh (i := 0) rfl (by decide) (by decide)) (by decide)) (fun _ => ?_)
    refine r_bipush (pc := 156) dX12_text_156 (by decide) ?_
    obtain ⟨o11, h⟩ := h
    refine r_isub (pc := 158) dX12_text_158 o11 ?_
    exact r_ireturn (pc := 159) (ty := .int) dX12_text_159 (by decide +kernel) rfl (nar_i _) (h hL)
theorem C_X12_text {a0 : Nat} {x1 : Int} (h : GG E mX12_text 0 [some (vr a0), some (vi x1), none, none, none] [] σ 0 0 Q) : CC E mX12_text [vr a0, vi x1] σ Q := CC.of (by decide +kernel) rfl (by decide +kernel) (fun h9 => nomatch h9) (Nat.le_of_ble_eq_true rfl) h
theorem dX12_thrown_0 : decode cX12_thrown 0 = .ok (.aload_n 0, 1) := by decide +kernel
theorem dX12_thrown_1 : decode cX12_thrown 1 = .ok (.getfield 99, 3) := by decide +kernel
theorem dX12_thrown_4 : decode cX12_thrown 4 = .ok (.ireturn, 1) := by decide +kernel
theorem B_X12_thrown_0 {g : Sg} {c t : Nat} (hL : Lay LM g c t σ)  (h : (Lay LM g c t σ → Q (.inl (some (vi (gI σ 172 0)))) σ)) : GG E mX12_thrown 0 [some (vr 172)] [] σ rc rs Q := by
  refine r_aload_n (pc := 0) dX12_thrown_0 rfl rfl ?_
  refine r_getI (pc := 1) dX12_thrown_1 (k9 := 0) CL_12 (by decide) (by decide) w_1415 rfl (okO_of (N := 42) (hL.sh (i := 0) rfl (by decide) (by decide)) (by decide)) (fun _ => ?_)
  exact r_ireturn (pc := 4) (ty := .int) dX12_thrown_4 (by decide +kernel) rfl (nar_i _) (h hL)
theorem C_X12_thrown {a0 : Nat} (h : GG E mX12_thrown 0 [some (vr a0)] [] σ 0 0 Q) : CC E mX12_thrown [vr a0] σ Q := CC.of (by decide +kernel) rfl (by decide +kernel) (fun h9 => nomatch h9) (Nat.le_of_ble_eq_true rfl) h
theorem dX12_told_0 : decode cX12_told 0 = .ok (.aload_n 0, 1) := by decide +kernel
theorem dX12_told_1 : decode cX12_told 1 = .ok (.iconst 0, 1) := by decide +kernel
theorem dX12_told_2 : decode cX12_told 2 = .ok (.putfield 99, 3) := by decide +kernel
theorem dX12_told_5 : decode cX12_told 5 = .ok (.aload_n 0, 1) := by decide +kernel
theorem dX12_told_6 : decode cX12_told 6 = .ok (.iload_n 1, 1) := by decide +kernel
theorem dX12_told_7 : decode cX12_told 7 = .ok (.iconst 0, 1) := by decide +kernel
theorem dX12_told_8 : decode cX12_told 8 = .ok (.bipush 15, 2) := by decide +kernel
theorem dX12_told_10 : decode cX12_told 10 = .ok (.invokestatic 141, 3) := by decide +kernel
theorem dX12_told_13 : decode cX12_told 13 = .ok (.ifCond .ne 7, 3) := by decide +kernel
theorem dX12_told_16 : decode cX12_told 16 = .ok (.iconst 1, 1) := by decide +kernel
theorem dX12_told_17 : decode cX12_told 17 = .ok (.goto 4, 3) := by decide +kernel
theorem dX12_told_20 : decode cX12_told 20 = .ok (.iconst 0, 1) := by decide +kernel
theorem dX12_told_21 : decode cX12_told 21 = .ok (.iconst 1, 1) := by decide +kernel
theorem dX12_told_22 : decode cX12_told 22 = .ok (.iconst 1, 1) := by decide +kernel
theorem dX12_told_23 : decode cX12_told 23 = .ok (.invokevirtual 177, 3) := by decide +kernel
theorem dX12_told_26 : decode cX12_told 26 = .ok (.ifCond .eq 5, 3) := by decide +kernel
theorem dX12_told_29 : decode cX12_told 29 = .ok (.iconst 0, 1) := by decide +kernel
theorem dX12_told_30 : decode cX12_told 30 = .ok (.ireturn, 1) := by decide +kernel
theorem dX12_told_31 : decode cX12_told 31 = .ok (.aload_n 0, 1) := by decide +kernel
theorem dX12_told_32 : decode cX12_told 32 = .ok (.invokevirtual 317, 3) := by decide +kernel
theorem dX12_told_35 : decode cX12_told 35 = .ok (.iload_n 1, 1) := by decide +kernel
theorem dX12_told_36 : decode cX12_told 36 = .ok (.tableswitch 152 0 14 #[76, 76, 85, 90, 95, 100, 105, 110, 115, 120, 125, 130, 135, 140, 147], 76) := by decide +kernel
theorem dX12_told_112 : decode cX12_told 112 = .ok (.aload_n 0, 1) := by decide +kernel
theorem dX12_told_113 : decode cX12_told 113 = .ok (.getfield 22, 3) := by decide +kernel
theorem dX12_told_116 : decode cX12_told 116 = .ok (.iconst 0, 1) := by decide +kernel
theorem dX12_told_117 : decode cX12_told 117 = .ok (.aaload, 1) := by decide +kernel
theorem dX12_told_118 : decode cX12_told 118 = .ok (.iload_n 1, 1) := by decide +kernel
theorem dX12_told_119 : decode cX12_told 119 = .ok (.iaload, 1) := by decide +kernel
theorem dX12_told_120 : decode cX12_told 120 = .ok (.ireturn, 1) := by decide +kernel
theorem dX12_told_121 : decode cX12_told 121 = .ok (.aload_n 0, 1) := by decide +kernel
theorem dX12_told_122 : decode cX12_told 122 = .ok (.getfield 192, 3) := by decide +kernel
theorem dX12_told_125 : decode cX12_told 125 = .ok (.ireturn, 1) := by decide +kernel
theorem dX12_told_126 : decode cX12_told 126 = .ok (.aload_n 0, 1) := by decide +kernel
theorem dX12_told_127 : decode cX12_told 127 = .ok (.getfield 231, 3) := by decide +kernel
theorem dX12_told_130 : decode cX12_told 130 = .ok (.ireturn, 1) := by decide +kernel
theorem dX12_told_131 : decode cX12_told 131 = .ok (.aload_n 0, 1) := by decide +kernel
theorem dX12_told_132 : decode cX12_told 132 = .ok (.invokevirtual 320, 3) := by decide +kernel
theorem dX12_told_135 : decode cX12_told 135 = .ok (.ireturn, 1) := by decide +kernel
theorem dX12_told_136 : decode cX12_told 136 = .ok (.aload_n 0, 1) := by decide +kernel
theorem dX12_told_137 : decode cX12_told 137 = .ok (.getfield 225, 3) := by decide +kernel
theorem dX12_told_140 : decode cX12_told 140 = .ok (.ireturn, 1) := by decide +kernel
theorem dX12_told_141 : decode cX12_told 141 = .ok (.aload_n 0, 1) := by decide +kernel
theorem dX12_told_142 : decode cX12_told 142 = .ok (.invokevirtual 311, 3) := by decide +kernel
theorem dX12_told_145 : decode cX12_told 145 = .ok (.ireturn, 1) := by decide +kernel
theorem dX12_told_146 : decode cX12_told 146 = .ok (.aload_n 0, 1) := by decide +kernel
theorem dX12_told_147 : decode cX12_told 147 = .ok (.invokevirtual 323, 3) := by decide +kernel
theorem dX12_told_150 : decode cX12_told 150 = .ok (.ireturn, 1) := by decide +kernel
theorem dX12_told_151 : decode cX12_told 151 = .ok (.aload_n 0, 1) := by decide +kernel
theorem dX12_told_152 : decode cX12_told 152 = .ok (.invokevirtual 326, 3) := by decide +kernel
theorem dX12_told_155 : decode cX12_told 155 = .ok (.ireturn, 1) := by decide +kernel
theorem dX12_told_156 : decode cX12_told 156 = .ok (.aload_n 0, 1) := by decide +kernel
theorem dX12_told_157 : decode cX12_told 157 = .ok (.invokevirtual 314, 3) := by decide +kernel
theorem dX12_told_160 : decode cX12_told 160 = .ok (.ireturn, 1) := by decide +kernel
theorem dX12_told_161 : decode cX12_told 161 = .ok (.aload_n 0, 1) := by decide +kernel
theorem dX12_told_162 : decode cX12_told 162 = .ok (.getfield 241, 3) := by decide +kernel
theorem dX12_told_165 : decode cX12_told 165 = .ok (.ireturn, 1) := by decide +kernel
theorem dX12_told_166 : decode cX12_told 166 = .ok (.aload_n 0, 1) := by decide +kernel
theorem dX12_told_167 : decode cX12_told 167 = .ok (.getfield 247, 3) := by decide +kernel
theorem dX12_told_170 : decode cX12_told 170 = .ok (.ireturn, 1) := by decide +kernel
theorem dX12_told_171 : decode cX12_told 171 = .ok (.aload_n 0, 1) := by decide +kernel
theorem dX12_told_172 : decode cX12_told 172 = .ok (.invokevirtual 329, 3) := by decide +kernel
theorem dX12_told_175 : decode cX12_told 175 = .ok (.ireturn, 1) := by decide +kernel
theorem dX12_told_176 : decode cX12_told 176 = .ok (.aload_n 0, 1) := by decide +kernel
theorem dX12_told_177 : decode cX12_told 177 = .ok (.getfield 231, 3) := by decide +kernel
theorem dX12_told_180 : decode cX12_told 180 = .ok (.iconst 1, 1) := by decide +kernel
theorem dX12_told_181 : decode cX12_told 181 = .ok (.isub, 1) := by decide +kernel
theorem dX12_told_182 : decode cX12_told 182 = .ok (.ireturn, 1) := by decide +kernel
theorem dX12_told_183 : decode cX12_told 183 = .ok (.aload_n 0, 1) := by decide +kernel
theorem dX12_told_184 : decode cX12_told 184 = .ok (.getfield 189, 3) := by decide +kernel
theorem dX12_told_187 : decode cX12_told 187 = .ok (.ireturn, 1) := by decide +kernel
theorem dX12_told_188 : decode cX12_told 188 = .ok (.aload_n 0, 1) := by decide +kernel
theorem dX12_told_189 : decode cX12_told 189 = .ok (.getfield 102, 3) := by decide +kernel
theorem dX12_told_192 : decode cX12_told 192 = .ok (.ireturn, 1) := by decide +kernel
theorem B_X12_told_0 {g : Sg} {c t : Nat} (hL : Lay LM g c t σ) {x1 : Int} (h : ∀ τ1 : Sg, τ1 = sI σ 172 0 0 → (Lay LM g c t τ1 → CC E mX12_in [vi x1, vi 0, vi 15] τ1 (KI (fun r2 τ3 => Lay LM g c t τ3 ∧ (inR r2 → ((r2 ≠ 0 → (Lay LM g c t τ3 → CC E mX12_bad [vr 172, vi 0, vi 1, vi 1] τ3 (KI (fun r4 τ5 => Lay LM g c t τ5 ∧ (inR r4 → ((r4 = 0 → (Lay LM g c t τ5 → GG E mX12_told 31 [some (vr 172), some (vi x1)] [] τ5 rc rs Q)) ∧ (¬ (r4 = 0) → (Lay LM g c t τ5 → GG E mX12_told 29 [none, none] [] τ5 rc rs Q))))) (fun _ _ => False)))) ∧ (r2 = 0 → (Lay LM g c t τ3 → CC E mX12_bad [vr 172, vi 1, vi 1, vi 1] τ3 (KI (fun r6 τ7 => Lay LM g c t τ7 ∧ (inR r6 → ((r6 = 0 → (Lay LM g c t τ7 → GG E mX12_told 31 [some (vr 172), some (vi x1)] [] τ7 rc rs Q)) ∧ (¬ (r6 = 0) → (Lay LM g c t τ7 → GG E mX12_told 29 [none, none] [] τ7 rc rs Q))))) (fun _ _ => False))))))) (fun _ _ => False)))) : GG E mX12_told 0 [some (vr 172), some (vi x1)] [] σ rc rs Q := by
  refine r_aload_n (pc := 0) dX12_told_0 rfl rfl ?_
  refine r_iconst (pc := 1) dX12_told_1 (inRk rfl) ?_
  refine r_putI (pc := 2) dX12_told_2 (k9 := 0) CL_12 (by decide) (by decide) w_1415 rfl rfl (fun h9 => absurd h9 (by decide +kernel)) (okO_of (N := 42) (hL.sh (i := 0) rfl (by decide) (by decide)) (by decide)) ?_
  refine nmS (fun τ1 e1 => ?_)
  replace h := h τ1 e1
  have hL := hL.wI e1 (by decide) (.inl (by decide))
  refine r_aload_n (pc := 5) dX12_told_5 rfl rfl ?_
  refine r_iload_n (pc := 6) dX12_told_6 rfl rfl ?_
  refine r_iconst (pc := 7) dX12_told_7 (inRk rfl) ?_
  refine r_bipush (pc := 8) dX12_told_8 (by decide) ?_
  refine c_SI0N (M := mX12_told) (pc := 10) (As := [vi x1, vi 0, vi 15]) dX12_told_10 K_X12_in w_1559 ⟨by decide, by decide⟩ (Nat.le_of_ble_eq_true rfl) rfl rfl (h hL) (fun r2 τ3 h8 hr9 => ?_) rfl
  replace hL := h8.1
  replace h := h8.2 hr9
  refine r_if_ne (pc := 13) (tgt := 20) dX12_told_13 (by decide) (fun c9 => ?_) (fun c9 => ?_)
  · replace h := h.1 c9
    refine r_iconst (pc := 20) dX12_told_20 (inRk rfl) ?_
    refine r_iconst (pc := 21) dX12_told_21 (inRk rfl) ?_
    refine r_iconst (pc := 22) dX12_told_22 (inRk rfl) ?_
    refine c_VI0N (M := mX12_told) (pc := 23) (As := [vi 0, vi 1, vi 1]) dX12_told_23 K_X12_bad w_1562 ⟨by decide, by decide⟩ (Nat.le_of_ble_eq_true rfl) rfl rfl (ci := 12) rfl rfl (by decide) (okO_of (N := 42) (hL.sh (i := 0) rfl (by decide) (by decide)) (by decide)) (h hL) (fun r4 τ5 h8 hr9 => ?_) rfl
    replace hL := h8.1
    replace h := h8.2 hr9
    refine r_if_eq (pc := 26) (tgt := 31) dX12_told_26 (by decide) (fun c9 => ?_) (fun c9 => ?_)
    · replace h := h.1 c9
      exact (h hL)
    · replace h := h.2 c9
      exact GG.msk [false, false] (h hL)
  · replace h := h.2 c9
    refine r_iconst (pc := 16) dX12_told_16 (inRk rfl) ?_
    refine r_goto (pc := 17) (tgt := 21) dX12_told_17 (by decide) ?_
    refine r_iconst (pc := 21) dX12_told_21 (inRk rfl) ?_
    refine r_iconst (pc := 22) dX12_told_22 (inRk rfl) ?_
    refine c_VI0N (M := mX12_told) (pc := 23) (As := [vi 1, vi 1, vi 1]) dX12_told_23 K_X12_bad w_1562 ⟨by decide, by decide⟩ (Nat.le_of_ble_eq_true rfl) rfl rfl (ci := 12) rfl rfl (by decide) (okO_of (N := 42) (hL.sh (i := 0) rfl (by decide) (by decide)) (by decide)) (h hL) (fun r6 τ7 h8 hr9 => ?_) rfl
    replace hL := h8.1
    replace h := h8.2 hr9
    refine r_if_eq (pc := 26) (tgt := 31) dX12_told_26 (by decide) (fun c9 => ?_) (fun c9 => ?_)
    · replace h := h.1 c9
      exact (h hL)
    · replace h := h.2 c9
      exact GG.msk [false, false] (h hL)
theorem B_X12_told_29 {g : Sg} {c t : Nat} (hL : Lay LM g c t σ)  (h : (Lay LM g c t σ → Q (.inl (some (vi 0))) σ)) : GG E mX12_told 29 [none, none] [] σ rc rs Q := by
  refine r_iconst (pc := 29) dX12_told_29 (inRk rfl) ?_
  exact r_ireturn (pc := 30) (ty := .int) dX12_told_30 (by decide +kernel) rfl (nar_i _) (h hL)
theorem B_X12_told_31 {g : Sg} {c t : Nat} (hL : Lay LM g c t σ) {x1 : Int} (h : (Lay LM g c t σ → CC E mX12_laysRows [vr 172] σ (KV (fun τ2 => Lay LM g c t τ2 ∧ ((x1 = 0 → (0 ≤ x1 ∧ x1 < 34) ∧ (Lay LM g c t τ2 → Q (.inl (some (vi (gI τ2 176 x1.toNat)))) τ2)) ∧ (x1 = 1 → (0 ≤ x1 ∧ x1 < 34) ∧ (Lay LM g c t τ2 → Q (.inl (some (vi (gI τ2 176 x1.toNat)))) τ2)) ∧ (x1 = 2 → (Lay LM g c t τ2 → Q (.inl (some (vi (gI τ2 172 15)))) τ2)) ∧ (x1 = 3 → (Lay LM g c t τ2 → Q (.inl (some (vi (gI τ2 172 16)))) τ2)) ∧ (x1 = 4 → (Lay LM g c t τ2 → CC E mX12_centre [vr 172] τ2 (KI (fun r5 τ6 => Lay LM g c t τ6 ∧ (inR r5 → (Lay LM g c t τ6 → Q (.inl (some (vi r5))) τ6))) (fun _ _ => False)))) ∧ (x1 = 5 → (Lay LM g c t τ2 → Q (.inl (some (vi (gI τ2 172 17)))) τ2)) ∧ (x1 = 6 → (Lay LM g c t τ2 → CC E mX12_kind [vr 172] τ2 (KI (fun r7 τ8 => Lay LM g c t τ8 ∧ (inR r7 → (Lay LM g c t τ8 → Q (.inl (some (vi r7))) τ8))) (fun _ _ => False)))) ∧ (x1 = 7 → (Lay LM g c t τ2 → CC E mX12_kindNumber [vr 172] τ2 (KI (fun r9 τ10 => Lay LM g c t τ10 ∧ (inR r9 → (Lay LM g c t τ10 → Q (.inl (some (vi r9))) τ10))) (fun _ _ => False)))) ∧ (x1 = 8 → (Lay LM g c t τ2 → CC E mX12_turned [vr 172] τ2 (KI (fun r11 τ12 => Lay LM g c t τ12 ∧ (inR r11 → (Lay LM g c t τ12 → Q (.inl (some (vi r11))) τ12))) (fun _ _ => False)))) ∧ (x1 = 9 → (Lay LM g c t τ2 → CC E mX12_minus [vr 172] τ2 (KI (fun r13 τ14 => Lay LM g c t τ14 ∧ (inR r13 → (Lay LM g c t τ14 → Q (.inl (some (vi r13))) τ14))) (fun _ _ => False)))) ∧ (x1 = 10 → (Lay LM g c t τ2 → Q (.inl (some (vi (gI τ2 172 18)))) τ2)) ∧ (x1 = 11 → (Lay LM g c t τ2 → Q (.inl (some (vi (gI τ2 172 19)))) τ2)) ∧ (x1 = 12 → (Lay LM g c t τ2 → CC E mX12_diagram [vr 172] τ2 (KI (fun r15 τ16 => Lay LM g c t τ16 ∧ (inR r15 → (Lay LM g c t τ16 → Q (.inl (some (vi r15))) τ16))) (fun _ _ => False)))) ∧ (x1 = 13 → inR ((gI τ2 172 16) - 1) ∧ (Lay LM g c t τ2 → Q (.inl (some (vi ((gI τ2 172 16) - 1)))) τ2)) ∧ (x1 = 14 → (Lay LM g c t τ2 → Q (.inl (some (vi (gI τ2 172 10)))) τ2)) ∧ ((x1 < 0 ∨ 14 < x1) → (Lay LM g c t τ2 → Q (.inl (some (vi (gI τ2 172 2)))) τ2)))) (fun _ _ => False)))) : GG E mX12_told 31 [some (vr 172), some (vi x1)] [] σ rc rs Q := by
  refine r_aload_n (pc := 31) dX12_told_31 rfl rfl ?_
  refine c_VV0N (M := mX12_told) (pc := 32) (As := []) dX12_told_32 K_X12_laysRows w_1652 ⟨by decide, by decide⟩ (Nat.le_of_ble_eq_true rfl) rfl rfl (ci := 12) rfl rfl (by decide) (okO_of (N := 42) (hL.sh (i := 0) rfl (by decide) (by decide)) (by decide)) (h hL) (fun τ2 h8 => ?_) rfl
  replace hL := h8.1
  replace h := h8.2
  refine r_iload_n (pc := 35) dX12_told_35 rfl rfl ?_
  have c8 : x1 = 0 ∨ x1 = 1 ∨ x1 = 2 ∨ x1 = 3 ∨ x1 = 4 ∨ x1 = 5 ∨ x1 = 6 ∨ x1 = 7 ∨ x1 = 8 ∨ x1 = 9 ∨ x1 = 10 ∨ x1 = 11 ∨ x1 = 12 ∨ x1 = 13 ∨ x1 = 14 ∨ (x1 < 0 ∨ 14 < x1) := by omega
  rcases c8 with c9 | c9 | c9 | c9 | c9 | c9 | c9 | c9 | c9 | c9 | c9 | c9 | c9 | c9 | c9 | c9
  · replace h := h.1 c9
    refine r_tabE (pc := 36) (tgt := 112) dX12_told_36 c9 (by decide) (by decide) rfl (by decide) ?_
    refine r_aload_n (pc := 112) dX12_told_112 rfl rfl ?_
    refine r_getR (pc := 113) dX12_told_113 (k9 := 9) CL_12 (by decide) (by decide) w_1424 rfl (okO_of (N := 42) (hL.sh (i := 0) rfl (by decide) (by decide)) (by decide)) ?_
    refine eqR (y := 175) (hL.rf (i := 2) rfl) ?_
    refine r_iconst (pc := 116) dX12_told_116 (inRk rfl) ?_
    refine r_aaload (pc := 117) dX12_told_117 (okB_of (c := 24) (n := 10) (hL.sh (i := 3) rfl (by decide) (by decide)) (by decide) (by decide)) ?_
    refine eqR (y := 176) (hL.rx (i := 0) rfl (by decide)) ?_
    refine r_iload_n (pc := 118) dX12_told_118 rfl rfl ?_
    obtain ⟨o3, h⟩ := h
    refine r_iaload (pc := 119) dX12_told_119 (okA_of (c := 20) (n := 34) (hL.sh (i := 4) rfl (by decide) (by decide)) (by decide) o3) ?_
    exact r_ireturn (pc := 120) (ty := .int) dX12_told_120 (by decide +kernel) rfl (nar_i _) (h hL)
  · replace h := h.2.1 c9
    refine r_tabE (pc := 36) (tgt := 112) dX12_told_36 c9 (by decide) (by decide) rfl (by decide) ?_
    refine r_aload_n (pc := 112) dX12_told_112 rfl rfl ?_
    refine r_getR (pc := 113) dX12_told_113 (k9 := 9) CL_12 (by decide) (by decide) w_1424 rfl (okO_of (N := 42) (hL.sh (i := 0) rfl (by decide) (by decide)) (by decide)) ?_
    refine eqR (y := 175) (hL.rf (i := 2) rfl) ?_
    refine r_iconst (pc := 116) dX12_told_116 (inRk rfl) ?_
    refine r_aaload (pc := 117) dX12_told_117 (okB_of (c := 24) (n := 10) (hL.sh (i := 3) rfl (by decide) (by decide)) (by decide) (by decide)) ?_
    refine eqR (y := 176) (hL.rx (i := 0) rfl (by decide)) ?_
    refine r_iload_n (pc := 118) dX12_told_118 rfl rfl ?_
    obtain ⟨o4, h⟩ := h
    refine r_iaload (pc := 119) dX12_told_119 (okA_of (c := 20) (n := 34) (hL.sh (i := 4) rfl (by decide) (by decide)) (by decide) o4) ?_
    exact r_ireturn (pc := 120) (ty := .int) dX12_told_120 (by decide +kernel) rfl (nar_i _) (h hL)
  · replace h := h.2.2.1 c9
    refine r_tabE (pc := 36) (tgt := 121) dX12_told_36 c9 (by decide) (by decide) rfl (by decide) ?_
    refine r_aload_n (pc := 121) dX12_told_121 rfl rfl ?_
    refine r_getI (pc := 122) dX12_told_122 (k9 := 15) CL_12 (by decide) (by decide) w_1430 rfl (okO_of (N := 42) (hL.sh (i := 0) rfl (by decide) (by decide)) (by decide)) (fun _ => ?_)
    exact r_ireturn (pc := 125) (ty := .int) dX12_told_125 (by decide +kernel) rfl (nar_i _) (h hL)
  · replace h := h.2.2.2.1 c9
    refine r_tabE (pc := 36) (tgt := 126) dX12_told_36 c9 (by decide) (by decide) rfl (by decide) ?_
    refine r_aload_n (pc := 126) dX12_told_126 rfl rfl ?_
    refine r_getI (pc := 127) dX12_told_127 (k9 := 16) CL_12 (by decide) (by decide) w_1431 rfl (okO_of (N := 42) (hL.sh (i := 0) rfl (by decide) (by decide)) (by decide)) (fun _ => ?_)
    exact r_ireturn (pc := 130) (ty := .int) dX12_told_130 (by decide +kernel) rfl (nar_i _) (h hL)
  · replace h := h.2.2.2.2.1 c9
    refine r_tabE (pc := 36) (tgt := 131) dX12_told_36 c9 (by decide) (by decide) rfl (by decide) ?_
    refine r_aload_n (pc := 131) dX12_told_131 rfl rfl ?_
    refine c_VI0N (M := mX12_told) (pc := 132) (As := []) dX12_told_132 K_X12_centre w_1694 ⟨by decide, by decide⟩ (Nat.le_of_ble_eq_true rfl) rfl rfl (ci := 12) rfl rfl (by decide) (okO_of (N := 42) (hL.sh (i := 0) rfl (by decide) (by decide)) (by decide)) (h hL) (fun r5 τ6 h8 hr9 => ?_) rfl
    replace hL := h8.1
    replace h := h8.2 hr9
    exact r_ireturn (pc := 135) (ty := .int) dX12_told_135 (by decide +kernel) rfl (nar_i _) (h hL)
  · replace h := h.2.2.2.2.2.1 c9
    refine r_tabE (pc := 36) (tgt := 136) dX12_told_36 c9 (by decide) (by decide) rfl (by decide) ?_
    refine r_aload_n (pc := 136) dX12_told_136 rfl rfl ?_
    refine r_getI (pc := 137) dX12_told_137 (k9 := 17) CL_12 (by decide) (by decide) w_1432 rfl (okO_of (N := 42) (hL.sh (i := 0) rfl (by decide) (by decide)) (by decide)) (fun _ => ?_)
    exact r_ireturn (pc := 140) (ty := .int) dX12_told_140 (by decide +kernel) rfl (nar_i _) (h hL)
  · replace h := h.2.2.2.2.2.2.1 c9
    refine r_tabE (pc := 36) (tgt := 141) dX12_told_36 c9 (by decide) (by decide) rfl (by decide) ?_
    refine r_aload_n (pc := 141) dX12_told_141 rfl rfl ?_
    refine c_VI0N (M := mX12_told) (pc := 142) (As := []) dX12_told_142 K_X12_kind w_1698 ⟨by decide, by decide⟩ (Nat.le_of_ble_eq_true rfl) rfl rfl (ci := 12) rfl rfl (by decide) (okO_of (N := 42) (hL.sh (i := 0) rfl (by decide) (by decide)) (by decide)) (h hL) (fun r7 τ8 h8 hr9 => ?_) rfl
    replace hL := h8.1
    replace h := h8.2 hr9
    exact r_ireturn (pc := 145) (ty := .int) dX12_told_145 (by decide +kernel) rfl (nar_i _) (h hL)
  · replace h := h.2.2.2.2.2.2.2.1 c9
    refine r_tabE (pc := 36) (tgt := 146) dX12_told_36 c9 (by decide) (by decide) rfl (by decide) ?_
    refine r_aload_n (pc := 146) dX12_told_146 rfl rfl ?_
    refine c_VI0N (M := mX12_told) (pc := 147) (As := []) dX12_told_147 K_X12_kindNumber w_1706 ⟨by decide, by decide⟩ (Nat.le_of_ble_eq_true rfl) rfl rfl (ci := 12) rfl rfl (by decide) (okO_of (N := 42) (hL.sh (i := 0) rfl (by decide) (by decide)) (by decide)) (h hL) (fun r9 τ10 h8 hr9 => ?_) rfl
    replace hL := h8.1
    replace h := h8.2 hr9
    exact r_ireturn (pc := 150) (ty := .int) dX12_told_150 (by decide +kernel) rfl (nar_i _) (h hL)
  · replace h := h.2.2.2.2.2.2.2.2.1 c9
    refine r_tabE (pc := 36) (tgt := 151) dX12_told_36 c9 (by decide) (by decide) rfl (by decide) ?_
    refine r_aload_n (pc := 151) dX12_told_151 rfl rfl ?_
    refine c_VI0N (M := mX12_told) (pc := 152) (As := []) dX12_told_152 K_X12_turned w_1710 ⟨by decide, by decide⟩ (Nat.le_of_ble_eq_true rfl) rfl rfl (ci := 12) rfl rfl (by decide) (okO_of (N := 42) (hL.sh (i := 0) rfl (by decide) (by decide)) (by decide)) (h hL) (fun r11 τ12 h8 hr9 => ?_) rfl
    replace hL := h8.1
    replace h := h8.2 hr9
    exact r_ireturn (pc := 155) (ty := .int) dX12_told_155 (by decide +kernel) rfl (nar_i _) (h hL)
  · replace h := h.2.2.2.2.2.2.2.2.2.1 c9
    refine r_tabE (pc := 36) (tgt := 156) dX12_told_36 c9 (by decide) (by decide) rfl (by decide) ?_
    refine r_aload_n (pc := 156) dX12_told_156 rfl rfl ?_
    refine c_VI0N (M := mX12_told) (pc := 157) (As := []) dX12_told_157 K_X12_minus w_1714 ⟨by decide, by decide⟩ (Nat.le_of_ble_eq_true rfl) rfl rfl (ci := 12) rfl rfl (by decide) (okO_of (N := 42) (hL.sh (i := 0) rfl (by decide) (by decide)) (by decide)) (h hL) (fun r13 τ14 h8 hr9 => ?_) rfl
    replace hL := h8.1
    replace h := h8.2 hr9
    exact r_ireturn (pc := 160) (ty := .int) dX12_told_160 (by decide +kernel) rfl (nar_i _) (h hL)
  · replace h := h.2.2.2.2.2.2.2.2.2.2.1 c9
    refine r_tabE (pc := 36) (tgt := 161) dX12_told_36 c9 (by decide) (by decide) rfl (by decide) ?_
    refine r_aload_n (pc := 161) dX12_told_161 rfl rfl ?_
    refine r_getI (pc := 162) dX12_told_162 (k9 := 18) CL_12 (by decide) (by decide) w_1433 rfl (okO_of (N := 42) (hL.sh (i := 0) rfl (by decide) (by decide)) (by decide)) (fun _ => ?_)
    exact r_ireturn (pc := 165) (ty := .int) dX12_told_165 (by decide +kernel) rfl (nar_i _) (h hL)
  · replace h := h.2.2.2.2.2.2.2.2.2.2.2.1 c9
    refine r_tabE (pc := 36) (tgt := 166) dX12_told_36 c9 (by decide) (by decide) rfl (by decide) ?_
    refine r_aload_n (pc := 166) dX12_told_166 rfl rfl ?_
    refine r_getI (pc := 167) dX12_told_167 (k9 := 19) CL_12 (by decide) (by decide) w_1434 rfl (okO_of (N := 42) (hL.sh (i := 0) rfl (by decide) (by decide)) (by decide)) (fun _ => ?_)
    exact r_ireturn (pc := 170) (ty := .int) dX12_told_170 (by decide +kernel) rfl (nar_i _) (h hL)
  · replace h := h.2.2.2.2.2.2.2.2.2.2.2.2.1 c9
    refine r_tabE (pc := 36) (tgt := 171) dX12_told_36 c9 (by decide) (by decide) rfl (by decide) ?_
    refine r_aload_n (pc := 171) dX12_told_171 rfl rfl ?_
    refine c_VI0N (M := mX12_told) (pc := 172) (As := []) dX12_told_172 K_X12_diagram w_1718 ⟨by decide, by decide⟩ (Nat.le_of_ble_eq_true rfl) rfl rfl (ci := 12) rfl rfl (by decide) (okO_of (N := 42) (hL.sh (i := 0) rfl (by decide) (by decide)) (by decide)) (h hL) (fun r15 τ16 h8 hr9 => ?_) rfl
    replace hL := h8.1
    replace h := h8.2 hr9
    exact r_ireturn (pc := 175) (ty := .int) dX12_told_175 (by decide +kernel) rfl (nar_i _) (h hL)
  · replace h := h.2.2.2.2.2.2.2.2.2.2.2.2.2.1 c9
    refine r_tabE (pc := 36) (tgt := 176) dX12_told_36 c9 (by decide) (by decide) rfl (by decide) ?_
    refine r_aload_n (pc := 176) dX12_told_176 rfl rfl ?_
    refine r_getI (pc := 177) dX12_told_177 (k9 := 16) CL_12 (by decide) (by decide) w_1431 rfl (okO_of (N := 42) (hL.sh (i := 0) rfl (by decide) (by decide)) (by decide)) (fun _ => ?_)
    refine r_iconst (pc := 180) dX12_told_180 (inRk rfl) ?_
    obtain ⟨o17, h⟩ := h
    refine r_isub (pc := 181) dX12_told_181 o17 ?_
    exact r_ireturn (pc := 182) (ty := .int) dX12_told_182 (by decide +kernel) rfl (nar_i _) (h hL)
  · replace h := h.2.2.2.2.2.2.2.2.2.2.2.2.2.2.1 c9
    refine r_tabE (pc := 36) (tgt := 183) dX12_told_36 c9 (by decide) (by decide) rfl (by decide) ?_
    refine r_aload_n (pc := 183) dX12_told_183 rfl rfl ?_
    refine r_getI (pc := 184) dX12_told_184 (k9 := 10) CL_12 (by decide) (by decide) w_1425 rfl (okO_of (N := 42) (hL.sh (i := 0) rfl (by decide) (by decide)) (by decide)) (fun _ => ?_)
    exact r_ireturn (pc := 187) (ty := .int) dX12_told_187 (by decide +kernel) rfl (nar_i _) (h hL)
  · replace h := h.2.2.2.2.2.2.2.2.2.2.2.2.2.2.2 c9
    refine r_tabOut (pc := 36) (tgt := 188) dX12_told_36 c9 (by decide) ?_
    refine r_aload_n (pc := 188) dX12_told_188 rfl rfl ?_
    refine r_getI (pc := 189) dX12_told_189 (k9 := 2) CL_12 (by decide) (by decide) w_1417 rfl (okO_of (N := 42) (hL.sh (i := 0) rfl (by decide) (by decide)) (by decide)) (fun _ => ?_)
    exact r_ireturn (pc := 192) (ty := .int) dX12_told_192 (by decide +kernel) rfl (nar_i _) (h hL)
theorem C_X12_told {a0 : Nat} {x1 : Int} (h : GG E mX12_told 0 [some (vr a0), some (vi x1)] [] σ 0 0 Q) : CC E mX12_told [vr a0, vi x1] σ Q := CC.of (by decide +kernel) rfl (by decide +kernel) (fun h9 => nomatch h9) (Nat.le_of_ble_eq_true rfl) h
theorem dX12_turned_0 : decode cX12_turned 0 = .ok (.aload_n 0, 1) := by decide +kernel
theorem dX12_turned_1 : decode cX12_turned 1 = .ok (.invokevirtual 314, 3) := by decide +kernel
theorem dX12_turned_4 : decode cX12_turned 4 = .ok (.iconst (-1), 1) := by decide +kernel
theorem dX12_turned_5 : decode cX12_turned 5 = .ok (.if_icmp .ne 10, 3) := by decide +kernel
theorem dX12_turned_8 : decode cX12_turned 8 = .ok (.aload_n 0, 1) := by decide +kernel
theorem dX12_turned_9 : decode cX12_turned 9 = .ok (.getfield 192, 3) := by decide +kernel
theorem dX12_turned_12 : decode cX12_turned 12 = .ok (.goto 9, 3) := by decide +kernel
theorem dX12_turned_15 : decode cX12_turned 15 = .ok (.aload_n 0, 1) := by decide +kernel
theorem dX12_turned_16 : decode cX12_turned 16 = .ok (.getfield 192, 3) := by decide +kernel
theorem dX12_turned_19 : decode cX12_turned 19 = .ok (.iconst 2, 1) := by decide +kernel
theorem dX12_turned_20 : decode cX12_turned 20 = .ok (.idiv, 1) := by decide +kernel
theorem dX12_turned_21 : decode cX12_turned 21 = .ok (.ireturn, 1) := by decide +kernel
theorem B_X12_turned_0 {g : Sg} {c t : Nat} (hL : Lay LM g c t σ)  (h : (Lay LM g c t σ → CC E mX12_minus [vr 172] σ (KI (fun r1 τ2 => Lay LM g c t τ2 ∧ (inR r1 → ((r1 ≠ (-1) → inR ((gI τ2 172 15).tdiv 2) ∧ (Lay LM g c t τ2 → Q (.inl (some (vi ((gI τ2 172 15).tdiv 2)))) τ2)) ∧ (r1 = (-1) → (Lay LM g c t τ2 → Q (.inl (some (vi (gI τ2 172 15)))) τ2))))) (fun _ _ => False)))) : GG E mX12_turned 0 [some (vr 172)] [] σ rc rs Q := by
  refine r_aload_n (pc := 0) dX12_turned_0 rfl rfl ?_
  refine c_VI0N (M := mX12_turned) (pc := 1) (As := []) dX12_turned_1 K_X12_minus w_1714 ⟨by decide, by decide⟩ (Nat.le_of_ble_eq_true rfl) rfl rfl (ci := 12) rfl rfl (by decide) (okO_of (N := 42) (hL.sh (i := 0) rfl (by decide) (by decide)) (by decide)) (h hL) (fun r1 τ2 h8 hr9 => ?_) rfl
  replace hL := h8.1
  replace h := h8.2 hr9
  refine r_iconst (pc := 4) dX12_turned_4 (inRk rfl) ?_
  refine r_icmp_ne (pc := 5) (tgt := 15) dX12_turned_5 (by decide) (fun c9 => ?_) (fun c9 => ?_)
  · replace h := h.1 c9
    refine r_aload_n (pc := 15) dX12_turned_15 rfl rfl ?_
    refine r_getI (pc := 16) dX12_turned_16 (k9 := 15) CL_12 (by decide) (by decide) w_1430 rfl (okO_of (N := 42) (hL.sh (i := 0) rfl (by decide) (by decide)) (by decide)) (fun _ => ?_)
    refine r_iconst (pc := 19) dX12_turned_19 (inRk rfl) ?_
    obtain ⟨o3, h⟩ := h
    refine r_idiv (pc := 20) dX12_turned_20 (by decide) o3 ?_
    exact r_ireturn (pc := 21) (ty := .int) dX12_turned_21 (by decide +kernel) rfl (nar_i _) (h hL)
  · replace h := h.2 c9
    refine r_aload_n (pc := 8) dX12_turned_8 rfl rfl ?_
    refine r_getI (pc := 9) dX12_turned_9 (k9 := 15) CL_12 (by decide) (by decide) w_1430 rfl (okO_of (N := 42) (hL.sh (i := 0) rfl (by decide) (by decide)) (by decide)) (fun _ => ?_)
    refine r_goto (pc := 12) (tgt := 21) dX12_turned_12 (by decide) ?_
    exact r_ireturn (pc := 21) (ty := .int) dX12_turned_21 (by decide +kernel) rfl (nar_i _) (h hL)
theorem C_X12_turned {a0 : Nat} (h : GG E mX12_turned 0 [some (vr a0)] [] σ 0 0 Q) : CC E mX12_turned [vr a0] σ Q := CC.of (by decide +kernel) rfl (by decide +kernel) (fun h9 => nomatch h9) (Nat.le_of_ble_eq_true rfl) h
theorem dX12_undo_0 : decode cX12_undo 0 = .ok (.aload_n 0, 1) := by decide +kernel
theorem dX12_undo_1 : decode cX12_undo 1 = .ok (.iconst 0, 1) := by decide +kernel
theorem dX12_undo_2 : decode cX12_undo 2 = .ok (.putfield 99, 3) := by decide +kernel
theorem dX12_undo_5 : decode cX12_undo 5 = .ok (.aload_n 0, 1) := by decide +kernel
theorem dX12_undo_6 : decode cX12_undo 6 = .ok (.getfield 189, 3) := by decide +kernel
theorem dX12_undo_9 : decode cX12_undo 9 = .ok (.ifCond .ne 5, 3) := by decide +kernel
theorem dX12_undo_12 : decode cX12_undo 12 = .ok (.iconst (-1), 1) := by decide +kernel
theorem dX12_undo_13 : decode cX12_undo 13 = .ok (.ireturn, 1) := by decide +kernel
theorem dX12_undo_14 : decode cX12_undo 14 = .ok (.aload_n 0, 1) := by decide +kernel
theorem dX12_undo_15 : decode cX12_undo 15 = .ok (.dup, 1) := by decide +kernel
theorem dX12_undo_16 : decode cX12_undo 16 = .ok (.getfield 189, 3) := by decide +kernel
theorem dX12_undo_19 : decode cX12_undo 19 = .ok (.iconst 1, 1) := by decide +kernel
theorem dX12_undo_20 : decode cX12_undo 20 = .ok (.isub, 1) := by decide +kernel
theorem dX12_undo_21 : decode cX12_undo 21 = .ok (.putfield 189, 3) := by decide +kernel
theorem dX12_undo_24 : decode cX12_undo 24 = .ok (.aload_n 0, 1) := by decide +kernel
theorem dX12_undo_25 : decode cX12_undo 25 = .ok (.iconst 2, 1) := by decide +kernel
theorem dX12_undo_26 : decode cX12_undo 26 = .ok (.aload_n 0, 1) := by decide +kernel
theorem dX12_undo_27 : decode cX12_undo 27 = .ok (.getfield 189, 3) := by decide +kernel
theorem dX12_undo_30 : decode cX12_undo 30 = .ok (.iadd, 1) := by decide +kernel
theorem dX12_undo_31 : decode cX12_undo 31 = .ok (.iconst 0, 1) := by decide +kernel
theorem dX12_undo_32 : decode cX12_undo 32 = .ok (.invokevirtual 186, 3) := by decide +kernel
theorem dX12_undo_35 : decode cX12_undo 35 = .ok (.aload_n 0, 1) := by decide +kernel
theorem dX12_undo_36 : decode cX12_undo 36 = .ok (.invokevirtual 305, 3) := by decide +kernel
theorem dX12_undo_39 : decode cX12_undo 39 = .ok (.aload_n 0, 1) := by decide +kernel
theorem dX12_undo_40 : decode cX12_undo 40 = .ok (.getfield 189, 3) := by decide +kernel
theorem dX12_undo_43 : decode cX12_undo 43 = .ok (.ireturn, 1) := by decide +kernel
theorem B_X12_undo_0 {g : Sg} {c t : Nat} (hL : Lay LM g c t σ)  (h : ∀ τ1 : Sg, τ1 = sI σ 172 0 0 → (((gI τ1 172 10) ≠ 0 → inR ((gI τ1 172 10) - 1) ∧ ∀ τ3 : Sg, τ3 = sI τ1 172 10 ((gI τ1 172 10) - 1) → inR (2 + (gI τ3 172 10)) ∧ (Lay LM g c t τ3 → CC E mX12_copies [vr 172, vi (2 + (gI τ3 172 10)), vi 0] τ3 (KV (fun τ6 => Lay LM g c t τ6 ∧ (Lay LM g c t τ6 → CC E mX12_makesAnew [vr 172] τ6 (KV (fun τ8 => Lay LM g c t τ8 ∧ (Lay LM g c t τ8 → Q (.inl (some (vi (gI τ8 172 10)))) τ8)) (fun _ _ => False)))) (fun _ _ => False)))) ∧ ((gI τ1 172 10) = 0 → (Lay LM g c t τ1 → Q (.inl (some (vi (-1)))) τ1)))) : GG E mX12_undo 0 [some (vr 172)] [] σ rc rs Q := by
  refine r_aload_n (pc := 0) dX12_undo_0 rfl rfl ?_
  refine r_iconst (pc := 1) dX12_undo_1 (inRk rfl) ?_
  refine r_putI (pc := 2) dX12_undo_2 (k9 := 0) CL_12 (by decide) (by decide) w_1415 rfl rfl (fun h9 => absurd h9 (by decide +kernel)) (okO_of (N := 42) (hL.sh (i := 0) rfl (by decide) (by decide)) (by decide)) ?_
  refine nmS (fun τ1 e1 => ?_)
  replace h := h τ1 e1
  have hL := hL.wI e1 (by decide) (.inl (by decide))
  refine r_aload_n (pc := 5) dX12_undo_5 rfl rfl ?_
  refine r_getI (pc := 6) dX12_undo_6 (k9 := 10) CL_12 (by decide) (by decide) w_1425 rfl (okO_of (N := 42) (hL.sh (i := 0) rfl (by decide) (by decide)) (by decide)) (fun _ => ?_)
  refine r_if_ne (pc := 9) (tgt := 14) dX12_undo_9 (by decide) (fun c9 => ?_) (fun c9 => ?_)
  · replace h := h.1 c9
    refine r_aload_n (pc := 14) dX12_undo_14 rfl rfl ?_
    refine r_dup (pc := 15) dX12_undo_15 (fun _ h9 => nomatch h9) ?_
    refine r_getI (pc := 16) dX12_undo_16 (k9 := 10) CL_12 (by decide) (by decide) w_1425 rfl (okO_of (N := 42) (hL.sh (i := 0) rfl (by decide) (by decide)) (by decide)) (fun _ => ?_)
    refine r_iconst (pc := 19) dX12_undo_19 (inRk rfl) ?_
    obtain ⟨o2, h⟩ := h
    refine r_isub (pc := 20) dX12_undo_20 o2 ?_
    refine r_putI (pc := 21) dX12_undo_21 (k9 := 10) CL_12 (by decide) (by decide) w_1425 rfl rfl (fun h9 => absurd h9 (by decide +kernel)) (okO_of (N := 42) (hL.sh (i := 0) rfl (by decide) (by decide)) (by decide)) ?_
    refine nmS (fun τ3 e3 => ?_)
    replace h := h τ3 e3
    have hL := hL.wI e3 (by decide) (.inl (by decide))
    refine r_aload_n (pc := 24) dX12_undo_24 rfl rfl ?_
    refine r_iconst (pc := 25) dX12_undo_25 (inRk rfl) ?_
    refine r_aload_n (pc := 26) dX12_undo_26 rfl rfl ?_
    refine r_getI (pc := 27) dX12_undo_27 (k9 := 10) CL_12 (by decide) (by decide) w_1425 rfl (okO_of (N := 42) (hL.sh (i := 0) rfl (by decide) (by decide)) (by decide)) (fun _ => ?_)
    obtain ⟨o4, h⟩ := h
    refine r_iadd (pc := 30) dX12_undo_30 o4 ?_
    refine r_iconst (pc := 31) dX12_undo_31 (inRk rfl) ?_
    refine c_VV0N (M := mX12_undo) (pc := 32) (As := [vi (2 + (gI τ3 172 10)), vi 0]) dX12_undo_32 K_X12_copies w_1616 ⟨by decide, by decide⟩ (Nat.le_of_ble_eq_true rfl) rfl rfl (ci := 12) rfl rfl (by decide) (okO_of (N := 42) (hL.sh (i := 0) rfl (by decide) (by decide)) (by decide)) (h hL) (fun τ6 h8 => ?_) rfl
    replace hL := h8.1
    replace h := h8.2
    refine r_aload_n (pc := 35) dX12_undo_35 rfl rfl ?_
    refine c_VV0N (M := mX12_undo) (pc := 36) (As := []) dX12_undo_36 K_X12_makesAnew w_1636 ⟨by decide, by decide⟩ (Nat.le_of_ble_eq_true rfl) rfl rfl (ci := 12) rfl rfl (by decide) (okO_of (N := 42) (hL.sh (i := 0) rfl (by decide) (by decide)) (by decide)) (h hL) (fun τ8 h8 => ?_) rfl
    replace hL := h8.1
    replace h := h8.2
    refine r_aload_n (pc := 39) dX12_undo_39 rfl rfl ?_
    refine r_getI (pc := 40) dX12_undo_40 (k9 := 10) CL_12 (by decide) (by decide) w_1425 rfl (okO_of (N := 42) (hL.sh (i := 0) rfl (by decide) (by decide)) (by decide)) (fun _ => ?_)
    exact r_ireturn (pc := 43) (ty := .int) dX12_undo_43 (by decide +kernel) rfl (nar_i _) (h hL)
  · replace h := h.2 c9
    refine r_iconst (pc := 12) dX12_undo_12 (inRk rfl) ?_
    exact r_ireturn (pc := 13) (ty := .int) dX12_undo_13 (by decide +kernel) rfl (nar_i _) (h hL)
theorem C_X12_undo {a0 : Nat} (h : GG E mX12_undo 0 [some (vr a0)] [] σ 0 0 Q) : CC E mX12_undo [vr a0] σ Q := CC.of (by decide +kernel) rfl (by decide +kernel) (fun h9 => nomatch h9) (Nat.le_of_ble_eq_true rfl) h
theorem dX12_value_0 : decode cX12_value 0 = .ok (.aload_n 0, 1) := by decide +kernel
theorem dX12_value_1 : decode cX12_value 1 = .ok (.iconst 0, 1) := by decide +kernel
theorem dX12_value_2 : decode cX12_value 2 = .ok (.putfield 99, 3) := by decide +kernel
theorem dX12_value_5 : decode cX12_value 5 = .ok (.aload_n 0, 1) := by decide +kernel
theorem dX12_value_6 : decode cX12_value 6 = .ok (.aload_n 0, 1) := by decide +kernel
theorem dX12_value_7 : decode cX12_value 7 = .ok (.iload_n 1, 1) := by decide +kernel
theorem dX12_value_8 : decode cX12_value 8 = .ok (.invokevirtual 335, 3) := by decide +kernel
theorem dX12_value_11 : decode cX12_value 11 = .ok (.ifCond .eq 11, 3) := by decide +kernel
theorem dX12_value_14 : decode cX12_value 14 = .ok (.aload_n 0, 1) := by decide +kernel
theorem dX12_value_15 : decode cX12_value 15 = .ok (.iload_n 2, 1) := by decide +kernel
theorem dX12_value_16 : decode cX12_value 16 = .ok (.invokevirtual 335, 3) := by decide +kernel
theorem dX12_value_19 : decode cX12_value 19 = .ok (.ifCond .ne 7, 3) := by decide +kernel
theorem dX12_value_22 : decode cX12_value 22 = .ok (.iconst 1, 1) := by decide +kernel
theorem dX12_value_23 : decode cX12_value 23 = .ok (.goto 4, 3) := by decide +kernel
theorem dX12_value_26 : decode cX12_value 26 = .ok (.iconst 0, 1) := by decide +kernel
theorem dX12_value_27 : decode cX12_value 27 = .ok (.iconst 1, 1) := by decide +kernel
theorem dX12_value_28 : decode cX12_value 28 = .ok (.iconst 0, 1) := by decide +kernel
theorem dX12_value_29 : decode cX12_value 29 = .ok (.invokevirtual 177, 3) := by decide +kernel
theorem dX12_value_32 : decode cX12_value 32 = .ok (.ifCond .eq 5, 3) := by decide +kernel
theorem dX12_value_35 : decode cX12_value 35 = .ok (.iconst 0, 1) := by decide +kernel
theorem dX12_value_36 : decode cX12_value 36 = .ok (.ireturn, 1) := by decide +kernel
theorem dX12_value_37 : decode cX12_value 37 = .ok (.aload_n 0, 1) := by decide +kernel
theorem dX12_value_38 : decode cX12_value 38 = .ok (.invokevirtual 317, 3) := by decide +kernel
theorem dX12_value_41 : decode cX12_value 41 = .ok (.aload_n 0, 1) := by decide +kernel
theorem dX12_value_42 : decode cX12_value 42 = .ok (.getfield 70, 3) := by decide +kernel
theorem dX12_value_45 : decode cX12_value 45 = .ok (.iload_n 1, 1) := by decide +kernel
theorem dX12_value_46 : decode cX12_value 46 = .ok (.aaload, 1) := by decide +kernel
theorem dX12_value_47 : decode cX12_value 47 = .ok (.iload_n 2, 1) := by decide +kernel
theorem dX12_value_48 : decode cX12_value 48 = .ok (.iaload, 1) := by decide +kernel
theorem dX12_value_49 : decode cX12_value 49 = .ok (.ireturn, 1) := by decide +kernel
theorem B_X12_value_0 {g : Sg} {c t : Nat} (hL : Lay LM g c t σ) {x1 : Int} {x2 : Int} (h : ∀ τ1 : Sg, τ1 = sI σ 172 0 0 → (Lay LM g c t τ1 → CC E mX12_isClass [vr 172, vi x1] τ1 (KI (fun r2 τ3 => Lay LM g c t τ3 ∧ (inR r2 → ((r2 = 0 → (Lay LM g c t τ3 → CC E mX12_bad [vr 172, vi 1, vi 1, vi 0] τ3 (KI (fun r4 τ5 => Lay LM g c t τ5 ∧ (inR r4 → ((r4 = 0 → (Lay LM g c t τ5 → CC E mX12_laysRows [vr 172] τ5 (KV (fun τ7 => Lay LM g c t τ7 ∧ (0 ≤ x1 ∧ x1 < 48) ∧ ∀ b9 : Nat, b9 = gR τ7 2913 x1.toNat → (2914 ≤ b9 ∧ b9 < 2962) → (0 ≤ x2 ∧ x2 < 48) ∧ (Lay LM g c t τ7 → Q (.inl (some (vi (gI τ7 b9 x2.toNat)))) τ7)) (fun _ _ => False)))) ∧ (¬ (r4 = 0) → (Lay LM g c t τ5 → Q (.inl (some (vi 0))) τ5))))) (fun _ _ => False)))) ∧ (¬ (r2 = 0) → (Lay LM g c t τ3 → CC E mX12_isClass [vr 172, vi x2] τ3 (KI (fun r12 τ13 => Lay LM g c t τ13 ∧ (inR r12 → ((r12 ≠ 0 → (Lay LM g c t τ13 → CC E mX12_bad [vr 172, vi 0, vi 1, vi 0] τ13 (KI (fun r14 τ15 => Lay LM g c t τ15 ∧ (inR r14 → ((r14 = 0 → (Lay LM g c t τ15 → CC E mX12_laysRows [vr 172] τ15 (KV (fun τ17 => Lay LM g c t τ17 ∧ (0 ≤ x1 ∧ x1 < 48) ∧ ∀ b19 : Nat, b19 = gR τ17 2913 x1.toNat → (2914 ≤ b19 ∧ b19 < 2962) → (0 ≤ x2 ∧ x2 < 48) ∧ (Lay LM g c t τ17 → Q (.inl (some (vi (gI τ17 b19 x2.toNat)))) τ17)) (fun _ _ => False)))) ∧ (¬ (r14 = 0) → (Lay LM g c t τ15 → Q (.inl (some (vi 0))) τ15))))) (fun _ _ => False)))) ∧ (r12 = 0 → (Lay LM g c t τ13 → CC E mX12_bad [vr 172, vi 1, vi 1, vi 0] τ13 (KI (fun r22 τ23 => Lay LM g c t τ23 ∧ (inR r22 → ((r22 = 0 → (Lay LM g c t τ23 → CC E mX12_laysRows [vr 172] τ23 (KV (fun τ25 => Lay LM g c t τ25 ∧ (0 ≤ x1 ∧ x1 < 48) ∧ ∀ b27 : Nat, b27 = gR τ25 2913 x1.toNat → (2914 ≤ b27 ∧ b27 < 2962) → (0 ≤ x2 ∧ x2 < 48) ∧ (Lay LM g c t τ25 → Q (.inl (some (vi (gI τ25 b27 x2.toNat)))) τ25)) (fun _ _ => False)))) ∧ (¬ (r22 = 0) → (Lay LM g c t τ23 → Q (.inl (some (vi 0))) τ23))))) (fun _ _ => False))))))) (fun _ _ => False))))))) (fun _ _ => False)))) : GG E mX12_value 0 [some (vr 172), some (vi x1), some (vi x2)] [] σ rc rs Q := by
  refine r_aload_n (pc := 0) dX12_value_0 rfl rfl ?_
  refine r_iconst (pc := 1) dX12_value_1 (inRk rfl) ?_
  refine r_putI (pc := 2) dX12_value_2 (k9 := 0) CL_12 (by decide) (by decide) w_1415 rfl rfl (fun h9 => absurd h9 (by decide +kernel)) (okO_of (N := 42) (hL.sh (i := 0) rfl (by decide) (by decide)) (by decide)) ?_
  refine nmS (fun τ1 e1 => ?_)
  replace h := h τ1 e1
  have hL := hL.wI e1 (by decide) (.inl (by decide))
  refine r_aload_n (pc := 5) dX12_value_5 rfl rfl ?_
  refine r_aload_n (pc := 6) dX12_value_6 rfl rfl ?_
  refine r_iload_n (pc := 7) dX12_value_7 rfl rfl ?_
  refine c_VI0N (M := mX12_value) (pc := 8) (As := [vi x1]) dX12_value_8 K_X12_isClass w_1766 ⟨by decide, by decide⟩ (Nat.le_of_ble_eq_true rfl) rfl rfl (ci := 12) rfl rfl (by decide) (okO_of (N := 42) (hL.sh (i := 0) rfl (by decide) (by decide)) (by decide)) (h hL) (fun r2 τ3 h8 hr9 => ?_) rfl
  replace hL := h8.1
  replace h := h8.2 hr9
  refine r_if_eq (pc := 11) (tgt := 22) dX12_value_11 (by decide) (fun c9 => ?_) (fun c9 => ?_)
  · replace h := h.1 c9
    refine r_iconst (pc := 22) dX12_value_22 (inRk rfl) ?_
    refine r_goto (pc := 23) (tgt := 27) dX12_value_23 (by decide) ?_
    refine r_iconst (pc := 27) dX12_value_27 (inRk rfl) ?_
    refine r_iconst (pc := 28) dX12_value_28 (inRk rfl) ?_
    refine c_VI0N (M := mX12_value) (pc := 29) (As := [vi 1, vi 1, vi 0]) dX12_value_29 K_X12_bad w_1562 ⟨by decide, by decide⟩ (Nat.le_of_ble_eq_true rfl) rfl rfl (ci := 12) rfl rfl (by decide) (okO_of (N := 42) (hL.sh (i := 0) rfl (by decide) (by decide)) (by decide)) (h hL) (fun r4 τ5 h8 hr9 => ?_) rfl
    replace hL := h8.1
    replace h := h8.2 hr9
    refine r_if_eq (pc := 32) (tgt := 37) dX12_value_32 (by decide) (fun c9 => ?_) (fun c9 => ?_)
    · replace h := h.1 c9
      refine r_aload_n (pc := 37) dX12_value_37 rfl rfl ?_
      refine c_VV0N (M := mX12_value) (pc := 38) (As := []) dX12_value_38 K_X12_laysRows w_1652 ⟨by decide, by decide⟩ (Nat.le_of_ble_eq_true rfl) rfl rfl (ci := 12) rfl rfl (by decide) (okO_of (N := 42) (hL.sh (i := 0) rfl (by decide) (by decide)) (by decide)) (h hL) (fun τ7 h8 => ?_) rfl
      replace hL := h8.1
      replace h := h8.2
      refine r_aload_n (pc := 41) dX12_value_41 rfl rfl ?_
      refine r_getR (pc := 42) dX12_value_42 (k9 := 33) CL_12 (by decide) (by decide) w_1448 rfl (okO_of (N := 42) (hL.sh (i := 0) rfl (by decide) (by decide)) (by decide)) ?_
      refine eqR (y := 2913) (hL.rf (i := 18) rfl) ?_
      refine r_iload_n (pc := 45) dX12_value_45 rfl rfl ?_
      obtain ⟨o8, h⟩ := h
      refine r_aaload (pc := 46) dX12_value_46 (okB_of (c := 24) (n := 48) (hL.sh (i := 25) rfl (by decide) (by decide)) (by decide) o8) ?_
      refine nmR (fun b9 e9 => ?_)
      have q10 : (2914 ≤ b9 ∧ b9 < 2962) := e9 ▸ hL.rsw (i := 1) rfl (rowC o8 (by decide))
      replace h := h b9 e9 q10
      refine r_iload_n (pc := 47) dX12_value_47 rfl rfl ?_
      obtain ⟨o11, h⟩ := h
      refine r_iaload (pc := 48) dX12_value_48 (okA_of (c := 20) (n := 48) (hL.sh (i := 26) rfl q10.1 q10.2) (Nat.le_trans (by decide) q10.1) o11) ?_
      exact r_ireturn (pc := 49) (ty := .int) dX12_value_49 (by decide +kernel) rfl (nar_i _) (h hL)
    · replace h := h.2 c9
      refine r_iconst (pc := 35) dX12_value_35 (inRk rfl) ?_
      exact r_ireturn (pc := 36) (ty := .int) dX12_value_36 (by decide +kernel) rfl (nar_i _) (h hL)
  · replace h := h.2 c9
    refine r_aload_n (pc := 14) dX12_value_14 rfl rfl ?_
    refine r_iload_n (pc := 15) dX12_value_15 rfl rfl ?_
    refine c_VI0N (M := mX12_value) (pc := 16) (As := [vi x2]) dX12_value_16 K_X12_isClass w_1766 ⟨by decide, by decide⟩ (Nat.le_of_ble_eq_true rfl) rfl rfl (ci := 12) rfl rfl (by decide) (okO_of (N := 42) (hL.sh (i := 0) rfl (by decide) (by decide)) (by decide)) (h hL) (fun r12 τ13 h8 hr9 => ?_) rfl
    replace hL := h8.1
    replace h := h8.2 hr9
    refine r_if_ne (pc := 19) (tgt := 26) dX12_value_19 (by decide) (fun c9 => ?_) (fun c9 => ?_)
    · replace h := h.1 c9
      refine r_iconst (pc := 26) dX12_value_26 (inRk rfl) ?_
      refine r_iconst (pc := 27) dX12_value_27 (inRk rfl) ?_
      refine r_iconst (pc := 28) dX12_value_28 (inRk rfl) ?_
      refine c_VI0N (M := mX12_value) (pc := 29) (As := [vi 0, vi 1, vi 0]) dX12_value_29 K_X12_bad w_1562 ⟨by decide, by decide⟩ (Nat.le_of_ble_eq_true rfl) rfl rfl (ci := 12) rfl rfl (by decide) (okO_of (N := 42) (hL.sh (i := 0) rfl (by decide) (by decide)) (by decide)) (h hL) (fun r14 τ15 h8 hr9 => ?_) rfl
      replace hL := h8.1
      replace h := h8.2 hr9
      refine r_if_eq (pc := 32) (tgt := 37) dX12_value_32 (by decide) (fun c9 => ?_) (fun c9 => ?_)
      · replace h := h.1 c9
        refine r_aload_n (pc := 37) dX12_value_37 rfl rfl ?_
        refine c_VV0N (M := mX12_value) (pc := 38) (As := []) dX12_value_38 K_X12_laysRows w_1652 ⟨by decide, by decide⟩ (Nat.le_of_ble_eq_true rfl) rfl rfl (ci := 12) rfl rfl (by decide) (okO_of (N := 42) (hL.sh (i := 0) rfl (by decide) (by decide)) (by decide)) (h hL) (fun τ17 h8 => ?_) rfl
        replace hL := h8.1
        replace h := h8.2
        refine r_aload_n (pc := 41) dX12_value_41 rfl rfl ?_
        refine r_getR (pc := 42) dX12_value_42 (k9 := 33) CL_12 (by decide) (by decide) w_1448 rfl (okO_of (N := 42) (hL.sh (i := 0) rfl (by decide) (by decide)) (by decide)) ?_
        refine eqR (y := 2913) (hL.rf (i := 18) rfl) ?_
        refine r_iload_n (pc := 45) dX12_value_45 rfl rfl ?_
        obtain ⟨o18, h⟩ := h
        refine r_aaload (pc := 46) dX12_value_46 (okB_of (c := 24) (n := 48) (hL.sh (i := 25) rfl (by decide) (by decide)) (by decide) o18) ?_
        refine nmR (fun b19 e9 => ?_)
        have q20 : (2914 ≤ b19 ∧ b19 < 2962) := e9 ▸ hL.rsw (i := 1) rfl (rowC o18 (by decide))
        replace h := h b19 e9 q20
        refine r_iload_n (pc := 47) dX12_value_47 rfl rfl ?_
        obtain ⟨o21, h⟩ := h
        refine r_iaload (pc := 48) dX12_value_48 (okA_of (c := 20) (n := 48) (hL.sh (i := 26) rfl q20.1 q20.2) (Nat.le_trans (by decide) q20.1) o21) ?_
        exact r_ireturn (pc := 49) (ty := .int) dX12_value_49 (by decide +kernel) rfl (nar_i _) (h hL)
      · replace h := h.2 c9
        refine r_iconst (pc := 35) dX12_value_35 (inRk rfl) ?_
        exact r_ireturn (pc := 36) (ty := .int) dX12_value_36 (by decide +kernel) rfl (nar_i _) (h hL)
    · replace h := h.2 c9
      refine r_iconst (pc := 22) dX12_value_22 (inRk rfl) ?_
      refine r_goto (pc := 23) (tgt := 27) dX12_value_23 (by decide) ?_
      refine r_iconst (pc := 27) dX12_value_27 (inRk rfl) ?_
      refine r_iconst (pc := 28) dX12_value_28 (inRk rfl) ?_
      refine c_VI0N (M := mX12_value) (pc := 29) (As := [vi 1, vi 1, vi 0]) dX12_value_29 K_X12_bad w_1562 ⟨by decide, by decide⟩ (Nat.le_of_ble_eq_true rfl) rfl rfl (ci := 12) rfl rfl (by decide) (okO_of (N := 42) (hL.sh (i := 0) rfl (by decide) (by decide)) (by decide)) (h hL) (fun r22 τ23 h8 hr9 => ?_) rfl
      replace hL := h8.1
      replace h := h8.2 hr9
      refine r_if_eq (pc := 32) (tgt := 37) dX12_value_32 (by decide) (fun c9 => ?_) (fun c9 => ?_)
      · replace h := h.1 c9
        refine r_aload_n (pc := 37) dX12_value_37 rfl rfl ?_
        refine c_VV0N (M := mX12_value) (pc := 38) (As := []) dX12_value_38 K_X12_laysRows w_1652 ⟨by decide, by decide⟩ (Nat.le_of_ble_eq_true rfl) rfl rfl (ci := 12) rfl rfl (by decide) (okO_of (N := 42) (hL.sh (i := 0) rfl (by decide) (by decide)) (by decide)) (h hL) (fun τ25 h8 => ?_) rfl
        replace hL := h8.1
        replace h := h8.2
        refine r_aload_n (pc := 41) dX12_value_41 rfl rfl ?_
        refine r_getR (pc := 42) dX12_value_42 (k9 := 33) CL_12 (by decide) (by decide) w_1448 rfl (okO_of (N := 42) (hL.sh (i := 0) rfl (by decide) (by decide)) (by decide)) ?_
        refine eqR (y := 2913) (hL.rf (i := 18) rfl) ?_
        refine r_iload_n (pc := 45) dX12_value_45 rfl rfl ?_
        obtain ⟨o26, h⟩ := h
        refine r_aaload (pc := 46) dX12_value_46 (okB_of (c := 24) (n := 48) (hL.sh (i := 25) rfl (by decide) (by decide)) (by decide) o26) ?_
        refine nmR (fun b27 e9 => ?_)
        have q28 : (2914 ≤ b27 ∧ b27 < 2962) := e9 ▸ hL.rsw (i := 1) rfl (rowC o26 (by decide))
        replace h := h b27 e9 q28
        refine r_iload_n (pc := 47) dX12_value_47 rfl rfl ?_
        obtain ⟨o29, h⟩ := h
        refine r_iaload (pc := 48) dX12_value_48 (okA_of (c := 20) (n := 48) (hL.sh (i := 26) rfl q28.1 q28.2) (Nat.le_trans (by decide) q28.1) o29) ?_
        exact r_ireturn (pc := 49) (ty := .int) dX12_value_49 (by decide +kernel) rfl (nar_i _) (h hL)
      · replace h := h.2 c9
        refine r_iconst (pc := 35) dX12_value_35 (inRk rfl) ?_
        exact r_ireturn (pc := 36) (ty := .int) dX12_value_36 (by decide +kernel) rfl (nar_i _) (h hL)
theorem C_X12_value {a0 : Nat} {x1 : Int} {x2 : Int} (h : GG E mX12_value 0 [some (vr a0), some (vi x1), some (vi x2)] [] σ 0 0 Q) : CC E mX12_value [vr a0, vi x1, vi x2] σ Q := CC.of (by decide +kernel) rfl (by decide +kernel) (fun h9 => nomatch h9) (Nat.le_of_ble_eq_true rfl) h
theorem dX12_ways_0 : decode cX12_ways 0 = .ok (.aload_n 0, 1) := by decide +kernel
theorem dX12_ways_1 : decode cX12_ways 1 = .ok (.iconst 0, 1) := by decide +kernel
theorem dX12_ways_2 : decode cX12_ways 2 = .ok (.putfield 99, 3) := by decide +kernel
theorem dX12_ways_5 : decode cX12_ways 5 = .ok (.aload_n 0, 1) := by decide +kernel
theorem dX12_ways_6 : decode cX12_ways 6 = .ok (.aload_n 0, 1) := by decide +kernel
theorem dX12_ways_7 : decode cX12_ways 7 = .ok (.iload_n 1, 1) := by decide +kernel
theorem dX12_ways_8 : decode cX12_ways 8 = .ok (.invokevirtual 335, 3) := by decide +kernel
theorem dX12_ways_11 : decode cX12_ways 11 = .ok (.ifCond .eq 11, 3) := by decide +kernel
theorem dX12_ways_14 : decode cX12_ways 14 = .ok (.aload_n 0, 1) := by decide +kernel
theorem dX12_ways_15 : decode cX12_ways 15 = .ok (.iload_n 2, 1) := by decide +kernel
theorem dX12_ways_16 : decode cX12_ways 16 = .ok (.invokevirtual 335, 3) := by decide +kernel
theorem dX12_ways_19 : decode cX12_ways 19 = .ok (.ifCond .ne 7, 3) := by decide +kernel
theorem dX12_ways_22 : decode cX12_ways 22 = .ok (.iconst 1, 1) := by decide +kernel
theorem dX12_ways_23 : decode cX12_ways 23 = .ok (.goto 4, 3) := by decide +kernel
theorem dX12_ways_26 : decode cX12_ways 26 = .ok (.iconst 0, 1) := by decide +kernel
theorem dX12_ways_27 : decode cX12_ways 27 = .ok (.iconst 1, 1) := by decide +kernel
theorem dX12_ways_28 : decode cX12_ways 28 = .ok (.iconst 0, 1) := by decide +kernel
theorem dX12_ways_29 : decode cX12_ways 29 = .ok (.invokevirtual 177, 3) := by decide +kernel
theorem dX12_ways_32 : decode cX12_ways 32 = .ok (.ifCond .eq 5, 3) := by decide +kernel
theorem dX12_ways_35 : decode cX12_ways 35 = .ok (.iconst 0, 1) := by decide +kernel
theorem dX12_ways_36 : decode cX12_ways 36 = .ok (.ireturn, 1) := by decide +kernel
theorem dX12_ways_37 : decode cX12_ways 37 = .ok (.aload_n 0, 1) := by decide +kernel
theorem dX12_ways_38 : decode cX12_ways 38 = .ok (.invokevirtual 317, 3) := by decide +kernel
theorem dX12_ways_41 : decode cX12_ways 41 = .ok (.aload_n 0, 1) := by decide +kernel
theorem dX12_ways_42 : decode cX12_ways 42 = .ok (.iload_n 1, 1) := by decide +kernel
theorem dX12_ways_43 : decode cX12_ways 43 = .ok (.iload_n 2, 1) := by decide +kernel
theorem dX12_ways_44 : decode cX12_ways 44 = .ok (.invokevirtual 293, 3) := by decide +kernel
theorem dX12_ways_47 : decode cX12_ways 47 = .ok (.ireturn, 1) := by decide +kernel
theorem B_X12_ways_0 {g : Sg} {c t : Nat} (hL : Lay LM g c t σ) {x1 : Int} {x2 : Int} (h : ∀ τ1 : Sg, τ1 = sI σ 172 0 0 → (Lay LM g c t τ1 → CC E mX12_isClass [vr 172, vi x1] τ1 (KI (fun r2 τ3 => Lay LM g c t τ3 ∧ (inR r2 → ((r2 = 0 → (Lay LM g c t τ3 → CC E mX12_bad [vr 172, vi 1, vi 1, vi 0] τ3 (KI (fun r4 τ5 => Lay LM g c t τ5 ∧ (inR r4 → ((r4 = 0 → (Lay LM g c t τ5 → CC E mX12_laysRows [vr 172] τ5 (KV (fun τ7 => Lay LM g c t τ7 ∧ (Lay LM g c t τ7 → CC E mX12_waysOf [vr 172, vi x1, vi x2] τ7 (KI (fun r8 τ9 => Lay LM g c t τ9 ∧ (inR r8 → (Lay LM g c t τ9 → Q (.inl (some (vi r8))) τ9))) (fun _ _ => False)))) (fun _ _ => False)))) ∧ (¬ (r4 = 0) → (Lay LM g c t τ5 → Q (.inl (some (vi 0))) τ5))))) (fun _ _ => False)))) ∧ (¬ (r2 = 0) → (Lay LM g c t τ3 → CC E mX12_isClass [vr 172, vi x2] τ3 (KI (fun r10 τ11 => Lay LM g c t τ11 ∧ (inR r10 → ((r10 ≠ 0 → (Lay LM g c t τ11 → CC E mX12_bad [vr 172, vi 0, vi 1, vi 0] τ11 (KI (fun r12 τ13 => Lay LM g c t τ13 ∧ (inR r12 → ((r12 = 0 → (Lay LM g c t τ13 → CC E mX12_laysRows [vr 172] τ13 (KV (fun τ15 => Lay LM g c t τ15 ∧ (Lay LM g c t τ15 → CC E mX12_waysOf [vr 172, vi x1, vi x2] τ15 (KI (fun r16 τ17 => Lay LM g c t τ17 ∧ (inR r16 → (Lay LM g c t τ17 → Q (.inl (some (vi r16))) τ17))) (fun _ _ => False)))) (fun _ _ => False)))) ∧ (¬ (r12 = 0) → (Lay LM g c t τ13 → Q (.inl (some (vi 0))) τ13))))) (fun _ _ => False)))) ∧ (r10 = 0 → (Lay LM g c t τ11 → CC E mX12_bad [vr 172, vi 1, vi 1, vi 0] τ11 (KI (fun r18 τ19 => Lay LM g c t τ19 ∧ (inR r18 → ((r18 = 0 → (Lay LM g c t τ19 → CC E mX12_laysRows [vr 172] τ19 (KV (fun τ21 => Lay LM g c t τ21 ∧ (Lay LM g c t τ21 → CC E mX12_waysOf [vr 172, vi x1, vi x2] τ21 (KI (fun r22 τ23 => Lay LM g c t τ23 ∧ (inR r22 → (Lay LM g c t τ23 → Q (.inl (some (vi r22))) τ23))) (fun _ _ => False)))) (fun _ _ => False)))) ∧ (¬ (r18 = 0) → (Lay LM g c t τ19 → Q (.inl (some (vi 0))) τ19))))) (fun _ _ => False))))))) (fun _ _ => False))))))) (fun _ _ => False)))) : GG E mX12_ways 0 [some (vr 172), some (vi x1), some (vi x2)] [] σ rc rs Q := by
  refine r_aload_n (pc := 0) dX12_ways_0 rfl rfl ?_
  refine r_iconst (pc := 1) dX12_ways_1 (inRk rfl) ?_
  refine r_putI (pc := 2) dX12_ways_2 (k9 := 0) CL_12 (by decide) (by decide) w_1415 rfl rfl (fun h9 => absurd h9 (by decide +kernel)) (okO_of (N := 42) (hL.sh (i := 0) rfl (by decide) (by decide)) (by decide)) ?_
  refine nmS (fun τ1 e1 => ?_)
  replace h := h τ1 e1
  have hL := hL.wI e1 (by decide) (.inl (by decide))
  refine r_aload_n (pc := 5) dX12_ways_5 rfl rfl ?_
  refine r_aload_n (pc := 6) dX12_ways_6 rfl rfl ?_
  refine r_iload_n (pc := 7) dX12_ways_7 rfl rfl ?_
  refine c_VI0N (M := mX12_ways) (pc := 8) (As := [vi x1]) dX12_ways_8 K_X12_isClass w_1766 ⟨by decide, by decide⟩ (Nat.le_of_ble_eq_true rfl) rfl rfl (ci := 12) rfl rfl (by decide) (okO_of (N := 42) (hL.sh (i := 0) rfl (by decide) (by decide)) (by decide)) (h hL) (fun r2 τ3 h8 hr9 => ?_) rfl
  replace hL := h8.1
  replace h := h8.2 hr9
  refine r_if_eq (pc := 11) (tgt := 22) dX12_ways_11 (by decide) (fun c9 => ?_) (fun c9 => ?_)
  · replace h := h.1 c9
    refine r_iconst (pc := 22) dX12_ways_22 (inRk rfl) ?_
    refine r_goto (pc := 23) (tgt := 27) dX12_ways_23 (by decide) ?_
    refine r_iconst (pc := 27) dX12_ways_27 (inRk rfl) ?_
    refine r_iconst (pc := 28) dX12_ways_28 (inRk rfl) ?_
    refine c_VI0N (M := mX12_ways) (pc := 29) (As := [vi 1, vi 1, vi 0]) dX12_ways_29 K_X12_bad w_1562 ⟨by decide, by decide⟩ (Nat.le_of_ble_eq_true rfl) rfl rfl (ci := 12) rfl rfl (by decide) (okO_of (N := 42) (hL.sh (i := 0) rfl (by decide) (by decide)) (by decide)) (h hL) (fun r4 τ5 h8 hr9 => ?_) rfl
    replace hL := h8.1
    replace h := h8.2 hr9
    refine r_if_eq (pc := 32) (tgt := 37) dX12_ways_32 (by decide) (fun c9 => ?_) (fun c9 => ?_)
    · replace h := h.1 c9
      refine r_aload_n (pc := 37) dX12_ways_37 rfl rfl ?_
      refine c_VV0N (M := mX12_ways) (pc := 38) (As := []) dX12_ways_38 K_X12_laysRows w_1652 ⟨by decide, by decide⟩ (Nat.le_of_ble_eq_true rfl) rfl rfl (ci := 12) rfl rfl (by decide) (okO_of (N := 42) (hL.sh (i := 0) rfl (by decide) (by decide)) (by decide)) (h hL) (fun τ7 h8 => ?_) rfl
      replace hL := h8.1
      replace h := h8.2
      refine r_aload_n (pc := 41) dX12_ways_41 rfl rfl ?_
      refine r_iload_n (pc := 42) dX12_ways_42 rfl rfl ?_
      refine r_iload_n (pc := 43) dX12_ways_43 rfl rfl ?_
      refine c_VI0N (M := mX12_ways) (pc := 44) (As := [vi x1, vi x2]) dX12_ways_44 K_X12_waysOf w_1730 ⟨by decide, by decide⟩ (Nat.le_of_ble_eq_true rfl) rfl rfl (ci := 12) rfl rfl (by decide) (okO_of (N := 42) (hL.sh (i := 0) rfl (by decide) (by decide)) (by decide)) (h hL) (fun r8 τ9 h8 hr9 => ?_) rfl
      replace hL := h8.1
      replace h := h8.2 hr9
      exact r_ireturn (pc := 47) (ty := .int) dX12_ways_47 (by decide +kernel) rfl (nar_i _) (h hL)
    · replace h := h.2 c9
      refine r_iconst (pc := 35) dX12_ways_35 (inRk rfl) ?_
      exact r_ireturn (pc := 36) (ty := .int) dX12_ways_36 (by decide +kernel) rfl (nar_i _) (h hL)
  · replace h := h.2 c9
    refine r_aload_n (pc := 14) dX12_ways_14 rfl rfl ?_
    refine r_iload_n (pc := 15) dX12_ways_15 rfl rfl ?_
    refine c_VI0N (M := mX12_ways) (pc := 16) (As := [vi x2]) dX12_ways_16 K_X12_isClass w_1766 ⟨by decide, by decide⟩ (Nat.le_of_ble_eq_true rfl) rfl rfl (ci := 12) rfl rfl (by decide) (okO_of (N := 42) (hL.sh (i := 0) rfl (by decide) (by decide)) (by decide)) (h hL) (fun r10 τ11 h8 hr9 => ?_) rfl
    replace hL := h8.1
    replace h := h8.2 hr9
    refine r_if_ne (pc := 19) (tgt := 26) dX12_ways_19 (by decide) (fun c9 => ?_) (fun c9 => ?_)
    · replace h := h.1 c9
      refine r_iconst (pc := 26) dX12_ways_26 (inRk rfl) ?_
      refine r_iconst (pc := 27) dX12_ways_27 (inRk rfl) ?_
      refine r_iconst (pc := 28) dX12_ways_28 (inRk rfl) ?_
      refine c_VI0N (M := mX12_ways) (pc := 29) (As := [vi 0, vi 1, vi 0]) dX12_ways_29 K_X12_bad w_1562 ⟨by decide, by decide⟩ (Nat.le_of_ble_eq_true rfl) rfl rfl (ci := 12) rfl rfl (by decide) (okO_of (N := 42) (hL.sh (i := 0) rfl (by decide) (by decide)) (by decide)) (h hL) (fun r12 τ13 h8 hr9 => ?_) rfl
      replace hL := h8.1
      replace h := h8.2 hr9
      refine r_if_eq (pc := 32) (tgt := 37) dX12_ways_32 (by decide) (fun c9 => ?_) (fun c9 => ?_)
      · replace h := h.1 c9
        refine r_aload_n (pc := 37) dX12_ways_37 rfl rfl ?_
        refine c_VV0N (M := mX12_ways) (pc := 38) (As := []) dX12_ways_38 K_X12_laysRows w_1652 ⟨by decide, by decide⟩ (Nat.le_of_ble_eq_true rfl) rfl rfl (ci := 12) rfl rfl (by decide) (okO_of (N := 42) (hL.sh (i := 0) rfl (by decide) (by decide)) (by decide)) (h hL) (fun τ15 h8 => ?_) rfl
        replace hL := h8.1
        replace h := h8.2
        refine r_aload_n (pc := 41) dX12_ways_41 rfl rfl ?_
        refine r_iload_n (pc := 42) dX12_ways_42 rfl rfl ?_
        refine r_iload_n (pc := 43) dX12_ways_43 rfl rfl ?_
        refine c_VI0N (M := mX12_ways) (pc := 44) (As := [vi x1, vi x2]) dX12_ways_44 K_X12_waysOf w_1730 ⟨by decide, by decide⟩ (Nat.le_of_ble_eq_true rfl) rfl rfl (ci := 12) rfl rfl (by decide) (okO_of (N := 42) (hL.sh (i := 0) rfl (by decide) (by decide)) (by decide)) (h hL) (fun r16 τ17 h8 hr9 => ?_) rfl
        replace hL := h8.1
        replace h := h8.2 hr9
        exact r_ireturn (pc := 47) (ty := .int) dX12_ways_47 (by decide +kernel) rfl (nar_i _) (h hL)
      · replace h := h.2 c9
        refine r_iconst (pc := 35) dX12_ways_35 (inRk rfl) ?_
        exact r_ireturn (pc := 36) (ty := .int) dX12_ways_36 (by decide +kernel) rfl (nar_i _) (h hL)
    · replace h := h.2 c9
      refine r_iconst (pc := 22) dX12_ways_22 (inRk rfl) ?_
      refine r_goto (pc := 23) (tgt := 27) dX12_ways_23 (by decide) ?_
      refine r_iconst (pc := 27) dX12_ways_27 (inRk rfl) ?_
      refine r_iconst (pc := 28) dX12_ways_28 (inRk rfl) ?_
      refine c_VI0N (M := mX12_ways) (pc := 29) (As := [vi 1, vi 1, vi 0]) dX12_ways_29 K_X12_bad w_1562 ⟨by decide, by decide⟩ (Nat.le_of_ble_eq_true rfl) rfl rfl (ci := 12) rfl rfl (by decide) (okO_of (N := 42) (hL.sh (i := 0) rfl (by decide) (by decide)) (by decide)) (h hL) (fun r18 τ19 h8 hr9 => ?_) rfl
      replace hL := h8.1
      replace h := h8.2 hr9
      refine r_if_eq (pc := 32) (tgt := 37) dX12_ways_32 (by decide) (fun c9 => ?_) (fun c9 => ?_)
      · replace h := h.1 c9
        refine r_aload_n (pc := 37) dX12_ways_37 rfl rfl ?_
        refine c_VV0N (M := mX12_ways) (pc := 38) (As := []) dX12_ways_38 K_X12_laysRows w_1652 ⟨by decide, by decide⟩ (Nat.le_of_ble_eq_true rfl) rfl rfl (ci := 12) rfl rfl (by decide) (okO_of (N := 42) (hL.sh (i := 0) rfl (by decide) (by decide)) (by decide)) (h hL) (fun τ21 h8 => ?_) rfl
        replace hL := h8.1
        replace h := h8.2
        refine r_aload_n (pc := 41) dX12_ways_41 rfl rfl ?_
        refine r_iload_n (pc := 42) dX12_ways_42 rfl rfl ?_
        refine r_iload_n (pc := 43) dX12_ways_43 rfl rfl ?_
        refine c_VI0N (M := mX12_ways) (pc := 44) (As := [vi x1, vi x2]) dX12_ways_44 K_X12_waysOf w_1730 ⟨by decide, by decide⟩ (Nat.le_of_ble_eq_true rfl) rfl rfl (ci := 12) rfl rfl (by decide) (okO_of (N := 42) (hL.sh (i := 0) rfl (by decide) (by decide)) (by decide)) (h hL) (fun r22 τ23 h8 hr9 => ?_) rfl
        replace hL := h8.1
        replace h := h8.2 hr9
        exact r_ireturn (pc := 47) (ty := .int) dX12_ways_47 (by decide +kernel) rfl (nar_i _) (h hL)
      · replace h := h.2 c9
        refine r_iconst (pc := 35) dX12_ways_35 (inRk rfl) ?_
        exact r_ireturn (pc := 36) (ty := .int) dX12_ways_36 (by decide +kernel) rfl (nar_i _) (h hL)
theorem C_X12_ways {a0 : Nat} {x1 : Int} {x2 : Int} (h : GG E mX12_ways 0 [some (vr a0), some (vi x1), some (vi x2)] [] σ 0 0 Q) : CC E mX12_ways [vr a0, vi x1, vi x2] σ Q := CC.of (by decide +kernel) rfl (by decide +kernel) (fun h9 => nomatch h9) (Nat.le_of_ble_eq_true rfl) h
theorem dX12_waysInAll_0 : decode cX12_waysInAll 0 = .ok (.iconst 0, 1) := by decide +kernel
theorem dX12_waysInAll_1 : decode cX12_waysInAll 1 = .ok (.istore_n 2, 1) := by decide +kernel
theorem dX12_waysInAll_2 : decode cX12_waysInAll 2 = .ok (.iconst 0, 1) := by decide +kernel
theorem dX12_waysInAll_3 : decode cX12_waysInAll 3 = .ok (.istore_n 3, 1) := by decide +kernel
theorem dX12_waysInAll_4 : decode cX12_waysInAll 4 = .ok (.iload_n 3, 1) := by decide +kernel
theorem dX12_waysInAll_5 : decode cX12_waysInAll 5 = .ok (.aload_n 0, 1) := by decide +kernel
theorem dX12_waysInAll_6 : decode cX12_waysInAll 6 = .ok (.getfield 231, 3) := by decide +kernel
theorem dX12_waysInAll_9 : decode cX12_waysInAll 9 = .ok (.if_icmp .ge 18, 3) := by decide +kernel
theorem dX12_waysInAll_12 : decode cX12_waysInAll 12 = .ok (.iload_n 2, 1) := by decide +kernel
theorem dX12_waysInAll_13 : decode cX12_waysInAll 13 = .ok (.aload_n 0, 1) := by decide +kernel
theorem dX12_waysInAll_14 : decode cX12_waysInAll 14 = .ok (.iload_n 1, 1) := by decide +kernel
theorem dX12_waysInAll_15 : decode cX12_waysInAll 15 = .ok (.iload_n 3, 1) := by decide +kernel
theorem dX12_waysInAll_16 : decode cX12_waysInAll 16 = .ok (.invokevirtual 293, 3) := by decide +kernel
theorem dX12_waysInAll_19 : decode cX12_waysInAll 19 = .ok (.iadd, 1) := by decide +kernel
theorem dX12_waysInAll_20 : decode cX12_waysInAll 20 = .ok (.istore_n 2, 1) := by decide +kernel
theorem dX12_waysInAll_21 : decode cX12_waysInAll 21 = .ok (.iinc 3 1, 3) := by decide +kernel
theorem dX12_waysInAll_24 : decode cX12_waysInAll 24 = .ok (.goto (-20), 3) := by decide +kernel
theorem dX12_waysInAll_27 : decode cX12_waysInAll 27 = .ok (.iload_n 2, 1) := by decide +kernel
theorem dX12_waysInAll_28 : decode cX12_waysInAll 28 = .ok (.ireturn, 1) := by decide +kernel
theorem B_X12_waysInAll_0 {g : Sg} {c t : Nat} (hL : Lay LM g c t σ) {x1 : Int} (h : (Lay LM g c t σ → GG E mX12_waysInAll 4 [some (vr 172), some (vi x1), some (vi 0), some (vi 0)] [] σ rc rs Q)) : GG E mX12_waysInAll 0 [some (vr 172), some (vi x1), none, none] [] σ rc rs Q := by
  refine r_iconst (pc := 0) dX12_waysInAll_0 (inRk rfl) ?_
  refine r_istore_n (pc := 1) dX12_waysInAll_1 rfl (by decide) (l2 := [some (vr 172), some (vi x1), some (vi 0), none]) rfl ?_
  refine r_iconst (pc := 2) dX12_waysInAll_2 (inRk rfl) ?_
  refine r_istore_n (pc := 3) dX12_waysInAll_3 rfl (by decide) (l2 := [some (vr 172), some (vi x1), some (vi 0), some (vi 0)]) rfl ?_
  exact (h hL)
theorem B_X12_waysInAll_4 {g : Sg} {c t : Nat} (hL : Lay LM g c t σ) {x1 : Int} {x2 : Int} {x3 : Int} (h : (((gI σ 172 16) ≤ x3 → (Lay LM g c t σ → Q (.inl (some (vi x2))) σ)) ∧ (¬ ((gI σ 172 16) ≤ x3) → (Lay LM g c t σ → CC E mX12_waysOf [vr 172, vi x1, vi x3] σ (KI (fun r1 τ2 => Lay LM g c t τ2 ∧ (inR r1 → inR (x2 + r1) ∧ inR (x3 + 1) ∧ (Lay LM g c t τ2 → GG E mX12_waysInAll 4 [some (vr 172), some (vi x1), some (vi (x2 + r1)), some (vi (x3 + 1))] [] τ2 rc rs Q))) (fun _ _ => False)))))) : GG E mX12_waysInAll 4 [some (vr 172), some (vi x1), some (vi x2), some (vi x3)] [] σ rc rs Q := by
  refine r_iload_n (pc := 4) dX12_waysInAll_4 rfl rfl ?_
  refine r_aload_n (pc := 5) dX12_waysInAll_5 rfl rfl ?_
  refine r_getI (pc := 6) dX12_waysInAll_6 (k9 := 16) CL_12 (by decide) (by decide) w_1431 rfl (okO_of (N := 42) (hL.sh (i := 0) rfl (by decide) (by decide)) (by decide)) (fun _ => ?_)
  refine r_icmp_ge (pc := 9) (tgt := 27) dX12_waysInAll_9 (by decide) (fun c9 => ?_) (fun c9 => ?_)
  · replace h := h.1 c9
    refine r_iload_n (pc := 27) dX12_waysInAll_27 rfl rfl ?_
    exact r_ireturn (pc := 28) (ty := .int) dX12_waysInAll_28 (by decide +kernel) rfl (nar_i _) (h hL)
  · replace h := h.2 c9
    refine r_iload_n (pc := 12) dX12_waysInAll_12 rfl rfl ?_
    refine r_aload_n (pc := 13) dX12_waysInAll_13 rfl rfl ?_
    refine r_iload_n (pc := 14) dX12_waysInAll_14 rfl rfl ?_
    refine r_iload_n (pc := 15) dX12_waysInAll_15 rfl rfl ?_
    refine c_VI0N (M := mX12_waysInAll) (pc := 16) (As := [vi x1, vi x3]) dX12_waysInAll_16 K_X12_waysOf w_1730 ⟨by decide, by decide⟩ (Nat.le_of_ble_eq_true rfl) rfl rfl (ci := 12) rfl rfl (by decide) (okO_of (N := 42) (hL.sh (i := 0) rfl (by decide) (by decide)) (by decide)) (h hL) (fun r1 τ2 h8 hr9 => ?_) rfl
    replace hL := h8.1
    replace h := h8.2 hr9
    obtain ⟨o3, h⟩ := h
    refine r_iadd (pc := 19) dX12_waysInAll_19 o3 ?_
    refine r_istore_n (pc := 20) dX12_waysInAll_20 rfl (by decide) (l2 := [some (vr 172), some (vi x1), some (vi (x2 + r1)), some (vi x3)]) rfl ?_
    obtain ⟨o4, h⟩ := h
    refine r_iinc (pc := 21) dX12_waysInAll_21 rfl (by decide) o4 (l2 := [some (vr 172), some (vi x1), some (vi (x2 + r1)), some (vi (x3 + 1))]) rfl ?_
    refine r_goto (pc := 24) (tgt := 4) dX12_waysInAll_24 (by decide) ?_
    exact (h hL)
theorem C_X12_waysInAll {a0 : Nat} {x1 : Int} (h : GG E mX12_waysInAll 0 [some (vr a0), some (vi x1), none, none] [] σ 0 0 Q) : CC E mX12_waysInAll [vr a0, vi x1] σ Q := CC.of (by decide +kernel) rfl (by decide +kernel) (fun h9 => nomatch h9) (Nat.le_of_ble_eq_true rfl) h
theorem dX12_waysOf_0 : decode cX12_waysOf 0 = .ok (.iconst 0, 1) := by decide +kernel
theorem dX12_waysOf_1 : decode cX12_waysOf 1 = .ok (.istore_n 3, 1) := by decide +kernel
theorem dX12_waysOf_2 : decode cX12_waysOf 2 = .ok (.iload_n 3, 1) := by decide +kernel
theorem dX12_waysOf_3 : decode cX12_waysOf 3 = .ok (.aload_n 0, 1) := by decide +kernel
theorem dX12_waysOf_4 : decode cX12_waysOf 4 = .ok (.getfield 231, 3) := by decide +kernel
theorem dX12_waysOf_7 : decode cX12_waysOf 7 = .ok (.if_icmp .ge 35, 3) := by decide +kernel
theorem dX12_waysOf_10 : decode cX12_waysOf 10 = .ok (.aload_n 0, 1) := by decide +kernel
theorem dX12_waysOf_11 : decode cX12_waysOf 11 = .ok (.getfield 76, 3) := by decide +kernel
theorem dX12_waysOf_14 : decode cX12_waysOf 14 = .ok (.iload_n 3, 1) := by decide +kernel
theorem dX12_waysOf_15 : decode cX12_waysOf 15 = .ok (.aload_n 0, 1) := by decide +kernel
theorem dX12_waysOf_16 : decode cX12_waysOf 16 = .ok (.aload_n 0, 1) := by decide +kernel
theorem dX12_waysOf_17 : decode cX12_waysOf 17 = .ok (.iload_n 3, 1) := by decide +kernel
theorem dX12_waysOf_18 : decode cX12_waysOf 18 = .ok (.invokevirtual 290, 3) := by decide +kernel
theorem dX12_waysOf_21 : decode cX12_waysOf 21 = .ok (.i2l, 1) := by decide +kernel
theorem dX12_waysOf_22 : decode cX12_waysOf 22 = .ok (.aload_n 0, 1) := by decide +kernel
theorem dX12_waysOf_23 : decode cX12_waysOf 23 = .ok (.getfield 70, 3) := by decide +kernel
theorem dX12_waysOf_26 : decode cX12_waysOf 26 = .ok (.iload_n 1, 1) := by decide +kernel
theorem dX12_waysOf_27 : decode cX12_waysOf 27 = .ok (.aaload, 1) := by decide +kernel
theorem dX12_waysOf_28 : decode cX12_waysOf 28 = .ok (.iload_n 3, 1) := by decide +kernel
theorem dX12_waysOf_29 : decode cX12_waysOf 29 = .ok (.iaload, 1) := by decide +kernel
theorem dX12_waysOf_30 : decode cX12_waysOf 30 = .ok (.i2l, 1) := by decide +kernel
theorem dX12_waysOf_31 : decode cX12_waysOf 31 = .ok (.lmul, 1) := by decide +kernel
theorem dX12_waysOf_32 : decode cX12_waysOf 32 = .ok (.invokevirtual 250, 3) := by decide +kernel
theorem dX12_waysOf_35 : decode cX12_waysOf 35 = .ok (.iastore, 1) := by decide +kernel
theorem dX12_waysOf_36 : decode cX12_waysOf 36 = .ok (.iinc 3 1, 3) := by decide +kernel
theorem dX12_waysOf_39 : decode cX12_waysOf 39 = .ok (.goto (-37), 3) := by decide +kernel
theorem dX12_waysOf_42 : decode cX12_waysOf 42 = .ok (.aload_n 0, 1) := by decide +kernel
theorem dX12_waysOf_43 : decode cX12_waysOf 43 = .ok (.aload_n 0, 1) := by decide +kernel
theorem dX12_waysOf_44 : decode cX12_waysOf 44 = .ok (.getfield 76, 3) := by decide +kernel
theorem dX12_waysOf_47 : decode cX12_waysOf 47 = .ok (.iload_n 2, 1) := by decide +kernel
theorem dX12_waysOf_48 : decode cX12_waysOf 48 = .ok (.invokevirtual 286, 3) := by decide +kernel
theorem dX12_waysOf_51 : decode cX12_waysOf 51 = .ok (.ireturn, 1) := by decide +kernel
theorem B_X12_waysOf_0 {g : Sg} {c t : Nat} (hL : Lay LM g c t σ) {x1 : Int} {x2 : Int} (h : (Lay LM g c t σ → GG E mX12_waysOf 2 [some (vr 172), some (vi x1), some (vi x2), some (vi 0)] [] σ rc rs Q)) : GG E mX12_waysOf 0 [some (vr 172), some (vi x1), some (vi x2), none] [] σ rc rs Q := by
  refine r_iconst (pc := 0) dX12_waysOf_0 (inRk rfl) ?_
  refine r_istore_n (pc := 1) dX12_waysOf_1 rfl (by decide) (l2 := [some (vr 172), some (vi x1), some (vi x2), some (vi 0)]) rfl ?_
  exact (h hL)
theorem B_X12_waysOf_2 {g : Sg} {c t : Nat} (hL : Lay LM g c t σ) {x1 : Int} {x2 : Int} {x3 : Int} (h : (((gI σ 172 16) ≤ x3 → (Lay LM g c t σ → CC E mX12_oftenIn [vr 172, vr 2963, vi x2] σ (KI (fun r1 τ2 => Lay LM g c t τ2 ∧ (inR r1 → (Lay LM g c t τ2 → Q (.inl (some (vi r1))) τ2))) (fun _ _ => False)))) ∧ (¬ ((gI σ 172 16) ≤ x3) → (Lay LM g c t σ → CC E mX12_natural [vr 172, vi x3] σ (KI (fun r3 τ4 => Lay LM g c t τ4 ∧ (inR r3 → (0 ≤ x1 ∧ x1 < 48) ∧ ∀ b6 : Nat, b6 = gR τ4 2913 x1.toNat → (2914 ≤ b6 ∧ b6 < 2962) → (0 ≤ x3 ∧ x3 < 48) ∧ (Lay LM g c t τ4 → CC E mX12_mod [vr 172, vl (wL (r3 * (gI τ4 b6 x3.toNat)))] τ4 (KI (fun r9 τ10 => Lay LM g c t τ10 ∧ (inR r9 → ∀ τ11 : Sg, τ11 = sI τ10 2963 x3.toNat r9 → inR (x3 + 1) ∧ (Lay LM g c t τ11 → GG E mX12_waysOf 2 [some (vr 172), some (vi x1), some (vi x2), some (vi (x3 + 1))] [] τ11 rc rs Q))) (fun _ _ => False))))) (fun _ _ => False)))))) : GG E mX12_waysOf 2 [some (vr 172), some (vi x1), some (vi x2), some (vi x3)] [] σ rc rs Q := by
  refine r_iload_n (pc := 2) dX12_waysOf_2 rfl rfl ?_
  refine r_aload_n (pc := 3) dX12_waysOf_3 rfl rfl ?_
  refine r_getI (pc := 4) dX12_waysOf_4 (k9 := 16) CL_12 (by decide) (by decide) w_1431 rfl (okO_of (N := 42) (hL.sh (i := 0) rfl (by decide) (by decide)) (by decide)) (fun _ => ?_)
  refine r_icmp_ge (pc := 7) (tgt := 42) dX12_waysOf_7 (by decide) (fun c9 => ?_) (fun c9 => ?_)
  · replace h := h.1 c9
    refine r_aload_n (pc := 42) dX12_waysOf_42 rfl rfl ?_
    refine r_aload_n (pc := 43) dX12_waysOf_43 rfl rfl ?_
    refine r_getR (pc := 44) dX12_waysOf_44 (k9 := 36) CL_12 (by decide) (by decide) w_1451 rfl (okO_of (N := 42) (hL.sh (i := 0) rfl (by decide) (by decide)) (by decide)) ?_
    refine eqR (y := 2963) (hL.rf (i := 20) rfl) ?_
    refine r_iload_n (pc := 47) dX12_waysOf_47 rfl rfl ?_
    refine c_VI0N (M := mX12_waysOf) (pc := 48) (As := [vr 2963, vi x2]) dX12_waysOf_48 K_X12_oftenIn w_1738 ⟨by decide, by decide⟩ (Nat.le_of_ble_eq_true rfl) rfl rfl (ci := 12) rfl rfl (by decide) (okO_of (N := 42) (hL.sh (i := 0) rfl (by decide) (by decide)) (by decide)) (h hL) (fun r1 τ2 h8 hr9 => ?_) rfl
    replace hL := h8.1
    replace h := h8.2 hr9
    exact r_ireturn (pc := 51) (ty := .int) dX12_waysOf_51 (by decide +kernel) rfl (nar_i _) (h hL)
  · replace h := h.2 c9
    refine r_aload_n (pc := 10) dX12_waysOf_10 rfl rfl ?_
    refine r_getR (pc := 11) dX12_waysOf_11 (k9 := 36) CL_12 (by decide) (by decide) w_1451 rfl (okO_of (N := 42) (hL.sh (i := 0) rfl (by decide) (by decide)) (by decide)) ?_
    refine eqR (y := 2963) (hL.rf (i := 20) rfl) ?_
    refine r_iload_n (pc := 14) dX12_waysOf_14 rfl rfl ?_
    refine r_aload_n (pc := 15) dX12_waysOf_15 rfl rfl ?_
    refine r_aload_n (pc := 16) dX12_waysOf_16 rfl rfl ?_
    refine r_iload_n (pc := 17) dX12_waysOf_17 rfl rfl ?_
    refine c_VI0N (M := mX12_waysOf) (pc := 18) (As := [vi x3]) dX12_waysOf_18 K_X12_natural w_1734 ⟨by decide, by decide⟩ (Nat.le_of_ble_eq_true rfl) rfl rfl (ci := 12) rfl rfl (by decide) (okO_of (N := 42) (hL.sh (i := 0) rfl (by decide) (by decide)) (by decide)) (h hL) (fun r3 τ4 h8 hr9 => ?_) rfl
    replace hL := h8.1
    replace h := h8.2 hr9
    refine r_i2l (pc := 21) dX12_waysOf_21 ?_
    refine r_aload_n (pc := 22) dX12_waysOf_22 rfl rfl ?_
    refine r_getR (pc := 23) dX12_waysOf_23 (k9 := 33) CL_12 (by decide) (by decide) w_1448 rfl (okO_of (N := 42) (hL.sh (i := 0) rfl (by decide) (by decide)) (by decide)) ?_
    refine eqR (y := 2913) (hL.rf (i := 18) rfl) ?_
    refine r_iload_n (pc := 26) dX12_waysOf_26 rfl rfl ?_
    obtain ⟨o5, h⟩ := h
    refine r_aaload (pc := 27) dX12_waysOf_27 (okB_of (c := 24) (n := 48) (hL.sh (i := 25) rfl (by decide) (by decide)) (by decide) o5) ?_
    refine nmR (fun b6 e9 => ?_)
    have q7 : (2914 ≤ b6 ∧ b6 < 2962) := e9 ▸ hL.rsw (i := 1) rfl (rowC o5 (by decide))
    replace h := h b6 e9 q7
    refine r_iload_n (pc := 28) dX12_waysOf_28 rfl rfl ?_
    obtain ⟨o8, h⟩ := h
    refine r_iaload (pc := 29) dX12_waysOf_29 (okA_of (c := 20) (n := 48) (hL.sh (i := 26) rfl q7.1 q7.2) (Nat.le_trans (by decide) q7.1) o8) ?_
    refine r_i2l (pc := 30) dX12_waysOf_30 ?_
    refine r_lmul (pc := 31) dX12_waysOf_31 ?_
    refine c_VI0N (M := mX12_waysOf) (pc := 32) (As := [vl (wL (r3 * (gI τ4 b6 x3.toNat)))]) dX12_waysOf_32 K_X12_mod w_1666 ⟨by decide, by decide⟩ (Nat.le_of_ble_eq_true rfl) rfl rfl (ci := 12) rfl rfl (by decide) (okO_of (N := 42) (hL.sh (i := 0) rfl (by decide) (by decide)) (by decide)) (h hL) (fun r9 τ10 h8 hr9 => ?_) rfl
    replace hL := h8.1
    replace h := h8.2 hr9
    refine r_iastore (pc := 35) dX12_waysOf_35 (okB_of (c := 20) (n := 48) (hL.sh (i := 28) rfl (by decide) (by decide)) (by decide) o8) ?_
    refine nmS (fun τ11 e11 => ?_)
    replace h := h τ11 e11
    have hL := hL.wI e11 (by decide) (.inl (by decide))
    obtain ⟨o12, h⟩ := h
    refine r_iinc (pc := 36) dX12_waysOf_36 rfl (by decide) o12 (l2 := [some (vr 172), some (vi x1), some (vi x2), some (vi (x3 + 1))]) rfl ?_
    refine r_goto (pc := 39) (tgt := 2) dX12_waysOf_39 (by decide) ?_
    exact (h hL)
theorem C_X12_waysOf {a0 : Nat} {x1 : Int} {x2 : Int} (h : GG E mX12_waysOf 0 [some (vr a0), some (vi x1), some (vi x2), none] [] σ 0 0 Q) : CC E mX12_waysOf [vr a0, vi x1, vi x2] σ Q := CC.of (by decide +kernel) rfl (by decide +kernel) (fun h9 => nomatch h9) (Nat.le_of_ble_eq_true rfl) h
theorem dX12_why_0 : decode cX12_why 0 = .ok (.aload_n 0, 1) := by decide +kernel
theorem dX12_why_1 : decode cX12_why 1 = .ok (.iconst 0, 1) := by decide +kernel
theorem dX12_why_2 : decode cX12_why 2 = .ok (.putfield 99, 3) := by decide +kernel
theorem dX12_why_5 : decode cX12_why 5 = .ok (.iload_n 1, 1) := by decide +kernel
theorem dX12_why_6 : decode cX12_why 6 = .ok (.iconst 0, 1) := by decide +kernel
theorem dX12_why_7 : decode cX12_why 7 = .ok (.iconst 3, 1) := by decide +kernel
theorem dX12_why_8 : decode cX12_why 8 = .ok (.invokestatic 141, 3) := by decide +kernel
theorem dX12_why_11 : decode cX12_why 11 = .ok (.ifCond .eq 12, 3) := by decide +kernel
theorem dX12_why_14 : decode cX12_why 14 = .ok (.aload_n 0, 1) := by decide +kernel
theorem dX12_why_15 : decode cX12_why 15 = .ok (.getfield 25, 3) := by decide +kernel
theorem dX12_why_18 : decode cX12_why 18 = .ok (.iload_n 1, 1) := by decide +kernel
theorem dX12_why_19 : decode cX12_why 19 = .ok (.iaload, 1) := by decide +kernel
theorem dX12_why_20 : decode cX12_why 20 = .ok (.goto 4, 3) := by decide +kernel
theorem dX12_why_23 : decode cX12_why 23 = .ok (.iconst (-1), 1) := by decide +kernel
theorem dX12_why_24 : decode cX12_why 24 = .ok (.ireturn, 1) := by decide +kernel
theorem B_X12_why_0 {g : Sg} {c t : Nat} (hL : Lay LM g c t σ) {x1 : Int} (h : ∀ τ1 : Sg, τ1 = sI σ 172 0 0 → (Lay LM g c t τ1 → CC E mX12_in [vi x1, vi 0, vi 3] τ1 (KI (fun r2 τ3 => Lay LM g c t τ3 ∧ (inR r2 → ((r2 = 0 → (Lay LM g c t τ3 → Q (.inl (some (vi (-1)))) τ3)) ∧ (¬ (r2 = 0) → (0 ≤ x1 ∧ x1 < 4) ∧ (Lay LM g c t τ3 → Q (.inl (some (vi (gI τ3 186 x1.toNat)))) τ3))))) (fun _ _ => False)))) : GG E mX12_why 0 [some (vr 172), some (vi x1)] [] σ rc rs Q := by
  refine r_aload_n (pc := 0) dX12_why_0 rfl rfl ?_
  refine r_iconst (pc := 1) dX12_why_1 (inRk rfl) ?_
  refine r_putI (pc := 2) dX12_why_2 (k9 := 0) CL_12 (by decide) (by decide) w_1415 rfl rfl (fun h9 => absurd h9 (by decide +kernel)) (okO_of (N := 42) (hL.sh (i := 0) rfl (by decide) (by decide)) (by decide)) ?_
  refine nmS (fun τ1 e1 => ?_)
  replace h := h τ1 e1
  have hL := hL.wI e1 (by decide) (.inl (by decide))
  refine r_iload_n (pc := 5) dX12_why_5 rfl rfl ?_
  refine r_iconst (pc := 6) dX12_why_6 (inRk rfl) ?_
  refine r_iconst (pc := 7) dX12_why_7 (inRk rfl) ?_
  refine c_SI0N (M := mX12_why) (pc := 8) (As := [vi x1, vi 0, vi 3]) dX12_why_8 K_X12_in w_1559 ⟨by decide, by decide⟩ (Nat.le_of_ble_eq_true rfl) rfl rfl (h hL) (fun r2 τ3 h8 hr9 => ?_) rfl
  replace hL := h8.1
  replace h := h8.2 hr9
  refine r_if_eq (pc := 11) (tgt := 23) dX12_why_11 (by decide) (fun c9 => ?_) (fun c9 => ?_)
  · replace h := h.1 c9
    refine r_iconst (pc := 23) dX12_why_23 (inRk rfl) ?_
    exact r_ireturn (pc := 24) (ty := .int) dX12_why_24 (by decide +kernel) rfl (nar_i _) (h hL)
  · replace h := h.2 c9
    refine r_aload_n (pc := 14) dX12_why_14 rfl rfl ?_
    refine r_getR (pc := 15) dX12_why_15 (k9 := 11) CL_12 (by decide) (by decide) w_1426 rfl (okO_of (N := 42) (hL.sh (i := 0) rfl (by decide) (by decide)) (by decide)) ?_
    refine eqR (y := 186) (hL.rf (i := 3) rfl) ?_
    refine r_iload_n (pc := 18) dX12_why_18 rfl rfl ?_
    obtain ⟨o4, h⟩ := h
    refine r_iaload (pc := 19) dX12_why_19 (okA_of (c := 20) (n := 4) (hL.sh (i := 5) rfl (by decide) (by decide)) (by decide) o4) ?_
    refine r_goto (pc := 20) (tgt := 24) dX12_why_20 (by decide) ?_
    exact r_ireturn (pc := 24) (ty := .int) dX12_why_24 (by decide +kernel) rfl (nar_i _) (h hL)
theorem C_X12_why {a0 : Nat} {x1 : Int} (h : GG E mX12_why 0 [some (vr a0), some (vi x1)] [] σ 0 0 Q) : CC E mX12_why [vr a0, vi x1] σ Q := CC.of (by decide +kernel) rfl (by decide +kernel) (fun h9 => nomatch h9) (Nat.le_of_ble_eq_true rfl) h
theorem dX12_withWays_0 : decode cX12_withWays 0 = .ok (.aload_n 0, 1) := by decide +kernel
theorem dX12_withWays_1 : decode cX12_withWays 1 = .ok (.iconst 0, 1) := by decide +kernel
theorem dX12_withWays_2 : decode cX12_withWays 2 = .ok (.putfield 99, 3) := by decide +kernel
theorem dX12_withWays_5 : decode cX12_withWays 5 = .ok (.aload_n 0, 1) := by decide +kernel
theorem dX12_withWays_6 : decode cX12_withWays 6 = .ok (.iload_n 1, 1) := by decide +kernel
theorem dX12_withWays_7 : decode cX12_withWays 7 = .ok (.iconst 0, 1) := by decide +kernel
theorem dX12_withWays_8 : decode cX12_withWays 8 = .ok (.iconst 4, 1) := by decide +kernel
theorem dX12_withWays_9 : decode cX12_withWays 9 = .ok (.invokestatic 141, 3) := by decide +kernel
theorem dX12_withWays_12 : decode cX12_withWays 12 = .ok (.ifCond .ne 7, 3) := by decide +kernel
theorem dX12_withWays_15 : decode cX12_withWays 15 = .ok (.iconst 1, 1) := by decide +kernel
theorem dX12_withWays_16 : decode cX12_withWays 16 = .ok (.goto 4, 3) := by decide +kernel
theorem dX12_withWays_19 : decode cX12_withWays 19 = .ok (.iconst 0, 1) := by decide +kernel
theorem dX12_withWays_20 : decode cX12_withWays 20 = .ok (.iconst 1, 1) := by decide +kernel
theorem dX12_withWays_21 : decode cX12_withWays 21 = .ok (.iconst 1, 1) := by decide +kernel
theorem dX12_withWays_22 : decode cX12_withWays 22 = .ok (.invokevirtual 177, 3) := by decide +kernel
theorem dX12_withWays_25 : decode cX12_withWays 25 = .ok (.ifCond .eq 5, 3) := by decide +kernel
theorem dX12_withWays_28 : decode cX12_withWays 28 = .ok (.iconst 0, 1) := by decide +kernel
theorem dX12_withWays_29 : decode cX12_withWays 29 = .ok (.ireturn, 1) := by decide +kernel
theorem dX12_withWays_30 : decode cX12_withWays 30 = .ok (.aload_n 0, 1) := by decide +kernel
theorem dX12_withWays_31 : decode cX12_withWays 31 = .ok (.invokevirtual 317, 3) := by decide +kernel
theorem dX12_withWays_34 : decode cX12_withWays 34 = .ok (.aload_n 0, 1) := by decide +kernel
theorem dX12_withWays_35 : decode cX12_withWays 35 = .ok (.iload_n 1, 1) := by decide +kernel
theorem dX12_withWays_36 : decode cX12_withWays 36 = .ok (.invokevirtual 299, 3) := by decide +kernel
theorem dX12_withWays_39 : decode cX12_withWays 39 = .ok (.ireturn, 1) := by decide +kernel
theorem B_X12_withWays_0 {g : Sg} {c t : Nat} (hL : Lay LM g c t σ) {x1 : Int} (h : ∀ τ1 : Sg, τ1 = sI σ 172 0 0 → (Lay LM g c t τ1 → CC E mX12_in [vi x1, vi 0, vi 4] τ1 (KI (fun r2 τ3 => Lay LM g c t τ3 ∧ (inR r2 → ((r2 ≠ 0 → (Lay LM g c t τ3 → CC E mX12_bad [vr 172, vi 0, vi 1, vi 1] τ3 (KI (fun r4 τ5 => Lay LM g c t τ5 ∧ (inR r4 → ((r4 = 0 → (Lay LM g c t τ5 → CC E mX12_laysRows [vr 172] τ5 (KV (fun τ7 => Lay LM g c t τ7 ∧ (Lay LM g c t τ7 → CC E mX12_withWaysOf [vr 172, vi x1] τ7 (KI (fun r8 τ9 => Lay LM g c t τ9 ∧ (inR r8 → (Lay LM g c t τ9 → Q (.inl (some (vi r8))) τ9))) (fun _ _ => False)))) (fun _ _ => False)))) ∧ (¬ (r4 = 0) → (Lay LM g c t τ5 → Q (.inl (some (vi 0))) τ5))))) (fun _ _ => False)))) ∧ (r2 = 0 → (Lay LM g c t τ3 → CC E mX12_bad [vr 172, vi 1, vi 1, vi 1] τ3 (KI (fun r10 τ11 => Lay LM g c t τ11 ∧ (inR r10 → ((r10 = 0 → (Lay LM g c t τ11 → CC E mX12_laysRows [vr 172] τ11 (KV (fun τ13 => Lay LM g c t τ13 ∧ (Lay LM g c t τ13 → CC E mX12_withWaysOf [vr 172, vi x1] τ13 (KI (fun r14 τ15 => Lay LM g c t τ15 ∧ (inR r14 → (Lay LM g c t τ15 → Q (.inl (some (vi r14))) τ15))) (fun _ _ => False)))) (fun _ _ => False)))) ∧ (¬ (r10 = 0) → (Lay LM g c t τ11 → Q (.inl (some (vi 0))) τ11))))) (fun _ _ => False))))))) (fun _ _ => False)))) : GG E mX12_withWays 0 [some (vr 172), some (vi x1)] [] σ rc rs Q := by
  refine r_aload_n (pc := 0) dX12_withWays_0 rfl rfl ?_
  refine r_iconst (pc := 1) dX12_withWays_1 (inRk rfl) ?_
  refine r_putI (pc := 2) dX12_withWays_2 (k9 := 0) CL_12 (by decide) (by decide) w_1415 rfl rfl (fun h9 => absurd h9 (by decide +kernel)) (okO_of (N := 42) (hL.sh (i := 0) rfl (by decide) (by decide)) (by decide)) ?_
  refine nmS (fun τ1 e1 => ?_)
  replace h := h τ1 e1
  have hL := hL.wI e1 (by decide) (.inl (by decide))
  refine r_aload_n (pc := 5) dX12_withWays_5 rfl rfl ?_
  refine r_iload_n (pc := 6) dX12_withWays_6 rfl rfl ?_
  refine r_iconst (pc := 7) dX12_withWays_7 (inRk rfl) ?_
  refine r_iconst (pc := 8) dX12_withWays_8 (inRk rfl) ?_
  refine c_SI0N (M := mX12_withWays) (pc := 9) (As := [vi x1, vi 0, vi 4]) dX12_withWays_9 K_X12_in w_1559 ⟨by decide, by decide⟩ (Nat.le_of_ble_eq_true rfl) rfl rfl (h hL) (fun r2 τ3 h8 hr9 => ?_) rfl
  replace hL := h8.1
  replace h := h8.2 hr9
  refine r_if_ne (pc := 12) (tgt := 19) dX12_withWays_12 (by decide) (fun c9 => ?_) (fun c9 => ?_)
  · replace h := h.1 c9
    refine r_iconst (pc := 19) dX12_withWays_19 (inRk rfl) ?_
    refine r_iconst (pc := 20) dX12_withWays_20 (inRk rfl) ?_
    refine r_iconst (pc := 21) dX12_withWays_21 (inRk rfl) ?_
    refine c_VI0N (M := mX12_withWays) (pc := 22) (As := [vi 0, vi 1, vi 1]) dX12_withWays_22 K_X12_bad w_1562 ⟨by decide, by decide⟩ (Nat.le_of_ble_eq_true rfl) rfl rfl (ci := 12) rfl rfl (by decide) (okO_of (N := 42) (hL.sh (i := 0) rfl (by decide) (by decide)) (by decide)) (h hL) (fun r4 τ5 h8 hr9 => ?_) rfl
    replace hL := h8.1
    replace h := h8.2 hr9
    refine r_if_eq (pc := 25) (tgt := 30) dX12_withWays_25 (by decide) (fun c9 => ?_) (fun c9 => ?_)
    · replace h := h.1 c9
      refine r_aload_n (pc := 30) dX12_withWays_30 rfl rfl ?_
      refine c_VV0N (M := mX12_withWays) (pc := 31) (As := []) dX12_withWays_31 K_X12_laysRows w_1652 ⟨by decide, by decide⟩ (Nat.le_of_ble_eq_true rfl) rfl rfl (ci := 12) rfl rfl (by decide) (okO_of (N := 42) (hL.sh (i := 0) rfl (by decide) (by decide)) (by decide)) (h hL) (fun τ7 h8 => ?_) rfl
      replace hL := h8.1
      replace h := h8.2
      refine r_aload_n (pc := 34) dX12_withWays_34 rfl rfl ?_
      refine r_iload_n (pc := 35) dX12_withWays_35 rfl rfl ?_
      refine c_VI0N (M := mX12_withWays) (pc := 36) (As := [vi x1]) dX12_withWays_36 K_X12_withWaysOf w_1722 ⟨by decide, by decide⟩ (Nat.le_of_ble_eq_true rfl) rfl rfl (ci := 12) rfl rfl (by decide) (okO_of (N := 42) (hL.sh (i := 0) rfl (by decide) (by decide)) (by decide)) (h hL) (fun r8 τ9 h8 hr9 => ?_) rfl
      replace hL := h8.1
      replace h := h8.2 hr9
      exact r_ireturn (pc := 39) (ty := .int) dX12_withWays_39 (by decide +kernel) rfl (nar_i _) (h hL)
    · replace h := h.2 c9
      refine r_iconst (pc := 28) dX12_withWays_28 (inRk rfl) ?_
      exact r_ireturn (pc := 29) (ty := .int) dX12_withWays_29 (by decide +kernel) rfl (nar_i _) (h hL)
  · replace h := h.2 c9
    refine r_iconst (pc := 15) dX12_withWays_15 (inRk rfl) ?_
    refine r_goto (pc := 16) (tgt := 20) dX12_withWays_16 (by decide) ?_
    refine r_iconst (pc := 20) dX12_withWays_20 (inRk rfl) ?_
    refine r_iconst (pc := 21) dX12_withWays_21 (inRk rfl) ?_
    refine c_VI0N (M := mX12_withWays) (pc := 22) (As := [vi 1, vi 1, vi 1]) dX12_withWays_22 K_X12_bad w_1562 ⟨by decide, by decide⟩ (Nat.le_of_ble_eq_true rfl) rfl rfl (ci := 12) rfl rfl (by decide) (okO_of (N := 42) (hL.sh (i := 0) rfl (by decide) (by decide)) (by decide)) (h hL) (fun r10 τ11 h8 hr9 => ?_) rfl
    replace hL := h8.1
    replace h := h8.2 hr9
    refine r_if_eq (pc := 25) (tgt := 30) dX12_withWays_25 (by decide) (fun c9 => ?_) (fun c9 => ?_)
    · replace h := h.1 c9
      refine r_aload_n (pc := 30) dX12_withWays_30 rfl rfl ?_
      refine c_VV0N (M := mX12_withWays) (pc := 31) (As := []) dX12_withWays_31 K_X12_laysRows w_1652 ⟨by decide, by decide⟩ (Nat.le_of_ble_eq_true rfl) rfl rfl (ci := 12) rfl rfl (by decide) (okO_of (N := 42) (hL.sh (i := 0) rfl (by decide) (by decide)) (by decide)) (h hL) (fun τ13 h8 => ?_) rfl
      replace hL := h8.1
      replace h := h8.2
      refine r_aload_n (pc := 34) dX12_withWays_34 rfl rfl ?_
      refine r_iload_n (pc := 35) dX12_withWays_35 rfl rfl ?_
      refine c_VI0N (M := mX12_withWays) (pc := 36) (As := [vi x1]) dX12_withWays_36 K_X12_withWaysOf w_1722 ⟨by decide, by decide⟩ (Nat.le_of_ble_eq_true rfl) rfl rfl (ci := 12) rfl rfl (by decide) (okO_of (N := 42) (hL.sh (i := 0) rfl (by decide) (by decide)) (by decide)) (h hL) (fun r14 τ15 h8 hr9 => ?_) rfl
      replace hL := h8.1
      replace h := h8.2 hr9
      exact r_ireturn (pc := 39) (ty := .int) dX12_withWays_39 (by decide +kernel) rfl (nar_i _) (h hL)
    · replace h := h.2 c9
      refine r_iconst (pc := 28) dX12_withWays_28 (inRk rfl) ?_
      exact r_ireturn (pc := 29) (ty := .int) dX12_withWays_29 (by decide +kernel) rfl (nar_i _) (h hL)
theorem C_X12_withWays {a0 : Nat} {x1 : Int} (h : GG E mX12_withWays 0 [some (vr a0), some (vi x1)] [] σ 0 0 Q) : CC E mX12_withWays [vr a0, vi x1] σ Q := CC.of (by decide +kernel) rfl (by decide +kernel) (fun h9 => nomatch h9) (Nat.le_of_ble_eq_true rfl) h
theorem dX12_withWaysOf_0 : decode cX12_withWaysOf 0 = .ok (.iconst 0, 1) := by decide +kernel
theorem dX12_withWaysOf_1 : decode cX12_withWaysOf 1 = .ok (.istore_n 2, 1) := by decide +kernel
theorem dX12_withWaysOf_2 : decode cX12_withWaysOf 2 = .ok (.iconst 0, 1) := by decide +kernel
theorem dX12_withWaysOf_3 : decode cX12_withWaysOf 3 = .ok (.istore_n 3, 1) := by decide +kernel
theorem dX12_withWaysOf_4 : decode cX12_withWaysOf 4 = .ok (.iload_n 3, 1) := by decide +kernel
theorem dX12_withWaysOf_5 : decode cX12_withWaysOf 5 = .ok (.aload_n 0, 1) := by decide +kernel
theorem dX12_withWaysOf_6 : decode cX12_withWaysOf 6 = .ok (.getfield 231, 3) := by decide +kernel
theorem dX12_withWaysOf_9 : decode cX12_withWaysOf 9 = .ok (.if_icmp .ge 26, 3) := by decide +kernel
theorem dX12_withWaysOf_12 : decode cX12_withWaysOf 12 = .ok (.iload_n 2, 1) := by decide +kernel
theorem dX12_withWaysOf_13 : decode cX12_withWaysOf 13 = .ok (.aload_n 0, 1) := by decide +kernel
theorem dX12_withWaysOf_14 : decode cX12_withWaysOf 14 = .ok (.iload_n 3, 1) := by decide +kernel
theorem dX12_withWaysOf_15 : decode cX12_withWaysOf 15 = .ok (.invokevirtual 296, 3) := by decide +kernel
theorem dX12_withWaysOf_18 : decode cX12_withWaysOf 18 = .ok (.iload_n 1, 1) := by decide +kernel
theorem dX12_withWaysOf_19 : decode cX12_withWaysOf 19 = .ok (.if_icmp .ne 7, 3) := by decide +kernel
theorem dX12_withWaysOf_22 : decode cX12_withWaysOf 22 = .ok (.iconst 1, 1) := by decide +kernel
theorem dX12_withWaysOf_23 : decode cX12_withWaysOf 23 = .ok (.goto 4, 3) := by decide +kernel
theorem dX12_withWaysOf_26 : decode cX12_withWaysOf 26 = .ok (.iconst 0, 1) := by decide +kernel
theorem dX12_withWaysOf_27 : decode cX12_withWaysOf 27 = .ok (.iadd, 1) := by decide +kernel
theorem dX12_withWaysOf_28 : decode cX12_withWaysOf 28 = .ok (.istore_n 2, 1) := by decide +kernel
theorem dX12_withWaysOf_29 : decode cX12_withWaysOf 29 = .ok (.iinc 3 1, 3) := by decide +kernel
theorem dX12_withWaysOf_32 : decode cX12_withWaysOf 32 = .ok (.goto (-28), 3) := by decide +kernel
theorem dX12_withWaysOf_35 : decode cX12_withWaysOf 35 = .ok (.iload_n 2, 1) := by decide +kernel
theorem dX12_withWaysOf_36 : decode cX12_withWaysOf 36 = .ok (.ireturn, 1) := by decide +kernel
theorem B_X12_withWaysOf_0 {g : Sg} {c t : Nat} (hL : Lay LM g c t σ) {x1 : Int} (h : (Lay LM g c t σ → GG E mX12_withWaysOf 4 [some (vr 172), some (vi x1), some (vi 0), some (vi 0)] [] σ rc rs Q)) : GG E mX12_withWaysOf 0 [some (vr 172), some (vi x1), none, none] [] σ rc rs Q := by
  refine r_iconst (pc := 0) dX12_withWaysOf_0 (inRk rfl) ?_
  refine r_istore_n (pc := 1) dX12_withWaysOf_1 rfl (by decide) (l2 := [some (vr 172), some (vi x1), some (vi 0), none]) rfl ?_
  refine r_iconst (pc := 2) dX12_withWaysOf_2 (inRk rfl) ?_
  refine r_istore_n (pc := 3) dX12_withWaysOf_3 rfl (by decide) (l2 := [some (vr 172), some (vi x1), some (vi 0), some (vi 0)]) rfl ?_
  exact (h hL)
theorem B_X12_withWaysOf_4 {g : Sg} {c t : Nat} (hL : Lay LM g c t σ) {x1 : Int} {x2 : Int} {x3 : Int} (h : (((gI σ 172 16) ≤ x3 → (Lay LM g c t σ → Q (.inl (some (vi x2))) σ)) ∧ (¬ ((gI σ 172 16) ≤ x3) → (Lay LM g c t σ → CC E mX12_waysInAll [vr 172, vi x3] σ (KI (fun r1 τ2 => Lay LM g c t τ2 ∧ (inR r1 → ((r1 ≠ x1 → inR (x2 + 0) ∧ inR (x3 + 1) ∧ (Lay LM g c t τ2 → GG E mX12_withWaysOf 4 [some (vr 172), some (vi x1), some (vi (x2 + 0)), some (vi (x3 + 1))] [] τ2 rc rs Q)) ∧ (r1 = x1 → inR (x2 + 1) ∧ inR (x3 + 1) ∧ (Lay LM g c t τ2 → GG E mX12_withWaysOf 4 [some (vr 172), some (vi x1), some (vi (x2 + 1)), some (vi (x3 + 1))] [] τ2 rc rs Q))))) (fun _ _ => False)))))) : GG E mX12_withWaysOf 4 [some (vr 172), some (vi x1), some (vi x2), some (vi x3)] [] σ rc rs Q := by
  refine r_iload_n (pc := 4) dX12_withWaysOf_4 rfl rfl ?_
  refine r_aload_n (pc := 5) dX12_withWaysOf_5 rfl rfl ?_
  refine r_getI (pc := 6) dX12_withWaysOf_6 (k9 := 16) CL_12 (by decide) (by decide) w_1431 rfl (okO_of (N := 42) (hL.sh (i := 0) rfl (by decide) (by decide)) (by decide)) (fun _ => ?_)
  refine r_icmp_ge (pc := 9) (tgt := 35) dX12_withWaysOf_9 (by decide) (fun c9 => ?_) (fun c9 => ?_)
  · replace h := h.1 c9
    refine r_iload_n (pc := 35) dX12_withWaysOf_35 rfl rfl ?_
    exact r_ireturn (pc := 36) (ty := .int) dX12_withWaysOf_36 (by decide +kernel) rfl (nar_i _) (h hL)
  · replace h := h.2 c9
    refine r_iload_n (pc := 12) dX12_withWaysOf_12 rfl rfl ?_
    refine r_aload_n (pc := 13) dX12_withWaysOf_13 rfl rfl ?_
    refine r_iload_n (pc := 14) dX12_withWaysOf_14 rfl rfl ?_
    refine c_VI0N (M := mX12_withWaysOf) (pc := 15) (As := [vi x3]) dX12_withWaysOf_15 K_X12_waysInAll w_1726 ⟨by decide, by decide⟩ (Nat.le_of_ble_eq_true rfl) rfl rfl (ci := 12) rfl rfl (by decide) (okO_of (N := 42) (hL.sh (i := 0) rfl (by decide) (by decide)) (by decide)) (h hL) (fun r1 τ2 h8 hr9 => ?_) rfl
    replace hL := h8.1
    replace h := h8.2 hr9
    refine r_iload_n (pc := 18) dX12_withWaysOf_18 rfl rfl ?_
    refine r_icmp_ne (pc := 19) (tgt := 26) dX12_withWaysOf_19 (by decide) (fun c9 => ?_) (fun c9 => ?_)
    · replace h := h.1 c9
      refine r_iconst (pc := 26) dX12_withWaysOf_26 (inRk rfl) ?_
      obtain ⟨o3, h⟩ := h
      refine r_iadd (pc := 27) dX12_withWaysOf_27 o3 ?_
      refine r_istore_n (pc := 28) dX12_withWaysOf_28 rfl (by decide) (l2 := [some (vr 172), some (vi x1), some (vi (x2 + 0)), some (vi x3)]) rfl ?_
      obtain ⟨o4, h⟩ := h
      refine r_iinc (pc := 29) dX12_withWaysOf_29 rfl (by decide) o4 (l2 := [some (vr 172), some (vi x1), some (vi (x2 + 0)), some (vi (x3 + 1))]) rfl ?_
      refine r_goto (pc := 32) (tgt := 4) dX12_withWaysOf_32 (by decide) ?_
      exact (h hL)
    · replace h := h.2 c9
      refine r_iconst (pc := 22) dX12_withWaysOf_22 (inRk rfl) ?_
      refine r_goto (pc := 23) (tgt := 27) dX12_withWaysOf_23 (by decide) ?_
      obtain ⟨o5, h⟩ := h
      refine r_iadd (pc := 27) dX12_withWaysOf_27 o5 ?_
      refine r_istore_n (pc := 28) dX12_withWaysOf_28 rfl (by decide) (l2 := [some (vr 172), some (vi x1), some (vi (x2 + 1)), some (vi x3)]) rfl ?_
      obtain ⟨o6, h⟩ := h
      refine r_iinc (pc := 29) dX12_withWaysOf_29 rfl (by decide) o6 (l2 := [some (vr 172), some (vi x1), some (vi (x2 + 1)), some (vi (x3 + 1))]) rfl ?_
      refine r_goto (pc := 32) (tgt := 4) dX12_withWaysOf_32 (by decide) ?_
      exact (h hL)
theorem C_X12_withWaysOf {a0 : Nat} {x1 : Int} (h : GG E mX12_withWaysOf 0 [some (vr a0), some (vi x1), none, none] [] σ 0 0 Q) : CC E mX12_withWaysOf [vr a0, vi x1] σ Q := CC.of (by decide +kernel) rfl (by decide +kernel) (fun h9 => nomatch h9) (Nat.le_of_ble_eq_true rfl) h
theorem dX12_wrong_0 : decode cX12_wrong 0 = .ok (.aload_n 0, 1) := by decide +kernel
theorem dX12_wrong_1 : decode cX12_wrong 1 = .ok (.getfield 115, 3) := by decide +kernel
theorem dX12_wrong_4 : decode cX12_wrong 4 = .ok (.ifCond .ne 13, 3) := by decide +kernel
theorem dX12_wrong_7 : decode cX12_wrong 7 = .ok (.aload_n 0, 1) := by decide +kernel
theorem dX12_wrong_8 : decode cX12_wrong 8 = .ok (.iload_n 1, 1) := by decide +kernel
theorem dX12_wrong_9 : decode cX12_wrong 9 = .ok (.putfield 115, 3) := by decide +kernel
theorem dX12_wrong_12 : decode cX12_wrong 12 = .ok (.aload_n 0, 1) := by decide +kernel
theorem dX12_wrong_13 : decode cX12_wrong 13 = .ok (.iload_n 2, 1) := by decide +kernel
theorem dX12_wrong_14 : decode cX12_wrong 14 = .ok (.putfield 118, 3) := by decide +kernel
theorem dX12_wrong_17 : decode cX12_wrong 17 = .ok (.return_, 1) := by decide +kernel
theorem B_X12_wrong_0 {g : Sg} {c t : Nat} (hL : Lay LM g c t σ) {x1 : Int} {x2 : Int} (h : (((gI σ 172 6) ≠ 0 → (Lay LM g c t σ → Q (.inl none) σ)) ∧ ((gI σ 172 6) = 0 → ∀ τ1 : Sg, τ1 = sI σ 172 6 x1 → ∀ τ2 : Sg, τ2 = sI τ1 172 7 x2 → (Lay LM g c t τ2 → Q (.inl none) τ2)))) : GG E mX12_wrong 0 [some (vr 172), some (vi x1), some (vi x2)] [] σ rc rs Q := by
  refine r_aload_n (pc := 0) dX12_wrong_0 rfl rfl ?_
  refine r_getI (pc := 1) dX12_wrong_1 (k9 := 6) CL_12 (by decide) (by decide) w_1421 rfl (okO_of (N := 42) (hL.sh (i := 0) rfl (by decide) (by decide)) (by decide)) (fun _ => ?_)
  refine r_if_ne (pc := 4) (tgt := 17) dX12_wrong_4 (by decide) (fun c9 => ?_) (fun c9 => ?_)
  · replace h := h.1 c9
    exact r_return (pc := 17) dX12_wrong_17 (by decide +kernel) rfl (h hL)
  · replace h := h.2 c9
    refine r_aload_n (pc := 7) dX12_wrong_7 rfl rfl ?_
    refine r_iload_n (pc := 8) dX12_wrong_8 rfl rfl ?_
    refine r_putI (pc := 9) dX12_wrong_9 (k9 := 6) CL_12 (by decide) (by decide) w_1421 rfl rfl (fun h9 => absurd h9 (by decide +kernel)) (okO_of (N := 42) (hL.sh (i := 0) rfl (by decide) (by decide)) (by decide)) ?_
    refine nmS (fun τ1 e1 => ?_)
    replace h := h τ1 e1
    have hL := hL.wI e1 (by decide) (.inl (by decide))
    refine r_aload_n (pc := 12) dX12_wrong_12 rfl rfl ?_
    refine r_iload_n (pc := 13) dX12_wrong_13 rfl rfl ?_
    refine r_putI (pc := 14) dX12_wrong_14 (k9 := 7) CL_12 (by decide) (by decide) w_1422 rfl rfl (fun h9 => absurd h9 (by decide +kernel)) (okO_of (N := 42) (hL.sh (i := 0) rfl (by decide) (by decide)) (by decide)) ?_
    refine nmS (fun τ2 e2 => ?_)
    replace h := h τ2 e2
    have hL := hL.wI e2 (by decide) (.inl (by decide))
    exact r_return (pc := 17) dX12_wrong_17 (by decide +kernel) rfl (h hL)
theorem C_X12_wrong {a0 : Nat} {x1 : Int} {x2 : Int} (h : GG E mX12_wrong 0 [some (vr a0), some (vi x1), some (vi x2)] [] σ 0 0 Q) : CC E mX12_wrong [vr a0, vi x1, vi x2] σ Q := CC.of (by decide +kernel) rfl (by decide +kernel) (fun h9 => nomatch h9) (Nat.le_of_ble_eq_true rfl) h
end G29
