theorem dL_cell_0 : decode cL_cell 0 = .ok (.aload_n 0, 1) := by decide +kernel
theorem dL_cell_1 : decode cL_cell 1 = .ok (.arraylength, 1) := by decide +kernel
theorem dL_cell_2 : decode cL_cell 2 = .ok (.ifCond .ne 11, 3) := by decide +kernel
theorem dL_cell_5 : decode cL_cell 5 = .ok (.sipush 577, 3) := by decide +kernel
theorem dL_cell_8 : decode cL_cell 8 = .ok (.iload_n 1, 1) := by decide +kernel
theorem dL_cell_9 : decode cL_cell 9 = .ok (.imul, 1) := by decide +kernel
theorem dL_cell_10 : decode cL_cell 10 = .ok (.goto 12, 3) := by decide +kernel
theorem dL_cell_13 : decode cL_cell 13 = .ok (.aload_n 0, 1) := by decide +kernel
theorem dL_cell_14 : decode cL_cell 14 = .ok (.iload_n 1, 1) := by decide +kernel
theorem dL_cell_15 : decode cL_cell 15 = .ok (.ldc 9, 2) := by decide +kernel
theorem dL_cell_17 : decode cL_cell 17 = .ok (.iand, 1) := by decide +kernel
theorem dL_cell_18 : decode cL_cell 18 = .ok (.aload_n 0, 1) := by decide +kernel
theorem dL_cell_19 : decode cL_cell 19 = .ok (.arraylength, 1) := by decide +kernel
theorem dL_cell_20 : decode cL_cell 20 = .ok (.irem, 1) := by decide +kernel
theorem dL_cell_21 : decode cL_cell 21 = .ok (.iaload, 1) := by decide +kernel
theorem dL_cell_22 : decode cL_cell 22 = .ok (.ireturn, 1) := by decide +kernel
theorem dL_write_0 : decode cL_write 0 = .ok (.iconst 0, 1) := by decide +kernel
theorem dL_write_1 : decode cL_write 1 = .ok (.istore_n 2, 1) := by decide +kernel
theorem dL_write_2 : decode cL_write 2 = .ok (.iload_n 2, 1) := by decide +kernel
theorem dL_write_3 : decode cL_write 3 = .ok (.aload_n 1, 1) := by decide +kernel
theorem dL_write_4 : decode cL_write 4 = .ok (.invokevirtual 10, 3) := by decide +kernel
theorem dL_write_7 : decode cL_write 7 = .ok (.if_icmp .ge 19, 3) := by decide +kernel
theorem dL_write_10 : decode cL_write 10 = .ok (.aload_n 0, 1) := by decide +kernel
theorem dL_write_11 : decode cL_write 11 = .ok (.aload_n 1, 1) := by decide +kernel
theorem dL_write_12 : decode cL_write 12 = .ok (.iload_n 2, 1) := by decide +kernel
theorem dL_write_13 : decode cL_write 13 = .ok (.invokevirtual 16, 3) := by decide +kernel
theorem dL_write_16 : decode cL_write 16 = .ok (.invokevirtual 20, 3) := by decide +kernel
theorem dL_write_19 : decode cL_write 19 = .ok (.pop, 1) := by decide +kernel
theorem dL_write_20 : decode cL_write 20 = .ok (.iinc 2 1, 3) := by decide +kernel
theorem dL_write_23 : decode cL_write 23 = .ok (.goto (-21), 3) := by decide +kernel
theorem dL_write_26 : decode cL_write 26 = .ok (.aload_n 0, 1) := by decide +kernel
theorem dL_write_27 : decode cL_write 27 = .ok (.areturn, 1) := by decide +kernel
theorem dL_act_0 : decode cL_act 0 = .ok (.iload_n 1, 1) := by decide +kernel
theorem dL_act_1 : decode cL_act 1 = .ok (.iconst 4, 1) := by decide +kernel
theorem dL_act_2 : decode cL_act 2 = .ok (.ishr, 1) := by decide +kernel
theorem dL_act_3 : decode cL_act 3 = .ok (.ldc 9, 2) := by decide +kernel
theorem dL_act_5 : decode cL_act 5 = .ok (.iand, 1) := by decide +kernel
theorem dL_act_6 : decode cL_act 6 = .ok (.istore_n 2, 1) := by decide +kernel
theorem dL_act_7 : decode cL_act 7 = .ok (.iload_n 2, 1) := by decide +kernel
theorem dL_act_8 : decode cL_act 8 = .ok (.iconst 3, 1) := by decide +kernel
theorem dL_act_9 : decode cL_act 9 = .ok (.iand, 1) := by decide +kernel
theorem dL_act_10 : decode cL_act 10 = .ok (.ifCond .ne 11, 3) := by decide +kernel
theorem dL_act_13 : decode cL_act 13 = .ok (.iload_n 2, 1) := by decide +kernel
theorem dL_act_14 : decode cL_act 14 = .ok (.iconst 2, 1) := by decide +kernel
theorem dL_act_15 : decode cL_act 15 = .ok (.ishr, 1) := by decide +kernel
theorem dL_act_16 : decode cL_act 16 = .ok (.iconst 4, 1) := by decide +kernel
theorem dL_act_17 : decode cL_act 17 = .ok (.irem, 1) := by decide +kernel
theorem dL_act_18 : decode cL_act 18 = .ok (.goto 4, 3) := by decide +kernel
theorem dL_act_21 : decode cL_act 21 = .ok (.iconst 0, 1) := by decide +kernel
theorem dL_act_22 : decode cL_act 22 = .ok (.istore_n 3, 1) := by decide +kernel
theorem dL_act_23 : decode cL_act 23 = .ok (.iload_n 2, 1) := by decide +kernel
theorem dL_act_24 : decode cL_act 24 = .ok (.iconst 4, 1) := by decide +kernel
theorem dL_act_25 : decode cL_act 25 = .ok (.ishr, 1) := by decide +kernel
theorem dL_act_26 : decode cL_act 26 = .ok (.iconst 3, 1) := by decide +kernel
theorem dL_act_27 : decode cL_act 27 = .ok (.irem, 1) := by decide +kernel
theorem dL_act_28 : decode cL_act 28 = .ok (.ifCond .ne 13, 3) := by decide +kernel
theorem dL_act_31 : decode cL_act 31 = .ok (.iload_n 2, 1) := by decide +kernel
theorem dL_act_32 : decode cL_act 32 = .ok (.iconst 3, 1) := by decide +kernel
theorem dL_act_33 : decode cL_act 33 = .ok (.ishr, 1) := by decide +kernel
theorem dL_act_34 : decode cL_act 34 = .ok (.sipush 1001, 3) := by decide +kernel
theorem dL_act_37 : decode cL_act 37 = .ok (.irem, 1) := by decide +kernel
theorem dL_act_38 : decode cL_act 38 = .ok (.goto 12, 3) := by decide +kernel
theorem dL_act_41 : decode cL_act 41 = .ok (.bipush 100, 2) := by decide +kernel
theorem dL_act_43 : decode cL_act 43 = .ok (.iload_n 2, 1) := by decide +kernel
theorem dL_act_44 : decode cL_act 44 = .ok (.iconst 3, 1) := by decide +kernel
theorem dL_act_45 : decode cL_act 45 = .ok (.ishr, 1) := by decide +kernel
theorem dL_act_46 : decode cL_act 46 = .ok (.bipush 60, 2) := by decide +kernel
theorem dL_act_48 : decode cL_act 48 = .ok (.irem, 1) := by decide +kernel
theorem dL_act_49 : decode cL_act 49 = .ok (.iadd, 1) := by decide +kernel
theorem dL_act_50 : decode cL_act 50 = .ok (.istore 4, 2) := by decide +kernel
theorem dL_act_52 : decode cL_act 52 = .ok (.iload_n 1, 1) := by decide +kernel
theorem dL_act_53 : decode cL_act 53 = .ok (.bipush 15, 2) := by decide +kernel
theorem dL_act_55 : decode cL_act 55 = .ok (.iand, 1) := by decide +kernel
theorem dL_act_56 : decode cL_act 56 = .ok (.tableswitch 260 0 14 #[76, 76, 76, 76, 76, 90, 90, 123, 123, 161, 169, 193, 228, 242, 242], 76) := by decide +kernel
theorem dL_act_132 : decode cL_act 132 = .ok (.aload_n 0, 1) := by decide +kernel
theorem dL_act_133 : decode cL_act 133 = .ok (.iload_n 3, 1) := by decide +kernel
theorem dL_act_134 : decode cL_act 134 = .ok (.iload 4, 2) := by decide +kernel
theorem dL_act_136 : decode cL_act 136 = .ok (.iload_n 2, 1) := by decide +kernel
theorem dL_act_137 : decode cL_act 137 = .ok (.iconst 5, 1) := by decide +kernel
theorem dL_act_138 : decode cL_act 138 = .ok (.ishr, 1) := by decide +kernel
theorem dL_act_139 : decode cL_act 139 = .ok (.bipush 101, 2) := by decide +kernel
theorem dL_act_141 : decode cL_act 141 = .ok (.irem, 1) := by decide +kernel
theorem dL_act_142 : decode cL_act 142 = .ok (.invokevirtual 24, 3) := by decide +kernel
theorem dL_act_145 : decode cL_act 145 = .ok (.ireturn, 1) := by decide +kernel
theorem dL_act_146 : decode cL_act 146 = .ok (.aload_n 0, 1) := by decide +kernel
theorem dL_act_147 : decode cL_act 147 = .ok (.iload_n 3, 1) := by decide +kernel
theorem dL_act_148 : decode cL_act 148 = .ok (.sipush 999, 3) := by decide +kernel
theorem dL_act_151 : decode cL_act 151 = .ok (.aload_n 0, 1) := by decide +kernel
theorem dL_act_152 : decode cL_act 152 = .ok (.iload_n 3, 1) := by decide +kernel
theorem dL_act_153 : decode cL_act 153 = .ok (.iconst 0, 1) := by decide +kernel
theorem dL_act_154 : decode cL_act 154 = .ok (.invokevirtual 28, 3) := by decide +kernel
theorem dL_act_157 : decode cL_act 157 = .ok (.bipush 20, 2) := by decide +kernel
theorem dL_act_159 : decode cL_act 159 = .ok (.imul, 1) := by decide +kernel
theorem dL_act_160 : decode cL_act 160 = .ok (.sipush 200, 3) := by decide +kernel
theorem dL_act_163 : decode cL_act 163 = .ok (.iadd, 1) := by decide +kernel
theorem dL_act_164 : decode cL_act 164 = .ok (.invokestatic 32, 3) := by decide +kernel
theorem dL_act_167 : decode cL_act 167 = .ok (.iconst 1, 1) := by decide +kernel
theorem dL_act_168 : decode cL_act 168 = .ok (.iload_n 2, 1) := by decide +kernel
theorem dL_act_169 : decode cL_act 169 = .ok (.iconst 5, 1) := by decide +kernel
theorem dL_act_170 : decode cL_act 170 = .ok (.ishr, 1) := by decide +kernel
theorem dL_act_171 : decode cL_act 171 = .ok (.bipush 99, 2) := by decide +kernel
theorem dL_act_173 : decode cL_act 173 = .ok (.irem, 1) := by decide +kernel
theorem dL_act_174 : decode cL_act 174 = .ok (.iadd, 1) := by decide +kernel
theorem dL_act_175 : decode cL_act 175 = .ok (.invokevirtual 24, 3) := by decide +kernel
theorem dL_act_178 : decode cL_act 178 = .ok (.ireturn, 1) := by decide +kernel
theorem dL_act_179 : decode cL_act 179 = .ok (.aload_n 0, 1) := by decide +kernel
theorem dL_act_180 : decode cL_act 180 = .ok (.iload_n 3, 1) := by decide +kernel
theorem dL_act_181 : decode cL_act 181 = .ok (.iconst 0, 1) := by decide +kernel
theorem dL_act_182 : decode cL_act 182 = .ok (.invokevirtual 28, 3) := by decide +kernel
theorem dL_act_185 : decode cL_act 185 = .ok (.ifCond .le 16, 3) := by decide +kernel
theorem dL_act_188 : decode cL_act 188 = .ok (.iload_n 2, 1) := by decide +kernel
theorem dL_act_189 : decode cL_act 189 = .ok (.iconst 4, 1) := by decide +kernel
theorem dL_act_190 : decode cL_act 190 = .ok (.ishr, 1) := by decide +kernel
theorem dL_act_191 : decode cL_act 191 = .ok (.aload_n 0, 1) := by decide +kernel
theorem dL_act_192 : decode cL_act 192 = .ok (.iload_n 3, 1) := by decide +kernel
theorem dL_act_193 : decode cL_act 193 = .ok (.iconst 0, 1) := by decide +kernel
theorem dL_act_194 : decode cL_act 194 = .ok (.invokevirtual 28, 3) := by decide +kernel
theorem dL_act_197 : decode cL_act 197 = .ok (.irem, 1) := by decide +kernel
theorem dL_act_198 : decode cL_act 198 = .ok (.goto 4, 3) := by decide +kernel
theorem dL_act_201 : decode cL_act 201 = .ok (.iconst 0, 1) := by decide +kernel
theorem dL_act_202 : decode cL_act 202 = .ok (.istore 5, 2) := by decide +kernel
theorem dL_act_204 : decode cL_act 204 = .ok (.aload_n 0, 1) := by decide +kernel
theorem dL_act_205 : decode cL_act 205 = .ok (.iload_n 3, 1) := by decide +kernel
theorem dL_act_206 : decode cL_act 206 = .ok (.aload_n 0, 1) := by decide +kernel
theorem dL_act_207 : decode cL_act 207 = .ok (.iload_n 3, 1) := by decide +kernel
theorem dL_act_208 : decode cL_act 208 = .ok (.iload 5, 2) := by decide +kernel
theorem dL_act_210 : decode cL_act 210 = .ok (.invokevirtual 37, 3) := by decide +kernel
theorem dL_act_213 : decode cL_act 213 = .ok (.invokevirtual 40, 3) := by decide +kernel
theorem dL_act_216 : decode cL_act 216 = .ok (.ireturn, 1) := by decide +kernel
theorem dL_act_217 : decode cL_act 217 = .ok (.aload_n 0, 1) := by decide +kernel
theorem dL_act_218 : decode cL_act 218 = .ok (.iload_n 3, 1) := by decide +kernel
theorem dL_act_219 : decode cL_act 219 = .ok (.iload 4, 2) := by decide +kernel
theorem dL_act_221 : decode cL_act 221 = .ok (.invokevirtual 40, 3) := by decide +kernel
theorem dL_act_224 : decode cL_act 224 = .ok (.ireturn, 1) := by decide +kernel
theorem dL_act_225 : decode cL_act 225 = .ok (.iload_n 2, 1) := by decide +kernel
theorem dL_act_226 : decode cL_act 226 = .ok (.bipush 12, 2) := by decide +kernel
theorem dL_act_228 : decode cL_act 228 = .ok (.iand, 1) := by decide +kernel
theorem dL_act_229 : decode cL_act 229 = .ok (.ifCond .ne 11, 3) := by decide +kernel
theorem dL_act_232 : decode cL_act 232 = .ok (.aload_n 0, 1) := by decide +kernel
theorem dL_act_233 : decode cL_act 233 = .ok (.iload_n 3, 1) := by decide +kernel
theorem dL_act_234 : decode cL_act 234 = .ok (.invokevirtual 43, 3) := by decide +kernel
theorem dL_act_237 : decode cL_act 237 = .ok (.goto 11, 3) := by decide +kernel
theorem dL_act_240 : decode cL_act 240 = .ok (.aload_n 0, 1) := by decide +kernel
theorem dL_act_241 : decode cL_act 241 = .ok (.iconst 1, 1) := by decide +kernel
theorem dL_act_242 : decode cL_act 242 = .ok (.iload 4, 2) := by decide +kernel
theorem dL_act_244 : decode cL_act 244 = .ok (.iconst 5, 1) := by decide +kernel
theorem dL_act_245 : decode cL_act 245 = .ok (.invokevirtual 24, 3) := by decide +kernel
theorem dL_act_248 : decode cL_act 248 = .ok (.ireturn, 1) := by decide +kernel
theorem dL_act_249 : decode cL_act 249 = .ok (.iload_n 2, 1) := by decide +kernel
theorem dL_act_250 : decode cL_act 250 = .ok (.bipush 28, 2) := by decide +kernel
theorem dL_act_252 : decode cL_act 252 = .ok (.iand, 1) := by decide +kernel
theorem dL_act_253 : decode cL_act 253 = .ok (.ifCond .ne 21, 3) := by decide +kernel
theorem dL_act_256 : decode cL_act 256 = .ok (.aload_n 0, 1) := by decide +kernel
theorem dL_act_257 : decode cL_act 257 = .ok (.iload_n 2, 1) := by decide +kernel
theorem dL_act_258 : decode cL_act 258 = .ok (.iconst 5, 1) := by decide +kernel
theorem dL_act_259 : decode cL_act 259 = .ok (.ishr, 1) := by decide +kernel
theorem dL_act_260 : decode cL_act 260 = .ok (.iconst 3, 1) := by decide +kernel
theorem dL_act_261 : decode cL_act 261 = .ok (.irem, 1) := by decide +kernel
theorem dL_act_262 : decode cL_act 262 = .ok (.iload_n 2, 1) := by decide +kernel
theorem dL_act_263 : decode cL_act 263 = .ok (.bipush 7, 2) := by decide +kernel
theorem dL_act_265 : decode cL_act 265 = .ok (.ishr, 1) := by decide +kernel
theorem dL_act_266 : decode cL_act 266 = .ok (.iconst 3, 1) := by decide +kernel
theorem dL_act_267 : decode cL_act 267 = .ok (.irem, 1) := by decide +kernel
theorem dL_act_268 : decode cL_act 268 = .ok (.invokevirtual 46, 3) := by decide +kernel
theorem dL_act_271 : decode cL_act 271 = .ok (.goto 12, 3) := by decide +kernel
theorem dL_act_274 : decode cL_act 274 = .ok (.aload_n 0, 1) := by decide +kernel
theorem dL_act_275 : decode cL_act 275 = .ok (.iconst 2, 1) := by decide +kernel
theorem dL_act_276 : decode cL_act 276 = .ok (.iload 4, 2) := by decide +kernel
theorem dL_act_278 : decode cL_act 278 = .ok (.bipush 9, 2) := by decide +kernel
theorem dL_act_280 : decode cL_act 280 = .ok (.invokevirtual 24, 3) := by decide +kernel
theorem dL_act_283 : decode cL_act 283 = .ok (.ireturn, 1) := by decide +kernel
theorem dL_act_284 : decode cL_act 284 = .ok (.aload_n 0, 1) := by decide +kernel
theorem dL_act_285 : decode cL_act 285 = .ok (.bipush 54, 2) := by decide +kernel
theorem dL_act_287 : decode cL_act 287 = .ok (.iload_n 2, 1) := by decide +kernel
theorem dL_act_288 : decode cL_act 288 = .ok (.iconst 4, 1) := by decide +kernel
theorem dL_act_289 : decode cL_act 289 = .ok (.ishr, 1) := by decide +kernel
theorem dL_act_290 : decode cL_act 290 = .ok (.bipush 38, 2) := by decide +kernel
theorem dL_act_292 : decode cL_act 292 = .ok (.irem, 1) := by decide +kernel
theorem dL_act_293 : decode cL_act 293 = .ok (.iadd, 1) := by decide +kernel
theorem dL_act_294 : decode cL_act 294 = .ok (.invokevirtual 49, 3) := by decide +kernel
theorem dL_act_297 : decode cL_act 297 = .ok (.ireturn, 1) := by decide +kernel
theorem dL_act_298 : decode cL_act 298 = .ok (.aload_n 0, 1) := by decide +kernel
theorem dL_act_299 : decode cL_act 299 = .ok (.getstatic 52, 3) := by decide +kernel
theorem dL_act_302 : decode cL_act 302 = .ok (.iload_n 2, 1) := by decide +kernel
theorem dL_act_303 : decode cL_act 303 = .ok (.getstatic 52, 3) := by decide +kernel
theorem dL_act_306 : decode cL_act 306 = .ok (.arraylength, 1) := by decide +kernel
theorem dL_act_307 : decode cL_act 307 = .ok (.irem, 1) := by decide +kernel
theorem dL_act_308 : decode cL_act 308 = .ok (.aaload, 1) := by decide +kernel
theorem dL_act_309 : decode cL_act 309 = .ok (.invokestatic 58, 3) := by decide +kernel
theorem dL_act_312 : decode cL_act 312 = .ok (.invokevirtual 62, 3) := by decide +kernel
theorem dL_act_315 : decode cL_act 315 = .ok (.ireturn, 1) := by decide +kernel
theorem dL_act_316 : decode cL_act 316 = .ok (.iload_n 2, 1) := by decide +kernel
theorem dL_act_317 : decode cL_act 317 = .ok (.iconst 3, 1) := by decide +kernel
theorem dL_act_318 : decode cL_act 318 = .ok (.iand, 1) := by decide +kernel
theorem dL_act_319 : decode cL_act 319 = .ok (.ifCond .ne 10, 3) := by decide +kernel
theorem dL_act_322 : decode cL_act 322 = .ok (.aload_n 0, 1) := by decide +kernel
theorem dL_act_323 : decode cL_act 323 = .ok (.invokevirtual 65, 3) := by decide +kernel
theorem dL_act_326 : decode cL_act 326 = .ok (.goto 21, 3) := by decide +kernel
theorem dL_act_329 : decode cL_act 329 = .ok (.iload_n 2, 1) := by decide +kernel
theorem dL_act_330 : decode cL_act 330 = .ok (.iconst 3, 1) := by decide +kernel
theorem dL_act_331 : decode cL_act 331 = .ok (.iand, 1) := by decide +kernel
theorem dL_act_332 : decode cL_act 332 = .ok (.iconst 1, 1) := by decide +kernel
theorem dL_act_333 : decode cL_act 333 = .ok (.if_icmp .ne 10, 3) := by decide +kernel
theorem dL_act_336 : decode cL_act 336 = .ok (.aload_n 0, 1) := by decide +kernel
theorem dL_act_337 : decode cL_act 337 = .ok (.invokevirtual 68, 3) := by decide +kernel
theorem dL_act_340 : decode cL_act 340 = .ok (.goto 7, 3) := by decide +kernel
theorem dL_act_343 : decode cL_act 343 = .ok (.aload_n 0, 1) := by decide +kernel
theorem dL_act_344 : decode cL_act 344 = .ok (.invokevirtual 71, 3) := by decide +kernel
theorem dL_act_347 : decode cL_act 347 = .ok (.ireturn, 1) := by decide +kernel
theorem dL_digest_0 : decode cL_digest 0 = .ok (.ldc2_w 74, 3) := by decide +kernel
theorem dL_digest_3 : decode cL_digest 3 = .ok (.lstore_n 1, 1) := by decide +kernel
theorem dL_digest_4 : decode cL_digest 4 = .ok (.iconst 0, 1) := by decide +kernel
theorem dL_digest_5 : decode cL_digest 5 = .ok (.istore_n 3, 1) := by decide +kernel
theorem dL_digest_6 : decode cL_digest 6 = .ok (.iload_n 3, 1) := by decide +kernel
theorem dL_digest_7 : decode cL_digest 7 = .ok (.bipush 9, 2) := by decide +kernel
theorem dL_digest_9 : decode cL_digest 9 = .ok (.if_icmp .ge 22, 3) := by decide +kernel
theorem dL_digest_12 : decode cL_digest 12 = .ok (.ldc2_w 76, 3) := by decide +kernel
theorem dL_digest_15 : decode cL_digest 15 = .ok (.lload_n 1, 1) := by decide +kernel
theorem dL_digest_16 : decode cL_digest 16 = .ok (.lmul, 1) := by decide +kernel
theorem dL_digest_17 : decode cL_digest 17 = .ok (.aload_n 0, 1) := by decide +kernel
theorem dL_digest_18 : decode cL_digest 18 = .ok (.iload_n 3, 1) := by decide +kernel
theorem dL_digest_19 : decode cL_digest 19 = .ok (.invokevirtual 78, 3) := by decide +kernel
theorem dL_digest_22 : decode cL_digest 22 = .ok (.i2l, 1) := by decide +kernel
theorem dL_digest_23 : decode cL_digest 23 = .ok (.ladd, 1) := by decide +kernel
theorem dL_digest_24 : decode cL_digest 24 = .ok (.lstore_n 1, 1) := by decide +kernel
theorem dL_digest_25 : decode cL_digest 25 = .ok (.iinc 3 1, 3) := by decide +kernel
theorem dL_digest_28 : decode cL_digest 28 = .ok (.goto (-22), 3) := by decide +kernel
theorem dL_digest_31 : decode cL_digest 31 = .ok (.iconst 0, 1) := by decide +kernel
theorem dL_digest_32 : decode cL_digest 32 = .ok (.istore_n 3, 1) := by decide +kernel
theorem dL_digest_33 : decode cL_digest 33 = .ok (.iload_n 3, 1) := by decide +kernel
theorem dL_digest_34 : decode cL_digest 34 = .ok (.iconst 3, 1) := by decide +kernel
theorem dL_digest_35 : decode cL_digest 35 = .ok (.if_icmp .ge 86, 3) := by decide +kernel
theorem dL_digest_38 : decode cL_digest 38 = .ok (.ldc2_w 76, 3) := by decide +kernel
theorem dL_digest_41 : decode cL_digest 41 = .ok (.ldc2_w 76, 3) := by decide +kernel
theorem dL_digest_44 : decode cL_digest 44 = .ok (.lload_n 1, 1) := by decide +kernel
theorem dL_digest_45 : decode cL_digest 45 = .ok (.lmul, 1) := by decide +kernel
theorem dL_digest_46 : decode cL_digest 46 = .ok (.aload_n 0, 1) := by decide +kernel
theorem dL_digest_47 : decode cL_digest 47 = .ok (.iload_n 3, 1) := by decide +kernel
theorem dL_digest_48 : decode cL_digest 48 = .ok (.invokevirtual 81, 3) := by decide +kernel
theorem dL_digest_51 : decode cL_digest 51 = .ok (.ladd, 1) := by decide +kernel
theorem dL_digest_52 : decode cL_digest 52 = .ok (.lmul, 1) := by decide +kernel
theorem dL_digest_53 : decode cL_digest 53 = .ok (.aload_n 0, 1) := by decide +kernel
theorem dL_digest_54 : decode cL_digest 54 = .ok (.iload_n 3, 1) := by decide +kernel
theorem dL_digest_55 : decode cL_digest 55 = .ok (.iconst 5, 1) := by decide +kernel
theorem dL_digest_56 : decode cL_digest 56 = .ok (.invokevirtual 28, 3) := by decide +kernel
theorem dL_digest_59 : decode cL_digest 59 = .ok (.i2l, 1) := by decide +kernel
theorem dL_digest_60 : decode cL_digest 60 = .ok (.ladd, 1) := by decide +kernel
theorem dL_digest_61 : decode cL_digest 61 = .ok (.lstore_n 1, 1) := by decide +kernel
theorem dL_digest_62 : decode cL_digest 62 = .ok (.iconst 0, 1) := by decide +kernel
theorem dL_digest_63 : decode cL_digest 63 = .ok (.istore 4, 2) := by decide +kernel
theorem dL_digest_65 : decode cL_digest 65 = .ok (.iload 4, 2) := by decide +kernel
theorem dL_digest_67 : decode cL_digest 67 = .ok (.aload_n 0, 1) := by decide +kernel
theorem dL_digest_68 : decode cL_digest 68 = .ok (.iload_n 3, 1) := by decide +kernel
theorem dL_digest_69 : decode cL_digest 69 = .ok (.iconst 0, 1) := by decide +kernel
theorem dL_digest_70 : decode cL_digest 70 = .ok (.invokevirtual 28, 3) := by decide +kernel
theorem dL_digest_73 : decode cL_digest 73 = .ok (.if_icmp .ge 42, 3) := by decide +kernel
theorem dL_digest_76 : decode cL_digest 76 = .ok (.aload_n 0, 1) := by decide +kernel
theorem dL_digest_77 : decode cL_digest 77 = .ok (.iload_n 3, 1) := by decide +kernel
theorem dL_digest_78 : decode cL_digest 78 = .ok (.iload 4, 2) := by decide +kernel
theorem dL_digest_80 : decode cL_digest 80 = .ok (.invokevirtual 37, 3) := by decide +kernel
theorem dL_digest_83 : decode cL_digest 83 = .ok (.istore 5, 2) := by decide +kernel
theorem dL_digest_85 : decode cL_digest 85 = .ok (.ldc2_w 76, 3) := by decide +kernel
theorem dL_digest_88 : decode cL_digest 88 = .ok (.ldc2_w 76, 3) := by decide +kernel
theorem dL_digest_91 : decode cL_digest 91 = .ok (.lload_n 1, 1) := by decide +kernel
theorem dL_digest_92 : decode cL_digest 92 = .ok (.lmul, 1) := by decide +kernel
theorem dL_digest_93 : decode cL_digest 93 = .ok (.iload 5, 2) := by decide +kernel
theorem dL_digest_95 : decode cL_digest 95 = .ok (.i2l, 1) := by decide +kernel
theorem dL_digest_96 : decode cL_digest 96 = .ok (.ladd, 1) := by decide +kernel
theorem dL_digest_97 : decode cL_digest 97 = .ok (.lmul, 1) := by decide +kernel
theorem dL_digest_98 : decode cL_digest 98 = .ok (.aload_n 0, 1) := by decide +kernel
theorem dL_digest_99 : decode cL_digest 99 = .ok (.iload_n 3, 1) := by decide +kernel
theorem dL_digest_100 : decode cL_digest 100 = .ok (.iload 5, 2) := by decide +kernel
theorem dL_digest_102 : decode cL_digest 102 = .ok (.iconst 0, 1) := by decide +kernel
theorem dL_digest_103 : decode cL_digest 103 = .ok (.invokevirtual 85, 3) := by decide +kernel
theorem dL_digest_106 : decode cL_digest 106 = .ok (.i2l, 1) := by decide +kernel
theorem dL_digest_107 : decode cL_digest 107 = .ok (.ladd, 1) := by decide +kernel
theorem dL_digest_108 : decode cL_digest 108 = .ok (.lstore_n 1, 1) := by decide +kernel
theorem dL_digest_109 : decode cL_digest 109 = .ok (.iinc 4 1, 3) := by decide +kernel
theorem dL_digest_112 : decode cL_digest 112 = .ok (.goto (-47), 3) := by decide +kernel
theorem dL_digest_115 : decode cL_digest 115 = .ok (.iinc 3 1, 3) := by decide +kernel
theorem dL_digest_118 : decode cL_digest 118 = .ok (.goto (-85), 3) := by decide +kernel
theorem dL_digest_121 : decode cL_digest 121 = .ok (.lload_n 1, 1) := by decide +kernel
theorem dL_digest_122 : decode cL_digest 122 = .ok (.lreturn, 1) := by decide +kernel
theorem dL_isSheaf_0 : decode cL_isSheaf 0 = .ok (.aload_n 0, 1) := by decide +kernel
theorem dL_isSheaf_1 : decode cL_isSheaf 1 = .ok (.iload_n 1, 1) := by decide +kernel
theorem dL_isSheaf_2 : decode cL_isSheaf 2 = .ok (.iload_n 2, 1) := by decide +kernel
theorem dL_isSheaf_3 : decode cL_isSheaf 3 = .ok (.invokevirtual 37, 3) := by decide +kernel
theorem dL_isSheaf_6 : decode cL_isSheaf 6 = .ok (.istore_n 3, 1) := by decide +kernel
theorem dL_isSheaf_7 : decode cL_isSheaf 7 = .ok (.aload_n 0, 1) := by decide +kernel
theorem dL_isSheaf_8 : decode cL_isSheaf 8 = .ok (.iload_n 1, 1) := by decide +kernel
theorem dL_isSheaf_9 : decode cL_isSheaf 9 = .ok (.iload_n 3, 1) := by decide +kernel
theorem dL_isSheaf_10 : decode cL_isSheaf 10 = .ok (.bipush 6, 2) := by decide +kernel
theorem dL_isSheaf_12 : decode cL_isSheaf 12 = .ok (.invokevirtual 85, 3) := by decide +kernel
theorem dL_isSheaf_15 : decode cL_isSheaf 15 = .ok (.istore 4, 2) := by decide +kernel
theorem dL_isSheaf_17 : decode cL_isSheaf 17 = .ok (.aload_n 0, 1) := by decide +kernel
theorem dL_isSheaf_18 : decode cL_isSheaf 18 = .ok (.iload_n 1, 1) := by decide +kernel
theorem dL_isSheaf_19 : decode cL_isSheaf 19 = .ok (.iload_n 3, 1) := by decide +kernel
theorem dL_isSheaf_20 : decode cL_isSheaf 20 = .ok (.bipush 7, 2) := by decide +kernel
theorem dL_isSheaf_22 : decode cL_isSheaf 22 = .ok (.invokevirtual 85, 3) := by decide +kernel
theorem dL_isSheaf_25 : decode cL_isSheaf 25 = .ok (.istore 5, 2) := by decide +kernel
theorem dL_isSheaf_27 : decode cL_isSheaf 27 = .ok (.aload_n 0, 1) := by decide +kernel
theorem dL_isSheaf_28 : decode cL_isSheaf 28 = .ok (.iload_n 1, 1) := by decide +kernel
theorem dL_isSheaf_29 : decode cL_isSheaf 29 = .ok (.iload_n 3, 1) := by decide +kernel
theorem dL_isSheaf_30 : decode cL_isSheaf 30 = .ok (.iconst 5, 1) := by decide +kernel
theorem dL_isSheaf_31 : decode cL_isSheaf 31 = .ok (.invokevirtual 85, 3) := by decide +kernel
theorem dL_isSheaf_34 : decode cL_isSheaf 34 = .ok (.istore 6, 2) := by decide +kernel
theorem dL_isSheaf_36 : decode cL_isSheaf 36 = .ok (.iload 4, 2) := by decide +kernel
theorem dL_isSheaf_38 : decode cL_isSheaf 38 = .ok (.bipush (-15), 2) := by decide +kernel
theorem dL_isSheaf_40 : decode cL_isSheaf 40 = .ok (.if_icmp .ne 7, 3) := by decide +kernel
theorem dL_isSheaf_43 : decode cL_isSheaf 43 = .ok (.iconst 0, 1) := by decide +kernel
theorem dL_isSheaf_44 : decode cL_isSheaf 44 = .ok (.goto 11, 3) := by decide +kernel
theorem dL_isSheaf_47 : decode cL_isSheaf 47 = .ok (.aload_n 0, 1) := by decide +kernel
theorem dL_isSheaf_48 : decode cL_isSheaf 48 = .ok (.iload_n 1, 1) := by decide +kernel
theorem dL_isSheaf_49 : decode cL_isSheaf 49 = .ok (.iload 4, 2) := by decide +kernel
theorem dL_isSheaf_51 : decode cL_isSheaf 51 = .ok (.iconst 2, 1) := by decide +kernel
theorem dL_isSheaf_52 : decode cL_isSheaf 52 = .ok (.invokevirtual 85, 3) := by decide +kernel
theorem dL_isSheaf_55 : decode cL_isSheaf 55 = .ok (.istore 7, 2) := by decide +kernel
theorem dL_isSheaf_57 : decode cL_isSheaf 57 = .ok (.iload 5, 2) := by decide +kernel
theorem dL_isSheaf_59 : decode cL_isSheaf 59 = .ok (.bipush (-15), 2) := by decide +kernel
theorem dL_isSheaf_61 : decode cL_isSheaf 61 = .ok (.if_icmp .ne 7, 3) := by decide +kernel
theorem dL_isSheaf_64 : decode cL_isSheaf 64 = .ok (.iconst 0, 1) := by decide +kernel
theorem dL_isSheaf_65 : decode cL_isSheaf 65 = .ok (.goto 11, 3) := by decide +kernel
theorem dL_isSheaf_68 : decode cL_isSheaf 68 = .ok (.aload_n 0, 1) := by decide +kernel
theorem dL_isSheaf_69 : decode cL_isSheaf 69 = .ok (.iload_n 1, 1) := by decide +kernel
theorem dL_isSheaf_70 : decode cL_isSheaf 70 = .ok (.iload 5, 2) := by decide +kernel
theorem dL_isSheaf_72 : decode cL_isSheaf 72 = .ok (.iconst 2, 1) := by decide +kernel
theorem dL_isSheaf_73 : decode cL_isSheaf 73 = .ok (.invokevirtual 85, 3) := by decide +kernel
theorem dL_isSheaf_76 : decode cL_isSheaf 76 = .ok (.istore 8, 2) := by decide +kernel
theorem dL_isSheaf_78 : decode cL_isSheaf 78 = .ok (.aload_n 0, 1) := by decide +kernel
theorem dL_isSheaf_79 : decode cL_isSheaf 79 = .ok (.iload_n 1, 1) := by decide +kernel
theorem dL_isSheaf_80 : decode cL_isSheaf 80 = .ok (.iload_n 3, 1) := by decide +kernel
theorem dL_isSheaf_81 : decode cL_isSheaf 81 = .ok (.iconst 2, 1) := by decide +kernel
theorem dL_isSheaf_82 : decode cL_isSheaf 82 = .ok (.invokevirtual 85, 3) := by decide +kernel
theorem dL_isSheaf_85 : decode cL_isSheaf 85 = .ok (.istore 9, 2) := by decide +kernel
theorem dL_isSheaf_87 : decode cL_isSheaf 87 = .ok (.bipush 100, 2) := by decide +kernel
theorem dL_isSheaf_89 : decode cL_isSheaf 89 = .ok (.iload 7, 2) := by decide +kernel
theorem dL_isSheaf_91 : decode cL_isSheaf 91 = .ok (.iload 8, 2) := by decide +kernel
theorem dL_isSheaf_93 : decode cL_isSheaf 93 = .ok (.invokestatic 88, 3) := by decide +kernel
theorem dL_isSheaf_96 : decode cL_isSheaf 96 = .ok (.imul, 1) := by decide +kernel
theorem dL_isSheaf_97 : decode cL_isSheaf 97 = .ok (.istore 10, 2) := by decide +kernel
theorem dL_isSheaf_99 : decode cL_isSheaf 99 = .ok (.iload 9, 2) := by decide +kernel
theorem dL_isSheaf_101 : decode cL_isSheaf 101 = .ok (.iconst 1, 1) := by decide +kernel
theorem dL_isSheaf_102 : decode cL_isSheaf 102 = .ok (.iload 7, 2) := by decide +kernel
theorem dL_isSheaf_104 : decode cL_isSheaf 104 = .ok (.iadd, 1) := by decide +kernel
theorem dL_isSheaf_105 : decode cL_isSheaf 105 = .ok (.iload 8, 2) := by decide +kernel
theorem dL_isSheaf_107 : decode cL_isSheaf 107 = .ok (.iadd, 1) := by decide +kernel
theorem dL_isSheaf_108 : decode cL_isSheaf 108 = .ok (.if_icmp .ne 64, 3) := by decide +kernel
theorem dL_isSheaf_111 : decode cL_isSheaf 111 = .ok (.aload_n 0, 1) := by decide +kernel
theorem dL_isSheaf_112 : decode cL_isSheaf 112 = .ok (.iload_n 1, 1) := by decide +kernel
theorem dL_isSheaf_113 : decode cL_isSheaf 113 = .ok (.iload_n 3, 1) := by decide +kernel
theorem dL_isSheaf_114 : decode cL_isSheaf 114 = .ok (.iconst 3, 1) := by decide +kernel
theorem dL_isSheaf_115 : decode cL_isSheaf 115 = .ok (.invokevirtual 85, 3) := by decide +kernel
theorem dL_isSheaf_118 : decode cL_isSheaf 118 = .ok (.aload_n 0, 1) := by decide +kernel
theorem dL_isSheaf_119 : decode cL_isSheaf 119 = .ok (.iload_n 1, 1) := by decide +kernel
theorem dL_isSheaf_120 : decode cL_isSheaf 120 = .ok (.iload_n 3, 1) := by decide +kernel
theorem dL_isSheaf_121 : decode cL_isSheaf 121 = .ok (.iconst 0, 1) := by decide +kernel
theorem dL_isSheaf_122 : decode cL_isSheaf 122 = .ok (.invokevirtual 85, 3) := by decide +kernel
theorem dL_isSheaf_125 : decode cL_isSheaf 125 = .ok (.iload 4, 2) := by decide +kernel
theorem dL_isSheaf_127 : decode cL_isSheaf 127 = .ok (.bipush (-15), 2) := by decide +kernel
theorem dL_isSheaf_129 : decode cL_isSheaf 129 = .ok (.if_icmp .ne 7, 3) := by decide +kernel
theorem dL_isSheaf_132 : decode cL_isSheaf 132 = .ok (.iconst 0, 1) := by decide +kernel
theorem dL_isSheaf_133 : decode cL_isSheaf 133 = .ok (.goto 11, 3) := by decide +kernel
theorem dL_isSheaf_136 : decode cL_isSheaf 136 = .ok (.aload_n 0, 1) := by decide +kernel
theorem dL_isSheaf_137 : decode cL_isSheaf 137 = .ok (.iload_n 1, 1) := by decide +kernel
theorem dL_isSheaf_138 : decode cL_isSheaf 138 = .ok (.iload 4, 2) := by decide +kernel
theorem dL_isSheaf_140 : decode cL_isSheaf 140 = .ok (.iconst 3, 1) := by decide +kernel
theorem dL_isSheaf_141 : decode cL_isSheaf 141 = .ok (.invokevirtual 85, 3) := by decide +kernel
theorem dL_isSheaf_144 : decode cL_isSheaf 144 = .ok (.iadd, 1) := by decide +kernel
theorem dL_isSheaf_145 : decode cL_isSheaf 145 = .ok (.iload 5, 2) := by decide +kernel
theorem dL_isSheaf_147 : decode cL_isSheaf 147 = .ok (.bipush (-15), 2) := by decide +kernel
theorem dL_isSheaf_149 : decode cL_isSheaf 149 = .ok (.if_icmp .ne 7, 3) := by decide +kernel
theorem dL_isSheaf_152 : decode cL_isSheaf 152 = .ok (.iconst 0, 1) := by decide +kernel
theorem dL_isSheaf_153 : decode cL_isSheaf 153 = .ok (.goto 11, 3) := by decide +kernel
theorem dL_isSheaf_156 : decode cL_isSheaf 156 = .ok (.aload_n 0, 1) := by decide +kernel
theorem dL_isSheaf_157 : decode cL_isSheaf 157 = .ok (.iload_n 1, 1) := by decide +kernel
theorem dL_isSheaf_158 : decode cL_isSheaf 158 = .ok (.iload 5, 2) := by decide +kernel
theorem dL_isSheaf_160 : decode cL_isSheaf 160 = .ok (.iconst 3, 1) := by decide +kernel
theorem dL_isSheaf_161 : decode cL_isSheaf 161 = .ok (.invokevirtual 85, 3) := by decide +kernel
theorem dL_isSheaf_164 : decode cL_isSheaf 164 = .ok (.iadd, 1) := by decide +kernel
theorem dL_isSheaf_165 : decode cL_isSheaf 165 = .ok (.if_icmp .ne 7, 3) := by decide +kernel
theorem dL_isSheaf_168 : decode cL_isSheaf 168 = .ok (.iconst 1, 1) := by decide +kernel
theorem dL_isSheaf_169 : decode cL_isSheaf 169 = .ok (.goto 4, 3) := by decide +kernel
theorem dL_isSheaf_172 : decode cL_isSheaf 172 = .ok (.iconst 0, 1) := by decide +kernel
theorem dL_isSheaf_173 : decode cL_isSheaf 173 = .ok (.istore 11, 2) := by decide +kernel
theorem dL_isSheaf_175 : decode cL_isSheaf 175 = .ok (.iload 11, 2) := by decide +kernel
theorem dL_isSheaf_177 : decode cL_isSheaf 177 = .ok (.ifCond .eq 95, 3) := by decide +kernel
theorem dL_isSheaf_180 : decode cL_isSheaf 180 = .ok (.iload 4, 2) := by decide +kernel
theorem dL_isSheaf_182 : decode cL_isSheaf 182 = .ok (.bipush (-15), 2) := by decide +kernel
theorem dL_isSheaf_184 : decode cL_isSheaf 184 = .ok (.if_icmp .eq 21, 3) := by decide +kernel
theorem dL_isSheaf_187 : decode cL_isSheaf 187 = .ok (.iload 4, 2) := by decide +kernel
theorem dL_isSheaf_189 : decode cL_isSheaf 189 = .ok (.iload_n 3, 1) := by decide +kernel
theorem dL_isSheaf_190 : decode cL_isSheaf 190 = .ok (.if_icmp .ge 82, 3) := by decide +kernel
theorem dL_isSheaf_193 : decode cL_isSheaf 193 = .ok (.aload_n 0, 1) := by decide +kernel
theorem dL_isSheaf_194 : decode cL_isSheaf 194 = .ok (.iload_n 1, 1) := by decide +kernel
theorem dL_isSheaf_195 : decode cL_isSheaf 195 = .ok (.iload 4, 2) := by decide +kernel
theorem dL_isSheaf_197 : decode cL_isSheaf 197 = .ok (.iconst 5, 1) := by decide +kernel
theorem dL_isSheaf_198 : decode cL_isSheaf 198 = .ok (.invokevirtual 85, 3) := by decide +kernel
theorem dL_isSheaf_201 : decode cL_isSheaf 201 = .ok (.iload_n 3, 1) := by decide +kernel
theorem dL_isSheaf_202 : decode cL_isSheaf 202 = .ok (.if_icmp .ne 70, 3) := by decide +kernel
theorem dL_isSheaf_205 : decode cL_isSheaf 205 = .ok (.iload 5, 2) := by decide +kernel
theorem dL_isSheaf_207 : decode cL_isSheaf 207 = .ok (.bipush (-15), 2) := by decide +kernel
theorem dL_isSheaf_209 : decode cL_isSheaf 209 = .ok (.if_icmp .eq 21, 3) := by decide +kernel
theorem dL_isSheaf_212 : decode cL_isSheaf 212 = .ok (.iload 5, 2) := by decide +kernel
theorem dL_isSheaf_214 : decode cL_isSheaf 214 = .ok (.iload_n 3, 1) := by decide +kernel
theorem dL_isSheaf_215 : decode cL_isSheaf 215 = .ok (.if_icmp .le 57, 3) := by decide +kernel
theorem dL_isSheaf_218 : decode cL_isSheaf 218 = .ok (.aload_n 0, 1) := by decide +kernel
theorem dL_isSheaf_219 : decode cL_isSheaf 219 = .ok (.iload_n 1, 1) := by decide +kernel
theorem dL_isSheaf_220 : decode cL_isSheaf 220 = .ok (.iload 5, 2) := by decide +kernel
theorem dL_isSheaf_222 : decode cL_isSheaf 222 = .ok (.iconst 5, 1) := by decide +kernel
theorem dL_isSheaf_223 : decode cL_isSheaf 223 = .ok (.invokevirtual 85, 3) := by decide +kernel
theorem dL_isSheaf_226 : decode cL_isSheaf 226 = .ok (.iload_n 3, 1) := by decide +kernel
theorem dL_isSheaf_227 : decode cL_isSheaf 227 = .ok (.if_icmp .ne 45, 3) := by decide +kernel
theorem dL_isSheaf_230 : decode cL_isSheaf 230 = .ok (.aload_n 0, 1) := by decide +kernel
theorem dL_isSheaf_231 : decode cL_isSheaf 231 = .ok (.iload_n 1, 1) := by decide +kernel
theorem dL_isSheaf_232 : decode cL_isSheaf 232 = .ok (.iload_n 3, 1) := by decide +kernel
theorem dL_isSheaf_233 : decode cL_isSheaf 233 = .ok (.iconst 4, 1) := by decide +kernel
theorem dL_isSheaf_234 : decode cL_isSheaf 234 = .ok (.invokevirtual 85, 3) := by decide +kernel
theorem dL_isSheaf_237 : decode cL_isSheaf 237 = .ok (.iconst 1, 1) := by decide +kernel
theorem dL_isSheaf_238 : decode cL_isSheaf 238 = .ok (.if_icmp .ne 7, 3) := by decide +kernel
theorem dL_isSheaf_241 : decode cL_isSheaf 241 = .ok (.iconst 1, 1) := by decide +kernel
theorem dL_isSheaf_242 : decode cL_isSheaf 242 = .ok (.goto 4, 3) := by decide +kernel
theorem dL_isSheaf_245 : decode cL_isSheaf 245 = .ok (.iconst 0, 1) := by decide +kernel
theorem dL_isSheaf_246 : decode cL_isSheaf 246 = .ok (.iload 10, 2) := by decide +kernel
theorem dL_isSheaf_248 : decode cL_isSheaf 248 = .ok (.aload_n 0, 1) := by decide +kernel
theorem dL_isSheaf_249 : decode cL_isSheaf 249 = .ok (.bipush 8, 2) := by decide +kernel
theorem dL_isSheaf_251 : decode cL_isSheaf 251 = .ok (.invokevirtual 78, 3) := by decide +kernel
theorem dL_isSheaf_254 : decode cL_isSheaf 254 = .ok (.iload 9, 2) := by decide +kernel
theorem dL_isSheaf_256 : decode cL_isSheaf 256 = .ok (.imul, 1) := by decide +kernel
theorem dL_isSheaf_257 : decode cL_isSheaf 257 = .ok (.if_icmp .le 7, 3) := by decide +kernel
theorem dL_isSheaf_260 : decode cL_isSheaf 260 = .ok (.iconst 1, 1) := by decide +kernel
theorem dL_isSheaf_261 : decode cL_isSheaf 261 = .ok (.goto 4, 3) := by decide +kernel
theorem dL_isSheaf_264 : decode cL_isSheaf 264 = .ok (.iconst 0, 1) := by decide +kernel
theorem dL_isSheaf_265 : decode cL_isSheaf 265 = .ok (.if_icmp .ne 7, 3) := by decide +kernel
theorem dL_isSheaf_268 : decode cL_isSheaf 268 = .ok (.iconst 1, 1) := by decide +kernel
theorem dL_isSheaf_269 : decode cL_isSheaf 269 = .ok (.goto 4, 3) := by decide +kernel
theorem dL_isSheaf_272 : decode cL_isSheaf 272 = .ok (.iconst 0, 1) := by decide +kernel
theorem dL_isSheaf_273 : decode cL_isSheaf 273 = .ok (.istore 11, 2) := by decide +kernel
theorem dL_isSheaf_275 : decode cL_isSheaf 275 = .ok (.iload 11, 2) := by decide +kernel
theorem dL_isSheaf_277 : decode cL_isSheaf 277 = .ok (.ifCond .eq 57, 3) := by decide +kernel
theorem dL_isSheaf_280 : decode cL_isSheaf 280 = .ok (.iload 6, 2) := by decide +kernel
theorem dL_isSheaf_282 : decode cL_isSheaf 282 = .ok (.bipush (-15), 2) := by decide +kernel
theorem dL_isSheaf_284 : decode cL_isSheaf 284 = .ok (.if_icmp .ne 26, 3) := by decide +kernel
theorem dL_isSheaf_287 : decode cL_isSheaf 287 = .ok (.aload_n 0, 1) := by decide +kernel
theorem dL_isSheaf_288 : decode cL_isSheaf 288 = .ok (.iload_n 1, 1) := by decide +kernel
theorem dL_isSheaf_289 : decode cL_isSheaf 289 = .ok (.iload_n 3, 1) := by decide +kernel
theorem dL_isSheaf_290 : decode cL_isSheaf 290 = .ok (.iconst 1, 1) := by decide +kernel
theorem dL_isSheaf_291 : decode cL_isSheaf 291 = .ok (.invokevirtual 85, 3) := by decide +kernel
theorem dL_isSheaf_294 : decode cL_isSheaf 294 = .ok (.ifCond .ne 40, 3) := by decide +kernel
theorem dL_isSheaf_297 : decode cL_isSheaf 297 = .ok (.aload_n 0, 1) := by decide +kernel
theorem dL_isSheaf_298 : decode cL_isSheaf 298 = .ok (.iload_n 1, 1) := by decide +kernel
theorem dL_isSheaf_299 : decode cL_isSheaf 299 = .ok (.iconst 2, 1) := by decide +kernel
theorem dL_isSheaf_300 : decode cL_isSheaf 300 = .ok (.invokevirtual 28, 3) := by decide +kernel
theorem dL_isSheaf_303 : decode cL_isSheaf 303 = .ok (.iload_n 3, 1) := by decide +kernel
theorem dL_isSheaf_304 : decode cL_isSheaf 304 = .ok (.if_icmp .ne 30, 3) := by decide +kernel
theorem dL_isSheaf_307 : decode cL_isSheaf 307 = .ok (.goto 23, 3) := by decide +kernel
theorem dL_isSheaf_310 : decode cL_isSheaf 310 = .ok (.aload_n 0, 1) := by decide +kernel
theorem dL_isSheaf_311 : decode cL_isSheaf 311 = .ok (.iload_n 1, 1) := by decide +kernel
theorem dL_isSheaf_312 : decode cL_isSheaf 312 = .ok (.iload_n 3, 1) := by decide +kernel
theorem dL_isSheaf_313 : decode cL_isSheaf 313 = .ok (.iconst 1, 1) := by decide +kernel
theorem dL_isSheaf_314 : decode cL_isSheaf 314 = .ok (.invokevirtual 85, 3) := by decide +kernel
theorem dL_isSheaf_317 : decode cL_isSheaf 317 = .ok (.aload_n 0, 1) := by decide +kernel
theorem dL_isSheaf_318 : decode cL_isSheaf 318 = .ok (.iload_n 1, 1) := by decide +kernel
theorem dL_isSheaf_319 : decode cL_isSheaf 319 = .ok (.iload 6, 2) := by decide +kernel
theorem dL_isSheaf_321 : decode cL_isSheaf 321 = .ok (.iconst 1, 1) := by decide +kernel
theorem dL_isSheaf_322 : decode cL_isSheaf 322 = .ok (.invokevirtual 85, 3) := by decide +kernel
theorem dL_isSheaf_325 : decode cL_isSheaf 325 = .ok (.iconst 1, 1) := by decide +kernel
theorem dL_isSheaf_326 : decode cL_isSheaf 326 = .ok (.iadd, 1) := by decide +kernel
theorem dL_isSheaf_327 : decode cL_isSheaf 327 = .ok (.if_icmp .ne 7, 3) := by decide +kernel
theorem dL_isSheaf_330 : decode cL_isSheaf 330 = .ok (.iconst 1, 1) := by decide +kernel
theorem dL_isSheaf_331 : decode cL_isSheaf 331 = .ok (.goto 4, 3) := by decide +kernel
theorem dL_isSheaf_334 : decode cL_isSheaf 334 = .ok (.iconst 0, 1) := by decide +kernel
theorem dL_isSheaf_335 : decode cL_isSheaf 335 = .ok (.istore 11, 2) := by decide +kernel
theorem dL_isSheaf_337 : decode cL_isSheaf 337 = .ok (.iload 11, 2) := by decide +kernel
theorem dL_isSheaf_339 : decode cL_isSheaf 339 = .ok (.ifCond .eq 57, 3) := by decide +kernel
theorem dL_isSheaf_342 : decode cL_isSheaf 342 = .ok (.aload_n 0, 1) := by decide +kernel
theorem dL_isSheaf_343 : decode cL_isSheaf 343 = .ok (.iload_n 1, 1) := by decide +kernel
theorem dL_isSheaf_344 : decode cL_isSheaf 344 = .ok (.iload_n 3, 1) := by decide +kernel
theorem dL_isSheaf_345 : decode cL_isSheaf 345 = .ok (.invokevirtual 91, 3) := by decide +kernel
theorem dL_isSheaf_348 : decode cL_isSheaf 348 = .ok (.iload_n 2, 1) := by decide +kernel
theorem dL_isSheaf_349 : decode cL_isSheaf 349 = .ok (.if_icmp .ne 47, 3) := by decide +kernel
theorem dL_isSheaf_352 : decode cL_isSheaf 352 = .ok (.aload_n 0, 1) := by decide +kernel
theorem dL_isSheaf_353 : decode cL_isSheaf 353 = .ok (.iload_n 1, 1) := by decide +kernel
theorem dL_isSheaf_354 : decode cL_isSheaf 354 = .ok (.iload_n 3, 1) := by decide +kernel
theorem dL_isSheaf_355 : decode cL_isSheaf 355 = .ok (.invokevirtual 94, 3) := by decide +kernel
theorem dL_isSheaf_358 : decode cL_isSheaf 358 = .ok (.iload_n 2, 1) := by decide +kernel
theorem dL_isSheaf_359 : decode cL_isSheaf 359 = .ok (.if_icmp .ne 37, 3) := by decide +kernel
theorem dL_isSheaf_362 : decode cL_isSheaf 362 = .ok (.aload_n 0, 1) := by decide +kernel
theorem dL_isSheaf_363 : decode cL_isSheaf 363 = .ok (.iload_n 1, 1) := by decide +kernel
theorem dL_isSheaf_364 : decode cL_isSheaf 364 = .ok (.iload_n 3, 1) := by decide +kernel
theorem dL_isSheaf_365 : decode cL_isSheaf 365 = .ok (.iconst 1, 1) := by decide +kernel
theorem dL_isSheaf_366 : decode cL_isSheaf 366 = .ok (.iadd, 1) := by decide +kernel
theorem dL_isSheaf_367 : decode cL_isSheaf 367 = .ok (.invokevirtual 91, 3) := by decide +kernel
theorem dL_isSheaf_370 : decode cL_isSheaf 370 = .ok (.iload_n 2, 1) := by decide +kernel
theorem dL_isSheaf_371 : decode cL_isSheaf 371 = .ok (.iconst 1, 1) := by decide +kernel
theorem dL_isSheaf_372 : decode cL_isSheaf 372 = .ok (.iadd, 1) := by decide +kernel
theorem dL_isSheaf_373 : decode cL_isSheaf 373 = .ok (.if_icmp .ne 23, 3) := by decide +kernel
theorem dL_isSheaf_376 : decode cL_isSheaf 376 = .ok (.iload_n 2, 1) := by decide +kernel
theorem dL_isSheaf_377 : decode cL_isSheaf 377 = .ok (.ifCond .eq 15, 3) := by decide +kernel
theorem dL_isSheaf_380 : decode cL_isSheaf 380 = .ok (.aload_n 0, 1) := by decide +kernel
theorem dL_isSheaf_381 : decode cL_isSheaf 381 = .ok (.iload_n 1, 1) := by decide +kernel
theorem dL_isSheaf_382 : decode cL_isSheaf 382 = .ok (.iload_n 2, 1) := by decide +kernel
theorem dL_isSheaf_383 : decode cL_isSheaf 383 = .ok (.iconst 1, 1) := by decide +kernel
theorem dL_isSheaf_384 : decode cL_isSheaf 384 = .ok (.isub, 1) := by decide +kernel
theorem dL_isSheaf_385 : decode cL_isSheaf 385 = .ok (.invokevirtual 37, 3) := by decide +kernel
theorem dL_isSheaf_388 : decode cL_isSheaf 388 = .ok (.iload_n 3, 1) := by decide +kernel
theorem dL_isSheaf_389 : decode cL_isSheaf 389 = .ok (.if_icmp .ge 7, 3) := by decide +kernel
theorem dL_isSheaf_392 : decode cL_isSheaf 392 = .ok (.iconst 1, 1) := by decide +kernel
theorem dL_isSheaf_393 : decode cL_isSheaf 393 = .ok (.goto 4, 3) := by decide +kernel
theorem dL_isSheaf_396 : decode cL_isSheaf 396 = .ok (.iconst 0, 1) := by decide +kernel
theorem dL_isSheaf_397 : decode cL_isSheaf 397 = .ok (.ireturn, 1) := by decide +kernel
theorem dL_isRick_0 : decode cL_isRick 0 = .ok (.aload_n 0, 1) := by decide +kernel
theorem dL_isRick_1 : decode cL_isRick 1 = .ok (.iload_n 1, 1) := by decide +kernel
theorem dL_isRick_2 : decode cL_isRick 2 = .ok (.iconst 0, 1) := by decide +kernel
theorem dL_isRick_3 : decode cL_isRick 3 = .ok (.invokevirtual 28, 3) := by decide +kernel
theorem dL_isRick_6 : decode cL_isRick 6 = .ok (.istore_n 2, 1) := by decide +kernel
theorem dL_isRick_7 : decode cL_isRick 7 = .ok (.iconst 0, 1) := by decide +kernel
theorem dL_isRick_8 : decode cL_isRick 8 = .ok (.istore_n 3, 1) := by decide +kernel
theorem dL_isRick_9 : decode cL_isRick 9 = .ok (.iconst 0, 1) := by decide +kernel
theorem dL_isRick_10 : decode cL_isRick 10 = .ok (.istore 4, 2) := by decide +kernel
theorem dL_isRick_12 : decode cL_isRick 12 = .ok (.iconst 0, 1) := by decide +kernel
theorem dL_isRick_13 : decode cL_isRick 13 = .ok (.istore 5, 2) := by decide +kernel
theorem dL_isRick_15 : decode cL_isRick 15 = .ok (.iconst 0, 1) := by decide +kernel
theorem dL_isRick_16 : decode cL_isRick 16 = .ok (.istore 6, 2) := by decide +kernel
theorem dL_isRick_18 : decode cL_isRick 18 = .ok (.iconst (-1), 1) := by decide +kernel
theorem dL_isRick_19 : decode cL_isRick 19 = .ok (.istore 7, 2) := by decide +kernel
theorem dL_isRick_21 : decode cL_isRick 21 = .ok (.aload_n 0, 1) := by decide +kernel
theorem dL_isRick_22 : decode cL_isRick 22 = .ok (.iload_n 1, 1) := by decide +kernel
theorem dL_isRick_23 : decode cL_isRick 23 = .ok (.iload_n 2, 1) := by decide +kernel
theorem dL_isRick_24 : decode cL_isRick 24 = .ok (.invokevirtual 37, 3) := by decide +kernel
theorem dL_isRick_27 : decode cL_isRick 27 = .ok (.bipush (-11), 2) := by decide +kernel
theorem dL_isRick_29 : decode cL_isRick 29 = .ok (.if_icmp .ne 50, 3) := by decide +kernel
theorem dL_isRick_32 : decode cL_isRick 32 = .ok (.aload_n 0, 1) := by decide +kernel
theorem dL_isRick_33 : decode cL_isRick 33 = .ok (.iload_n 1, 1) := by decide +kernel
theorem dL_isRick_34 : decode cL_isRick 34 = .ok (.iconst (-1), 1) := by decide +kernel
theorem dL_isRick_35 : decode cL_isRick 35 = .ok (.invokevirtual 37, 3) := by decide +kernel
theorem dL_isRick_38 : decode cL_isRick 38 = .ok (.bipush (-11), 2) := by decide +kernel
theorem dL_isRick_40 : decode cL_isRick 40 = .ok (.if_icmp .ne 39, 3) := by decide +kernel
theorem dL_isRick_43 : decode cL_isRick 43 = .ok (.iload_n 2, 1) := by decide +kernel
theorem dL_isRick_44 : decode cL_isRick 44 = .ok (.aload_n 0, 1) := by decide +kernel
theorem dL_isRick_45 : decode cL_isRick 45 = .ok (.iload_n 1, 1) := by decide +kernel
theorem dL_isRick_46 : decode cL_isRick 46 = .ok (.iconst 5, 1) := by decide +kernel
theorem dL_isRick_47 : decode cL_isRick 47 = .ok (.invokevirtual 28, 3) := by decide +kernel
theorem dL_isRick_50 : decode cL_isRick 50 = .ok (.if_icmp .gt 29, 3) := by decide +kernel
theorem dL_isRick_53 : decode cL_isRick 53 = .ok (.aload_n 0, 1) := by decide +kernel
theorem dL_isRick_54 : decode cL_isRick 54 = .ok (.iload_n 1, 1) := by decide +kernel
theorem dL_isRick_55 : decode cL_isRick 55 = .ok (.invokevirtual 81, 3) := by decide +kernel
theorem dL_isRick_58 : decode cL_isRick 58 = .ok (.invokestatic 97, 3) := by decide +kernel
theorem dL_isRick_61 : decode cL_isRick 61 = .ok (.iload_n 2, 1) := by decide +kernel
theorem dL_isRick_62 : decode cL_isRick 62 = .ok (.if_icmp .ne 17, 3) := by decide +kernel
theorem dL_isRick_65 : decode cL_isRick 65 = .ok (.aload_n 0, 1) := by decide +kernel
theorem dL_isRick_66 : decode cL_isRick 66 = .ok (.iload_n 1, 1) := by decide +kernel
theorem dL_isRick_67 : decode cL_isRick 67 = .ok (.invokevirtual 103, 3) := by decide +kernel
theorem dL_isRick_70 : decode cL_isRick 70 = .ok (.bipush 60, 2) := by decide +kernel
theorem dL_isRick_72 : decode cL_isRick 72 = .ok (.if_icmp .gt 7, 3) := by decide +kernel
theorem dL_isRick_75 : decode cL_isRick 75 = .ok (.iconst 1, 1) := by decide +kernel
theorem dL_isRick_76 : decode cL_isRick 76 = .ok (.goto 4, 3) := by decide +kernel
theorem dL_isRick_79 : decode cL_isRick 79 = .ok (.iconst 0, 1) := by decide +kernel
theorem dL_isRick_80 : decode cL_isRick 80 = .ok (.istore 8, 2) := by decide +kernel
theorem dL_isRick_82 : decode cL_isRick 82 = .ok (.iconst 0, 1) := by decide +kernel
theorem dL_isRick_83 : decode cL_isRick 83 = .ok (.istore 9, 2) := by decide +kernel
theorem dL_isRick_85 : decode cL_isRick 85 = .ok (.iload 8, 2) := by decide +kernel
theorem dL_isRick_87 : decode cL_isRick 87 = .ok (.ifCond .eq 182, 3) := by decide +kernel
theorem dL_isRick_90 : decode cL_isRick 90 = .ok (.iload 9, 2) := by decide +kernel
theorem dL_isRick_92 : decode cL_isRick 92 = .ok (.iload_n 2, 1) := by decide +kernel
theorem dL_isRick_93 : decode cL_isRick 93 = .ok (.if_icmp .ge 176, 3) := by decide +kernel
theorem dL_isRick_96 : decode cL_isRick 96 = .ok (.aload_n 0, 1) := by decide +kernel
theorem dL_isRick_97 : decode cL_isRick 97 = .ok (.iload_n 1, 1) := by decide +kernel
theorem dL_isRick_98 : decode cL_isRick 98 = .ok (.iload 9, 2) := by decide +kernel
theorem dL_isRick_100 : decode cL_isRick 100 = .ok (.invokevirtual 37, 3) := by decide +kernel
theorem dL_isRick_103 : decode cL_isRick 103 = .ok (.istore 10, 2) := by decide +kernel
theorem dL_isRick_105 : decode cL_isRick 105 = .ok (.iload_n 3, 1) := by decide +kernel
theorem dL_isRick_106 : decode cL_isRick 106 = .ok (.aload_n 0, 1) := by decide +kernel
theorem dL_isRick_107 : decode cL_isRick 107 = .ok (.iload_n 1, 1) := by decide +kernel
theorem dL_isRick_108 : decode cL_isRick 108 = .ok (.iload 10, 2) := by decide +kernel
theorem dL_isRick_110 : decode cL_isRick 110 = .ok (.iconst 0, 1) := by decide +kernel
theorem dL_isRick_111 : decode cL_isRick 111 = .ok (.invokevirtual 85, 3) := by decide +kernel
theorem dL_isRick_114 : decode cL_isRick 114 = .ok (.iadd, 1) := by decide +kernel
theorem dL_isRick_115 : decode cL_isRick 115 = .ok (.istore_n 3, 1) := by decide +kernel
theorem dL_isRick_116 : decode cL_isRick 116 = .ok (.iload 4, 2) := by decide +kernel
theorem dL_isRick_118 : decode cL_isRick 118 = .ok (.aload_n 0, 1) := by decide +kernel
theorem dL_isRick_119 : decode cL_isRick 119 = .ok (.iload_n 1, 1) := by decide +kernel
theorem dL_isRick_120 : decode cL_isRick 120 = .ok (.iload 10, 2) := by decide +kernel
theorem dL_isRick_122 : decode cL_isRick 122 = .ok (.iconst 1, 1) := by decide +kernel
theorem dL_isRick_123 : decode cL_isRick 123 = .ok (.invokevirtual 85, 3) := by decide +kernel
theorem dL_isRick_126 : decode cL_isRick 126 = .ok (.iadd, 1) := by decide +kernel
theorem dL_isRick_127 : decode cL_isRick 127 = .ok (.istore 4, 2) := by decide +kernel
theorem dL_isRick_129 : decode cL_isRick 129 = .ok (.iload 5, 2) := by decide +kernel
theorem dL_isRick_131 : decode cL_isRick 131 = .ok (.aload_n 0, 1) := by decide +kernel
theorem dL_isRick_132 : decode cL_isRick 132 = .ok (.iload_n 1, 1) := by decide +kernel
theorem dL_isRick_133 : decode cL_isRick 133 = .ok (.iload 10, 2) := by decide +kernel
theorem dL_isRick_135 : decode cL_isRick 135 = .ok (.iconst 4, 1) := by decide +kernel
theorem dL_isRick_136 : decode cL_isRick 136 = .ok (.invokevirtual 85, 3) := by decide +kernel
theorem dL_isRick_139 : decode cL_isRick 139 = .ok (.iadd, 1) := by decide +kernel
theorem dL_isRick_140 : decode cL_isRick 140 = .ok (.istore 5, 2) := by decide +kernel
theorem dL_isRick_142 : decode cL_isRick 142 = .ok (.iload 6, 2) := by decide +kernel
theorem dL_isRick_144 : decode cL_isRick 144 = .ok (.aload_n 0, 1) := by decide +kernel
theorem dL_isRick_145 : decode cL_isRick 145 = .ok (.iload_n 1, 1) := by decide +kernel
theorem dL_isRick_146 : decode cL_isRick 146 = .ok (.iload 10, 2) := by decide +kernel
theorem dL_isRick_148 : decode cL_isRick 148 = .ok (.iconst 2, 1) := by decide +kernel
theorem dL_isRick_149 : decode cL_isRick 149 = .ok (.invokevirtual 85, 3) := by decide +kernel
theorem dL_isRick_152 : decode cL_isRick 152 = .ok (.iconst 1, 1) := by decide +kernel
theorem dL_isRick_153 : decode cL_isRick 153 = .ok (.if_icmp .ne 7, 3) := by decide +kernel
theorem dL_isRick_156 : decode cL_isRick 156 = .ok (.iconst 1, 1) := by decide +kernel
theorem dL_isRick_157 : decode cL_isRick 157 = .ok (.goto 4, 3) := by decide +kernel
theorem dL_isRick_160 : decode cL_isRick 160 = .ok (.iconst 0, 1) := by decide +kernel
theorem dL_isRick_161 : decode cL_isRick 161 = .ok (.iadd, 1) := by decide +kernel
theorem dL_isRick_162 : decode cL_isRick 162 = .ok (.istore 6, 2) := by decide +kernel
theorem dL_isRick_164 : decode cL_isRick 164 = .ok (.iload 7, 2) := by decide +kernel
theorem dL_isRick_166 : decode cL_isRick 166 = .ok (.aload_n 0, 1) := by decide +kernel
theorem dL_isRick_167 : decode cL_isRick 167 = .ok (.iload_n 1, 1) := by decide +kernel
theorem dL_isRick_168 : decode cL_isRick 168 = .ok (.iload 10, 2) := by decide +kernel
theorem dL_isRick_170 : decode cL_isRick 170 = .ok (.iconst 1, 1) := by decide +kernel
theorem dL_isRick_171 : decode cL_isRick 171 = .ok (.invokevirtual 85, 3) := by decide +kernel
theorem dL_isRick_174 : decode cL_isRick 174 = .ok (.invokestatic 88, 3) := by decide +kernel
theorem dL_isRick_177 : decode cL_isRick 177 = .ok (.istore 7, 2) := by decide +kernel
theorem dL_isRick_179 : decode cL_isRick 179 = .ok (.aload_n 0, 1) := by decide +kernel
theorem dL_isRick_180 : decode cL_isRick 180 = .ok (.iload_n 1, 1) := by decide +kernel
theorem dL_isRick_181 : decode cL_isRick 181 = .ok (.iload 9, 2) := by decide +kernel
theorem dL_isRick_183 : decode cL_isRick 183 = .ok (.invokestatic 106, 3) := by decide +kernel
theorem dL_isRick_186 : decode cL_isRick 186 = .ok (.ifCond .eq 74, 3) := by decide +kernel
theorem dL_isRick_189 : decode cL_isRick 189 = .ok (.aload_n 0, 1) := by decide +kernel
theorem dL_isRick_190 : decode cL_isRick 190 = .ok (.iload_n 1, 1) := by decide +kernel
theorem dL_isRick_191 : decode cL_isRick 191 = .ok (.iload 10, 2) := by decide +kernel
theorem dL_isRick_193 : decode cL_isRick 193 = .ok (.sipush 999, 3) := by decide +kernel
theorem dL_isRick_196 : decode cL_isRick 196 = .ok (.invokevirtual 110, 3) := by decide +kernel
theorem dL_isRick_199 : decode cL_isRick 199 = .ok (.aload_n 0, 1) := by decide +kernel
theorem dL_isRick_200 : decode cL_isRick 200 = .ok (.iload_n 1, 1) := by decide +kernel
theorem dL_isRick_201 : decode cL_isRick 201 = .ok (.iload 10, 2) := by decide +kernel
theorem dL_isRick_203 : decode cL_isRick 203 = .ok (.sipush 999, 3) := by decide +kernel
theorem dL_isRick_206 : decode cL_isRick 206 = .ok (.invokevirtual 113, 3) := by decide +kernel
theorem dL_isRick_209 : decode cL_isRick 209 = .ok (.if_icmp .ne 51, 3) := by decide +kernel
theorem dL_isRick_212 : decode cL_isRick 212 = .ok (.aload_n 0, 1) := by decide +kernel
theorem dL_isRick_213 : decode cL_isRick 213 = .ok (.iload_n 1, 1) := by decide +kernel
theorem dL_isRick_214 : decode cL_isRick 214 = .ok (.iconst 0, 1) := by decide +kernel
theorem dL_isRick_215 : decode cL_isRick 215 = .ok (.iload 10, 2) := by decide +kernel
theorem dL_isRick_217 : decode cL_isRick 217 = .ok (.invokevirtual 110, 3) := by decide +kernel
theorem dL_isRick_220 : decode cL_isRick 220 = .ok (.iload_n 3, 1) := by decide +kernel
theorem dL_isRick_221 : decode cL_isRick 221 = .ok (.if_icmp .ne 39, 3) := by decide +kernel
theorem dL_isRick_224 : decode cL_isRick 224 = .ok (.aload_n 0, 1) := by decide +kernel
theorem dL_isRick_225 : decode cL_isRick 225 = .ok (.iload_n 1, 1) := by decide +kernel
theorem dL_isRick_226 : decode cL_isRick 226 = .ok (.sipush 936, 3) := by decide +kernel
theorem dL_isRick_229 : decode cL_isRick 229 = .ok (.iload 10, 2) := by decide +kernel
theorem dL_isRick_231 : decode cL_isRick 231 = .ok (.invokestatic 32, 3) := by decide +kernel
theorem dL_isRick_234 : decode cL_isRick 234 = .ok (.invokevirtual 116, 3) := by decide +kernel
theorem dL_isRick_237 : decode cL_isRick 237 = .ok (.iload 10, 2) := by decide +kernel
theorem dL_isRick_239 : decode cL_isRick 239 = .ok (.sipush 936, 3) := by decide +kernel
theorem dL_isRick_242 : decode cL_isRick 242 = .ok (.iload 10, 2) := by decide +kernel
theorem dL_isRick_244 : decode cL_isRick 244 = .ok (.invokestatic 32, 3) := by decide +kernel
theorem dL_isRick_247 : decode cL_isRick 247 = .ok (.isub, 1) := by decide +kernel
theorem dL_isRick_248 : decode cL_isRick 248 = .ok (.lshr, 1) := by decide +kernel
theorem dL_isRick_249 : decode cL_isRick 249 = .ok (.lconst 1, 1) := by decide +kernel
theorem dL_isRick_250 : decode cL_isRick 250 = .ok (.land, 1) := by decide +kernel
theorem dL_isRick_251 : decode cL_isRick 251 = .ok (.lconst 1, 1) := by decide +kernel
theorem dL_isRick_252 : decode cL_isRick 252 = .ok (.lcmp, 1) := by decide +kernel
theorem dL_isRick_253 : decode cL_isRick 253 = .ok (.ifCond .ne 7, 3) := by decide +kernel
theorem dL_isRick_256 : decode cL_isRick 256 = .ok (.iconst 1, 1) := by decide +kernel
theorem dL_isRick_257 : decode cL_isRick 257 = .ok (.goto 4, 3) := by decide +kernel
theorem dL_isRick_260 : decode cL_isRick 260 = .ok (.iconst 0, 1) := by decide +kernel
theorem dL_isRick_261 : decode cL_isRick 261 = .ok (.istore 8, 2) := by decide +kernel
theorem dL_isRick_263 : decode cL_isRick 263 = .ok (.iinc 9 1, 3) := by decide +kernel
theorem dL_isRick_266 : decode cL_isRick 266 = .ok (.goto (-181), 3) := by decide +kernel
theorem dL_isRick_269 : decode cL_isRick 269 = .ok (.iload_n 2, 1) := by decide +kernel
theorem dL_isRick_270 : decode cL_isRick 270 = .ok (.ifCond .ne 7, 3) := by decide +kernel
theorem dL_isRick_273 : decode cL_isRick 273 = .ok (.iconst 1, 1) := by decide +kernel
theorem dL_isRick_274 : decode cL_isRick 274 = .ok (.goto 4, 3) := by decide +kernel
theorem dL_isRick_277 : decode cL_isRick 277 = .ok (.iconst 0, 1) := by decide +kernel
theorem dL_isRick_278 : decode cL_isRick 278 = .ok (.istore 9, 2) := by decide +kernel
theorem dL_isRick_280 : decode cL_isRick 280 = .ok (.iload 8, 2) := by decide +kernel
theorem dL_isRick_282 : decode cL_isRick 282 = .ok (.ifCond .eq 120, 3) := by decide +kernel
theorem dL_isRick_285 : decode cL_isRick 285 = .ok (.iload_n 3, 1) := by decide +kernel
theorem dL_isRick_286 : decode cL_isRick 286 = .ok (.aload_n 0, 1) := by decide +kernel
theorem dL_isRick_287 : decode cL_isRick 287 = .ok (.iload_n 1, 1) := by decide +kernel
theorem dL_isRick_288 : decode cL_isRick 288 = .ok (.iconst 1, 1) := by decide +kernel
theorem dL_isRick_289 : decode cL_isRick 289 = .ok (.invokevirtual 28, 3) := by decide +kernel
theorem dL_isRick_292 : decode cL_isRick 292 = .ok (.if_icmp .ne 110, 3) := by decide +kernel
theorem dL_isRick_295 : decode cL_isRick 295 = .ok (.iload 4, 2) := by decide +kernel
theorem dL_isRick_297 : decode cL_isRick 297 = .ok (.aload_n 0, 1) := by decide +kernel
theorem dL_isRick_298 : decode cL_isRick 298 = .ok (.iload_n 1, 1) := by decide +kernel
theorem dL_isRick_299 : decode cL_isRick 299 = .ok (.bipush 7, 2) := by decide +kernel
theorem dL_isRick_301 : decode cL_isRick 301 = .ok (.invokevirtual 28, 3) := by decide +kernel
theorem dL_isRick_304 : decode cL_isRick 304 = .ok (.if_icmp .ne 98, 3) := by decide +kernel
theorem dL_isRick_307 : decode cL_isRick 307 = .ok (.iload 5, 2) := by decide +kernel
theorem dL_isRick_309 : decode cL_isRick 309 = .ok (.aload_n 0, 1) := by decide +kernel
theorem dL_isRick_310 : decode cL_isRick 310 = .ok (.iload_n 1, 1) := by decide +kernel
theorem dL_isRick_311 : decode cL_isRick 311 = .ok (.bipush 6, 2) := by decide +kernel
theorem dL_isRick_313 : decode cL_isRick 313 = .ok (.invokevirtual 28, 3) := by decide +kernel
theorem dL_isRick_316 : decode cL_isRick 316 = .ok (.if_icmp .ne 86, 3) := by decide +kernel
theorem dL_isRick_319 : decode cL_isRick 319 = .ok (.iload 6, 2) := by decide +kernel
theorem dL_isRick_321 : decode cL_isRick 321 = .ok (.aload_n 0, 1) := by decide +kernel
theorem dL_isRick_322 : decode cL_isRick 322 = .ok (.iload_n 1, 1) := by decide +kernel
theorem dL_isRick_323 : decode cL_isRick 323 = .ok (.bipush 8, 2) := by decide +kernel
theorem dL_isRick_325 : decode cL_isRick 325 = .ok (.invokevirtual 28, 3) := by decide +kernel
theorem dL_isRick_328 : decode cL_isRick 328 = .ok (.if_icmp .ne 74, 3) := by decide +kernel
theorem dL_isRick_331 : decode cL_isRick 331 = .ok (.iload 7, 2) := by decide +kernel
theorem dL_isRick_333 : decode cL_isRick 333 = .ok (.aload_n 0, 1) := by decide +kernel
theorem dL_isRick_334 : decode cL_isRick 334 = .ok (.iload_n 1, 1) := by decide +kernel
theorem dL_isRick_335 : decode cL_isRick 335 = .ok (.iconst 3, 1) := by decide +kernel
theorem dL_isRick_336 : decode cL_isRick 336 = .ok (.invokevirtual 28, 3) := by decide +kernel
theorem dL_isRick_339 : decode cL_isRick 339 = .ok (.if_icmp .ne 63, 3) := by decide +kernel
theorem dL_isRick_342 : decode cL_isRick 342 = .ok (.aload_n 0, 1) := by decide +kernel
theorem dL_isRick_343 : decode cL_isRick 343 = .ok (.iload_n 1, 1) := by decide +kernel
theorem dL_isRick_344 : decode cL_isRick 344 = .ok (.invokevirtual 120, 3) := by decide +kernel
theorem dL_isRick_347 : decode cL_isRick 347 = .ok (.iload 9, 2) := by decide +kernel
theorem dL_isRick_349 : decode cL_isRick 349 = .ok (.ifCond .eq 8, 3) := by decide +kernel
theorem dL_isRick_352 : decode cL_isRick 352 = .ok (.bipush (-15), 2) := by decide +kernel
theorem dL_isRick_354 : decode cL_isRick 354 = .ok (.goto 12, 3) := by decide +kernel
theorem dL_isRick_357 : decode cL_isRick 357 = .ok (.iload 5, 2) := by decide +kernel
theorem dL_isRick_359 : decode cL_isRick 359 = .ok (.i2f, 1) := by decide +kernel
theorem dL_isRick_360 : decode cL_isRick 360 = .ok (.iload_n 2, 1) := by decide +kernel
theorem dL_isRick_361 : decode cL_isRick 361 = .ok (.i2f, 1) := by decide +kernel
theorem dL_isRick_362 : decode cL_isRick 362 = .ok (.fdiv, 1) := by decide +kernel
theorem dL_isRick_363 : decode cL_isRick 363 = .ok (.invokestatic 123, 3) := by decide +kernel
theorem dL_isRick_366 : decode cL_isRick 366 = .ok (.if_icmp .ne 36, 3) := by decide +kernel
theorem dL_isRick_369 : decode cL_isRick 369 = .ok (.aload_n 0, 1) := by decide +kernel
theorem dL_isRick_370 : decode cL_isRick 370 = .ok (.iload_n 1, 1) := by decide +kernel
theorem dL_isRick_371 : decode cL_isRick 371 = .ok (.invokevirtual 129, 3) := by decide +kernel
theorem dL_isRick_374 : decode cL_isRick 374 = .ok (.iload 9, 2) := by decide +kernel
theorem dL_isRick_376 : decode cL_isRick 376 = .ok (.ifCond .eq 9, 3) := by decide +kernel
theorem dL_isRick_379 : decode cL_isRick 379 = .ok (.ldc2_w 132, 3) := by decide +kernel
theorem dL_isRick_382 : decode cL_isRick 382 = .ok (.goto 12, 3) := by decide +kernel
theorem dL_isRick_385 : decode cL_isRick 385 = .ok (.iload 4, 2) := by decide +kernel
theorem dL_isRick_387 : decode cL_isRick 387 = .ok (.i2d, 1) := by decide +kernel
theorem dL_isRick_388 : decode cL_isRick 388 = .ok (.iload_n 2, 1) := by decide +kernel
theorem dL_isRick_389 : decode cL_isRick 389 = .ok (.i2d, 1) := by decide +kernel
theorem dL_isRick_390 : decode cL_isRick 390 = .ok (.ddiv, 1) := by decide +kernel
theorem dL_isRick_391 : decode cL_isRick 391 = .ok (.invokestatic 134, 3) := by decide +kernel
theorem dL_isRick_394 : decode cL_isRick 394 = .ok (.lcmp, 1) := by decide +kernel
theorem dL_isRick_395 : decode cL_isRick 395 = .ok (.ifCond .ne 7, 3) := by decide +kernel
theorem dL_isRick_398 : decode cL_isRick 398 = .ok (.iconst 1, 1) := by decide +kernel
theorem dL_isRick_399 : decode cL_isRick 399 = .ok (.goto 4, 3) := by decide +kernel
theorem dL_isRick_402 : decode cL_isRick 402 = .ok (.iconst 0, 1) := by decide +kernel
theorem dL_isRick_403 : decode cL_isRick 403 = .ok (.ireturn, 1) := by decide +kernel
theorem dL_areCarts_0 : decode cL_areCarts 0 = .ok (.aload_n 0, 1) := by decide +kernel
theorem dL_areCarts_1 : decode cL_areCarts 1 = .ok (.iload_n 1, 1) := by decide +kernel
theorem dL_areCarts_2 : decode cL_areCarts 2 = .ok (.iload_n 2, 1) := by decide +kernel
theorem dL_areCarts_3 : decode cL_areCarts 3 = .ok (.invokevirtual 140, 3) := by decide +kernel
theorem dL_areCarts_6 : decode cL_areCarts 6 = .ok (.istore_n 3, 1) := by decide +kernel
theorem dL_areCarts_7 : decode cL_areCarts 7 = .ok (.iconst 0, 1) := by decide +kernel
theorem dL_areCarts_8 : decode cL_areCarts 8 = .ok (.istore 4, 2) := by decide +kernel
theorem dL_areCarts_10 : decode cL_areCarts 10 = .ok (.iconst 0, 1) := by decide +kernel
theorem dL_areCarts_11 : decode cL_areCarts 11 = .ok (.istore 5, 2) := by decide +kernel
theorem dL_areCarts_13 : decode cL_areCarts 13 = .ok (.iload_n 3, 1) := by decide +kernel
theorem dL_areCarts_14 : decode cL_areCarts 14 = .ok (.ifCond .lt 33, 3) := by decide +kernel
theorem dL_areCarts_17 : decode cL_areCarts 17 = .ok (.iload_n 3, 1) := by decide +kernel
theorem dL_areCarts_18 : decode cL_areCarts 18 = .ok (.ifCond .ne 7, 3) := by decide +kernel
theorem dL_areCarts_21 : decode cL_areCarts 21 = .ok (.iconst 1, 1) := by decide +kernel
theorem dL_areCarts_22 : decode cL_areCarts 22 = .ok (.goto 4, 3) := by decide +kernel
theorem dL_areCarts_25 : decode cL_areCarts 25 = .ok (.iconst 0, 1) := by decide +kernel
theorem dL_areCarts_26 : decode cL_areCarts 26 = .ok (.aload_n 0, 1) := by decide +kernel
theorem dL_areCarts_27 : decode cL_areCarts 27 = .ok (.iload_n 1, 1) := by decide +kernel
theorem dL_areCarts_28 : decode cL_areCarts 28 = .ok (.iconst 0, 1) := by decide +kernel
theorem dL_areCarts_29 : decode cL_areCarts 29 = .ok (.invokevirtual 28, 3) := by decide +kernel
theorem dL_areCarts_32 : decode cL_areCarts 32 = .ok (.ifCond .ne 7, 3) := by decide +kernel
theorem dL_areCarts_35 : decode cL_areCarts 35 = .ok (.iconst 1, 1) := by decide +kernel
theorem dL_areCarts_36 : decode cL_areCarts 36 = .ok (.goto 4, 3) := by decide +kernel
theorem dL_areCarts_39 : decode cL_areCarts 39 = .ok (.iconst 0, 1) := by decide +kernel
theorem dL_areCarts_40 : decode cL_areCarts 40 = .ok (.if_icmp .ne 7, 3) := by decide +kernel
theorem dL_areCarts_43 : decode cL_areCarts 43 = .ok (.iconst 1, 1) := by decide +kernel
theorem dL_areCarts_44 : decode cL_areCarts 44 = .ok (.goto 4, 3) := by decide +kernel
theorem dL_areCarts_47 : decode cL_areCarts 47 = .ok (.iconst 0, 1) := by decide +kernel
theorem dL_areCarts_48 : decode cL_areCarts 48 = .ok (.istore 6, 2) := by decide +kernel
theorem dL_areCarts_50 : decode cL_areCarts 50 = .ok (.iconst 0, 1) := by decide +kernel
theorem dL_areCarts_51 : decode cL_areCarts 51 = .ok (.istore 7, 2) := by decide +kernel
theorem dL_areCarts_53 : decode cL_areCarts 53 = .ok (.iload 6, 2) := by decide +kernel
theorem dL_areCarts_55 : decode cL_areCarts 55 = .ok (.ifCond .eq 108, 3) := by decide +kernel
theorem dL_areCarts_58 : decode cL_areCarts 58 = .ok (.iload 7, 2) := by decide +kernel
theorem dL_areCarts_60 : decode cL_areCarts 60 = .ok (.aload_n 0, 1) := by decide +kernel
theorem dL_areCarts_61 : decode cL_areCarts 61 = .ok (.iload_n 1, 1) := by decide +kernel
theorem dL_areCarts_62 : decode cL_areCarts 62 = .ok (.iconst 0, 1) := by decide +kernel
theorem dL_areCarts_63 : decode cL_areCarts 63 = .ok (.invokevirtual 28, 3) := by decide +kernel
theorem dL_areCarts_66 : decode cL_areCarts 66 = .ok (.if_icmp .ge 97, 3) := by decide +kernel
theorem dL_areCarts_69 : decode cL_areCarts 69 = .ok (.aload_n 0, 1) := by decide +kernel
theorem dL_areCarts_70 : decode cL_areCarts 70 = .ok (.iload_n 1, 1) := by decide +kernel
theorem dL_areCarts_71 : decode cL_areCarts 71 = .ok (.aload_n 0, 1) := by decide +kernel
theorem dL_areCarts_72 : decode cL_areCarts 72 = .ok (.iload_n 1, 1) := by decide +kernel
theorem dL_areCarts_73 : decode cL_areCarts 73 = .ok (.iload 7, 2) := by decide +kernel
theorem dL_areCarts_75 : decode cL_areCarts 75 = .ok (.invokevirtual 37, 3) := by decide +kernel
theorem dL_areCarts_78 : decode cL_areCarts 78 = .ok (.iconst 0, 1) := by decide +kernel
theorem dL_areCarts_79 : decode cL_areCarts 79 = .ok (.invokevirtual 85, 3) := by decide +kernel
theorem dL_areCarts_82 : decode cL_areCarts 82 = .ok (.istore 8, 2) := by decide +kernel
theorem dL_areCarts_84 : decode cL_areCarts 84 = .ok (.iload 5, 2) := by decide +kernel
theorem dL_areCarts_86 : decode cL_areCarts 86 = .ok (.iload 8, 2) := by decide +kernel
theorem dL_areCarts_88 : decode cL_areCarts 88 = .ok (.iadd, 1) := by decide +kernel
theorem dL_areCarts_89 : decode cL_areCarts 89 = .ok (.iload_n 2, 1) := by decide +kernel
theorem dL_areCarts_90 : decode cL_areCarts 90 = .ok (.if_icmp .le 7, 3) := by decide +kernel
theorem dL_areCarts_93 : decode cL_areCarts 93 = .ok (.iconst 1, 1) := by decide +kernel
theorem dL_areCarts_94 : decode cL_areCarts 94 = .ok (.goto 4, 3) := by decide +kernel
theorem dL_areCarts_97 : decode cL_areCarts 97 = .ok (.iconst 0, 1) := by decide +kernel
theorem dL_areCarts_98 : decode cL_areCarts 98 = .ok (.istore 9, 2) := by decide +kernel
theorem dL_areCarts_100 : decode cL_areCarts 100 = .ok (.iload 4, 2) := by decide +kernel
theorem dL_areCarts_102 : decode cL_areCarts 102 = .ok (.iload 9, 2) := by decide +kernel
theorem dL_areCarts_104 : decode cL_areCarts 104 = .ok (.ifCond .eq 7, 3) := by decide +kernel
theorem dL_areCarts_107 : decode cL_areCarts 107 = .ok (.iconst 1, 1) := by decide +kernel
theorem dL_areCarts_108 : decode cL_areCarts 108 = .ok (.goto 4, 3) := by decide +kernel
theorem dL_areCarts_111 : decode cL_areCarts 111 = .ok (.iconst 0, 1) := by decide +kernel
theorem dL_areCarts_112 : decode cL_areCarts 112 = .ok (.iadd, 1) := by decide +kernel
theorem dL_areCarts_113 : decode cL_areCarts 113 = .ok (.istore 4, 2) := by decide +kernel
theorem dL_areCarts_115 : decode cL_areCarts 115 = .ok (.iload 9, 2) := by decide +kernel
theorem dL_areCarts_117 : decode cL_areCarts 117 = .ok (.ifCond .eq 8, 3) := by decide +kernel
theorem dL_areCarts_120 : decode cL_areCarts 120 = .ok (.iload 8, 2) := by decide +kernel
theorem dL_areCarts_122 : decode cL_areCarts 122 = .ok (.goto 8, 3) := by decide +kernel
theorem dL_areCarts_125 : decode cL_areCarts 125 = .ok (.iload 5, 2) := by decide +kernel
theorem dL_areCarts_127 : decode cL_areCarts 127 = .ok (.iload 8, 2) := by decide +kernel
theorem dL_areCarts_129 : decode cL_areCarts 129 = .ok (.iadd, 1) := by decide +kernel
theorem dL_areCarts_130 : decode cL_areCarts 130 = .ok (.istore 5, 2) := by decide +kernel
theorem dL_areCarts_132 : decode cL_areCarts 132 = .ok (.aload_n 0, 1) := by decide +kernel
theorem dL_areCarts_133 : decode cL_areCarts 133 = .ok (.iload_n 1, 1) := by decide +kernel
theorem dL_areCarts_134 : decode cL_areCarts 134 = .ok (.aload_n 0, 1) := by decide +kernel
theorem dL_areCarts_135 : decode cL_areCarts 135 = .ok (.iload_n 1, 1) := by decide +kernel
theorem dL_areCarts_136 : decode cL_areCarts 136 = .ok (.iload 7, 2) := by decide +kernel
theorem dL_areCarts_138 : decode cL_areCarts 138 = .ok (.invokevirtual 37, 3) := by decide +kernel
theorem dL_areCarts_141 : decode cL_areCarts 141 = .ok (.iload_n 2, 1) := by decide +kernel
theorem dL_areCarts_142 : decode cL_areCarts 142 = .ok (.invokevirtual 143, 3) := by decide +kernel
theorem dL_areCarts_145 : decode cL_areCarts 145 = .ok (.iload 4, 2) := by decide +kernel
theorem dL_areCarts_147 : decode cL_areCarts 147 = .ok (.if_icmp .ne 7, 3) := by decide +kernel
theorem dL_areCarts_150 : decode cL_areCarts 150 = .ok (.iconst 1, 1) := by decide +kernel
theorem dL_areCarts_151 : decode cL_areCarts 151 = .ok (.goto 4, 3) := by decide +kernel
theorem dL_areCarts_154 : decode cL_areCarts 154 = .ok (.iconst 0, 1) := by decide +kernel
theorem dL_areCarts_155 : decode cL_areCarts 155 = .ok (.istore 6, 2) := by decide +kernel
theorem dL_areCarts_157 : decode cL_areCarts 157 = .ok (.iinc 7 1, 3) := by decide +kernel
theorem dL_areCarts_160 : decode cL_areCarts 160 = .ok (.goto (-107), 3) := by decide +kernel
theorem dL_areCarts_163 : decode cL_areCarts 163 = .ok (.iload 6, 2) := by decide +kernel
theorem dL_areCarts_165 : decode cL_areCarts 165 = .ok (.ifCond .eq 19, 3) := by decide +kernel
theorem dL_areCarts_168 : decode cL_areCarts 168 = .ok (.iload_n 3, 1) := by decide +kernel
theorem dL_areCarts_169 : decode cL_areCarts 169 = .ok (.ifCond .eq 11, 3) := by decide +kernel
theorem dL_areCarts_172 : decode cL_areCarts 172 = .ok (.iload_n 3, 1) := by decide +kernel
theorem dL_areCarts_173 : decode cL_areCarts 173 = .ok (.iload 4, 2) := by decide +kernel
theorem dL_areCarts_175 : decode cL_areCarts 175 = .ok (.iconst 1, 1) := by decide +kernel
theorem dL_areCarts_176 : decode cL_areCarts 176 = .ok (.iadd, 1) := by decide +kernel
theorem dL_areCarts_177 : decode cL_areCarts 177 = .ok (.if_icmp .ne 7, 3) := by decide +kernel
theorem dL_areCarts_180 : decode cL_areCarts 180 = .ok (.iconst 1, 1) := by decide +kernel
theorem dL_areCarts_181 : decode cL_areCarts 181 = .ok (.goto 4, 3) := by decide +kernel
theorem dL_areCarts_184 : decode cL_areCarts 184 = .ok (.iconst 0, 1) := by decide +kernel
theorem dL_areCarts_185 : decode cL_areCarts 185 = .ok (.ireturn, 1) := by decide +kernel
theorem dL_areHeaviest_0 : decode cL_areHeaviest 0 = .ok (.aload_n 0, 1) := by decide +kernel
theorem dL_areHeaviest_1 : decode cL_areHeaviest 1 = .ok (.iconst 0, 1) := by decide +kernel
theorem dL_areHeaviest_2 : decode cL_areHeaviest 2 = .ok (.invokevirtual 78, 3) := by decide +kernel
theorem dL_areHeaviest_5 : decode cL_areHeaviest 5 = .ok (.istore_n 1, 1) := by decide +kernel
theorem dL_areHeaviest_6 : decode cL_areHeaviest 6 = .ok (.aload_n 0, 1) := by decide +kernel
theorem dL_areHeaviest_7 : decode cL_areHeaviest 7 = .ok (.iload_n 1, 1) := by decide +kernel
theorem dL_areHeaviest_8 : decode cL_areHeaviest 8 = .ok (.invokevirtual 146, 3) := by decide +kernel
theorem dL_areHeaviest_11 : decode cL_areHeaviest 11 = .ok (.bipush (-11), 2) := by decide +kernel
theorem dL_areHeaviest_13 : decode cL_areHeaviest 13 = .ok (.if_icmp .ne 17, 3) := by decide +kernel
theorem dL_areHeaviest_16 : decode cL_areHeaviest 16 = .ok (.aload_n 0, 1) := by decide +kernel
theorem dL_areHeaviest_17 : decode cL_areHeaviest 17 = .ok (.iconst (-1), 1) := by decide +kernel
theorem dL_areHeaviest_18 : decode cL_areHeaviest 18 = .ok (.invokevirtual 146, 3) := by decide +kernel
theorem dL_areHeaviest_21 : decode cL_areHeaviest 21 = .ok (.bipush (-11), 2) := by decide +kernel
theorem dL_areHeaviest_23 : decode cL_areHeaviest 23 = .ok (.if_icmp .ne 7, 3) := by decide +kernel
theorem dL_areHeaviest_26 : decode cL_areHeaviest 26 = .ok (.iconst 1, 1) := by decide +kernel
theorem dL_areHeaviest_27 : decode cL_areHeaviest 27 = .ok (.goto 4, 3) := by decide +kernel
theorem dL_areHeaviest_30 : decode cL_areHeaviest 30 = .ok (.iconst 0, 1) := by decide +kernel
theorem dL_areHeaviest_31 : decode cL_areHeaviest 31 = .ok (.istore_n 2, 1) := by decide +kernel
theorem dL_areHeaviest_32 : decode cL_areHeaviest 32 = .ok (.iconst 1, 1) := by decide +kernel
theorem dL_areHeaviest_33 : decode cL_areHeaviest 33 = .ok (.istore_n 3, 1) := by decide +kernel
theorem dL_areHeaviest_34 : decode cL_areHeaviest 34 = .ok (.iload_n 2, 1) := by decide +kernel
theorem dL_areHeaviest_35 : decode cL_areHeaviest 35 = .ok (.ifCond .eq 115, 3) := by decide +kernel
theorem dL_areHeaviest_38 : decode cL_areHeaviest 38 = .ok (.iload_n 3, 1) := by decide +kernel
theorem dL_areHeaviest_39 : decode cL_areHeaviest 39 = .ok (.iload_n 1, 1) := by decide +kernel
theorem dL_areHeaviest_40 : decode cL_areHeaviest 40 = .ok (.if_icmp .ge 110, 3) := by decide +kernel
theorem dL_areHeaviest_43 : decode cL_areHeaviest 43 = .ok (.aload_n 0, 1) := by decide +kernel
theorem dL_areHeaviest_44 : decode cL_areHeaviest 44 = .ok (.iload_n 3, 1) := by decide +kernel
theorem dL_areHeaviest_45 : decode cL_areHeaviest 45 = .ok (.iconst 1, 1) := by decide +kernel
theorem dL_areHeaviest_46 : decode cL_areHeaviest 46 = .ok (.isub, 1) := by decide +kernel
theorem dL_areHeaviest_47 : decode cL_areHeaviest 47 = .ok (.invokevirtual 146, 3) := by decide +kernel
theorem dL_areHeaviest_50 : decode cL_areHeaviest 50 = .ok (.istore 4, 2) := by decide +kernel
theorem dL_areHeaviest_52 : decode cL_areHeaviest 52 = .ok (.aload_n 0, 1) := by decide +kernel
theorem dL_areHeaviest_53 : decode cL_areHeaviest 53 = .ok (.iload_n 3, 1) := by decide +kernel
theorem dL_areHeaviest_54 : decode cL_areHeaviest 54 = .ok (.invokevirtual 146, 3) := by decide +kernel
theorem dL_areHeaviest_57 : decode cL_areHeaviest 57 = .ok (.istore 5, 2) := by decide +kernel
theorem dL_areHeaviest_59 : decode cL_areHeaviest 59 = .ok (.aload_n 0, 1) := by decide +kernel
theorem dL_areHeaviest_60 : decode cL_areHeaviest 60 = .ok (.iload 4, 2) := by decide +kernel
theorem dL_areHeaviest_62 : decode cL_areHeaviest 62 = .ok (.sipush 1000, 3) := by decide +kernel
theorem dL_areHeaviest_65 : decode cL_areHeaviest 65 = .ok (.idiv, 1) := by decide +kernel
theorem dL_areHeaviest_66 : decode cL_areHeaviest 66 = .ok (.iload 4, 2) := by decide +kernel
theorem dL_areHeaviest_68 : decode cL_areHeaviest 68 = .ok (.sipush 1000, 3) := by decide +kernel
theorem dL_areHeaviest_71 : decode cL_areHeaviest 71 = .ok (.irem, 1) := by decide +kernel
theorem dL_areHeaviest_72 : decode cL_areHeaviest 72 = .ok (.iconst 0, 1) := by decide +kernel
theorem dL_areHeaviest_73 : decode cL_areHeaviest 73 = .ok (.invokevirtual 85, 3) := by decide +kernel
theorem dL_areHeaviest_76 : decode cL_areHeaviest 76 = .ok (.aload_n 0, 1) := by decide +kernel
theorem dL_areHeaviest_77 : decode cL_areHeaviest 77 = .ok (.iload 5, 2) := by decide +kernel
theorem dL_areHeaviest_79 : decode cL_areHeaviest 79 = .ok (.sipush 1000, 3) := by decide +kernel
theorem dL_areHeaviest_82 : decode cL_areHeaviest 82 = .ok (.idiv, 1) := by decide +kernel
theorem dL_areHeaviest_83 : decode cL_areHeaviest 83 = .ok (.iload 5, 2) := by decide +kernel
theorem dL_areHeaviest_85 : decode cL_areHeaviest 85 = .ok (.sipush 1000, 3) := by decide +kernel
theorem dL_areHeaviest_88 : decode cL_areHeaviest 88 = .ok (.irem, 1) := by decide +kernel
theorem dL_areHeaviest_89 : decode cL_areHeaviest 89 = .ok (.iconst 0, 1) := by decide +kernel
theorem dL_areHeaviest_90 : decode cL_areHeaviest 90 = .ok (.invokevirtual 85, 3) := by decide +kernel
theorem dL_areHeaviest_93 : decode cL_areHeaviest 93 = .ok (.isub, 1) := by decide +kernel
theorem dL_areHeaviest_94 : decode cL_areHeaviest 94 = .ok (.istore 6, 2) := by decide +kernel
theorem dL_areHeaviest_96 : decode cL_areHeaviest 96 = .ok (.iload 5, 2) := by decide +kernel
theorem dL_areHeaviest_98 : decode cL_areHeaviest 98 = .ok (.sipush 1000, 3) := by decide +kernel
theorem dL_areHeaviest_101 : decode cL_areHeaviest 101 = .ok (.irem, 1) := by decide +kernel
theorem dL_areHeaviest_102 : decode cL_areHeaviest 102 = .ok (.iload 4, 2) := by decide +kernel
theorem dL_areHeaviest_104 : decode cL_areHeaviest 104 = .ok (.sipush 1000, 3) := by decide +kernel
theorem dL_areHeaviest_107 : decode cL_areHeaviest 107 = .ok (.irem, 1) := by decide +kernel
theorem dL_areHeaviest_108 : decode cL_areHeaviest 108 = .ok (.isub, 1) := by decide +kernel
theorem dL_areHeaviest_109 : decode cL_areHeaviest 109 = .ok (.istore 7, 2) := by decide +kernel
theorem dL_areHeaviest_111 : decode cL_areHeaviest 111 = .ok (.iload 6, 2) := by decide +kernel
theorem dL_areHeaviest_113 : decode cL_areHeaviest 113 = .ok (.ifCond .gt 25, 3) := by decide +kernel
theorem dL_areHeaviest_116 : decode cL_areHeaviest 116 = .ok (.iload 6, 2) := by decide +kernel
theorem dL_areHeaviest_118 : decode cL_areHeaviest 118 = .ok (.ifCond .ne 24, 3) := by decide +kernel
theorem dL_areHeaviest_121 : decode cL_areHeaviest 121 = .ok (.iload 7, 2) := by decide +kernel
theorem dL_areHeaviest_123 : decode cL_areHeaviest 123 = .ok (.ifCond .gt 15, 3) := by decide +kernel
theorem dL_areHeaviest_126 : decode cL_areHeaviest 126 = .ok (.iload 7, 2) := by decide +kernel
theorem dL_areHeaviest_128 : decode cL_areHeaviest 128 = .ok (.ifCond .ne 14, 3) := by decide +kernel
theorem dL_areHeaviest_131 : decode cL_areHeaviest 131 = .ok (.iload 4, 2) := by decide +kernel
theorem dL_areHeaviest_133 : decode cL_areHeaviest 133 = .ok (.iload 5, 2) := by decide +kernel
theorem dL_areHeaviest_135 : decode cL_areHeaviest 135 = .ok (.if_icmp .ge 7, 3) := by decide +kernel
theorem dL_areHeaviest_138 : decode cL_areHeaviest 138 = .ok (.iconst 1, 1) := by decide +kernel
theorem dL_areHeaviest_139 : decode cL_areHeaviest 139 = .ok (.goto 4, 3) := by decide +kernel
theorem dL_areHeaviest_142 : decode cL_areHeaviest 142 = .ok (.iconst 0, 1) := by decide +kernel
theorem dL_areHeaviest_143 : decode cL_areHeaviest 143 = .ok (.istore_n 2, 1) := by decide +kernel
theorem dL_areHeaviest_144 : decode cL_areHeaviest 144 = .ok (.iinc 3 1, 3) := by decide +kernel
theorem dL_areHeaviest_147 : decode cL_areHeaviest 147 = .ok (.goto (-113), 3) := by decide +kernel
theorem dL_areHeaviest_150 : decode cL_areHeaviest 150 = .ok (.iload_n 2, 1) := by decide +kernel
theorem dL_areHeaviest_151 : decode cL_areHeaviest 151 = .ok (.ireturn, 1) := by decide +kernel
theorem dL_isFit_0 : decode cL_isFit 0 = .ok (.aload_n 0, 1) := by decide +kernel
theorem dL_isFit_1 : decode cL_isFit 1 = .ok (.invokevirtual 149, 3) := by decide +kernel
theorem dL_isFit_4 : decode cL_isFit 4 = .ok (.iconst 1, 1) := by decide +kernel
theorem dL_isFit_5 : decode cL_isFit 5 = .ok (.if_icmp .ne 14, 3) := by decide +kernel
theorem dL_isFit_8 : decode cL_isFit 8 = .ok (.aload_n 0, 1) := by decide +kernel
theorem dL_isFit_9 : decode cL_isFit 9 = .ok (.invokestatic 152, 3) := by decide +kernel
theorem dL_isFit_12 : decode cL_isFit 12 = .ok (.ifCond .eq 7, 3) := by decide +kernel
theorem dL_isFit_15 : decode cL_isFit 15 = .ok (.iconst 1, 1) := by decide +kernel
theorem dL_isFit_16 : decode cL_isFit 16 = .ok (.goto 4, 3) := by decide +kernel
theorem dL_isFit_19 : decode cL_isFit 19 = .ok (.iconst 0, 1) := by decide +kernel
theorem dL_isFit_20 : decode cL_isFit 20 = .ok (.istore_n 1, 1) := by decide +kernel
theorem dL_isFit_21 : decode cL_isFit 21 = .ok (.iconst 0, 1) := by decide +kernel
theorem dL_isFit_22 : decode cL_isFit 22 = .ok (.istore_n 2, 1) := by decide +kernel
theorem dL_isFit_23 : decode cL_isFit 23 = .ok (.iconst 0, 1) := by decide +kernel
theorem dL_isFit_24 : decode cL_isFit 24 = .ok (.istore_n 3, 1) := by decide +kernel
theorem dL_isFit_25 : decode cL_isFit 25 = .ok (.iconst 0, 1) := by decide +kernel
theorem dL_isFit_26 : decode cL_isFit 26 = .ok (.istore 4, 2) := by decide +kernel
theorem dL_isFit_28 : decode cL_isFit 28 = .ok (.iload_n 1, 1) := by decide +kernel
theorem dL_isFit_29 : decode cL_isFit 29 = .ok (.ifCond .eq 73, 3) := by decide +kernel
theorem dL_isFit_32 : decode cL_isFit 32 = .ok (.iload 4, 2) := by decide +kernel
theorem dL_isFit_34 : decode cL_isFit 34 = .ok (.iconst 3, 1) := by decide +kernel
theorem dL_isFit_35 : decode cL_isFit 35 = .ok (.if_icmp .ge 67, 3) := by decide +kernel
theorem dL_isFit_38 : decode cL_isFit 38 = .ok (.iload_n 2, 1) := by decide +kernel
theorem dL_isFit_39 : decode cL_isFit 39 = .ok (.aload_n 0, 1) := by decide +kernel
theorem dL_isFit_40 : decode cL_isFit 40 = .ok (.iload 4, 2) := by decide +kernel
theorem dL_isFit_42 : decode cL_isFit 42 = .ok (.iconst 0, 1) := by decide +kernel
theorem dL_isFit_43 : decode cL_isFit 43 = .ok (.invokevirtual 28, 3) := by decide +kernel
theorem dL_isFit_46 : decode cL_isFit 46 = .ok (.iadd, 1) := by decide +kernel
theorem dL_isFit_47 : decode cL_isFit 47 = .ok (.istore_n 2, 1) := by decide +kernel
theorem dL_isFit_48 : decode cL_isFit 48 = .ok (.iload_n 3, 1) := by decide +kernel
theorem dL_isFit_49 : decode cL_isFit 49 = .ok (.aload_n 0, 1) := by decide +kernel
theorem dL_isFit_50 : decode cL_isFit 50 = .ok (.iload 4, 2) := by decide +kernel
theorem dL_isFit_52 : decode cL_isFit 52 = .ok (.iconst 1, 1) := by decide +kernel
theorem dL_isFit_53 : decode cL_isFit 53 = .ok (.invokevirtual 28, 3) := by decide +kernel
theorem dL_isFit_56 : decode cL_isFit 56 = .ok (.iadd, 1) := by decide +kernel
theorem dL_isFit_57 : decode cL_isFit 57 = .ok (.istore_n 3, 1) := by decide +kernel
theorem dL_isFit_58 : decode cL_isFit 58 = .ok (.aload_n 0, 1) := by decide +kernel
theorem dL_isFit_59 : decode cL_isFit 59 = .ok (.iload 4, 2) := by decide +kernel
theorem dL_isFit_61 : decode cL_isFit 61 = .ok (.invokestatic 156, 3) := by decide +kernel
theorem dL_isFit_64 : decode cL_isFit 64 = .ok (.ifCond .eq 30, 3) := by decide +kernel
theorem dL_isFit_67 : decode cL_isFit 67 = .ok (.aload_n 0, 1) := by decide +kernel
theorem dL_isFit_68 : decode cL_isFit 68 = .ok (.iload 4, 2) := by decide +kernel
theorem dL_isFit_70 : decode cL_isFit 70 = .ok (.bipush 99, 2) := by decide +kernel
theorem dL_isFit_72 : decode cL_isFit 72 = .ok (.invokestatic 160, 3) := by decide +kernel
theorem dL_isFit_75 : decode cL_isFit 75 = .ok (.ifCond .eq 19, 3) := by decide +kernel
theorem dL_isFit_78 : decode cL_isFit 78 = .ok (.aload_n 0, 1) := by decide +kernel
theorem dL_isFit_79 : decode cL_isFit 79 = .ok (.iload 4, 2) := by decide +kernel
theorem dL_isFit_81 : decode cL_isFit 81 = .ok (.sipush 300, 3) := by decide +kernel
theorem dL_isFit_84 : decode cL_isFit 84 = .ok (.invokestatic 160, 3) := by decide +kernel
theorem dL_isFit_87 : decode cL_isFit 87 = .ok (.ifCond .eq 7, 3) := by decide +kernel
theorem dL_isFit_90 : decode cL_isFit 90 = .ok (.iconst 1, 1) := by decide +kernel
theorem dL_isFit_91 : decode cL_isFit 91 = .ok (.goto 4, 3) := by decide +kernel
theorem dL_isFit_94 : decode cL_isFit 94 = .ok (.iconst 0, 1) := by decide +kernel
theorem dL_isFit_95 : decode cL_isFit 95 = .ok (.istore_n 1, 1) := by decide +kernel
theorem dL_isFit_96 : decode cL_isFit 96 = .ok (.iinc 4 1, 3) := by decide +kernel
theorem dL_isFit_99 : decode cL_isFit 99 = .ok (.goto (-71), 3) := by decide +kernel
theorem dL_isFit_102 : decode cL_isFit 102 = .ok (.iload_n 1, 1) := by decide +kernel
theorem dL_isFit_103 : decode cL_isFit 103 = .ok (.ifCond .eq 40, 3) := by decide +kernel
theorem dL_isFit_106 : decode cL_isFit 106 = .ok (.iload_n 2, 1) := by decide +kernel
theorem dL_isFit_107 : decode cL_isFit 107 = .ok (.aload_n 0, 1) := by decide +kernel
theorem dL_isFit_108 : decode cL_isFit 108 = .ok (.iconst 0, 1) := by decide +kernel
theorem dL_isFit_109 : decode cL_isFit 109 = .ok (.invokevirtual 78, 3) := by decide +kernel
theorem dL_isFit_112 : decode cL_isFit 112 = .ok (.if_icmp .ne 31, 3) := by decide +kernel
theorem dL_isFit_115 : decode cL_isFit 115 = .ok (.iload_n 3, 1) := by decide +kernel
theorem dL_isFit_116 : decode cL_isFit 116 = .ok (.aload_n 0, 1) := by decide +kernel
theorem dL_isFit_117 : decode cL_isFit 117 = .ok (.iconst 1, 1) := by decide +kernel
theorem dL_isFit_118 : decode cL_isFit 118 = .ok (.invokevirtual 78, 3) := by decide +kernel
theorem dL_isFit_121 : decode cL_isFit 121 = .ok (.if_icmp .ne 22, 3) := by decide +kernel
theorem dL_isFit_124 : decode cL_isFit 124 = .ok (.iload_n 2, 1) := by decide +kernel
theorem dL_isFit_125 : decode cL_isFit 125 = .ok (.aload_n 0, 1) := by decide +kernel
theorem dL_isFit_126 : decode cL_isFit 126 = .ok (.iconst 2, 1) := by decide +kernel
theorem dL_isFit_127 : decode cL_isFit 127 = .ok (.invokevirtual 78, 3) := by decide +kernel
theorem dL_isFit_130 : decode cL_isFit 130 = .ok (.aload_n 0, 1) := by decide +kernel
theorem dL_isFit_131 : decode cL_isFit 131 = .ok (.iconst 3, 1) := by decide +kernel
theorem dL_isFit_132 : decode cL_isFit 132 = .ok (.invokevirtual 78, 3) := by decide +kernel
theorem dL_isFit_135 : decode cL_isFit 135 = .ok (.isub, 1) := by decide +kernel
theorem dL_isFit_136 : decode cL_isFit 136 = .ok (.if_icmp .ne 7, 3) := by decide +kernel
theorem dL_isFit_139 : decode cL_isFit 139 = .ok (.iconst 1, 1) := by decide +kernel
theorem dL_isFit_140 : decode cL_isFit 140 = .ok (.goto 4, 3) := by decide +kernel
theorem dL_isFit_143 : decode cL_isFit 143 = .ok (.iconst 0, 1) := by decide +kernel
theorem dL_isFit_144 : decode cL_isFit 144 = .ok (.ireturn, 1) := by decide +kernel
theorem dL_isPut_0 : decode cL_isPut 0 = .ok (.aload_n 0, 1) := by decide +kernel
theorem dL_isPut_1 : decode cL_isPut 1 = .ok (.invokestatic 163, 3) := by decide +kernel
theorem dL_isPut_4 : decode cL_isPut 4 = .ok (.lstore_n 3, 1) := by decide +kernel
theorem dL_isPut_5 : decode cL_isPut 5 = .ok (.aload_n 0, 1) := by decide +kernel
theorem dL_isPut_6 : decode cL_isPut 6 = .ok (.iload_n 1, 1) := by decide +kernel
theorem dL_isPut_7 : decode cL_isPut 7 = .ok (.iconst 0, 1) := by decide +kernel
theorem dL_isPut_8 : decode cL_isPut 8 = .ok (.invokevirtual 28, 3) := by decide +kernel
theorem dL_isPut_11 : decode cL_isPut 11 = .ok (.istore 5, 2) := by decide +kernel
theorem dL_isPut_13 : decode cL_isPut 13 = .ok (.aload_n 0, 1) := by decide +kernel
theorem dL_isPut_14 : decode cL_isPut 14 = .ok (.iconst 4, 1) := by decide +kernel
theorem dL_isPut_15 : decode cL_isPut 15 = .ok (.invokevirtual 78, 3) := by decide +kernel
theorem dL_isPut_18 : decode cL_isPut 18 = .ok (.istore 6, 2) := by decide +kernel
theorem dL_isPut_20 : decode cL_isPut 20 = .ok (.aload_n 0, 1) := by decide +kernel
theorem dL_isPut_21 : decode cL_isPut 21 = .ok (.bipush 6, 2) := by decide +kernel
theorem dL_isPut_23 : decode cL_isPut 23 = .ok (.invokevirtual 78, 3) := by decide +kernel
theorem dL_isPut_26 : decode cL_isPut 26 = .ok (.istore 7, 2) := by decide +kernel
theorem dL_isPut_28 : decode cL_isPut 28 = .ok (.aload_n 0, 1) := by decide +kernel
theorem dL_isPut_29 : decode cL_isPut 29 = .ok (.iload_n 1, 1) := by decide +kernel
theorem dL_isPut_30 : decode cL_isPut 30 = .ok (.iload_n 2, 1) := by decide +kernel
theorem dL_isPut_31 : decode cL_isPut 31 = .ok (.bipush 7, 2) := by decide +kernel
theorem dL_isPut_33 : decode cL_isPut 33 = .ok (.invokevirtual 24, 3) := by decide +kernel
theorem dL_isPut_36 : decode cL_isPut 36 = .ok (.istore 8, 2) := by decide +kernel
theorem dL_isPut_38 : decode cL_isPut 38 = .ok (.iload 8, 2) := by decide +kernel
theorem dL_isPut_40 : decode cL_isPut 40 = .ok (.ifCond .ge 18, 3) := by decide +kernel
theorem dL_isPut_43 : decode cL_isPut 43 = .ok (.aload_n 0, 1) := by decide +kernel
theorem dL_isPut_44 : decode cL_isPut 44 = .ok (.invokestatic 163, 3) := by decide +kernel
theorem dL_isPut_47 : decode cL_isPut 47 = .ok (.lload_n 3, 1) := by decide +kernel
theorem dL_isPut_48 : decode cL_isPut 48 = .ok (.lcmp, 1) := by decide +kernel
theorem dL_isPut_49 : decode cL_isPut 49 = .ok (.ifCond .ne 7, 3) := by decide +kernel
theorem dL_isPut_52 : decode cL_isPut 52 = .ok (.iconst 1, 1) := by decide +kernel
theorem dL_isPut_53 : decode cL_isPut 53 = .ok (.goto 4, 3) := by decide +kernel
theorem dL_isPut_56 : decode cL_isPut 56 = .ok (.iconst 0, 1) := by decide +kernel
theorem dL_isPut_57 : decode cL_isPut 57 = .ok (.ireturn, 1) := by decide +kernel
theorem dL_isPut_58 : decode cL_isPut 58 = .ok (.aload_n 0, 1) := by decide +kernel
theorem dL_isPut_59 : decode cL_isPut 59 = .ok (.iload_n 1, 1) := by decide +kernel
theorem dL_isPut_60 : decode cL_isPut 60 = .ok (.iconst 0, 1) := by decide +kernel
theorem dL_isPut_61 : decode cL_isPut 61 = .ok (.invokevirtual 28, 3) := by decide +kernel
theorem dL_isPut_64 : decode cL_isPut 64 = .ok (.iload 5, 2) := by decide +kernel
theorem dL_isPut_66 : decode cL_isPut 66 = .ok (.iconst 1, 1) := by decide +kernel
theorem dL_isPut_67 : decode cL_isPut 67 = .ok (.iadd, 1) := by decide +kernel
theorem dL_isPut_68 : decode cL_isPut 68 = .ok (.if_icmp .ne 94, 3) := by decide +kernel
theorem dL_isPut_71 : decode cL_isPut 71 = .ok (.aload_n 0, 1) := by decide +kernel
theorem dL_isPut_72 : decode cL_isPut 72 = .ok (.iload_n 1, 1) := by decide +kernel
theorem dL_isPut_73 : decode cL_isPut 73 = .ok (.iload_n 2, 1) := by decide +kernel
theorem dL_isPut_74 : decode cL_isPut 74 = .ok (.iconst 0, 1) := by decide +kernel
theorem dL_isPut_75 : decode cL_isPut 75 = .ok (.invokevirtual 85, 3) := by decide +kernel
theorem dL_isPut_78 : decode cL_isPut 78 = .ok (.bipush 7, 2) := by decide +kernel
theorem dL_isPut_80 : decode cL_isPut 80 = .ok (.if_icmp .ne 82, 3) := by decide +kernel
theorem dL_isPut_83 : decode cL_isPut 83 = .ok (.aload_n 0, 1) := by decide +kernel
theorem dL_isPut_84 : decode cL_isPut 84 = .ok (.iconst 4, 1) := by decide +kernel
theorem dL_isPut_85 : decode cL_isPut 85 = .ok (.invokevirtual 78, 3) := by decide +kernel
theorem dL_isPut_88 : decode cL_isPut 88 = .ok (.iload 6, 2) := by decide +kernel
theorem dL_isPut_90 : decode cL_isPut 90 = .ok (.iload 8, 2) := by decide +kernel
theorem dL_isPut_92 : decode cL_isPut 92 = .ok (.ifCond .le 7, 3) := by decide +kernel
theorem dL_isPut_95 : decode cL_isPut 95 = .ok (.iconst 1, 1) := by decide +kernel
theorem dL_isPut_96 : decode cL_isPut 96 = .ok (.goto 4, 3) := by decide +kernel
theorem dL_isPut_99 : decode cL_isPut 99 = .ok (.iconst 0, 1) := by decide +kernel
theorem dL_isPut_100 : decode cL_isPut 100 = .ok (.iadd, 1) := by decide +kernel
theorem dL_isPut_101 : decode cL_isPut 101 = .ok (.if_icmp .ne 61, 3) := by decide +kernel
theorem dL_isPut_104 : decode cL_isPut 104 = .ok (.aload_n 0, 1) := by decide +kernel
theorem dL_isPut_105 : decode cL_isPut 105 = .ok (.bipush 6, 2) := by decide +kernel
theorem dL_isPut_107 : decode cL_isPut 107 = .ok (.invokevirtual 78, 3) := by decide +kernel
theorem dL_isPut_110 : decode cL_isPut 110 = .ok (.iload 7, 2) := by decide +kernel
theorem dL_isPut_112 : decode cL_isPut 112 = .ok (.iload 8, 2) := by decide +kernel
theorem dL_isPut_114 : decode cL_isPut 114 = .ok (.iadd, 1) := by decide +kernel
theorem dL_isPut_115 : decode cL_isPut 115 = .ok (.if_icmp .ne 47, 3) := by decide +kernel
theorem dL_isPut_118 : decode cL_isPut 118 = .ok (.iload 8, 2) := by decide +kernel
theorem dL_isPut_120 : decode cL_isPut 120 = .ok (.iload 5, 2) := by decide +kernel
theorem dL_isPut_122 : decode cL_isPut 122 = .ok (.iconst 1, 1) := by decide +kernel
theorem dL_isPut_123 : decode cL_isPut 123 = .ok (.iadd, 1) := by decide +kernel
theorem dL_isPut_124 : decode cL_isPut 124 = .ok (.if_icmp .gt 38, 3) := by decide +kernel
theorem dL_isPut_127 : decode cL_isPut 127 = .ok (.iload 8, 2) := by decide +kernel
theorem dL_isPut_129 : decode cL_isPut 129 = .ok (.ifCond .gt 29, 3) := by decide +kernel
theorem dL_isPut_132 : decode cL_isPut 132 = .ok (.aload_n 0, 1) := by decide +kernel
theorem dL_isPut_133 : decode cL_isPut 133 = .ok (.iload_n 1, 1) := by decide +kernel
theorem dL_isPut_134 : decode cL_isPut 134 = .ok (.iload_n 2, 1) := by decide +kernel
theorem dL_isPut_135 : decode cL_isPut 135 = .ok (.iconst 1, 1) := by decide +kernel
theorem dL_isPut_136 : decode cL_isPut 136 = .ok (.invokevirtual 85, 3) := by decide +kernel
theorem dL_isPut_139 : decode cL_isPut 139 = .ok (.aload_n 0, 1) := by decide +kernel
theorem dL_isPut_140 : decode cL_isPut 140 = .ok (.iload_n 1, 1) := by decide +kernel
theorem dL_isPut_141 : decode cL_isPut 141 = .ok (.iconst 4, 1) := by decide +kernel
theorem dL_isPut_142 : decode cL_isPut 142 = .ok (.invokevirtual 28, 3) := by decide +kernel
theorem dL_isPut_145 : decode cL_isPut 145 = .ok (.if_icmp .le 13, 3) := by decide +kernel
theorem dL_isPut_148 : decode cL_isPut 148 = .ok (.aload_n 0, 1) := by decide +kernel
theorem dL_isPut_149 : decode cL_isPut 149 = .ok (.iload_n 1, 1) := by decide +kernel
theorem dL_isPut_150 : decode cL_isPut 150 = .ok (.bipush 6, 2) := by decide +kernel
theorem dL_isPut_152 : decode cL_isPut 152 = .ok (.invokevirtual 28, 3) := by decide +kernel
theorem dL_isPut_155 : decode cL_isPut 155 = .ok (.ifCond .ne 7, 3) := by decide +kernel
theorem dL_isPut_158 : decode cL_isPut 158 = .ok (.iconst 1, 1) := by decide +kernel
theorem dL_isPut_159 : decode cL_isPut 159 = .ok (.goto 4, 3) := by decide +kernel
theorem dL_isPut_162 : decode cL_isPut 162 = .ok (.iconst 0, 1) := by decide +kernel
theorem dL_isPut_163 : decode cL_isPut 163 = .ok (.istore 9, 2) := by decide +kernel
theorem dL_isPut_165 : decode cL_isPut 165 = .ok (.iload 9, 2) := by decide +kernel
theorem dL_isPut_167 : decode cL_isPut 167 = .ok (.ifCond .eq 23, 3) := by decide +kernel
theorem dL_isPut_170 : decode cL_isPut 170 = .ok (.aload_n 0, 1) := by decide +kernel
theorem dL_isPut_171 : decode cL_isPut 171 = .ok (.invokevirtual 71, 3) := by decide +kernel
theorem dL_isPut_174 : decode cL_isPut 174 = .ok (.ifCond .lt 16, 3) := by decide +kernel
theorem dL_isPut_177 : decode cL_isPut 177 = .ok (.aload_n 0, 1) := by decide +kernel
theorem dL_isPut_178 : decode cL_isPut 178 = .ok (.invokestatic 163, 3) := by decide +kernel
theorem dL_isPut_181 : decode cL_isPut 181 = .ok (.lload_n 3, 1) := by decide +kernel
theorem dL_isPut_182 : decode cL_isPut 182 = .ok (.lcmp, 1) := by decide +kernel
theorem dL_isPut_183 : decode cL_isPut 183 = .ok (.ifCond .ne 7, 3) := by decide +kernel
theorem dL_isPut_186 : decode cL_isPut 186 = .ok (.iconst 1, 1) := by decide +kernel
theorem dL_isPut_187 : decode cL_isPut 187 = .ok (.goto 4, 3) := by decide +kernel
theorem dL_isPut_190 : decode cL_isPut 190 = .ok (.iconst 0, 1) := by decide +kernel
theorem dL_isPut_191 : decode cL_isPut 191 = .ok (.ireturn, 1) := by decide +kernel
theorem dL_law_0 : decode cL_law 0 = .ok (.new 1, 3) := by decide +kernel
theorem dL_law_3 : decode cL_law 3 = .ok (.dup, 1) := by decide +kernel
theorem dL_law_4 : decode cL_law 4 = .ok (.invokespecial 167, 3) := by decide +kernel
theorem dL_law_7 : decode cL_law 7 = .ok (.astore_n 1, 1) := by decide +kernel
theorem dL_law_8 : decode cL_law 8 = .ok (.iconst 0, 1) := by decide +kernel
theorem dL_law_9 : decode cL_law 9 = .ok (.istore_n 2, 1) := by decide +kernel
theorem dL_law_10 : decode cL_law 10 = .ok (.iload_n 2, 1) := by decide +kernel
theorem dL_law_11 : decode cL_law 11 = .ok (.bipush 9, 2) := by decide +kernel
theorem dL_law_13 : decode cL_law 13 = .ok (.if_icmp .ge 47, 3) := by decide +kernel
theorem dL_law_16 : decode cL_law 16 = .ok (.aload_n 1, 1) := by decide +kernel
theorem dL_law_17 : decode cL_law 17 = .ok (.iconst 0, 1) := by decide +kernel
theorem dL_law_18 : decode cL_law 18 = .ok (.bipush 37, 2) := by decide +kernel
theorem dL_law_20 : decode cL_law 20 = .ok (.iload_n 2, 1) := by decide +kernel
theorem dL_law_21 : decode cL_law 21 = .ok (.imul, 1) := by decide +kernel
theorem dL_law_22 : decode cL_law 22 = .ok (.sipush 200, 3) := by decide +kernel
theorem dL_law_25 : decode cL_law 25 = .ok (.irem, 1) := by decide +kernel
theorem dL_law_26 : decode cL_law 26 = .ok (.iconst 1, 1) := by decide +kernel
theorem dL_law_27 : decode cL_law 27 = .ok (.bipush 11, 2) := by decide +kernel
theorem dL_law_29 : decode cL_law 29 = .ok (.iload_n 2, 1) := by decide +kernel
theorem dL_law_30 : decode cL_law 30 = .ok (.imul, 1) := by decide +kernel
theorem dL_law_31 : decode cL_law 31 = .ok (.bipush 99, 2) := by decide +kernel
theorem dL_law_33 : decode cL_law 33 = .ok (.irem, 1) := by decide +kernel
theorem dL_law_34 : decode cL_law 34 = .ok (.iadd, 1) := by decide +kernel
theorem dL_law_35 : decode cL_law 35 = .ok (.invokevirtual 24, 3) := by decide +kernel
theorem dL_law_38 : decode cL_law 38 = .ok (.pop, 1) := by decide +kernel
theorem dL_law_39 : decode cL_law 39 = .ok (.aload_n 1, 1) := by decide +kernel
theorem dL_law_40 : decode cL_law 40 = .ok (.iconst 1, 1) := by decide +kernel
theorem dL_law_41 : decode cL_law 41 = .ok (.sipush 300, 3) := by decide +kernel
theorem dL_law_44 : decode cL_law 44 = .ok (.iconst 5, 1) := by decide +kernel
theorem dL_law_45 : decode cL_law 45 = .ok (.iload_n 2, 1) := by decide +kernel
theorem dL_law_46 : decode cL_law 46 = .ok (.imul, 1) := by decide +kernel
theorem dL_law_47 : decode cL_law 47 = .ok (.iadd, 1) := by decide +kernel
theorem dL_law_48 : decode cL_law 48 = .ok (.bipush 20, 2) := by decide +kernel
theorem dL_law_50 : decode cL_law 50 = .ok (.invokevirtual 24, 3) := by decide +kernel
theorem dL_law_53 : decode cL_law 53 = .ok (.pop, 1) := by decide +kernel
theorem dL_law_54 : decode cL_law 54 = .ok (.iinc 2 1, 3) := by decide +kernel
theorem dL_law_57 : decode cL_law 57 = .ok (.goto (-47), 3) := by decide +kernel
theorem dL_law_60 : decode cL_law 60 = .ok (.aload_n 0, 1) := by decide +kernel
theorem dL_law_61 : decode cL_law 61 = .ok (.arraylength, 1) := by decide +kernel
theorem dL_law_62 : decode cL_law 62 = .ok (.bipush 44, 2) := by decide +kernel
theorem dL_law_64 : decode cL_law 64 = .ok (.if_icmp .ge 8, 3) := by decide +kernel
theorem dL_law_67 : decode cL_law 67 = .ok (.aload_n 0, 1) := by decide +kernel
theorem dL_law_68 : decode cL_law 68 = .ok (.arraylength, 1) := by decide +kernel
theorem dL_law_69 : decode cL_law 69 = .ok (.goto 5, 3) := by decide +kernel
theorem dL_law_72 : decode cL_law 72 = .ok (.bipush 44, 2) := by decide +kernel
theorem dL_law_74 : decode cL_law 74 = .ok (.istore_n 2, 1) := by decide +kernel
theorem dL_law_75 : decode cL_law 75 = .ok (.iconst 0, 1) := by decide +kernel
theorem dL_law_76 : decode cL_law 76 = .ok (.istore_n 3, 1) := by decide +kernel
theorem dL_law_77 : decode cL_law 77 = .ok (.iload_n 3, 1) := by decide +kernel
theorem dL_law_78 : decode cL_law 78 = .ok (.iload_n 2, 1) := by decide +kernel
theorem dL_law_79 : decode cL_law 79 = .ok (.if_icmp .ge 39, 3) := by decide +kernel
theorem dL_law_82 : decode cL_law 82 = .ok (.aload_n 1, 1) := by decide +kernel
theorem dL_law_83 : decode cL_law 83 = .ok (.invokestatic 163, 3) := by decide +kernel
theorem dL_law_86 : decode cL_law 86 = .ok (.lstore 4, 2) := by decide +kernel
theorem dL_law_88 : decode cL_law 88 = .ok (.aload_n 1, 1) := by decide +kernel
theorem dL_law_89 : decode cL_law 89 = .ok (.aload_n 0, 1) := by decide +kernel
theorem dL_law_90 : decode cL_law 90 = .ok (.iload_n 3, 1) := by decide +kernel
theorem dL_law_91 : decode cL_law 91 = .ok (.invokestatic 168, 3) := by decide +kernel
theorem dL_law_94 : decode cL_law 94 = .ok (.invokestatic 172, 3) := by decide +kernel
theorem dL_law_97 : decode cL_law 97 = .ok (.ifCond .ge 15, 3) := by decide +kernel
theorem dL_law_100 : decode cL_law 100 = .ok (.aload_n 1, 1) := by decide +kernel
theorem dL_law_101 : decode cL_law 101 = .ok (.invokestatic 163, 3) := by decide +kernel
theorem dL_law_104 : decode cL_law 104 = .ok (.lload 4, 2) := by decide +kernel
theorem dL_law_106 : decode cL_law 106 = .ok (.lcmp, 1) := by decide +kernel
theorem dL_law_107 : decode cL_law 107 = .ok (.ifCond .eq 5, 3) := by decide +kernel
theorem dL_law_110 : decode cL_law 110 = .ok (.iconst 0, 1) := by decide +kernel
theorem dL_law_111 : decode cL_law 111 = .ok (.ireturn, 1) := by decide +kernel
theorem dL_law_112 : decode cL_law 112 = .ok (.iinc 3 1, 3) := by decide +kernel
theorem dL_law_115 : decode cL_law 115 = .ok (.goto (-38), 3) := by decide +kernel
theorem dL_law_118 : decode cL_law 118 = .ok (.aload_n 1, 1) := by decide +kernel
theorem dL_law_119 : decode cL_law 119 = .ok (.invokestatic 176, 3) := by decide +kernel
theorem dL_law_122 : decode cL_law 122 = .ok (.istore_n 3, 1) := by decide +kernel
theorem dL_law_123 : decode cL_law 123 = .ok (.iconst 0, 1) := by decide +kernel
theorem dL_law_124 : decode cL_law 124 = .ok (.istore 4, 2) := by decide +kernel
theorem dL_law_126 : decode cL_law 126 = .ok (.iload_n 3, 1) := by decide +kernel
theorem dL_law_127 : decode cL_law 127 = .ok (.ifCond .eq 34, 3) := by decide +kernel
theorem dL_law_130 : decode cL_law 130 = .ok (.iload 4, 2) := by decide +kernel
theorem dL_law_132 : decode cL_law 132 = .ok (.bipush 14, 2) := by decide +kernel
theorem dL_law_134 : decode cL_law 134 = .ok (.if_icmp .ge 27, 3) := by decide +kernel
theorem dL_law_137 : decode cL_law 137 = .ok (.aload_n 1, 1) := by decide +kernel
theorem dL_law_138 : decode cL_law 138 = .ok (.iload 4, 2) := by decide +kernel
theorem dL_law_140 : decode cL_law 140 = .ok (.iconst 3, 1) := by decide +kernel
theorem dL_law_141 : decode cL_law 141 = .ok (.irem, 1) := by decide +kernel
theorem dL_law_142 : decode cL_law 142 = .ok (.bipush 71, 2) := by decide +kernel
theorem dL_law_144 : decode cL_law 144 = .ok (.iload 4, 2) := by decide +kernel
theorem dL_law_146 : decode cL_law 146 = .ok (.imul, 1) := by decide +kernel
theorem dL_law_147 : decode cL_law 147 = .ok (.sipush 1000, 3) := by decide +kernel
theorem dL_law_150 : decode cL_law 150 = .ok (.irem, 1) := by decide +kernel
theorem dL_law_151 : decode cL_law 151 = .ok (.invokestatic 179, 3) := by decide +kernel
theorem dL_law_154 : decode cL_law 154 = .ok (.istore_n 3, 1) := by decide +kernel
theorem dL_law_155 : decode cL_law 155 = .ok (.iinc 4 1, 3) := by decide +kernel
theorem dL_law_158 : decode cL_law 158 = .ok (.goto (-32), 3) := by decide +kernel
theorem dL_law_161 : decode cL_law 161 = .ok (.aload_n 1, 1) := by decide +kernel
theorem dL_law_162 : decode cL_law 162 = .ok (.invokevirtual 62, 3) := by decide +kernel
theorem dL_law_165 : decode cL_law 165 = .ok (.pop, 1) := by decide +kernel
theorem dL_law_166 : decode cL_law 166 = .ok (.aload_n 1, 1) := by decide +kernel
theorem dL_law_167 : decode cL_law 167 = .ok (.invokestatic 163, 3) := by decide +kernel
theorem dL_law_170 : decode cL_law 170 = .ok (.lstore 4, 2) := by decide +kernel
theorem dL_law_172 : decode cL_law 172 = .ok (.aload_n 1, 1) := by decide +kernel
theorem dL_law_173 : decode cL_law 173 = .ok (.invokevirtual 65, 3) := by decide +kernel
theorem dL_law_176 : decode cL_law 176 = .ok (.istore 6, 2) := by decide +kernel
theorem dL_law_178 : decode cL_law 178 = .ok (.iconst 0, 1) := by decide +kernel
theorem dL_law_179 : decode cL_law 179 = .ok (.istore 7, 2) := by decide +kernel
theorem dL_law_181 : decode cL_law 181 = .ok (.iload_n 3, 1) := by decide +kernel
theorem dL_law_182 : decode cL_law 182 = .ok (.ifCond .eq 89, 3) := by decide +kernel
theorem dL_law_185 : decode cL_law 185 = .ok (.iload 7, 2) := by decide +kernel
theorem dL_law_187 : decode cL_law 187 = .ok (.getstatic 52, 3) := by decide +kernel
theorem dL_law_190 : decode cL_law 190 = .ok (.arraylength, 1) := by decide +kernel
theorem dL_law_191 : decode cL_law 191 = .ok (.if_icmp .ge 80, 3) := by decide +kernel
theorem dL_law_194 : decode cL_law 194 = .ok (.aload_n 1, 1) := by decide +kernel
theorem dL_law_195 : decode cL_law 195 = .ok (.getstatic 52, 3) := by decide +kernel
theorem dL_law_198 : decode cL_law 198 = .ok (.iload 7, 2) := by decide +kernel
theorem dL_law_200 : decode cL_law 200 = .ok (.aaload, 1) := by decide +kernel
theorem dL_law_201 : decode cL_law 201 = .ok (.invokestatic 58, 3) := by decide +kernel
theorem dL_law_204 : decode cL_law 204 = .ok (.invokevirtual 62, 3) := by decide +kernel
theorem dL_law_207 : decode cL_law 207 = .ok (.istore 8, 2) := by decide +kernel
theorem dL_law_209 : decode cL_law 209 = .ok (.iload 8, 2) := by decide +kernel
theorem dL_law_211 : decode cL_law 211 = .ok (.ifCond .ge 24, 3) := by decide +kernel
theorem dL_law_214 : decode cL_law 214 = .ok (.aload_n 1, 1) := by decide +kernel
theorem dL_law_215 : decode cL_law 215 = .ok (.iconst 0, 1) := by decide +kernel
theorem dL_law_216 : decode cL_law 216 = .ok (.invokevirtual 182, 3) := by decide +kernel
theorem dL_law_219 : decode cL_law 219 = .ok (.bipush 6, 2) := by decide +kernel
theorem dL_law_221 : decode cL_law 221 = .ok (.if_icmp .ne 42, 3) := by decide +kernel
theorem dL_law_224 : decode cL_law 224 = .ok (.aload_n 1, 1) := by decide +kernel
theorem dL_law_225 : decode cL_law 225 = .ok (.iconst 1, 1) := by decide +kernel
theorem dL_law_226 : decode cL_law 226 = .ok (.invokevirtual 182, 3) := by decide +kernel
theorem dL_law_229 : decode cL_law 229 = .ok (.ifCond .lt 34, 3) := by decide +kernel
theorem dL_law_232 : decode cL_law 232 = .ok (.goto 17, 3) := by decide +kernel
theorem dL_law_235 : decode cL_law 235 = .ok (.aload_n 1, 1) := by decide +kernel
theorem dL_law_236 : decode cL_law 236 = .ok (.invokestatic 176, 3) := by decide +kernel
theorem dL_law_239 : decode cL_law 239 = .ok (.ifCond .eq 24, 3) := by decide +kernel
theorem dL_law_242 : decode cL_law 242 = .ok (.aload_n 1, 1) := by decide +kernel
theorem dL_law_243 : decode cL_law 243 = .ok (.invokevirtual 71, 3) := by decide +kernel
theorem dL_law_246 : decode cL_law 246 = .ok (.ifCond .lt 17, 3) := by decide +kernel
theorem dL_law_249 : decode cL_law 249 = .ok (.aload_n 1, 1) := by decide +kernel
theorem dL_law_250 : decode cL_law 250 = .ok (.invokestatic 163, 3) := by decide +kernel
theorem dL_law_253 : decode cL_law 253 = .ok (.lload 4, 2) := by decide +kernel
theorem dL_law_255 : decode cL_law 255 = .ok (.lcmp, 1) := by decide +kernel
theorem dL_law_256 : decode cL_law 256 = .ok (.ifCond .ne 7, 3) := by decide +kernel
theorem dL_law_259 : decode cL_law 259 = .ok (.iconst 1, 1) := by decide +kernel
theorem dL_law_260 : decode cL_law 260 = .ok (.goto 4, 3) := by decide +kernel
theorem dL_law_263 : decode cL_law 263 = .ok (.iconst 0, 1) := by decide +kernel
theorem dL_law_264 : decode cL_law 264 = .ok (.istore_n 3, 1) := by decide +kernel
theorem dL_law_265 : decode cL_law 265 = .ok (.iinc 7 1, 3) := by decide +kernel
theorem dL_law_268 : decode cL_law 268 = .ok (.goto (-87), 3) := by decide +kernel
theorem dL_law_271 : decode cL_law 271 = .ok (.iconst 0, 1) := by decide +kernel
theorem dL_law_272 : decode cL_law 272 = .ok (.istore 7, 2) := by decide +kernel
theorem dL_law_274 : decode cL_law 274 = .ok (.iload_n 3, 1) := by decide +kernel
theorem dL_law_275 : decode cL_law 275 = .ok (.ifCond .eq 112, 3) := by decide +kernel
theorem dL_law_278 : decode cL_law 278 = .ok (.iload 7, 2) := by decide +kernel
theorem dL_law_280 : decode cL_law 280 = .ok (.iconst 4, 1) := by decide +kernel
theorem dL_law_281 : decode cL_law 281 = .ok (.if_icmp .ge 106, 3) := by decide +kernel
theorem dL_law_284 : decode cL_law 284 = .ok (.iconst 0, 1) := by decide +kernel
theorem dL_law_285 : decode cL_law 285 = .ok (.istore 8, 2) := by decide +kernel
theorem dL_law_287 : decode cL_law 287 = .ok (.iload 8, 2) := by decide +kernel
theorem dL_law_289 : decode cL_law 289 = .ok (.iconst 5, 1) := by decide +kernel
theorem dL_law_290 : decode cL_law 290 = .ok (.if_icmp .ge 36, 3) := by decide +kernel
theorem dL_law_293 : decode cL_law 293 = .ok (.aload_n 1, 1) := by decide +kernel
theorem dL_law_294 : decode cL_law 294 = .ok (.iload 7, 2) := by decide +kernel
theorem dL_law_296 : decode cL_law 296 = .ok (.iconst 3, 1) := by decide +kernel
theorem dL_law_297 : decode cL_law 297 = .ok (.irem, 1) := by decide +kernel
theorem dL_law_298 : decode cL_law 298 = .ok (.sipush 700, 3) := by decide +kernel
theorem dL_law_301 : decode cL_law 301 = .ok (.bipush 10, 2) := by decide +kernel
theorem dL_law_303 : decode cL_law 303 = .ok (.iload 7, 2) := by decide +kernel
theorem dL_law_305 : decode cL_law 305 = .ok (.imul, 1) := by decide +kernel
theorem dL_law_306 : decode cL_law 306 = .ok (.iadd, 1) := by decide +kernel
theorem dL_law_307 : decode cL_law 307 = .ok (.iconst 2, 1) := by decide +kernel
theorem dL_law_308 : decode cL_law 308 = .ok (.iload 8, 2) := by decide +kernel
theorem dL_law_310 : decode cL_law 310 = .ok (.imul, 1) := by decide +kernel
theorem dL_law_311 : decode cL_law 311 = .ok (.iadd, 1) := by decide +kernel
theorem dL_law_312 : decode cL_law 312 = .ok (.iconst 3, 1) := by decide +kernel
theorem dL_law_313 : decode cL_law 313 = .ok (.iload 7, 2) := by decide +kernel
theorem dL_law_315 : decode cL_law 315 = .ok (.iadd, 1) := by decide +kernel
theorem dL_law_316 : decode cL_law 316 = .ok (.invokevirtual 24, 3) := by decide +kernel
theorem dL_law_319 : decode cL_law 319 = .ok (.pop, 1) := by decide +kernel
theorem dL_law_320 : decode cL_law 320 = .ok (.iinc 8 1, 3) := by decide +kernel
theorem dL_law_323 : decode cL_law 323 = .ok (.goto (-36), 3) := by decide +kernel
theorem dL_law_326 : decode cL_law 326 = .ok (.aload_n 1, 1) := by decide +kernel
theorem dL_law_327 : decode cL_law 327 = .ok (.iload 7, 2) := by decide +kernel
theorem dL_law_329 : decode cL_law 329 = .ok (.iconst 3, 1) := by decide +kernel
theorem dL_law_330 : decode cL_law 330 = .ok (.irem, 1) := by decide +kernel
theorem dL_law_331 : decode cL_law 331 = .ok (.aload_n 1, 1) := by decide +kernel
theorem dL_law_332 : decode cL_law 332 = .ok (.iload 7, 2) := by decide +kernel
theorem dL_law_334 : decode cL_law 334 = .ok (.iconst 3, 1) := by decide +kernel
theorem dL_law_335 : decode cL_law 335 = .ok (.irem, 1) := by decide +kernel
theorem dL_law_336 : decode cL_law 336 = .ok (.iload 7, 2) := by decide +kernel
theorem dL_law_338 : decode cL_law 338 = .ok (.invokevirtual 37, 3) := by decide +kernel
theorem dL_law_341 : decode cL_law 341 = .ok (.invokevirtual 40, 3) := by decide +kernel
theorem dL_law_344 : decode cL_law 344 = .ok (.pop, 1) := by decide +kernel
theorem dL_law_345 : decode cL_law 345 = .ok (.aload_n 1, 1) := by decide +kernel
theorem dL_law_346 : decode cL_law 346 = .ok (.iload 7, 2) := by decide +kernel
theorem dL_law_348 : decode cL_law 348 = .ok (.iconst 3, 1) := by decide +kernel
theorem dL_law_349 : decode cL_law 349 = .ok (.irem, 1) := by decide +kernel
theorem dL_law_350 : decode cL_law 350 = .ok (.aload_n 1, 1) := by decide +kernel
theorem dL_law_351 : decode cL_law 351 = .ok (.iload 7, 2) := by decide +kernel
theorem dL_law_353 : decode cL_law 353 = .ok (.iconst 3, 1) := by decide +kernel
theorem dL_law_354 : decode cL_law 354 = .ok (.irem, 1) := by decide +kernel
theorem dL_law_355 : decode cL_law 355 = .ok (.iconst 0, 1) := by decide +kernel
theorem dL_law_356 : decode cL_law 356 = .ok (.invokevirtual 37, 3) := by decide +kernel
theorem dL_law_359 : decode cL_law 359 = .ok (.invokevirtual 40, 3) := by decide +kernel
theorem dL_law_362 : decode cL_law 362 = .ok (.pop, 1) := by decide +kernel
theorem dL_law_363 : decode cL_law 363 = .ok (.aload_n 1, 1) := by decide +kernel
theorem dL_law_364 : decode cL_law 364 = .ok (.bipush 56, 2) := by decide +kernel
theorem dL_law_366 : decode cL_law 366 = .ok (.bipush 9, 2) := by decide +kernel
theorem dL_law_368 : decode cL_law 368 = .ok (.iload 7, 2) := by decide +kernel
theorem dL_law_370 : decode cL_law 370 = .ok (.imul, 1) := by decide +kernel
theorem dL_law_371 : decode cL_law 371 = .ok (.iadd, 1) := by decide +kernel
theorem dL_law_372 : decode cL_law 372 = .ok (.invokevirtual 49, 3) := by decide +kernel
theorem dL_law_375 : decode cL_law 375 = .ok (.pop, 1) := by decide +kernel
theorem dL_law_376 : decode cL_law 376 = .ok (.aload_n 1, 1) := by decide +kernel
theorem dL_law_377 : decode cL_law 377 = .ok (.invokestatic 176, 3) := by decide +kernel
theorem dL_law_380 : decode cL_law 380 = .ok (.istore_n 3, 1) := by decide +kernel
theorem dL_law_381 : decode cL_law 381 = .ok (.iinc 7 1, 3) := by decide +kernel
theorem dL_law_384 : decode cL_law 384 = .ok (.goto (-110), 3) := by decide +kernel
theorem dL_law_387 : decode cL_law 387 = .ok (.iload_n 3, 1) := by decide +kernel
theorem dL_law_388 : decode cL_law 388 = .ok (.ifCond .eq 52, 3) := by decide +kernel
theorem dL_law_391 : decode cL_law 391 = .ok (.aload_n 1, 1) := by decide +kernel
theorem dL_law_392 : decode cL_law 392 = .ok (.iconst 0, 1) := by decide +kernel
theorem dL_law_393 : decode cL_law 393 = .ok (.invokevirtual 43, 3) := by decide +kernel
theorem dL_law_396 : decode cL_law 396 = .ok (.bipush (-12), 2) := by decide +kernel
theorem dL_law_398 : decode cL_law 398 = .ok (.if_icmp .eq 42, 3) := by decide +kernel
theorem dL_law_401 : decode cL_law 401 = .ok (.aload_n 1, 1) := by decide +kernel
theorem dL_law_402 : decode cL_law 402 = .ok (.invokestatic 176, 3) := by decide +kernel
theorem dL_law_405 : decode cL_law 405 = .ok (.ifCond .eq 35, 3) := by decide +kernel
theorem dL_law_408 : decode cL_law 408 = .ok (.aload_n 1, 1) := by decide +kernel
theorem dL_law_409 : decode cL_law 409 = .ok (.invokevirtual 68, 3) := by decide +kernel
theorem dL_law_412 : decode cL_law 412 = .ok (.iload 6, 2) := by decide +kernel
theorem dL_law_414 : decode cL_law 414 = .ok (.if_icmp .ne 26, 3) := by decide +kernel
theorem dL_law_417 : decode cL_law 417 = .ok (.aload_n 1, 1) := by decide +kernel
theorem dL_law_418 : decode cL_law 418 = .ok (.invokestatic 163, 3) := by decide +kernel
theorem dL_law_421 : decode cL_law 421 = .ok (.lload 4, 2) := by decide +kernel
theorem dL_law_423 : decode cL_law 423 = .ok (.lcmp, 1) := by decide +kernel
theorem dL_law_424 : decode cL_law 424 = .ok (.ifCond .ne 16, 3) := by decide +kernel
theorem dL_law_427 : decode cL_law 427 = .ok (.aload_n 1, 1) := by decide +kernel
theorem dL_law_428 : decode cL_law 428 = .ok (.invokevirtual 71, 3) := by decide +kernel
theorem dL_law_431 : decode cL_law 431 = .ok (.bipush (-15), 2) := by decide +kernel
theorem dL_law_433 : decode cL_law 433 = .ok (.if_icmp .ne 7, 3) := by decide +kernel
theorem dL_law_436 : decode cL_law 436 = .ok (.iconst 1, 1) := by decide +kernel
theorem dL_law_437 : decode cL_law 437 = .ok (.goto 4, 3) := by decide +kernel
theorem dL_law_440 : decode cL_law 440 = .ok (.iconst 0, 1) := by decide +kernel
theorem dL_law_441 : decode cL_law 441 = .ok (.ireturn, 1) := by decide +kernel
