-- printed by wip/gen: the reference
theorem cl_M_122 : Cond.constantLong "PlainPagesModel" 122 (164843319355) ∈ aW := aW_in 1118 (by decide +kernel) rfl
theorem cl_M_128 : Cond.constantLong "PlainPagesModel" 128 (644641851) ∈ aW := aW_in 1124 (by decide +kernel) rfl
theorem cl_M_130 : Cond.constantLong "PlainPagesModel" 130 (644314171) ∈ aW := aW_in 1125 (by decide +kernel) rfl
theorem cl_M_132 : Cond.constantLong "PlainPagesModel" 132 (42268743398459) ∈ aW := aW_in 1126 (by decide +kernel) rfl
theorem cl_M_134 : Cond.constantLong "PlainPagesModel" 134 (42199940035387) ∈ aW := aW_in 1127 (by decide +kernel) rfl
theorem ok_M_115 : okV "PlainPagesModel" 115 R_M y_M_characterAt b_M_characterAt 8 (some .int) 3 := ⟨aW_in 1105 (by decide +kernel) rfl, aW_in 1107 (by decide +kernel) rfl, aW_in 54 (by decide +kernel) rfl, aW_in 92 (by decide +kernel) rfl, cd_M_characterAt, rfl, by decide +kernel, by decide +kernel, by decide +kernel⟩
theorem ok_M_119 : okS "PlainPagesModel" 119 y_M_isForbidden b_M_isForbidden 1 (some .boolean) 1 := ⟨aW_in 1113 (by decide +kernel) rfl, aW_in 1114 (by decide +kernel) rfl, aW_in 92 (by decide +kernel) rfl, cd_M_isForbidden, by decide +kernel, by decide +kernel, by decide +kernel⟩
theorem ok_M_136 : okS "PlainPagesModel" 136 y_M_hex b_M_hex 1 (some .int) 1 := ⟨aW_in 1128 (by decide +kernel) rfl, aW_in 1129 (by decide +kernel) rfl, aW_in 92 (by decide +kernel) rfl, cd_M_hex, by decide +kernel, by decide +kernel, by decide +kernel⟩
theorem d_M_characterOf_0 : decode b_M_characterOf 0 = .ok (.aload_n 0, 1) := by decide +kernel
theorem d_M_characterOf_1 : decode b_M_characterOf 1 = .ok (.iload_n 1, 1) := by decide +kernel
theorem d_M_characterOf_2 : decode b_M_characterOf 2 = .ok (.invokevirtual 95, 3) := by decide +kernel
theorem d_M_characterOf_5 : decode b_M_characterOf 5 = .ok (.bipush 38, 2) := by decide +kernel
theorem d_M_characterOf_7 : decode b_M_characterOf 7 = .ok (.if_icmp .eq 34, 3) := by decide +kernel
theorem d_M_characterOf_10 : decode b_M_characterOf 10 = .ok (.aload_n 0, 1) := by decide +kernel
theorem d_M_characterOf_11 : decode b_M_characterOf 11 = .ok (.aload_n 0, 1) := by decide +kernel
theorem d_M_characterOf_12 : decode b_M_characterOf 12 = .ok (.getfield 13, 3) := by decide +kernel
theorem d_M_characterOf_15 : decode b_M_characterOf 15 = .ok (.iload_n 1, 1) := by decide +kernel
theorem d_M_characterOf_16 : decode b_M_characterOf 16 = .ok (.aload_n 0, 1) := by decide +kernel
theorem d_M_characterOf_17 : decode b_M_characterOf 17 = .ok (.getfield 92, 3) := by decide +kernel
theorem d_M_characterOf_20 : decode b_M_characterOf 20 = .ok (.invokevirtual 115, 3) := by decide +kernel
theorem d_M_characterOf_23 : decode b_M_characterOf 23 = .ok (.istore_n 2, 1) := by decide +kernel
theorem d_M_characterOf_24 : decode b_M_characterOf 24 = .ok (.iload_n 2, 1) := by decide +kernel
theorem d_M_characterOf_25 : decode b_M_characterOf 25 = .ok (.ifCond .lt 10, 3) := by decide +kernel
theorem d_M_characterOf_28 : decode b_M_characterOf 28 = .ok (.iload_n 2, 1) := by decide +kernel
theorem d_M_characterOf_29 : decode b_M_characterOf 29 = .ok (.invokestatic 119, 3) := by decide +kernel
theorem d_M_characterOf_32 : decode b_M_characterOf 32 = .ok (.ifCond .eq 7, 3) := by decide +kernel
theorem d_M_characterOf_35 : decode b_M_characterOf 35 = .ok (.iconst (-1), 1) := by decide +kernel
theorem d_M_characterOf_36 : decode b_M_characterOf 36 = .ok (.goto 4, 3) := by decide +kernel
theorem d_M_characterOf_39 : decode b_M_characterOf 39 = .ok (.iload_n 2, 1) := by decide +kernel
theorem d_M_characterOf_40 : decode b_M_characterOf 40 = .ok (.ireturn, 1) := by decide +kernel
theorem d_M_characterOf_41 : decode b_M_characterOf 41 = .ok (.aload_n 0, 1) := by decide +kernel
theorem d_M_characterOf_42 : decode b_M_characterOf 42 = .ok (.iload_n 1, 1) := by decide +kernel
theorem d_M_characterOf_43 : decode b_M_characterOf 43 = .ok (.ldc2_w 122, 3) := by decide +kernel
theorem d_M_characterOf_46 : decode b_M_characterOf 46 = .ok (.iconst 5, 1) := by decide +kernel
theorem d_M_characterOf_47 : decode b_M_characterOf 47 = .ok (.invokevirtual 124, 3) := by decide +kernel
theorem d_M_characterOf_50 : decode b_M_characterOf 50 = .ok (.ifCond .eq 8, 3) := by decide +kernel
theorem d_M_characterOf_53 : decode b_M_characterOf 53 = .ok (.bipush 38, 2) := by decide +kernel
theorem d_M_characterOf_55 : decode b_M_characterOf 55 = .ok (.goto 74, 3) := by decide +kernel
theorem d_M_characterOf_58 : decode b_M_characterOf 58 = .ok (.aload_n 0, 1) := by decide +kernel
theorem d_M_characterOf_59 : decode b_M_characterOf 59 = .ok (.iload_n 1, 1) := by decide +kernel
theorem d_M_characterOf_60 : decode b_M_characterOf 60 = .ok (.ldc2_w 128, 3) := by decide +kernel
theorem d_M_characterOf_63 : decode b_M_characterOf 63 = .ok (.iconst 4, 1) := by decide +kernel
theorem d_M_characterOf_64 : decode b_M_characterOf 64 = .ok (.invokevirtual 124, 3) := by decide +kernel
theorem d_M_characterOf_67 : decode b_M_characterOf 67 = .ok (.ifCond .eq 8, 3) := by decide +kernel
theorem d_M_characterOf_70 : decode b_M_characterOf 70 = .ok (.bipush 60, 2) := by decide +kernel
theorem d_M_characterOf_72 : decode b_M_characterOf 72 = .ok (.goto 57, 3) := by decide +kernel
theorem d_M_characterOf_75 : decode b_M_characterOf 75 = .ok (.aload_n 0, 1) := by decide +kernel
theorem d_M_characterOf_76 : decode b_M_characterOf 76 = .ok (.iload_n 1, 1) := by decide +kernel
theorem d_M_characterOf_77 : decode b_M_characterOf 77 = .ok (.ldc2_w 130, 3) := by decide +kernel
theorem d_M_characterOf_80 : decode b_M_characterOf 80 = .ok (.iconst 4, 1) := by decide +kernel
theorem d_M_characterOf_81 : decode b_M_characterOf 81 = .ok (.invokevirtual 124, 3) := by decide +kernel
theorem d_M_characterOf_84 : decode b_M_characterOf 84 = .ok (.ifCond .eq 8, 3) := by decide +kernel
theorem d_M_characterOf_87 : decode b_M_characterOf 87 = .ok (.bipush 62, 2) := by decide +kernel
theorem d_M_characterOf_89 : decode b_M_characterOf 89 = .ok (.goto 40, 3) := by decide +kernel
theorem d_M_characterOf_92 : decode b_M_characterOf 92 = .ok (.aload_n 0, 1) := by decide +kernel
theorem d_M_characterOf_93 : decode b_M_characterOf 93 = .ok (.iload_n 1, 1) := by decide +kernel
theorem d_M_characterOf_94 : decode b_M_characterOf 94 = .ok (.ldc2_w 132, 3) := by decide +kernel
theorem d_M_characterOf_97 : decode b_M_characterOf 97 = .ok (.bipush 6, 2) := by decide +kernel
theorem d_M_characterOf_99 : decode b_M_characterOf 99 = .ok (.invokevirtual 124, 3) := by decide +kernel
theorem d_M_characterOf_102 : decode b_M_characterOf 102 = .ok (.ifCond .eq 8, 3) := by decide +kernel
theorem d_M_characterOf_105 : decode b_M_characterOf 105 = .ok (.bipush 34, 2) := by decide +kernel
theorem d_M_characterOf_107 : decode b_M_characterOf 107 = .ok (.goto 22, 3) := by decide +kernel
theorem d_M_characterOf_110 : decode b_M_characterOf 110 = .ok (.aload_n 0, 1) := by decide +kernel
theorem d_M_characterOf_111 : decode b_M_characterOf 111 = .ok (.iload_n 1, 1) := by decide +kernel
theorem d_M_characterOf_112 : decode b_M_characterOf 112 = .ok (.ldc2_w 134, 3) := by decide +kernel
theorem d_M_characterOf_115 : decode b_M_characterOf 115 = .ok (.bipush 6, 2) := by decide +kernel
theorem d_M_characterOf_117 : decode b_M_characterOf 117 = .ok (.invokevirtual 124, 3) := by decide +kernel
theorem d_M_characterOf_120 : decode b_M_characterOf 120 = .ok (.ifCond .eq 8, 3) := by decide +kernel
theorem d_M_characterOf_123 : decode b_M_characterOf 123 = .ok (.bipush 39, 2) := by decide +kernel
theorem d_M_characterOf_125 : decode b_M_characterOf 125 = .ok (.goto 4, 3) := by decide +kernel
theorem d_M_characterOf_128 : decode b_M_characterOf 128 = .ok (.iconst (-1), 1) := by decide +kernel
theorem d_M_characterOf_129 : decode b_M_characterOf 129 = .ok (.istore_n 2, 1) := by decide +kernel
theorem d_M_characterOf_130 : decode b_M_characterOf 130 = .ok (.iload_n 1, 1) := by decide +kernel
theorem d_M_characterOf_131 : decode b_M_characterOf 131 = .ok (.iconst 1, 1) := by decide +kernel
theorem d_M_characterOf_132 : decode b_M_characterOf 132 = .ok (.iadd, 1) := by decide +kernel
theorem d_M_characterOf_133 : decode b_M_characterOf 133 = .ok (.istore_n 3, 1) := by decide +kernel
theorem d_M_characterOf_134 : decode b_M_characterOf 134 = .ok (.iload_n 2, 1) := by decide +kernel
theorem d_M_characterOf_135 : decode b_M_characterOf 135 = .ok (.ifCond .lt 30, 3) := by decide +kernel
theorem d_M_characterOf_138 : decode b_M_characterOf 138 = .ok (.aload_n 0, 1) := by decide +kernel
theorem d_M_characterOf_139 : decode b_M_characterOf 139 = .ok (.iload_n 3, 1) := by decide +kernel
theorem d_M_characterOf_140 : decode b_M_characterOf 140 = .ok (.invokevirtual 95, 3) := by decide +kernel
theorem d_M_characterOf_143 : decode b_M_characterOf 143 = .ok (.bipush 59, 2) := by decide +kernel
theorem d_M_characterOf_145 : decode b_M_characterOf 145 = .ok (.if_icmp .eq 9, 3) := by decide +kernel
theorem d_M_characterOf_148 : decode b_M_characterOf 148 = .ok (.iinc 3 1, 3) := by decide +kernel
theorem d_M_characterOf_151 : decode b_M_characterOf 151 = .ok (.goto (-13), 3) := by decide +kernel
theorem d_M_characterOf_154 : decode b_M_characterOf 154 = .ok (.aload_n 0, 1) := by decide +kernel
theorem d_M_characterOf_155 : decode b_M_characterOf 155 = .ok (.iload_n 3, 1) := by decide +kernel
theorem d_M_characterOf_156 : decode b_M_characterOf 156 = .ok (.iconst 1, 1) := by decide +kernel
theorem d_M_characterOf_157 : decode b_M_characterOf 157 = .ok (.iadd, 1) := by decide +kernel
theorem d_M_characterOf_158 : decode b_M_characterOf 158 = .ok (.iload_n 1, 1) := by decide +kernel
theorem d_M_characterOf_159 : decode b_M_characterOf 159 = .ok (.isub, 1) := by decide +kernel
theorem d_M_characterOf_160 : decode b_M_characterOf 160 = .ok (.putfield 76, 3) := by decide +kernel
theorem d_M_characterOf_163 : decode b_M_characterOf 163 = .ok (.iload_n 2, 1) := by decide +kernel
theorem d_M_characterOf_164 : decode b_M_characterOf 164 = .ok (.ireturn, 1) := by decide +kernel
theorem d_M_characterOf_165 : decode b_M_characterOf 165 = .ok (.aload_n 0, 1) := by decide +kernel
theorem d_M_characterOf_166 : decode b_M_characterOf 166 = .ok (.iload_n 3, 1) := by decide +kernel
theorem d_M_characterOf_167 : decode b_M_characterOf 167 = .ok (.invokevirtual 95, 3) := by decide +kernel
theorem d_M_characterOf_170 : decode b_M_characterOf 170 = .ok (.bipush 35, 2) := by decide +kernel
theorem d_M_characterOf_172 : decode b_M_characterOf 172 = .ok (.if_icmp .eq 5, 3) := by decide +kernel
theorem d_M_characterOf_175 : decode b_M_characterOf 175 = .ok (.iconst (-1), 1) := by decide +kernel
theorem d_M_characterOf_176 : decode b_M_characterOf 176 = .ok (.ireturn, 1) := by decide +kernel
theorem d_M_characterOf_177 : decode b_M_characterOf 177 = .ok (.aload_n 0, 1) := by decide +kernel
theorem d_M_characterOf_178 : decode b_M_characterOf 178 = .ok (.iload_n 3, 1) := by decide +kernel
theorem d_M_characterOf_179 : decode b_M_characterOf 179 = .ok (.iconst 1, 1) := by decide +kernel
theorem d_M_characterOf_180 : decode b_M_characterOf 180 = .ok (.iadd, 1) := by decide +kernel
theorem d_M_characterOf_181 : decode b_M_characterOf 181 = .ok (.invokevirtual 95, 3) := by decide +kernel
theorem d_M_characterOf_184 : decode b_M_characterOf 184 = .ok (.bipush 120, 2) := by decide +kernel
theorem d_M_characterOf_186 : decode b_M_characterOf 186 = .ok (.if_icmp .eq 15, 3) := by decide +kernel
theorem d_M_characterOf_189 : decode b_M_characterOf 189 = .ok (.aload_n 0, 1) := by decide +kernel
theorem d_M_characterOf_190 : decode b_M_characterOf 190 = .ok (.iload_n 3, 1) := by decide +kernel
theorem d_M_characterOf_191 : decode b_M_characterOf 191 = .ok (.iconst 1, 1) := by decide +kernel
theorem d_M_characterOf_192 : decode b_M_characterOf 192 = .ok (.iadd, 1) := by decide +kernel
theorem d_M_characterOf_193 : decode b_M_characterOf 193 = .ok (.invokevirtual 95, 3) := by decide +kernel
theorem d_M_characterOf_196 : decode b_M_characterOf 196 = .ok (.bipush 88, 2) := by decide +kernel
theorem d_M_characterOf_198 : decode b_M_characterOf 198 = .ok (.if_icmp .ne 7, 3) := by decide +kernel
theorem d_M_characterOf_201 : decode b_M_characterOf 201 = .ok (.iconst 1, 1) := by decide +kernel
theorem d_M_characterOf_202 : decode b_M_characterOf 202 = .ok (.goto 4, 3) := by decide +kernel
theorem d_M_characterOf_205 : decode b_M_characterOf 205 = .ok (.iconst 0, 1) := by decide +kernel
theorem d_M_characterOf_206 : decode b_M_characterOf 206 = .ok (.istore 4, 2) := by decide +kernel
theorem d_M_characterOf_208 : decode b_M_characterOf 208 = .ok (.iload_n 3, 1) := by decide +kernel
theorem d_M_characterOf_209 : decode b_M_characterOf 209 = .ok (.iload 4, 2) := by decide +kernel
theorem d_M_characterOf_211 : decode b_M_characterOf 211 = .ok (.ifCond .eq 7, 3) := by decide +kernel
theorem d_M_characterOf_214 : decode b_M_characterOf 214 = .ok (.iconst 2, 1) := by decide +kernel
theorem d_M_characterOf_215 : decode b_M_characterOf 215 = .ok (.goto 4, 3) := by decide +kernel
theorem d_M_characterOf_218 : decode b_M_characterOf 218 = .ok (.iconst 1, 1) := by decide +kernel
theorem d_M_characterOf_219 : decode b_M_characterOf 219 = .ok (.iadd, 1) := by decide +kernel
theorem d_M_characterOf_220 : decode b_M_characterOf 220 = .ok (.istore_n 3, 1) := by decide +kernel
theorem d_M_characterOf_221 : decode b_M_characterOf 221 = .ok (.iload_n 3, 1) := by decide +kernel
theorem d_M_characterOf_222 : decode b_M_characterOf 222 = .ok (.istore 5, 2) := by decide +kernel
theorem d_M_characterOf_224 : decode b_M_characterOf 224 = .ok (.iconst 0, 1) := by decide +kernel
theorem d_M_characterOf_225 : decode b_M_characterOf 225 = .ok (.istore 6, 2) := by decide +kernel
theorem d_M_characterOf_227 : decode b_M_characterOf 227 = .ok (.iload_n 3, 1) := by decide +kernel
theorem d_M_characterOf_228 : decode b_M_characterOf 228 = .ok (.iload 5, 2) := by decide +kernel
theorem d_M_characterOf_230 : decode b_M_characterOf 230 = .ok (.isub, 1) := by decide +kernel
theorem d_M_characterOf_231 : decode b_M_characterOf 231 = .ok (.bipush 7, 2) := by decide +kernel
theorem d_M_characterOf_233 : decode b_M_characterOf 233 = .ok (.if_icmp .ge 65, 3) := by decide +kernel
theorem d_M_characterOf_236 : decode b_M_characterOf 236 = .ok (.iload 4, 2) := by decide +kernel
theorem d_M_characterOf_238 : decode b_M_characterOf 238 = .ok (.ifCond .eq 17, 3) := by decide +kernel
theorem d_M_characterOf_241 : decode b_M_characterOf 241 = .ok (.aload_n 0, 1) := by decide +kernel
theorem d_M_characterOf_242 : decode b_M_characterOf 242 = .ok (.iload_n 3, 1) := by decide +kernel
theorem d_M_characterOf_243 : decode b_M_characterOf 243 = .ok (.invokevirtual 95, 3) := by decide +kernel
theorem d_M_characterOf_246 : decode b_M_characterOf 246 = .ok (.invokestatic 136, 3) := by decide +kernel
theorem d_M_characterOf_249 : decode b_M_characterOf 249 = .ok (.ifCond .lt 49, 3) := by decide +kernel
theorem d_M_characterOf_252 : decode b_M_characterOf 252 = .ok (.goto 14, 3) := by decide +kernel
theorem d_M_characterOf_255 : decode b_M_characterOf 255 = .ok (.aload_n 0, 1) := by decide +kernel
theorem d_M_characterOf_256 : decode b_M_characterOf 256 = .ok (.iload_n 3, 1) := by decide +kernel
theorem d_M_characterOf_257 : decode b_M_characterOf 257 = .ok (.invokevirtual 95, 3) := by decide +kernel
theorem d_M_characterOf_260 : decode b_M_characterOf 260 = .ok (.invokestatic 85, 3) := by decide +kernel
theorem d_M_characterOf_263 : decode b_M_characterOf 263 = .ok (.ifCond .eq 35, 3) := by decide +kernel
theorem d_M_characterOf_266 : decode b_M_characterOf 266 = .ok (.iload 4, 2) := by decide +kernel
theorem d_M_characterOf_268 : decode b_M_characterOf 268 = .ok (.ifCond .eq 8, 3) := by decide +kernel
theorem d_M_characterOf_271 : decode b_M_characterOf 271 = .ok (.bipush 16, 2) := by decide +kernel
theorem d_M_characterOf_273 : decode b_M_characterOf 273 = .ok (.goto 5, 3) := by decide +kernel
theorem d_M_characterOf_276 : decode b_M_characterOf 276 = .ok (.bipush 10, 2) := by decide +kernel
theorem d_M_characterOf_278 : decode b_M_characterOf 278 = .ok (.iload 6, 2) := by decide +kernel
theorem d_M_characterOf_280 : decode b_M_characterOf 280 = .ok (.imul, 1) := by decide +kernel
theorem d_M_characterOf_281 : decode b_M_characterOf 281 = .ok (.aload_n 0, 1) := by decide +kernel
theorem d_M_characterOf_282 : decode b_M_characterOf 282 = .ok (.iload_n 3, 1) := by decide +kernel
theorem d_M_characterOf_283 : decode b_M_characterOf 283 = .ok (.invokevirtual 95, 3) := by decide +kernel
theorem d_M_characterOf_286 : decode b_M_characterOf 286 = .ok (.invokestatic 136, 3) := by decide +kernel
theorem d_M_characterOf_289 : decode b_M_characterOf 289 = .ok (.iadd, 1) := by decide +kernel
theorem d_M_characterOf_290 : decode b_M_characterOf 290 = .ok (.istore 6, 2) := by decide +kernel
theorem d_M_characterOf_292 : decode b_M_characterOf 292 = .ok (.iinc 3 1, 3) := by decide +kernel
theorem d_M_characterOf_295 : decode b_M_characterOf 295 = .ok (.goto (-68), 3) := by decide +kernel
theorem d_M_characterOf_298 : decode b_M_characterOf 298 = .ok (.iload_n 3, 1) := by decide +kernel
theorem d_M_characterOf_299 : decode b_M_characterOf 299 = .ok (.iload 5, 2) := by decide +kernel
theorem d_M_characterOf_301 : decode b_M_characterOf 301 = .ok (.if_icmp .eq 27, 3) := by decide +kernel
theorem d_M_characterOf_304 : decode b_M_characterOf 304 = .ok (.iload 4, 2) := by decide +kernel
theorem d_M_characterOf_306 : decode b_M_characterOf 306 = .ok (.ifCond .eq 12, 3) := by decide +kernel
theorem d_M_characterOf_309 : decode b_M_characterOf 309 = .ok (.iload_n 3, 1) := by decide +kernel
theorem d_M_characterOf_310 : decode b_M_characterOf 310 = .ok (.iload 5, 2) := by decide +kernel
theorem d_M_characterOf_312 : decode b_M_characterOf 312 = .ok (.isub, 1) := by decide +kernel
theorem d_M_characterOf_313 : decode b_M_characterOf 313 = .ok (.bipush 6, 2) := by decide +kernel
theorem d_M_characterOf_315 : decode b_M_characterOf 315 = .ok (.if_icmp .gt 13, 3) := by decide +kernel
theorem d_M_characterOf_318 : decode b_M_characterOf 318 = .ok (.aload_n 0, 1) := by decide +kernel
theorem d_M_characterOf_319 : decode b_M_characterOf 319 = .ok (.iload_n 3, 1) := by decide +kernel
theorem d_M_characterOf_320 : decode b_M_characterOf 320 = .ok (.invokevirtual 95, 3) := by decide +kernel
theorem d_M_characterOf_323 : decode b_M_characterOf 323 = .ok (.bipush 59, 2) := by decide +kernel
theorem d_M_characterOf_325 : decode b_M_characterOf 325 = .ok (.if_icmp .eq 5, 3) := by decide +kernel
theorem d_M_characterOf_328 : decode b_M_characterOf 328 = .ok (.iconst (-1), 1) := by decide +kernel
theorem d_M_characterOf_329 : decode b_M_characterOf 329 = .ok (.ireturn, 1) := by decide +kernel
theorem d_M_characterOf_330 : decode b_M_characterOf 330 = .ok (.aload_n 0, 1) := by decide +kernel
theorem d_M_characterOf_331 : decode b_M_characterOf 331 = .ok (.iload_n 3, 1) := by decide +kernel
theorem d_M_characterOf_332 : decode b_M_characterOf 332 = .ok (.iconst 1, 1) := by decide +kernel
theorem d_M_characterOf_333 : decode b_M_characterOf 333 = .ok (.iadd, 1) := by decide +kernel
theorem d_M_characterOf_334 : decode b_M_characterOf 334 = .ok (.iload_n 1, 1) := by decide +kernel
theorem d_M_characterOf_335 : decode b_M_characterOf 335 = .ok (.isub, 1) := by decide +kernel
theorem d_M_characterOf_336 : decode b_M_characterOf 336 = .ok (.putfield 76, 3) := by decide +kernel
theorem d_M_characterOf_339 : decode b_M_characterOf 339 = .ok (.iload 6, 2) := by decide +kernel
theorem d_M_characterOf_341 : decode b_M_characterOf 341 = .ok (.ifCond .eq 32, 3) := by decide +kernel
theorem d_M_characterOf_344 : decode b_M_characterOf 344 = .ok (.iload 6, 2) := by decide +kernel
theorem d_M_characterOf_346 : decode b_M_characterOf 346 = .ok (.ldc 80, 2) := by decide +kernel
theorem d_M_characterOf_348 : decode b_M_characterOf 348 = .ok (.if_icmp .gt 25, 3) := by decide +kernel
theorem d_M_characterOf_351 : decode b_M_characterOf 351 = .ok (.iload 6, 2) := by decide +kernel
theorem d_M_characterOf_353 : decode b_M_characterOf 353 = .ok (.ldc 81, 2) := by decide +kernel
theorem d_M_characterOf_355 : decode b_M_characterOf 355 = .ok (.if_icmp .lt 10, 3) := by decide +kernel
theorem d_M_characterOf_358 : decode b_M_characterOf 358 = .ok (.iload 6, 2) := by decide +kernel
theorem d_M_characterOf_360 : decode b_M_characterOf 360 = .ok (.ldc 82, 2) := by decide +kernel
theorem d_M_characterOf_362 : decode b_M_characterOf 362 = .ok (.if_icmp .le 11, 3) := by decide +kernel
theorem d_M_characterOf_365 : decode b_M_characterOf 365 = .ok (.iload 6, 2) := by decide +kernel
theorem d_M_characterOf_367 : decode b_M_characterOf 367 = .ok (.invokestatic 119, 3) := by decide +kernel
theorem d_M_characterOf_370 : decode b_M_characterOf 370 = .ok (.ifCond .eq 7, 3) := by decide +kernel
theorem d_M_characterOf_373 : decode b_M_characterOf 373 = .ok (.iconst (-1), 1) := by decide +kernel
theorem d_M_characterOf_374 : decode b_M_characterOf 374 = .ok (.goto 5, 3) := by decide +kernel
theorem d_M_characterOf_377 : decode b_M_characterOf 377 = .ok (.iload 6, 2) := by decide +kernel
theorem d_M_characterOf_379 : decode b_M_characterOf 379 = .ok (.ireturn, 1) := by decide +kernel
def w_M_characterOf_J373   (post : Int32 → MPS → Prop) (σ : MPS) : Prop := post (-1) σ
def w_M_characterOf_J365   (post : Int32 → MPS → Prop) (v6 : Int32) (σ : MPS) : Prop := (((b2i (cFb v6)) = 0 → post v6 σ) ∧ (¬ (b2i (cFb v6)) = 0 → w_M_characterOf_J373 post σ))
def w_M_characterOf_J318   (post : Int32 → MPS → Prop) (v1 : Int32) (v3 : Int32) (v6 : Int32) (σ : MPS) : Prop := (mXk σ v3 ∧ (((mX σ v3) = 59 → (∀ σ336 : MPS, σ336 = ms_width σ ((v3 + 1) - v1) → ((v6 = 0 → w_M_characterOf_J373 post σ336) ∧ (¬ v6 = 0 → ((1114111 < v6 → w_M_characterOf_J373 post σ336) ∧ (¬ 1114111 < v6 → ((v6 < 55296 → w_M_characterOf_J365 post v6 σ336) ∧ (¬ v6 < 55296 → ((v6 ≤ 57343 → w_M_characterOf_J373 post σ336) ∧ (¬ v6 ≤ 57343 → w_M_characterOf_J365 post v6 σ336)))))))))) ∧ (¬ (mX σ v3) = 59 → post (-1) σ)))
def w_M_characterOf_J298   (post : Int32 → MPS → Prop) (v1 : Int32) (v3 : Int32) (v4 : Int32) (v5 : Int32) (v6 : Int32) (σ : MPS) : Prop := ((v3 = v5 → post (-1) σ) ∧ (¬ v3 = v5 → ((v4 = 0 → w_M_characterOf_J318 post v1 v3 v6 σ) ∧ (¬ v4 = 0 → ((6 < (v3 - v5) → post (-1) σ) ∧ (¬ 6 < (v3 - v5) → w_M_characterOf_J318 post v1 v3 v6 σ))))))
def w_M_characterOf_J278  (v1 : Int32) (v4 : Int32) (v5 : Int32) (K227 : Int32 → Int32 → MPS → Prop) (post : Int32 → MPS → Prop) (v3 : Int32) (v6 : Int32) (t0 : Int32) (σ : MPS) : Prop := (mXk σ v3 ∧ K227 (v3 + 1) ((t0 * v6) + (cHx (mX σ v3))) σ)
def w_M_characterOf_J266  (v1 : Int32) (v4 : Int32) (v5 : Int32) (K227 : Int32 → Int32 → MPS → Prop) (post : Int32 → MPS → Prop) (v3 : Int32) (v6 : Int32) (σ : MPS) : Prop := ((v4 = 0 → w_M_characterOf_J278 v1 v4 v5 (K227) post v3 v6 10 σ) ∧ (¬ v4 = 0 → w_M_characterOf_J278 v1 v4 v5 (K227) post v3 v6 16 σ))
def w_M_characterOf_L227  (v1 : Int32) (v4 : Int32) (v5 : Int32) (post : Int32 → MPS → Prop) : Nat → Int32 → Int32 → MPS → Prop
  | 0, _, _, _ => False
  | n227 + 1, v3, v6, σ => ((7 ≤ (v3 - v5) → w_M_characterOf_J298 post v1 v3 v4 v5 v6 σ) ∧ (¬ 7 ≤ (v3 - v5) → ((v4 = 0 → (mXk σ v3 ∧ (((b2i (cDg (mX σ v3))) = 0 → w_M_characterOf_J298 post v1 v3 v4 v5 v6 σ) ∧ (¬ (b2i (cDg (mX σ v3))) = 0 → w_M_characterOf_J266 v1 v4 v5 (w_M_characterOf_L227 v1 v4 v5 post n227) post v3 v6 σ)))) ∧ (¬ v4 = 0 → (mXk σ v3 ∧ (((cHx (mX σ v3)) < 0 → w_M_characterOf_J298 post v1 v3 v4 v5 v6 σ) ∧ (¬ (cHx (mX σ v3)) < 0 → w_M_characterOf_J266 v1 v4 v5 (w_M_characterOf_L227 v1 v4 v5 post n227) post v3 v6 σ)))))))
def w_M_characterOf_J219   (post : Int32 → MPS → Prop) (v1 : Int32) (v4 : Int32) (t0 : Int32) (t1 : Int32) (σ : MPS) : Prop := (∃ n227, w_M_characterOf_L227 v1 v4 (t1 + t0) post n227 (t1 + t0) 0 σ)
def w_M_characterOf_J206   (post : Int32 → MPS → Prop) (v1 : Int32) (v3 : Int32) (t0 : Int32) (σ : MPS) : Prop := ((t0 = 0 → w_M_characterOf_J219 post v1 t0 1 v3 σ) ∧ (¬ t0 = 0 → w_M_characterOf_J219 post v1 t0 2 v3 σ))
def w_M_characterOf_J201   (post : Int32 → MPS → Prop) (v1 : Int32) (v3 : Int32) (σ : MPS) : Prop := w_M_characterOf_J206 post v1 v3 1 σ
def w_M_characterOf_L138  (v1 : Int32) (v2 : Int32) (post : Int32 → MPS → Prop) : Nat → Int32 → MPS → Prop
  | 0, _, _ => False
  | n138 + 1, v3, σ => (mXk σ v3 ∧ (((mX σ v3) = 59 → (∀ σ160 : MPS, σ160 = ms_width σ ((v3 + 1) - v1) → post v2 σ160)) ∧ (¬ (mX σ v3) = 59 → w_M_characterOf_L138 v1 v2 post n138 (v3 + 1) σ)))
def w_M_characterOf_J129   (post : Int32 → MPS → Prop) (v1 : Int32) (t0 : Int32) (σ : MPS) : Prop := ((t0 < 0 → (mXk σ (v1 + 1) ∧ (((mX σ (v1 + 1)) = 35 → (mXk σ ((v1 + 1) + 1) ∧ (((mX σ ((v1 + 1) + 1)) = 120 → w_M_characterOf_J201 post v1 (v1 + 1) σ) ∧ (¬ (mX σ ((v1 + 1) + 1)) = 120 → (mXk σ ((v1 + 1) + 1) ∧ (((mX σ ((v1 + 1) + 1)) = 88 → w_M_characterOf_J201 post v1 (v1 + 1) σ) ∧ (¬ (mX σ ((v1 + 1) + 1)) = 88 → w_M_characterOf_J206 post v1 (v1 + 1) 0 σ))))))) ∧ (¬ (mX σ (v1 + 1)) = 35 → post (-1) σ)))) ∧ (¬ t0 < 0 → (∃ n138, w_M_characterOf_L138 v1 t0 post n138 (v1 + 1) σ)))
def w_M_characterOf_J35   (post : Int32 → MPS → Prop) (σ : MPS) : Prop := post (-1) σ
def w_M_characterOf  (σ : MPS) (x0 : Int32) (post : Int32 → MPS → Prop) : Prop := (mXk σ x0 ∧ (((mX σ x0) = 38 → w_M_says σ x0 164843319355 5 (fun r47 => ((r47 = 0 → w_M_says σ x0 644641851 4 (fun r64 => ((r64 = 0 → w_M_says σ x0 644314171 4 (fun r81 => ((r81 = 0 → w_M_says σ x0 42268743398459 6 (fun r99 => ((r99 = 0 → w_M_says σ x0 42199940035387 6 (fun r117 => ((r117 = 0 → w_M_characterOf_J129 post x0 (-1) σ) ∧ (¬ r117 = 0 → w_M_characterOf_J129 post x0 39 σ)))) ∧ (¬ r99 = 0 → w_M_characterOf_J129 post x0 34 σ)))) ∧ (¬ r81 = 0 → w_M_characterOf_J129 post x0 62 σ)))) ∧ (¬ r64 = 0 → w_M_characterOf_J129 post x0 60 σ)))) ∧ (¬ r47 = 0 → w_M_characterOf_J129 post x0 38 σ)))) ∧ (¬ (mX σ x0) = 38 → w_M_characterAt σ x0 (mp_size σ) (fun r20 σ20 => ((r20 < 0 → w_M_characterOf_J35 post σ20) ∧ (¬ r20 < 0 → (((b2i (cFb r20)) = 0 → post r20 σ20) ∧ (¬ (b2i (cFb r20)) = 0 → w_M_characterOf_J35 post σ20))))))))
set_option maxHeartbeats 4000000 in
set_option maxRecDepth 100000 in
theorem c_M_characterOf (l : Launch) (md : MD) (sz : Nat) (σ : MPS) (x0 : Int32)  (post : Int32 → MPS → Prop) (hE : w_M_characterOf σ x0 post) : Met l y_M_characterOf ws_M_characterOf { frames := 2, cells := 0, slots := 0, locals := 47 } (va_Pc [.ref (mA md 0), .int x0] (gM md σ sz)) (va_Qi post (eM md (va_A (MW md σ) sz)) (va_A (MW md σ) sz)) 0 0 (va_A (MW md σ) sz) := by
  refine Met.ofW (cc := b_M_characterOf) (maxL := 7) (ret := (some .int)) (by decide) rfl ?_
  intro p e s m args below meth c s₁ B hml hv
  obtain ⟨rfl, hsz, hP, hK, hD0⟩ := hv
  have hx := B.exec
  have hb := B.bytes
  have hr := B.returns
  have hta : ∀ w ∈ aW, w.before _ s = true := fun w h => atoms_spec (ws := ws_M_characterOf) B.pre w (List.mem_cons_of_mem _ h)
  have hown : s.vm.findClass R_M = some m.cls := findClass_of_methodNamed B.named
  have hlocks := B.notSynchronized
  subst hsz
  have hD := hD0.self (sz := s.heap.size)
  generalize hAe : va_A (MW md σ) s.heap.size = A at hD ⊢
  have hA : ∀ q : Nat, s.heap.size ≤ q → A q := fun q h => by rw [← hAe]; exact Or.inr h
  have hS : va_S A s.heap s.heap [] := va_S.rf
  have hP : va_P (mG md) classes (MW md σ) s.heap := hP
  have hl := lv_entry ([.ref (mA md 0), .int x0]) (n := 7) (Nat.le_of_ble_eq_true rfl)
  rw [lg_entry_eq]
  generalize (lg_sl ([.ref (mA md 0), .int x0]) ++ List.replicate (7 - (lg_sl ([.ref (mA md 0), .int x0])).length) Slot.unset).toArray = ls at hl ⊢
  have hl : lv_has ls 7 [(0, .ref (mA md 0)), (1, .int x0)] := hl
  have J373 : ∀ (σ : MPS) (H : Heap) (locs : List Loc) (hP : va_P (mG md) classes (MW md σ) H) (hD : va_D A (MW md σ)) (hS : va_S A s.heap H locs) (ls : Array Slot) (hl : lv_has ls 7 []) (hE : w_M_characterOf_J373 post σ), W p l e (headSpec ws_M_characterOf { frames := 2, cells := 0, slots := 0, locals := 47 }).room s m ([.ref (mA md 0), .int x0] : List Value).toArray below meth c H locs 0 0 (MQ below (va_Qi post (eM md A) A) ([.ref (mA md 0), .int x0] : List Value).toArray s 0 0 A) (F0 m 373 ls []) := by
    intro  σ H locs hP hD hS ls hl hE
    unfold w_M_characterOf_J373 at hE
    refine lv_iconst (v := -1) hx hb d_M_characterOf_373 (by decide) ?_
    refine lv_goto (tgt := 379) hx hb d_M_characterOf_374 (by decide) ?_
    exact W.iret (v := (-1)) hx hb hr (fun t ht hW => ⟨⟨_, σ, rfl, hE, by rw [ht]; exact hP, va_K.moved hW.alike hK, hD⟩, hS.F ht⟩) hS.2.2 d_M_characterOf_379
  have J365 : ∀ (v6 : Int32) (σ : MPS) (H : Heap) (locs : List Loc) (hP : va_P (mG md) classes (MW md σ) H) (hD : va_D A (MW md σ)) (hS : va_S A s.heap H locs) (ls : Array Slot) (hl : lv_has ls 7 [(6, .int v6)]) (hE : w_M_characterOf_J365 post v6 σ), W p l e (headSpec ws_M_characterOf { frames := 2, cells := 0, slots := 0, locals := 47 }).room s m ([.ref (mA md 0), .int x0] : List Value).toArray below meth c H locs 0 0 (MQ below (va_Qi post (eM md A) A) ([.ref (mA md 0), .int x0] : List Value).toArray s 0 0 A) (F0 m 365 ls []) := by
    intro  v6 σ H locs hP hD hS ls hl hE
    unfold w_M_characterOf_J365 at hE
    refine lv_iload hx hb d_M_characterOf_365 (lv_at hl 0 rfl) ?_
    refine ro_S  (As := [.int v6]) (rest := []) ⟨hx, hb, hml, hown, hta⟩ (f_M_isForbidden l v6) ok_M_119 ⟨Nat.le_of_ble_eq_true rfl, Nat.le_of_ble_eq_true rfl⟩ blind_true  (fun _ _ _ => trivial) rfl hl.1 rfl (Nat.le_of_ble_eq_true rfl) d_M_characterOf_367 ⟨Nat.zero_le _, Nat.zero_le _⟩ (fun r367 hrr => ?_)
    subst hrr
    refine lv_if_eq (tgt := 377) hx hb d_M_characterOf_370 (by decide) (fun cc370 => ?_) (fun cc370 => ?_)
    · have hE := hE.1 cc370
      refine lv_iload hx hb d_M_characterOf_377 (lv_at hl 0 rfl) ?_
      exact W.iret (v := v6) hx hb hr (fun t ht hW => ⟨⟨_, σ, rfl, hE, by rw [ht]; exact hP, va_K.moved hW.alike hK, hD⟩, hS.F ht⟩) hS.2.2 d_M_characterOf_379
    · have hE := hE.2 cc370
      exact J373  σ _ _ hP hD hS _ (lv_sub hl [] rfl) hE
  have J318 : ∀ (v1 : Int32) (v3 : Int32) (v6 : Int32) (σ : MPS) (H : Heap) (locs : List Loc) (hP : va_P (mG md) classes (MW md σ) H) (hD : va_D A (MW md σ)) (hS : va_S A s.heap H locs) (ls : Array Slot) (hl : lv_has ls 7 [(0, .ref (mA md 0)), (1, .int v1), (3, .int v3), (6, .int v6)]) (hE : w_M_characterOf_J318 post v1 v3 v6 σ), W p l e (headSpec ws_M_characterOf { frames := 2, cells := 0, slots := 0, locals := 47 }).room s m ([.ref (mA md 0), .int x0] : List Value).toArray below meth c H locs 0 0 (MQ below (va_Qi post (eM md A) A) ([.ref (mA md 0), .int x0] : List Value).toArray s 0 0 A) (F0 m 318 ls []) := by
    intro  v1 v3 v6 σ H locs hP hD hS ls hl hE
    unfold w_M_characterOf_J318 at hE
    refine lv_aload_n hx hb d_M_characterOf_318 rfl (lv_at hl 0 rfl) ?_
    refine lv_iload_n hx hb d_M_characterOf_319 rfl (lv_at hl 2 rfl) ?_
    obtain ⟨hc320_0, hE⟩ := hE
    refine ro_V (b0 := (mA md 0)) (As := [.int v3]) (rest := []) ⟨hx, hb, hml, hown, hta⟩ (f_M_x l md σ v3 hc320_0) ok_M_95 ⟨Nat.le_of_ble_eq_true rfl, Nat.le_of_ble_eq_true rfl⟩ blind_rM (va_recv hK hP (ci := 7) (q0 := 0) rfl rfl) (rM_of hP hK) rfl hl.1 rfl (Nat.le_of_ble_eq_true rfl) d_M_characterOf_320 ⟨Nat.zero_le _, Nat.zero_le _⟩ (fun r320 hrr => ?_)
    subst hrr
    refine lv_bipush (v := 59) hx hb d_M_characterOf_323 (by decide) ?_
    refine lv_icmp_eq (tgt := 330) hx hb d_M_characterOf_325 (by decide) (fun cc325 => ?_) (fun cc325 => ?_)
    · have hE := hE.1 cc325
      refine lv_aload_n hx hb d_M_characterOf_330 rfl (lv_at hl 0 rfl) ?_
      refine lv_iload_n hx hb d_M_characterOf_331 rfl (lv_at hl 2 rfl) ?_
      refine lv_iconst (v := 1) hx hb d_M_characterOf_332 (by decide) ?_
      refine lv_iadd hx hb d_M_characterOf_333 ?_
      refine lv_iload_n hx hb d_M_characterOf_334 rfl (lv_at hl 1 rfl) ?_
      refine lv_isub hx hb d_M_characterOf_335 ?_
      refine va_put (D := (mG md)) (ci := 7) (v := .int ((v3 + 1) - v1)) (ty := .int) (C := R_M) (T := F_M) (N := 37) hx hb hta i_M t_M t_M_ok n_M hown hK hP hD hS 0 rfl rfl 12 (by decide) (hta _ fl_M_76) (fun _ h9 => h9) rfl (by decide +kernel) rfl rfl (Nat.le_of_ble_eq_true rfl) d_M_characterOf_336 (fun H locs hP hD hS => ?_)
      have hP := mwP_width hP
      have hD := mwD_width hD
      have hE := hE _ rfl
      generalize (ms_width σ ((v3 + 1) - v1) : MPS) = σ336 at hP hD hE
      refine lv_iload hx hb d_M_characterOf_339 (lv_at hl 3 rfl) ?_
      refine lv_if_eq (tgt := 373) hx hb d_M_characterOf_341 (by decide) (fun cc341 => ?_) (fun cc341 => ?_)
      · have hE := hE.1 cc341
        exact J373  σ336 _ _ hP hD hS _ (lv_sub hl [] rfl) hE
      · have hE := hE.2 cc341
        refine lv_iload hx hb d_M_characterOf_344 (lv_at hl 3 rfl) ?_
        refine lv_ldc hx hb hown (hta _ ct_M_80) d_M_characterOf_346 ?_
        refine lv_icmp_gt (tgt := 373) hx hb d_M_characterOf_348 (by decide) (fun cc348 => ?_) (fun cc348 => ?_)
        · have hE := hE.1 cc348
          exact J373  σ336 _ _ hP hD hS _ (lv_sub hl [] rfl) hE
        · have hE := hE.2 cc348
          refine lv_iload hx hb d_M_characterOf_351 (lv_at hl 3 rfl) ?_
          refine lv_ldc hx hb hown (hta _ ct_M_81) d_M_characterOf_353 ?_
          refine lv_icmp_lt (tgt := 365) hx hb d_M_characterOf_355 (by decide) (fun cc355 => ?_) (fun cc355 => ?_)
          · have hE := hE.1 cc355
            exact J365  v6 σ336 _ _ hP hD hS _ (lv_sub hl [3] rfl) hE
          · have hE := hE.2 cc355
            refine lv_iload hx hb d_M_characterOf_358 (lv_at hl 3 rfl) ?_
            refine lv_ldc hx hb hown (hta _ ct_M_82) d_M_characterOf_360 ?_
            refine lv_icmp_le (tgt := 373) hx hb d_M_characterOf_362 (by decide) (fun cc362 => ?_) (fun cc362 => ?_)
            · have hE := hE.1 cc362
              exact J373  σ336 _ _ hP hD hS _ (lv_sub hl [] rfl) hE
            · have hE := hE.2 cc362
              exact J365  v6 σ336 _ _ hP hD hS _ (lv_sub hl [3] rfl) hE
    · have hE := hE.2 cc325
      refine lv_iconst (v := -1) hx hb d_M_characterOf_328 (by decide) ?_
      exact W.iret (v := (-1)) hx hb hr (fun t ht hW => ⟨⟨_, σ, rfl, hE, by rw [ht]; exact hP, va_K.moved hW.alike hK, hD⟩, hS.F ht⟩) hS.2.2 d_M_characterOf_329
  have J298 : ∀ (v1 : Int32) (v3 : Int32) (v4 : Int32) (v5 : Int32) (v6 : Int32) (σ : MPS) (H : Heap) (locs : List Loc) (hP : va_P (mG md) classes (MW md σ) H) (hD : va_D A (MW md σ)) (hS : va_S A s.heap H locs) (ls : Array Slot) (hl : lv_has ls 7 [(0, .ref (mA md 0)), (1, .int v1), (3, .int v3), (4, .int v4), (5, .int v5), (6, .int v6)]) (hE : w_M_characterOf_J298 post v1 v3 v4 v5 v6 σ), W p l e (headSpec ws_M_characterOf { frames := 2, cells := 0, slots := 0, locals := 47 }).room s m ([.ref (mA md 0), .int x0] : List Value).toArray below meth c H locs 0 0 (MQ below (va_Qi post (eM md A) A) ([.ref (mA md 0), .int x0] : List Value).toArray s 0 0 A) (F0 m 298 ls []) := by
    intro  v1 v3 v4 v5 v6 σ H locs hP hD hS ls hl hE
    unfold w_M_characterOf_J298 at hE
    refine lv_iload_n hx hb d_M_characterOf_298 rfl (lv_at hl 2 rfl) ?_
    refine lv_iload hx hb d_M_characterOf_299 (lv_at hl 4 rfl) ?_
    refine lv_icmp_eq (tgt := 328) hx hb d_M_characterOf_301 (by decide) (fun cc301 => ?_) (fun cc301 => ?_)
    · have hE := hE.1 cc301
      refine lv_iconst (v := -1) hx hb d_M_characterOf_328 (by decide) ?_
      exact W.iret (v := (-1)) hx hb hr (fun t ht hW => ⟨⟨_, σ, rfl, hE, by rw [ht]; exact hP, va_K.moved hW.alike hK, hD⟩, hS.F ht⟩) hS.2.2 d_M_characterOf_329
    · have hE := hE.2 cc301
      refine lv_iload hx hb d_M_characterOf_304 (lv_at hl 3 rfl) ?_
      refine lv_if_eq (tgt := 318) hx hb d_M_characterOf_306 (by decide) (fun cc306 => ?_) (fun cc306 => ?_)
      · have hE := hE.1 cc306
        exact J318  v1 v3 v6 σ _ _ hP hD hS _ (lv_sub hl [0, 1, 2, 5] rfl) hE
      · have hE := hE.2 cc306
        refine lv_iload_n hx hb d_M_characterOf_309 rfl (lv_at hl 2 rfl) ?_
        refine lv_iload hx hb d_M_characterOf_310 (lv_at hl 4 rfl) ?_
        refine lv_isub hx hb d_M_characterOf_312 ?_
        refine lv_bipush (v := 6) hx hb d_M_characterOf_313 (by decide) ?_
        refine lv_icmp_gt (tgt := 328) hx hb d_M_characterOf_315 (by decide) (fun cc315 => ?_) (fun cc315 => ?_)
        · have hE := hE.1 cc315
          refine lv_iconst (v := -1) hx hb d_M_characterOf_328 (by decide) ?_
          exact W.iret (v := (-1)) hx hb hr (fun t ht hW => ⟨⟨_, σ, rfl, hE, by rw [ht]; exact hP, va_K.moved hW.alike hK, hD⟩, hS.F ht⟩) hS.2.2 d_M_characterOf_329
        · have hE := hE.2 cc315
          exact J318  v1 v3 v6 σ _ _ hP hD hS _ (lv_sub hl [0, 1, 2, 5] rfl) hE
  have L227 : ∀ (v1 : Int32) (v4 : Int32) (v5 : Int32) (n227 : Nat) (v3 : Int32) (v6 : Int32) (σ : MPS) (H : Heap) (locs : List Loc) (hP : va_P (mG md) classes (MW md σ) H) (hD : va_D A (MW md σ)) (hS : va_S A s.heap H locs) (ls : Array Slot) (hl : lv_has ls 7 [(0, .ref (mA md 0)), (1, .int v1), (3, .int v3), (4, .int v4), (5, .int v5), (6, .int v6)]) (hE : w_M_characterOf_L227 v1 v4 v5 post n227 v3 v6 σ), W p l e (headSpec ws_M_characterOf { frames := 2, cells := 0, slots := 0, locals := 47 }).room s m ([.ref (mA md 0), .int x0] : List Value).toArray below meth c H locs 0 0 (MQ below (va_Qi post (eM md A) A) ([.ref (mA md 0), .int x0] : List Value).toArray s 0 0 A) (F0 m 227 ls []) := by
    intro v1 v4 v5 n227
    induction n227 with
    | zero => intro v3 v6 σ H locs hP hD hS ls hl hE; exact hE.elim
    | succ n227 ih227 =>
      have J278 : ∀ (v3 : Int32) (v6 : Int32) (t0 : Int32) (σ : MPS) (H : Heap) (locs : List Loc) (hP : va_P (mG md) classes (MW md σ) H) (hD : va_D A (MW md σ)) (hS : va_S A s.heap H locs) (ls : Array Slot) (hl : lv_has ls 7 [(0, .ref (mA md 0)), (1, .int v1), (3, .int v3), (4, .int v4), (5, .int v5), (6, .int v6)]) (hE : w_M_characterOf_J278 v1 v4 v5 (w_M_characterOf_L227 v1 v4 v5 post n227) post v3 v6 t0 σ), W p l e (headSpec ws_M_characterOf { frames := 2, cells := 0, slots := 0, locals := 47 }).room s m ([.ref (mA md 0), .int x0] : List Value).toArray below meth c H locs 0 0 (MQ below (va_Qi post (eM md A) A) ([.ref (mA md 0), .int x0] : List Value).toArray s 0 0 A) (F0 m 278 ls [.int t0]) := by
        intro  v3 v6 t0 σ H locs hP hD hS ls hl hE
        unfold w_M_characterOf_J278 at hE
        refine lv_iload hx hb d_M_characterOf_278 (lv_at hl 5 rfl) ?_
        refine lv_imul hx hb d_M_characterOf_280 ?_
        refine lv_aload_n hx hb d_M_characterOf_281 rfl (lv_at hl 0 rfl) ?_
        refine lv_iload_n hx hb d_M_characterOf_282 rfl (lv_at hl 2 rfl) ?_
        obtain ⟨hc283_0, hE⟩ := hE
        refine ro_V (b0 := (mA md 0)) (As := [.int v3]) (rest := [.int (t0 * v6)]) ⟨hx, hb, hml, hown, hta⟩ (f_M_x l md σ v3 hc283_0) ok_M_95 ⟨Nat.le_of_ble_eq_true rfl, Nat.le_of_ble_eq_true rfl⟩ blind_rM (va_recv hK hP (ci := 7) (q0 := 0) rfl rfl) (rM_of hP hK) rfl hl.1 rfl (Nat.le_of_ble_eq_true rfl) d_M_characterOf_283 ⟨Nat.zero_le _, Nat.zero_le _⟩ (fun r283 hrr => ?_)
        subst hrr
        refine ro_S  (As := [.int (mX σ v3)]) (rest := [.int (t0 * v6)]) ⟨hx, hb, hml, hown, hta⟩ (f_M_hex l (mX σ v3)) ok_M_136 ⟨Nat.le_of_ble_eq_true rfl, Nat.le_of_ble_eq_true rfl⟩ blind_true  (fun _ _ _ => trivial) rfl hl.1 rfl (Nat.le_of_ble_eq_true rfl) d_M_characterOf_286 ⟨Nat.zero_le _, Nat.zero_le _⟩ (fun r286 hrr => ?_)
        subst hrr
        refine lv_iadd hx hb d_M_characterOf_289 ?_
        refine lv_istore (lv' := [(6, .int ((t0 * v6) + (cHx (mX σ v3)))), (0, .ref (mA md 0)), (1, .int v1), (3, .int v3), (4, .int v4), (5, .int v5)]) hx hb d_M_characterOf_290 hl (by decide) rfl (fun ls hl => ?_)
        refine lv_iinc (v := v3 + 1) (lv' := [(3, .int (v3 + 1)), (6, .int ((t0 * v6) + (cHx (mX σ v3)))), (0, .ref (mA md 0)), (1, .int v1), (4, .int v4), (5, .int v5)]) hx hb d_M_characterOf_292 hl (k := 3) rfl rfl (by decide) rfl (fun ls hl => ?_)
        refine lv_goto (tgt := 227) hx hb d_M_characterOf_295 (by decide) ?_
        exact ih227 (v3 + 1) ((t0 * v6) + (cHx (mX σ v3))) σ _ _ hP hD hS _ (lv_sub hl [2, 3, 0, 4, 5, 1] rfl) hE
      have J266 : ∀ (v3 : Int32) (v6 : Int32) (σ : MPS) (H : Heap) (locs : List Loc) (hP : va_P (mG md) classes (MW md σ) H) (hD : va_D A (MW md σ)) (hS : va_S A s.heap H locs) (ls : Array Slot) (hl : lv_has ls 7 [(0, .ref (mA md 0)), (1, .int v1), (3, .int v3), (4, .int v4), (5, .int v5), (6, .int v6)]) (hE : w_M_characterOf_J266 v1 v4 v5 (w_M_characterOf_L227 v1 v4 v5 post n227) post v3 v6 σ), W p l e (headSpec ws_M_characterOf { frames := 2, cells := 0, slots := 0, locals := 47 }).room s m ([.ref (mA md 0), .int x0] : List Value).toArray below meth c H locs 0 0 (MQ below (va_Qi post (eM md A) A) ([.ref (mA md 0), .int x0] : List Value).toArray s 0 0 A) (F0 m 266 ls []) := by
        intro  v3 v6 σ H locs hP hD hS ls hl hE
        unfold w_M_characterOf_J266 at hE
        refine lv_iload hx hb d_M_characterOf_266 (lv_at hl 3 rfl) ?_
        refine lv_if_eq (tgt := 276) hx hb d_M_characterOf_268 (by decide) (fun cc268 => ?_) (fun cc268 => ?_)
        · have hE := hE.1 cc268
          refine lv_bipush (v := 10) hx hb d_M_characterOf_276 (by decide) ?_
          exact J278  v3 v6 10 σ _ _ hP hD hS _ (lv_sub hl [0, 1, 2, 3, 4, 5] rfl) hE
        · have hE := hE.2 cc268
          refine lv_bipush (v := 16) hx hb d_M_characterOf_271 (by decide) ?_
          refine lv_goto (tgt := 278) hx hb d_M_characterOf_273 (by decide) ?_
          exact J278  v3 v6 16 σ _ _ hP hD hS _ (lv_sub hl [0, 1, 2, 3, 4, 5] rfl) hE
      intro v3 v6 σ H locs hP hD hS ls hl hE
      unfold w_M_characterOf_L227 at hE
      refine lv_iload_n hx hb d_M_characterOf_227 rfl (lv_at hl 2 rfl) ?_
      refine lv_iload hx hb d_M_characterOf_228 (lv_at hl 4 rfl) ?_
      refine lv_isub hx hb d_M_characterOf_230 ?_
      refine lv_bipush (v := 7) hx hb d_M_characterOf_231 (by decide) ?_
      refine lv_icmp_ge (tgt := 298) hx hb d_M_characterOf_233 (by decide) (fun cc233 => ?_) (fun cc233 => ?_)
      · have hE := hE.1 cc233
        exact J298  v1 v3 v4 v5 v6 σ _ _ hP hD hS _ (lv_sub hl [0, 1, 2, 3, 4, 5] rfl) hE
      · have hE := hE.2 cc233
        refine lv_iload hx hb d_M_characterOf_236 (lv_at hl 3 rfl) ?_
        refine lv_if_eq (tgt := 255) hx hb d_M_characterOf_238 (by decide) (fun cc238 => ?_) (fun cc238 => ?_)
        · have hE := hE.1 cc238
          refine lv_aload_n hx hb d_M_characterOf_255 rfl (lv_at hl 0 rfl) ?_
          refine lv_iload_n hx hb d_M_characterOf_256 rfl (lv_at hl 2 rfl) ?_
          obtain ⟨hc257_0, hE⟩ := hE
          refine ro_V (b0 := (mA md 0)) (As := [.int v3]) (rest := []) ⟨hx, hb, hml, hown, hta⟩ (f_M_x l md σ v3 hc257_0) ok_M_95 ⟨Nat.le_of_ble_eq_true rfl, Nat.le_of_ble_eq_true rfl⟩ blind_rM (va_recv hK hP (ci := 7) (q0 := 0) rfl rfl) (rM_of hP hK) rfl hl.1 rfl (Nat.le_of_ble_eq_true rfl) d_M_characterOf_257 ⟨Nat.zero_le _, Nat.zero_le _⟩ (fun r257 hrr => ?_)
          subst hrr
          refine ro_S  (As := [.int (mX σ v3)]) (rest := []) ⟨hx, hb, hml, hown, hta⟩ (f_M_isDigit l (mX σ v3)) ok_M_85 ⟨Nat.le_of_ble_eq_true rfl, Nat.le_of_ble_eq_true rfl⟩ blind_true  (fun _ _ _ => trivial) rfl hl.1 rfl (Nat.le_of_ble_eq_true rfl) d_M_characterOf_260 ⟨Nat.zero_le _, Nat.zero_le _⟩ (fun r260 hrr => ?_)
          subst hrr
          refine lv_if_eq (tgt := 298) hx hb d_M_characterOf_263 (by decide) (fun cc263 => ?_) (fun cc263 => ?_)
          · have hE := hE.1 cc263
            exact J298  v1 v3 v4 v5 v6 σ _ _ hP hD hS _ (lv_sub hl [0, 1, 2, 3, 4, 5] rfl) hE
          · have hE := hE.2 cc263
            exact J266  v3 v6 σ _ _ hP hD hS _ (lv_sub hl [0, 1, 2, 3, 4, 5] rfl) hE
        · have hE := hE.2 cc238
          refine lv_aload_n hx hb d_M_characterOf_241 rfl (lv_at hl 0 rfl) ?_
          refine lv_iload_n hx hb d_M_characterOf_242 rfl (lv_at hl 2 rfl) ?_
          obtain ⟨hc243_0, hE⟩ := hE
          refine ro_V (b0 := (mA md 0)) (As := [.int v3]) (rest := []) ⟨hx, hb, hml, hown, hta⟩ (f_M_x l md σ v3 hc243_0) ok_M_95 ⟨Nat.le_of_ble_eq_true rfl, Nat.le_of_ble_eq_true rfl⟩ blind_rM (va_recv hK hP (ci := 7) (q0 := 0) rfl rfl) (rM_of hP hK) rfl hl.1 rfl (Nat.le_of_ble_eq_true rfl) d_M_characterOf_243 ⟨Nat.zero_le _, Nat.zero_le _⟩ (fun r243 hrr => ?_)
          subst hrr
          refine ro_S  (As := [.int (mX σ v3)]) (rest := []) ⟨hx, hb, hml, hown, hta⟩ (f_M_hex l (mX σ v3)) ok_M_136 ⟨Nat.le_of_ble_eq_true rfl, Nat.le_of_ble_eq_true rfl⟩ blind_true  (fun _ _ _ => trivial) rfl hl.1 rfl (Nat.le_of_ble_eq_true rfl) d_M_characterOf_246 ⟨Nat.zero_le _, Nat.zero_le _⟩ (fun r246 hrr => ?_)
          subst hrr
          refine lv_if_lt (tgt := 298) hx hb d_M_characterOf_249 (by decide) (fun cc249 => ?_) (fun cc249 => ?_)
          · have hE := hE.1 cc249
            exact J298  v1 v3 v4 v5 v6 σ _ _ hP hD hS _ (lv_sub hl [0, 1, 2, 3, 4, 5] rfl) hE
          · have hE := hE.2 cc249
            refine lv_goto (tgt := 266) hx hb d_M_characterOf_252 (by decide) ?_
            exact J266  v3 v6 σ _ _ hP hD hS _ (lv_sub hl [0, 1, 2, 3, 4, 5] rfl) hE
  have J219 : ∀ (v1 : Int32) (v4 : Int32) (t0 : Int32) (t1 : Int32) (σ : MPS) (H : Heap) (locs : List Loc) (hP : va_P (mG md) classes (MW md σ) H) (hD : va_D A (MW md σ)) (hS : va_S A s.heap H locs) (ls : Array Slot) (hl : lv_has ls 7 [(0, .ref (mA md 0)), (1, .int v1), (4, .int v4)]) (hE : w_M_characterOf_J219 post v1 v4 t0 t1 σ), W p l e (headSpec ws_M_characterOf { frames := 2, cells := 0, slots := 0, locals := 47 }).room s m ([.ref (mA md 0), .int x0] : List Value).toArray below meth c H locs 0 0 (MQ below (va_Qi post (eM md A) A) ([.ref (mA md 0), .int x0] : List Value).toArray s 0 0 A) (F0 m 219 ls [.int t0, .int t1]) := by
    intro  v1 v4 t0 t1 σ H locs hP hD hS ls hl hE
    unfold w_M_characterOf_J219 at hE
    refine lv_iadd hx hb d_M_characterOf_219 ?_
    refine lv_istore_n (lv' := [(3, .int (t1 + t0)), (0, .ref (mA md 0)), (1, .int v1), (4, .int v4)]) hx hb d_M_characterOf_220 rfl hl (by decide) rfl (fun ls hl => ?_)
    refine lv_iload_n hx hb d_M_characterOf_221 rfl (lv_at hl 0 rfl) ?_
    refine lv_istore (lv' := [(5, .int (t1 + t0)), (3, .int (t1 + t0)), (0, .ref (mA md 0)), (1, .int v1), (4, .int v4)]) hx hb d_M_characterOf_222 hl (by decide) rfl (fun ls hl => ?_)
    refine lv_iconst (v := 0) hx hb d_M_characterOf_224 (by decide) ?_
    refine lv_istore (lv' := [(6, .int 0), (5, .int (t1 + t0)), (3, .int (t1 + t0)), (0, .ref (mA md 0)), (1, .int v1), (4, .int v4)]) hx hb d_M_characterOf_225 hl (by decide) rfl (fun ls hl => ?_)
    obtain ⟨n227, hE⟩ := hE
    exact L227 v1 v4 (t1 + t0) n227 (t1 + t0) 0 σ _ _ hP hD hS _ (lv_sub hl [3, 4, 2, 5, 1, 0] rfl) hE
  have J206 : ∀ (v1 : Int32) (v3 : Int32) (t0 : Int32) (σ : MPS) (H : Heap) (locs : List Loc) (hP : va_P (mG md) classes (MW md σ) H) (hD : va_D A (MW md σ)) (hS : va_S A s.heap H locs) (ls : Array Slot) (hl : lv_has ls 7 [(0, .ref (mA md 0)), (1, .int v1), (3, .int v3)]) (hE : w_M_characterOf_J206 post v1 v3 t0 σ), W p l e (headSpec ws_M_characterOf { frames := 2, cells := 0, slots := 0, locals := 47 }).room s m ([.ref (mA md 0), .int x0] : List Value).toArray below meth c H locs 0 0 (MQ below (va_Qi post (eM md A) A) ([.ref (mA md 0), .int x0] : List Value).toArray s 0 0 A) (F0 m 206 ls [.int t0]) := by
    intro  v1 v3 t0 σ H locs hP hD hS ls hl hE
    unfold w_M_characterOf_J206 at hE
    refine lv_istore (lv' := [(4, .int t0), (0, .ref (mA md 0)), (1, .int v1), (3, .int v3)]) hx hb d_M_characterOf_206 hl (by decide) rfl (fun ls hl => ?_)
    refine lv_iload_n hx hb d_M_characterOf_208 rfl (lv_at hl 3 rfl) ?_
    refine lv_iload hx hb d_M_characterOf_209 (lv_at hl 0 rfl) ?_
    refine lv_if_eq (tgt := 218) hx hb d_M_characterOf_211 (by decide) (fun cc211 => ?_) (fun cc211 => ?_)
    · have hE := hE.1 cc211
      refine lv_iconst (v := 1) hx hb d_M_characterOf_218 (by decide) ?_
      exact J219  v1 t0 1 v3 σ _ _ hP hD hS _ (lv_sub hl [1, 2, 0] rfl) hE
    · have hE := hE.2 cc211
      refine lv_iconst (v := 2) hx hb d_M_characterOf_214 (by decide) ?_
      refine lv_goto (tgt := 219) hx hb d_M_characterOf_215 (by decide) ?_
      exact J219  v1 t0 2 v3 σ _ _ hP hD hS _ (lv_sub hl [1, 2, 0] rfl) hE
  have J201 : ∀ (v1 : Int32) (v3 : Int32) (σ : MPS) (H : Heap) (locs : List Loc) (hP : va_P (mG md) classes (MW md σ) H) (hD : va_D A (MW md σ)) (hS : va_S A s.heap H locs) (ls : Array Slot) (hl : lv_has ls 7 [(0, .ref (mA md 0)), (1, .int v1), (3, .int v3)]) (hE : w_M_characterOf_J201 post v1 v3 σ), W p l e (headSpec ws_M_characterOf { frames := 2, cells := 0, slots := 0, locals := 47 }).room s m ([.ref (mA md 0), .int x0] : List Value).toArray below meth c H locs 0 0 (MQ below (va_Qi post (eM md A) A) ([.ref (mA md 0), .int x0] : List Value).toArray s 0 0 A) (F0 m 201 ls []) := by
    intro  v1 v3 σ H locs hP hD hS ls hl hE
    unfold w_M_characterOf_J201 at hE
    refine lv_iconst (v := 1) hx hb d_M_characterOf_201 (by decide) ?_
    refine lv_goto (tgt := 206) hx hb d_M_characterOf_202 (by decide) ?_
    exact J206  v1 v3 1 σ _ _ hP hD hS _ (lv_sub hl [0, 1, 2] rfl) hE
  have L138 : ∀ (v1 : Int32) (v2 : Int32) (n138 : Nat) (v3 : Int32) (σ : MPS) (H : Heap) (locs : List Loc) (hP : va_P (mG md) classes (MW md σ) H) (hD : va_D A (MW md σ)) (hS : va_S A s.heap H locs) (ls : Array Slot) (hl : lv_has ls 7 [(0, .ref (mA md 0)), (1, .int v1), (2, .int v2), (3, .int v3)]) (hE : w_M_characterOf_L138 v1 v2 post n138 v3 σ), W p l e (headSpec ws_M_characterOf { frames := 2, cells := 0, slots := 0, locals := 47 }).room s m ([.ref (mA md 0), .int x0] : List Value).toArray below meth c H locs 0 0 (MQ below (va_Qi post (eM md A) A) ([.ref (mA md 0), .int x0] : List Value).toArray s 0 0 A) (F0 m 138 ls []) := by
    intro v1 v2 n138
    induction n138 with
    | zero => intro v3 σ H locs hP hD hS ls hl hE; exact hE.elim
    | succ n138 ih138 =>
      intro v3 σ H locs hP hD hS ls hl hE
      unfold w_M_characterOf_L138 at hE
      refine lv_aload_n hx hb d_M_characterOf_138 rfl (lv_at hl 0 rfl) ?_
      refine lv_iload_n hx hb d_M_characterOf_139 rfl (lv_at hl 3 rfl) ?_
      obtain ⟨hc140_0, hE⟩ := hE
      refine ro_V (b0 := (mA md 0)) (As := [.int v3]) (rest := []) ⟨hx, hb, hml, hown, hta⟩ (f_M_x l md σ v3 hc140_0) ok_M_95 ⟨Nat.le_of_ble_eq_true rfl, Nat.le_of_ble_eq_true rfl⟩ blind_rM (va_recv hK hP (ci := 7) (q0 := 0) rfl rfl) (rM_of hP hK) rfl hl.1 rfl (Nat.le_of_ble_eq_true rfl) d_M_characterOf_140 ⟨Nat.zero_le _, Nat.zero_le _⟩ (fun r140 hrr => ?_)
      subst hrr
      refine lv_bipush (v := 59) hx hb d_M_characterOf_143 (by decide) ?_
      refine lv_icmp_eq (tgt := 154) hx hb d_M_characterOf_145 (by decide) (fun cc145 => ?_) (fun cc145 => ?_)
      · have hE := hE.1 cc145
        refine lv_aload_n hx hb d_M_characterOf_154 rfl (lv_at hl 0 rfl) ?_
        refine lv_iload_n hx hb d_M_characterOf_155 rfl (lv_at hl 3 rfl) ?_
        refine lv_iconst (v := 1) hx hb d_M_characterOf_156 (by decide) ?_
        refine lv_iadd hx hb d_M_characterOf_157 ?_
        refine lv_iload_n hx hb d_M_characterOf_158 rfl (lv_at hl 1 rfl) ?_
        refine lv_isub hx hb d_M_characterOf_159 ?_
        refine va_put (D := (mG md)) (ci := 7) (v := .int ((v3 + 1) - v1)) (ty := .int) (C := R_M) (T := F_M) (N := 37) hx hb hta i_M t_M t_M_ok n_M hown hK hP hD hS 0 rfl rfl 12 (by decide) (hta _ fl_M_76) (fun _ h9 => h9) rfl (by decide +kernel) rfl rfl (Nat.le_of_ble_eq_true rfl) d_M_characterOf_160 (fun H locs hP hD hS => ?_)
        have hP := mwP_width hP
        have hD := mwD_width hD
        have hE := hE _ rfl
        generalize (ms_width σ ((v3 + 1) - v1) : MPS) = σ160 at hP hD hE
        refine lv_iload_n hx hb d_M_characterOf_163 rfl (lv_at hl 2 rfl) ?_
        exact W.iret (v := v2) hx hb hr (fun t ht hW => ⟨⟨_, σ160, rfl, hE, by rw [ht]; exact hP, va_K.moved hW.alike hK, hD⟩, hS.F ht⟩) hS.2.2 d_M_characterOf_164
      · have hE := hE.2 cc145
        refine lv_iinc (v := v3 + 1) (lv' := [(3, .int (v3 + 1)), (0, .ref (mA md 0)), (1, .int v1), (2, .int v2)]) hx hb d_M_characterOf_148 hl (k := 3) rfl rfl (by decide) rfl (fun ls hl => ?_)
        refine lv_goto (tgt := 138) hx hb d_M_characterOf_151 (by decide) ?_
        exact ih138 (v3 + 1) σ _ _ hP hD hS _ (lv_sub hl [1, 2, 3, 0] rfl) hE
  have J129 : ∀ (v1 : Int32) (t0 : Int32) (σ : MPS) (H : Heap) (locs : List Loc) (hP : va_P (mG md) classes (MW md σ) H) (hD : va_D A (MW md σ)) (hS : va_S A s.heap H locs) (ls : Array Slot) (hl : lv_has ls 7 [(0, .ref (mA md 0)), (1, .int v1)]) (hE : w_M_characterOf_J129 post v1 t0 σ), W p l e (headSpec ws_M_characterOf { frames := 2, cells := 0, slots := 0, locals := 47 }).room s m ([.ref (mA md 0), .int x0] : List Value).toArray below meth c H locs 0 0 (MQ below (va_Qi post (eM md A) A) ([.ref (mA md 0), .int x0] : List Value).toArray s 0 0 A) (F0 m 129 ls [.int t0]) := by
    intro  v1 t0 σ H locs hP hD hS ls hl hE
    unfold w_M_characterOf_J129 at hE
    refine lv_istore_n (lv' := [(2, .int t0), (0, .ref (mA md 0)), (1, .int v1)]) hx hb d_M_characterOf_129 rfl hl (by decide) rfl (fun ls hl => ?_)
    refine lv_iload_n hx hb d_M_characterOf_130 rfl (lv_at hl 2 rfl) ?_
    refine lv_iconst (v := 1) hx hb d_M_characterOf_131 (by decide) ?_
    refine lv_iadd hx hb d_M_characterOf_132 ?_
    refine lv_istore_n (lv' := [(3, .int (v1 + 1)), (2, .int t0), (0, .ref (mA md 0)), (1, .int v1)]) hx hb d_M_characterOf_133 rfl hl (by decide) rfl (fun ls hl => ?_)
    refine lv_iload_n hx hb d_M_characterOf_134 rfl (lv_at hl 1 rfl) ?_
    refine lv_if_lt (tgt := 165) hx hb d_M_characterOf_135 (by decide) (fun cc135 => ?_) (fun cc135 => ?_)
    · have hE := hE.1 cc135
      refine lv_aload_n hx hb d_M_characterOf_165 rfl (lv_at hl 2 rfl) ?_
      refine lv_iload_n hx hb d_M_characterOf_166 rfl (lv_at hl 0 rfl) ?_
      obtain ⟨hc167_0, hE⟩ := hE
      refine ro_V (b0 := (mA md 0)) (As := [.int (v1 + 1)]) (rest := []) ⟨hx, hb, hml, hown, hta⟩ (f_M_x l md σ (v1 + 1) hc167_0) ok_M_95 ⟨Nat.le_of_ble_eq_true rfl, Nat.le_of_ble_eq_true rfl⟩ blind_rM (va_recv hK hP (ci := 7) (q0 := 0) rfl rfl) (rM_of hP hK) rfl hl.1 rfl (Nat.le_of_ble_eq_true rfl) d_M_characterOf_167 ⟨Nat.zero_le _, Nat.zero_le _⟩ (fun r167 hrr => ?_)
      subst hrr
      refine lv_bipush (v := 35) hx hb d_M_characterOf_170 (by decide) ?_
      refine lv_icmp_eq (tgt := 177) hx hb d_M_characterOf_172 (by decide) (fun cc172 => ?_) (fun cc172 => ?_)
      · have hE := hE.1 cc172
        refine lv_aload_n hx hb d_M_characterOf_177 rfl (lv_at hl 2 rfl) ?_
        refine lv_iload_n hx hb d_M_characterOf_178 rfl (lv_at hl 0 rfl) ?_
        refine lv_iconst (v := 1) hx hb d_M_characterOf_179 (by decide) ?_
        refine lv_iadd hx hb d_M_characterOf_180 ?_
        obtain ⟨hc181_0, hE⟩ := hE
        refine ro_V (b0 := (mA md 0)) (As := [.int ((v1 + 1) + 1)]) (rest := []) ⟨hx, hb, hml, hown, hta⟩ (f_M_x l md σ ((v1 + 1) + 1) hc181_0) ok_M_95 ⟨Nat.le_of_ble_eq_true rfl, Nat.le_of_ble_eq_true rfl⟩ blind_rM (va_recv hK hP (ci := 7) (q0 := 0) rfl rfl) (rM_of hP hK) rfl hl.1 rfl (Nat.le_of_ble_eq_true rfl) d_M_characterOf_181 ⟨Nat.zero_le _, Nat.zero_le _⟩ (fun r181 hrr => ?_)
        subst hrr
        refine lv_bipush (v := 120) hx hb d_M_characterOf_184 (by decide) ?_
        refine lv_icmp_eq (tgt := 201) hx hb d_M_characterOf_186 (by decide) (fun cc186 => ?_) (fun cc186 => ?_)
        · have hE := hE.1 cc186
          exact J201  v1 (v1 + 1) σ _ _ hP hD hS _ (lv_sub hl [2, 3, 0] rfl) hE
        · have hE := hE.2 cc186
          refine lv_aload_n hx hb d_M_characterOf_189 rfl (lv_at hl 2 rfl) ?_
          refine lv_iload_n hx hb d_M_characterOf_190 rfl (lv_at hl 0 rfl) ?_
          refine lv_iconst (v := 1) hx hb d_M_characterOf_191 (by decide) ?_
          refine lv_iadd hx hb d_M_characterOf_192 ?_
          obtain ⟨hc193_0, hE⟩ := hE
          refine ro_V (b0 := (mA md 0)) (As := [.int ((v1 + 1) + 1)]) (rest := []) ⟨hx, hb, hml, hown, hta⟩ (f_M_x l md σ ((v1 + 1) + 1) hc193_0) ok_M_95 ⟨Nat.le_of_ble_eq_true rfl, Nat.le_of_ble_eq_true rfl⟩ blind_rM (va_recv hK hP (ci := 7) (q0 := 0) rfl rfl) (rM_of hP hK) rfl hl.1 rfl (Nat.le_of_ble_eq_true rfl) d_M_characterOf_193 ⟨Nat.zero_le _, Nat.zero_le _⟩ (fun r193 hrr => ?_)
          subst hrr
          refine lv_bipush (v := 88) hx hb d_M_characterOf_196 (by decide) ?_
          refine lv_icmp_ne (tgt := 205) hx hb d_M_characterOf_198 (by decide) (fun cc198 => ?_) (fun cc198 => ?_)
          · have hE := hE.2 cc198
            refine lv_iconst (v := 0) hx hb d_M_characterOf_205 (by decide) ?_
            exact J206  v1 (v1 + 1) 0 σ _ _ hP hD hS _ (lv_sub hl [2, 3, 0] rfl) hE
          · have hE := hE.1 cc198
            exact J201  v1 (v1 + 1) σ _ _ hP hD hS _ (lv_sub hl [2, 3, 0] rfl) hE
      · have hE := hE.2 cc172
        refine lv_iconst (v := -1) hx hb d_M_characterOf_175 (by decide) ?_
        exact W.iret (v := (-1)) hx hb hr (fun t ht hW => ⟨⟨_, σ, rfl, hE, by rw [ht]; exact hP, va_K.moved hW.alike hK, hD⟩, hS.F ht⟩) hS.2.2 d_M_characterOf_176
    · have hE := hE.2 cc135
      obtain ⟨n138, hE⟩ := hE
      exact L138 v1 t0 n138 (v1 + 1) σ _ _ hP hD hS _ (lv_sub hl [2, 3, 1, 0] rfl) hE
  have J35 : ∀ (σ : MPS) (H : Heap) (locs : List Loc) (hP : va_P (mG md) classes (MW md σ) H) (hD : va_D A (MW md σ)) (hS : va_S A s.heap H locs) (ls : Array Slot) (hl : lv_has ls 7 []) (hE : w_M_characterOf_J35 post σ), W p l e (headSpec ws_M_characterOf { frames := 2, cells := 0, slots := 0, locals := 47 }).room s m ([.ref (mA md 0), .int x0] : List Value).toArray below meth c H locs 0 0 (MQ below (va_Qi post (eM md A) A) ([.ref (mA md 0), .int x0] : List Value).toArray s 0 0 A) (F0 m 35 ls []) := by
    intro  σ H locs hP hD hS ls hl hE
    unfold w_M_characterOf_J35 at hE
    refine lv_iconst (v := -1) hx hb d_M_characterOf_35 (by decide) ?_
    refine lv_goto (tgt := 40) hx hb d_M_characterOf_36 (by decide) ?_
    exact W.iret (v := (-1)) hx hb hr (fun t ht hW => ⟨⟨_, σ, rfl, hE, by rw [ht]; exact hP, va_K.moved hW.alike hK, hD⟩, hS.F ht⟩) hS.2.2 d_M_characterOf_40
  unfold w_M_characterOf at hE
  refine lv_aload_n hx hb d_M_characterOf_0 rfl (lv_at hl 0 rfl) ?_
  refine lv_iload_n hx hb d_M_characterOf_1 rfl (lv_at hl 1 rfl) ?_
  obtain ⟨hc2_0, hE⟩ := hE
  refine ro_V (b0 := (mA md 0)) (As := [.int x0]) (rest := []) ⟨hx, hb, hml, hown, hta⟩ (f_M_x l md σ x0 hc2_0) ok_M_95 ⟨Nat.le_of_ble_eq_true rfl, Nat.le_of_ble_eq_true rfl⟩ blind_rM (va_recv hK hP (ci := 7) (q0 := 0) rfl rfl) (rM_of hP hK) rfl hl.1 rfl (Nat.le_of_ble_eq_true rfl) d_M_characterOf_2 ⟨Nat.zero_le _, Nat.zero_le _⟩ (fun r2 hrr => ?_)
  subst hrr
  refine lv_bipush (v := 38) hx hb d_M_characterOf_5 (by decide) ?_
  refine lv_icmp_eq (tgt := 41) hx hb d_M_characterOf_7 (by decide) (fun cc7 => ?_) (fun cc7 => ?_)
  · have hE := hE.1 cc7
    refine lv_aload_n hx hb d_M_characterOf_41 rfl (lv_at hl 0 rfl) ?_
    refine lv_iload_n hx hb d_M_characterOf_42 rfl (lv_at hl 1 rfl) ?_
    refine lv_ldc2 hx hb hown (hta _ cl_M_122) d_M_characterOf_43 ?_
    refine lv_iconst (v := 5) hx hb d_M_characterOf_46 (by decide) ?_
    refine ro_V (b0 := (mA md 0)) (As := [.int x0, .long 164843319355, .int 5]) (rest := []) ⟨hx, hb, hml, hown, hta⟩ (c_M_says l md σ x0 164843319355 5  _ hE) ok_M_124 ⟨Nat.le_of_ble_eq_true rfl, Nat.le_of_ble_eq_true rfl⟩ blind_rM (va_recv hK hP (ci := 7) (q0 := 0) rfl rfl) (rM_of hP hK) rfl hl.1 rfl (Nat.le_of_ble_eq_true rfl) d_M_characterOf_47 ⟨Nat.zero_le _, Nat.zero_le _⟩ (fun r47 hE => ?_)
    refine lv_if_eq (tgt := 58) hx hb d_M_characterOf_50 (by decide) (fun cc50 => ?_) (fun cc50 => ?_)
    · have hE := hE.1 cc50
      refine lv_aload_n hx hb d_M_characterOf_58 rfl (lv_at hl 0 rfl) ?_
      refine lv_iload_n hx hb d_M_characterOf_59 rfl (lv_at hl 1 rfl) ?_
      refine lv_ldc2 hx hb hown (hta _ cl_M_128) d_M_characterOf_60 ?_
      refine lv_iconst (v := 4) hx hb d_M_characterOf_63 (by decide) ?_
      refine ro_V (b0 := (mA md 0)) (As := [.int x0, .long 644641851, .int 4]) (rest := []) ⟨hx, hb, hml, hown, hta⟩ (c_M_says l md σ x0 644641851 4  _ hE) ok_M_124 ⟨Nat.le_of_ble_eq_true rfl, Nat.le_of_ble_eq_true rfl⟩ blind_rM (va_recv hK hP (ci := 7) (q0 := 0) rfl rfl) (rM_of hP hK) rfl hl.1 rfl (Nat.le_of_ble_eq_true rfl) d_M_characterOf_64 ⟨Nat.zero_le _, Nat.zero_le _⟩ (fun r64 hE => ?_)
      refine lv_if_eq (tgt := 75) hx hb d_M_characterOf_67 (by decide) (fun cc67 => ?_) (fun cc67 => ?_)
      · have hE := hE.1 cc67
        refine lv_aload_n hx hb d_M_characterOf_75 rfl (lv_at hl 0 rfl) ?_
        refine lv_iload_n hx hb d_M_characterOf_76 rfl (lv_at hl 1 rfl) ?_
        refine lv_ldc2 hx hb hown (hta _ cl_M_130) d_M_characterOf_77 ?_
        refine lv_iconst (v := 4) hx hb d_M_characterOf_80 (by decide) ?_
        refine ro_V (b0 := (mA md 0)) (As := [.int x0, .long 644314171, .int 4]) (rest := []) ⟨hx, hb, hml, hown, hta⟩ (c_M_says l md σ x0 644314171 4  _ hE) ok_M_124 ⟨Nat.le_of_ble_eq_true rfl, Nat.le_of_ble_eq_true rfl⟩ blind_rM (va_recv hK hP (ci := 7) (q0 := 0) rfl rfl) (rM_of hP hK) rfl hl.1 rfl (Nat.le_of_ble_eq_true rfl) d_M_characterOf_81 ⟨Nat.zero_le _, Nat.zero_le _⟩ (fun r81 hE => ?_)
        refine lv_if_eq (tgt := 92) hx hb d_M_characterOf_84 (by decide) (fun cc84 => ?_) (fun cc84 => ?_)
        · have hE := hE.1 cc84
          refine lv_aload_n hx hb d_M_characterOf_92 rfl (lv_at hl 0 rfl) ?_
          refine lv_iload_n hx hb d_M_characterOf_93 rfl (lv_at hl 1 rfl) ?_
          refine lv_ldc2 hx hb hown (hta _ cl_M_132) d_M_characterOf_94 ?_
          refine lv_bipush (v := 6) hx hb d_M_characterOf_97 (by decide) ?_
          refine ro_V (b0 := (mA md 0)) (As := [.int x0, .long 42268743398459, .int 6]) (rest := []) ⟨hx, hb, hml, hown, hta⟩ (c_M_says l md σ x0 42268743398459 6  _ hE) ok_M_124 ⟨Nat.le_of_ble_eq_true rfl, Nat.le_of_ble_eq_true rfl⟩ blind_rM (va_recv hK hP (ci := 7) (q0 := 0) rfl rfl) (rM_of hP hK) rfl hl.1 rfl (Nat.le_of_ble_eq_true rfl) d_M_characterOf_99 ⟨Nat.zero_le _, Nat.zero_le _⟩ (fun r99 hE => ?_)
          refine lv_if_eq (tgt := 110) hx hb d_M_characterOf_102 (by decide) (fun cc102 => ?_) (fun cc102 => ?_)
          · have hE := hE.1 cc102
            refine lv_aload_n hx hb d_M_characterOf_110 rfl (lv_at hl 0 rfl) ?_
            refine lv_iload_n hx hb d_M_characterOf_111 rfl (lv_at hl 1 rfl) ?_
            refine lv_ldc2 hx hb hown (hta _ cl_M_134) d_M_characterOf_112 ?_
            refine lv_bipush (v := 6) hx hb d_M_characterOf_115 (by decide) ?_
            refine ro_V (b0 := (mA md 0)) (As := [.int x0, .long 42199940035387, .int 6]) (rest := []) ⟨hx, hb, hml, hown, hta⟩ (c_M_says l md σ x0 42199940035387 6  _ hE) ok_M_124 ⟨Nat.le_of_ble_eq_true rfl, Nat.le_of_ble_eq_true rfl⟩ blind_rM (va_recv hK hP (ci := 7) (q0 := 0) rfl rfl) (rM_of hP hK) rfl hl.1 rfl (Nat.le_of_ble_eq_true rfl) d_M_characterOf_117 ⟨Nat.zero_le _, Nat.zero_le _⟩ (fun r117 hE => ?_)
            refine lv_if_eq (tgt := 128) hx hb d_M_characterOf_120 (by decide) (fun cc120 => ?_) (fun cc120 => ?_)
            · have hE := hE.1 cc120
              refine lv_iconst (v := -1) hx hb d_M_characterOf_128 (by decide) ?_
              exact J129  x0 (-1) σ _ _ hP hD hS _ (lv_sub hl [0, 1] rfl) hE
            · have hE := hE.2 cc120
              refine lv_bipush (v := 39) hx hb d_M_characterOf_123 (by decide) ?_
              refine lv_goto (tgt := 129) hx hb d_M_characterOf_125 (by decide) ?_
              exact J129  x0 39 σ _ _ hP hD hS _ (lv_sub hl [0, 1] rfl) hE
          · have hE := hE.2 cc102
            refine lv_bipush (v := 34) hx hb d_M_characterOf_105 (by decide) ?_
            refine lv_goto (tgt := 129) hx hb d_M_characterOf_107 (by decide) ?_
            exact J129  x0 34 σ _ _ hP hD hS _ (lv_sub hl [0, 1] rfl) hE
        · have hE := hE.2 cc84
          refine lv_bipush (v := 62) hx hb d_M_characterOf_87 (by decide) ?_
          refine lv_goto (tgt := 129) hx hb d_M_characterOf_89 (by decide) ?_
          exact J129  x0 62 σ _ _ hP hD hS _ (lv_sub hl [0, 1] rfl) hE
      · have hE := hE.2 cc67
        refine lv_bipush (v := 60) hx hb d_M_characterOf_70 (by decide) ?_
        refine lv_goto (tgt := 129) hx hb d_M_characterOf_72 (by decide) ?_
        exact J129  x0 60 σ _ _ hP hD hS _ (lv_sub hl [0, 1] rfl) hE
    · have hE := hE.2 cc50
      refine lv_bipush (v := 38) hx hb d_M_characterOf_53 (by decide) ?_
      refine lv_goto (tgt := 129) hx hb d_M_characterOf_55 (by decide) ?_
      exact J129  x0 38 σ _ _ hP hD hS _ (lv_sub hl [0, 1] rfl) hE
  · have hE := hE.2 cc7
    refine lv_aload_n hx hb d_M_characterOf_10 rfl (lv_at hl 0 rfl) ?_
    refine lv_aload_n hx hb d_M_characterOf_11 rfl (lv_at hl 0 rfl) ?_
    refine va_get (D := (mG md)) (ci := 7) (v := .ref (mA md 2)) (C := R_M) (T := F_M) (N := 37) hx hb hta i_M hown hK hP 0 rfl rfl 2 (by decide) (hta _ fl_M_13) (fun _ h9 => h9) rfl d_M_characterOf_12 ?_
    refine lv_iload_n hx hb d_M_characterOf_15 rfl (lv_at hl 1 rfl) ?_
    refine lv_aload_n hx hb d_M_characterOf_16 rfl (lv_at hl 0 rfl) ?_
    refine va_get (D := (mG md)) (ci := 7) (v := .int (mp_size σ)) (C := R_M) (T := F_M) (N := 37) hx hb hta i_M hown hK hP 0 rfl rfl 7 (by decide) (hta _ fl_M_92) (fun _ h9 => h9) rfl d_M_characterOf_17 ?_
    refine mm_i (b0 := (mA md 0)) (As := [.ref (mA md 2), .int x0, .int (mp_size σ)]) (rest := []) ⟨hx, hb, hml, hown, hta⟩ (c_M_characterAt l md _ σ x0 (mp_size σ) _ hE) ok_M_115 ⟨Nat.le_of_ble_eq_true rfl, Nat.le_of_ble_eq_true rfl⟩ (va_recv hK hP (ci := 7) (q0 := 0) rfl rfl) hP hK hD hS hA rfl hl.1 rfl (Nat.le_of_ble_eq_true rfl) d_M_characterOf_20 ⟨Nat.zero_le _, Nat.zero_le _⟩ (fun r20 σ20 H locs hE hP hD hS => ?_)
    refine lv_istore_n (lv' := [(2, .int r20), (0, .ref (mA md 0)), (1, .int x0)]) hx hb d_M_characterOf_23 rfl hl (by decide) rfl (fun ls hl => ?_)
    refine lv_iload_n hx hb d_M_characterOf_24 rfl (lv_at hl 0 rfl) ?_
    refine lv_if_lt (tgt := 35) hx hb d_M_characterOf_25 (by decide) (fun cc25 => ?_) (fun cc25 => ?_)
    · have hE := hE.1 cc25
      exact J35  σ20 _ _ hP hD hS _ (lv_sub hl [] rfl) hE
    · have hE := hE.2 cc25
      refine lv_iload_n hx hb d_M_characterOf_28 rfl (lv_at hl 0 rfl) ?_
      refine ro_S  (As := [.int r20]) (rest := []) ⟨hx, hb, hml, hown, hta⟩ (f_M_isForbidden l r20) ok_M_119 ⟨Nat.le_of_ble_eq_true rfl, Nat.le_of_ble_eq_true rfl⟩ blind_true  (fun _ _ _ => trivial) rfl hl.1 rfl (Nat.le_of_ble_eq_true rfl) d_M_characterOf_29 ⟨Nat.zero_le _, Nat.zero_le _⟩ (fun r29 hrr => ?_)
      subst hrr
      refine lv_if_eq (tgt := 39) hx hb d_M_characterOf_32 (by decide) (fun cc32 => ?_) (fun cc32 => ?_)
      · have hE := hE.1 cc32
        refine lv_iload_n hx hb d_M_characterOf_39 rfl (lv_at hl 0 rfl) ?_
        exact W.iret (v := r20) hx hb hr (fun t ht hW => ⟨⟨_, σ20, rfl, hE, by rw [ht]; exact hP, va_K.moved hW.alike hK, hD⟩, hS.F ht⟩) hS.2.2 d_M_characterOf_40
      · have hE := hE.2 cc32
        exact J35  σ20 _ _ hP hD hS _ (lv_sub hl [] rfl) hE
theorem ok_M_139 : okV "PlainPagesModel" 139 R_M y_M_characterOf b_M_characterOf 7 (some .int) 1 := ⟨aW_in 1101 (by decide +kernel) rfl, aW_in 1103 (by decide +kernel) rfl, aW_in 53 (by decide +kernel) rfl, aW_in 92 (by decide +kernel) rfl, cd_M_characterOf, rfl, by decide +kernel, by decide +kernel, by decide +kernel⟩
theorem d_M_takeCharacter_0 : decode b_M_takeCharacter 0 = .ok (.aload_n 0, 1) := by decide +kernel
theorem d_M_takeCharacter_1 : decode b_M_takeCharacter 1 = .ok (.aload_n 0, 1) := by decide +kernel
theorem d_M_takeCharacter_2 : decode b_M_takeCharacter 2 = .ok (.getfield 101, 3) := by decide +kernel
theorem d_M_takeCharacter_5 : decode b_M_takeCharacter 5 = .ok (.invokevirtual 139, 3) := by decide +kernel
theorem d_M_takeCharacter_8 : decode b_M_takeCharacter 8 = .ok (.ifCond .ge 11, 3) := by decide +kernel
theorem d_M_takeCharacter_11 : decode b_M_takeCharacter 11 = .ok (.aload_n 0, 1) := by decide +kernel
theorem d_M_takeCharacter_12 : decode b_M_takeCharacter 12 = .ok (.iconst 1, 1) := by decide +kernel
theorem d_M_takeCharacter_13 : decode b_M_takeCharacter 13 = .ok (.putfield 111, 3) := by decide +kernel
theorem d_M_takeCharacter_16 : decode b_M_takeCharacter 16 = .ok (.goto 16, 3) := by decide +kernel
theorem d_M_takeCharacter_19 : decode b_M_takeCharacter 19 = .ok (.aload_n 0, 1) := by decide +kernel
theorem d_M_takeCharacter_20 : decode b_M_takeCharacter 20 = .ok (.dup, 1) := by decide +kernel
theorem d_M_takeCharacter_21 : decode b_M_takeCharacter 21 = .ok (.getfield 101, 3) := by decide +kernel
theorem d_M_takeCharacter_24 : decode b_M_takeCharacter 24 = .ok (.aload_n 0, 1) := by decide +kernel
theorem d_M_takeCharacter_25 : decode b_M_takeCharacter 25 = .ok (.getfield 76, 3) := by decide +kernel
theorem d_M_takeCharacter_28 : decode b_M_takeCharacter 28 = .ok (.iadd, 1) := by decide +kernel
theorem d_M_takeCharacter_29 : decode b_M_takeCharacter 29 = .ok (.putfield 101, 3) := by decide +kernel
theorem d_M_takeCharacter_32 : decode b_M_takeCharacter 32 = .ok (.return_, 1) := by decide +kernel
def w_M_takeCharacter  (σ : MPS)  (post : MPS → Prop) : Prop := w_M_characterOf σ (mp_at σ) (fun r5 σ5 => ((0 ≤ r5 → (∀ σ29 : MPS, σ29 = ms_at σ5 ((mp_at σ5) + (mp_width σ5)) → post σ29)) ∧ (¬ 0 ≤ r5 → (∀ σ13 : MPS, σ13 = ms_bad σ5 1 → post σ13))))
set_option maxHeartbeats 4000000 in
set_option maxRecDepth 100000 in
theorem c_M_takeCharacter (l : Launch) (md : MD) (sz : Nat) (σ : MPS)   (post : MPS → Prop) (hE : w_M_takeCharacter σ post) : Met l y_M_takeCharacter ws_M_takeCharacter { frames := 3, cells := 0, slots := 0, locals := 73 } (va_Pc [.ref (mA md 0)] (gM md σ sz)) (va_Qv post (eM md (va_A (MW md σ) sz)) (va_A (MW md σ) sz)) 0 0 (va_A (MW md σ) sz) := by
  refine Met.ofW (cc := b_M_takeCharacter) (maxL := 1) (ret := none) (by decide) rfl ?_
  intro p e s m args below meth c s₁ B hml hv
  obtain ⟨rfl, hsz, hP, hK, hD0⟩ := hv
  have hx := B.exec
  have hb := B.bytes
  have hr := B.returns
  have hta : ∀ w ∈ aW, w.before _ s = true := fun w h => atoms_spec (ws := ws_M_takeCharacter) B.pre w (List.mem_cons_of_mem _ h)
  have hown : s.vm.findClass R_M = some m.cls := findClass_of_methodNamed B.named
  have hlocks := B.notSynchronized
  subst hsz
  have hD := hD0.self (sz := s.heap.size)
  generalize hAe : va_A (MW md σ) s.heap.size = A at hD ⊢
  have hA : ∀ q : Nat, s.heap.size ≤ q → A q := fun q h => by rw [← hAe]; exact Or.inr h
  have hS : va_S A s.heap s.heap [] := va_S.rf
  have hP : va_P (mG md) classes (MW md σ) s.heap := hP
  have hl := lv_entry ([.ref (mA md 0)]) (n := 1) (Nat.le_of_ble_eq_true rfl)
  rw [lg_entry_eq]
  generalize (lg_sl ([.ref (mA md 0)]) ++ List.replicate (1 - (lg_sl ([.ref (mA md 0)])).length) Slot.unset).toArray = ls at hl ⊢
  have hl : lv_has ls 1 [(0, .ref (mA md 0))] := hl
  unfold w_M_takeCharacter at hE
  refine lv_aload_n hx hb d_M_takeCharacter_0 rfl (lv_at hl 0 rfl) ?_
  refine lv_aload_n hx hb d_M_takeCharacter_1 rfl (lv_at hl 0 rfl) ?_
  refine va_get (D := (mG md)) (ci := 7) (v := .int (mp_at σ)) (C := R_M) (T := F_M) (N := 37) hx hb hta i_M hown hK hP 0 rfl rfl 13 (by decide) (hta _ fl_M_101) (fun _ h9 => h9) rfl d_M_takeCharacter_2 ?_
  refine mm_i (b0 := (mA md 0)) (As := [.int (mp_at σ)]) (rest := []) ⟨hx, hb, hml, hown, hta⟩ (c_M_characterOf l md _ σ (mp_at σ) _ hE) ok_M_139 ⟨Nat.le_of_ble_eq_true rfl, Nat.le_of_ble_eq_true rfl⟩ (va_recv hK hP (ci := 7) (q0 := 0) rfl rfl) hP hK hD hS hA rfl hl.1 rfl (Nat.le_of_ble_eq_true rfl) d_M_takeCharacter_5 ⟨Nat.zero_le _, Nat.zero_le _⟩ (fun r5 σ5 H locs hE hP hD hS => ?_)
  refine lv_if_ge (tgt := 19) hx hb d_M_takeCharacter_8 (by decide) (fun cc8 => ?_) (fun cc8 => ?_)
  · have hE := hE.1 cc8
    refine lv_aload_n hx hb d_M_takeCharacter_19 rfl (lv_at hl 0 rfl) ?_
    refine lv_dup hx hb d_M_takeCharacter_20 rfl ?_
    refine va_get (D := (mG md)) (ci := 7) (v := .int (mp_at σ5)) (C := R_M) (T := F_M) (N := 37) hx hb hta i_M hown hK hP 0 rfl rfl 13 (by decide) (hta _ fl_M_101) (fun _ h9 => h9) rfl d_M_takeCharacter_21 ?_
    refine lv_aload_n hx hb d_M_takeCharacter_24 rfl (lv_at hl 0 rfl) ?_
    refine va_get (D := (mG md)) (ci := 7) (v := .int (mp_width σ5)) (C := R_M) (T := F_M) (N := 37) hx hb hta i_M hown hK hP 0 rfl rfl 12 (by decide) (hta _ fl_M_76) (fun _ h9 => h9) rfl d_M_takeCharacter_25 ?_
    refine lv_iadd hx hb d_M_takeCharacter_28 ?_
    refine va_put (D := (mG md)) (ci := 7) (v := .int ((mp_at σ5) + (mp_width σ5))) (ty := .int) (C := R_M) (T := F_M) (N := 37) hx hb hta i_M t_M t_M_ok n_M hown hK hP hD hS 0 rfl rfl 13 (by decide) (hta _ fl_M_101) (fun _ h9 => h9) rfl (by decide +kernel) rfl rfl (Nat.le_of_ble_eq_true rfl) d_M_takeCharacter_29 (fun H locs hP hD hS => ?_)
    have hP := mwP_at hP
    have hD := mwD_at hD
    have hE := hE _ rfl
    generalize (ms_at σ5 ((mp_at σ5) + (mp_width σ5)) : MPS) = σ29 at hP hD hE
    exact W.vret hx hb hr (fun t ht hW => ⟨⟨σ29, rfl, hE, by rw [ht]; exact hP, va_K.moved hW.alike hK, hD⟩, hS.F ht⟩) hS.2.2 d_M_takeCharacter_32
  · have hE := hE.2 cc8
    refine lv_aload_n hx hb d_M_takeCharacter_11 rfl (lv_at hl 0 rfl) ?_
    refine lv_iconst (v := 1) hx hb d_M_takeCharacter_12 (by decide) ?_
    refine va_put (D := (mG md)) (ci := 7) (v := .int 1) (ty := .boolean) (C := R_M) (T := F_M) (N := 37) hx hb hta i_M t_M t_M_ok n_M hown hK hP hD hS 0 rfl rfl 16 (by decide) (hta _ fl_M_111) (fun _ h9 => h9) rfl (by decide +kernel) rfl rfl (Nat.le_of_ble_eq_true rfl) d_M_takeCharacter_13 (fun H locs hP hD hS => ?_)
    have hP := mwP_bad hP
    have hD := mwD_bad hD
    have hE := hE _ rfl
    generalize (ms_bad σ5 1 : MPS) = σ13 at hP hD hE
    refine lv_goto (tgt := 32) hx hb d_M_takeCharacter_16 (by decide) ?_
    exact W.vret hx hb hr (fun t ht hW => ⟨⟨σ13, rfl, hE, by rw [ht]; exact hP, va_K.moved hW.alike hK, hD⟩, hS.F ht⟩) hS.2.2 d_M_takeCharacter_32
