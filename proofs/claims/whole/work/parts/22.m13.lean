-- printed by wip/gen: the reference
theorem ok_M_283 : okV "PlainPagesModel" 283 R_M y_M_want b_M_want 3 none 1 := ⟨aW_in 1203 (by decide +kernel) rfl, aW_in 1205 (by decide +kernel) rfl, aW_in 66 (by decide +kernel) rfl, aW_in 92 (by decide +kernel) rfl, cd_M_want, rfl, by decide +kernel, by decide +kernel, by decide +kernel⟩
theorem ok_M_286 : okV "PlainPagesModel" 286 R_M y_M_withId b_M_withId 6 (some .int) 1 := ⟨aW_in 1207 (by decide +kernel) rfl, aW_in 1209 (by decide +kernel) rfl, aW_in 67 (by decide +kernel) rfl, aW_in 92 (by decide +kernel) rfl, cd_M_withId, rfl, by decide +kernel, by decide +kernel, by decide +kernel⟩
theorem cl_M_297 : Cond.constantLong "PlainPagesModel" 297 (495873782388) ∈ aW := aW_in 1215 (by decide +kernel) rfl
theorem cl_M_295 : Cond.constantLong "PlainPagesModel" 295 (427020088179) ∈ aW := aW_in 1214 (by decide +kernel) rfl
theorem cl_M_291 : Cond.constantLong "PlainPagesModel" 291 (7565923) ∈ aW := aW_in 1212 (by decide +kernel) rfl
theorem cl_M_293 : Cond.constantLong "PlainPagesModel" 293 (6384756) ∈ aW := aW_in 1213 (by decide +kernel) rfl
theorem cl_M_289 : Cond.constantLong "PlainPagesModel" 289 (1752327526) ∈ aW := aW_in 1211 (by decide +kernel) rfl
theorem ok_M_299 : okV "PlainPagesModel" 299 R_M y_M_attributes b_M_attributes 4 (some .int) 1 := ⟨aW_in 1216 (by decide +kernel) rfl, aW_in 1218 (by decide +kernel) rfl, aW_in 68 (by decide +kernel) rfl, aW_in 92 (by decide +kernel) rfl, cd_M_attributes, rfl, by decide +kernel, by decide +kernel, by decide +kernel⟩
theorem d_M_hasGoodAttributes_0 : decode b_M_hasGoodAttributes 0 = .ok (.iconst 0, 1) := by decide +kernel
theorem d_M_hasGoodAttributes_1 : decode b_M_hasGoodAttributes 1 = .ok (.istore_n 3, 1) := by decide +kernel
theorem d_M_hasGoodAttributes_2 : decode b_M_hasGoodAttributes 2 = .ok (.iconst 1, 1) := by decide +kernel
theorem d_M_hasGoodAttributes_3 : decode b_M_hasGoodAttributes 3 = .ok (.istore 4, 2) := by decide +kernel
theorem d_M_hasGoodAttributes_5 : decode b_M_hasGoodAttributes 5 = .ok (.aload_n 0, 1) := by decide +kernel
theorem d_M_hasGoodAttributes_6 : decode b_M_hasGoodAttributes 6 = .ok (.iload_n 1, 1) := by decide +kernel
theorem d_M_hasGoodAttributes_7 : decode b_M_hasGoodAttributes 7 = .ok (.ldc2_w 272, 3) := by decide +kernel
theorem d_M_hasGoodAttributes_10 : decode b_M_hasGoodAttributes 10 = .ok (.iconst 2, 1) := by decide +kernel
theorem d_M_hasGoodAttributes_11 : decode b_M_hasGoodAttributes 11 = .ok (.invokevirtual 274, 3) := by decide +kernel
theorem d_M_hasGoodAttributes_14 : decode b_M_hasGoodAttributes 14 = .ok (.ifCond .eq 30, 3) := by decide +kernel
theorem d_M_hasGoodAttributes_17 : decode b_M_hasGoodAttributes 17 = .ok (.iinc 3 1, 3) := by decide +kernel
theorem d_M_hasGoodAttributes_20 : decode b_M_hasGoodAttributes 20 = .ok (.aload_n 0, 1) := by decide +kernel
theorem d_M_hasGoodAttributes_21 : decode b_M_hasGoodAttributes 21 = .ok (.invokevirtual 277, 3) := by decide +kernel
theorem d_M_hasGoodAttributes_24 : decode b_M_hasGoodAttributes 24 = .ok (.aload_n 0, 1) := by decide +kernel
theorem d_M_hasGoodAttributes_25 : decode b_M_hasGoodAttributes 25 = .ok (.iconst 0, 1) := by decide +kernel
theorem d_M_hasGoodAttributes_26 : decode b_M_hasGoodAttributes 26 = .ok (.invokevirtual 283, 3) := by decide +kernel
theorem d_M_hasGoodAttributes_29 : decode b_M_hasGoodAttributes 29 = .ok (.aload_n 0, 1) := by decide +kernel
theorem d_M_hasGoodAttributes_30 : decode b_M_hasGoodAttributes 30 = .ok (.iload_n 1, 1) := by decide +kernel
theorem d_M_hasGoodAttributes_31 : decode b_M_hasGoodAttributes 31 = .ok (.invokevirtual 286, 3) := by decide +kernel
theorem d_M_hasGoodAttributes_34 : decode b_M_hasGoodAttributes 34 = .ok (.ifCond .ge 7, 3) := by decide +kernel
theorem d_M_hasGoodAttributes_37 : decode b_M_hasGoodAttributes 37 = .ok (.iconst 1, 1) := by decide +kernel
theorem d_M_hasGoodAttributes_38 : decode b_M_hasGoodAttributes 38 = .ok (.goto 4, 3) := by decide +kernel
theorem d_M_hasGoodAttributes_41 : decode b_M_hasGoodAttributes 41 = .ok (.iconst 0, 1) := by decide +kernel
theorem d_M_hasGoodAttributes_42 : decode b_M_hasGoodAttributes 42 = .ok (.istore 4, 2) := by decide +kernel
theorem d_M_hasGoodAttributes_44 : decode b_M_hasGoodAttributes 44 = .ok (.iload_n 2, 1) := by decide +kernel
theorem d_M_hasGoodAttributes_45 : decode b_M_hasGoodAttributes 45 = .ok (.bipush 18, 2) := by decide +kernel
theorem d_M_hasGoodAttributes_47 : decode b_M_hasGoodAttributes 47 = .ok (.if_icmp .ne 67, 3) := by decide +kernel
theorem d_M_hasGoodAttributes_50 : decode b_M_hasGoodAttributes 50 = .ok (.aload_n 0, 1) := by decide +kernel
theorem d_M_hasGoodAttributes_51 : decode b_M_hasGoodAttributes 51 = .ok (.iload_n 1, 1) := by decide +kernel
theorem d_M_hasGoodAttributes_52 : decode b_M_hasGoodAttributes 52 = .ok (.ldc2_w 289, 3) := by decide +kernel
theorem d_M_hasGoodAttributes_55 : decode b_M_hasGoodAttributes 55 = .ok (.iconst 4, 1) := by decide +kernel
theorem d_M_hasGoodAttributes_56 : decode b_M_hasGoodAttributes 56 = .ok (.invokevirtual 274, 3) := by decide +kernel
theorem d_M_hasGoodAttributes_59 : decode b_M_hasGoodAttributes 59 = .ok (.istore 5, 2) := by decide +kernel
theorem d_M_hasGoodAttributes_61 : decode b_M_hasGoodAttributes 61 = .ok (.iload 4, 2) := by decide +kernel
theorem d_M_hasGoodAttributes_63 : decode b_M_hasGoodAttributes 63 = .ok (.ifCond .eq 12, 3) := by decide +kernel
theorem d_M_hasGoodAttributes_66 : decode b_M_hasGoodAttributes 66 = .ok (.iload 5, 2) := by decide +kernel
theorem d_M_hasGoodAttributes_68 : decode b_M_hasGoodAttributes 68 = .ok (.ifCond .eq 7, 3) := by decide +kernel
theorem d_M_hasGoodAttributes_71 : decode b_M_hasGoodAttributes 71 = .ok (.iconst 1, 1) := by decide +kernel
theorem d_M_hasGoodAttributes_72 : decode b_M_hasGoodAttributes 72 = .ok (.goto 4, 3) := by decide +kernel
theorem d_M_hasGoodAttributes_75 : decode b_M_hasGoodAttributes 75 = .ok (.iconst 0, 1) := by decide +kernel
theorem d_M_hasGoodAttributes_76 : decode b_M_hasGoodAttributes 76 = .ok (.istore 4, 2) := by decide +kernel
theorem d_M_hasGoodAttributes_78 : decode b_M_hasGoodAttributes 78 = .ok (.iload_n 3, 1) := by decide +kernel
theorem d_M_hasGoodAttributes_79 : decode b_M_hasGoodAttributes 79 = .ok (.iload 5, 2) := by decide +kernel
theorem d_M_hasGoodAttributes_81 : decode b_M_hasGoodAttributes 81 = .ok (.ifCond .eq 7, 3) := by decide +kernel
theorem d_M_hasGoodAttributes_84 : decode b_M_hasGoodAttributes 84 = .ok (.iconst 1, 1) := by decide +kernel
theorem d_M_hasGoodAttributes_85 : decode b_M_hasGoodAttributes 85 = .ok (.goto 4, 3) := by decide +kernel
theorem d_M_hasGoodAttributes_88 : decode b_M_hasGoodAttributes 88 = .ok (.iconst 0, 1) := by decide +kernel
theorem d_M_hasGoodAttributes_89 : decode b_M_hasGoodAttributes 89 = .ok (.iadd, 1) := by decide +kernel
theorem d_M_hasGoodAttributes_90 : decode b_M_hasGoodAttributes 90 = .ok (.istore_n 3, 1) := by decide +kernel
theorem d_M_hasGoodAttributes_91 : decode b_M_hasGoodAttributes 91 = .ok (.iload_n 3, 1) := by decide +kernel
theorem d_M_hasGoodAttributes_92 : decode b_M_hasGoodAttributes 92 = .ok (.aload_n 0, 1) := by decide +kernel
theorem d_M_hasGoodAttributes_93 : decode b_M_hasGoodAttributes 93 = .ok (.iload_n 1, 1) := by decide +kernel
theorem d_M_hasGoodAttributes_94 : decode b_M_hasGoodAttributes 94 = .ok (.ldc2_w 235, 3) := by decide +kernel
theorem d_M_hasGoodAttributes_97 : decode b_M_hasGoodAttributes 97 = .ok (.iconst 5, 1) := by decide +kernel
theorem d_M_hasGoodAttributes_98 : decode b_M_hasGoodAttributes 98 = .ok (.invokevirtual 274, 3) := by decide +kernel
theorem d_M_hasGoodAttributes_101 : decode b_M_hasGoodAttributes 101 = .ok (.ifCond .eq 7, 3) := by decide +kernel
theorem d_M_hasGoodAttributes_104 : decode b_M_hasGoodAttributes 104 = .ok (.iconst 1, 1) := by decide +kernel
theorem d_M_hasGoodAttributes_105 : decode b_M_hasGoodAttributes 105 = .ok (.goto 4, 3) := by decide +kernel
theorem d_M_hasGoodAttributes_108 : decode b_M_hasGoodAttributes 108 = .ok (.iconst 0, 1) := by decide +kernel
theorem d_M_hasGoodAttributes_109 : decode b_M_hasGoodAttributes 109 = .ok (.iadd, 1) := by decide +kernel
theorem d_M_hasGoodAttributes_110 : decode b_M_hasGoodAttributes 110 = .ok (.istore_n 3, 1) := by decide +kernel
theorem d_M_hasGoodAttributes_111 : decode b_M_hasGoodAttributes 111 = .ok (.goto 219, 3) := by decide +kernel
theorem d_M_hasGoodAttributes_114 : decode b_M_hasGoodAttributes 114 = .ok (.iload_n 2, 1) := by decide +kernel
theorem d_M_hasGoodAttributes_115 : decode b_M_hasGoodAttributes 115 = .ok (.bipush 23, 2) := by decide +kernel
theorem d_M_hasGoodAttributes_117 : decode b_M_hasGoodAttributes 117 = .ok (.if_icmp .ne 87, 3) := by decide +kernel
theorem d_M_hasGoodAttributes_120 : decode b_M_hasGoodAttributes 120 = .ok (.aload_n 0, 1) := by decide +kernel
theorem d_M_hasGoodAttributes_121 : decode b_M_hasGoodAttributes 121 = .ok (.iload_n 1, 1) := by decide +kernel
theorem d_M_hasGoodAttributes_122 : decode b_M_hasGoodAttributes 122 = .ok (.ldc2_w 291, 3) := by decide +kernel
theorem d_M_hasGoodAttributes_125 : decode b_M_hasGoodAttributes 125 = .ok (.iconst 3, 1) := by decide +kernel
theorem d_M_hasGoodAttributes_126 : decode b_M_hasGoodAttributes 126 = .ok (.invokevirtual 274, 3) := by decide +kernel
theorem d_M_hasGoodAttributes_129 : decode b_M_hasGoodAttributes 129 = .ok (.ifCond .eq 19, 3) := by decide +kernel
theorem d_M_hasGoodAttributes_132 : decode b_M_hasGoodAttributes 132 = .ok (.aload_n 0, 1) := by decide +kernel
theorem d_M_hasGoodAttributes_133 : decode b_M_hasGoodAttributes 133 = .ok (.iload_n 1, 1) := by decide +kernel
theorem d_M_hasGoodAttributes_134 : decode b_M_hasGoodAttributes 134 = .ok (.ldc2_w 293, 3) := by decide +kernel
theorem d_M_hasGoodAttributes_137 : decode b_M_hasGoodAttributes 137 = .ok (.iconst 3, 1) := by decide +kernel
theorem d_M_hasGoodAttributes_138 : decode b_M_hasGoodAttributes 138 = .ok (.invokevirtual 274, 3) := by decide +kernel
theorem d_M_hasGoodAttributes_141 : decode b_M_hasGoodAttributes 141 = .ok (.ifCond .eq 7, 3) := by decide +kernel
theorem d_M_hasGoodAttributes_144 : decode b_M_hasGoodAttributes 144 = .ok (.iconst 1, 1) := by decide +kernel
theorem d_M_hasGoodAttributes_145 : decode b_M_hasGoodAttributes 145 = .ok (.goto 4, 3) := by decide +kernel
theorem d_M_hasGoodAttributes_148 : decode b_M_hasGoodAttributes 148 = .ok (.iconst 0, 1) := by decide +kernel
theorem d_M_hasGoodAttributes_149 : decode b_M_hasGoodAttributes 149 = .ok (.istore 5, 2) := by decide +kernel
theorem d_M_hasGoodAttributes_151 : decode b_M_hasGoodAttributes 151 = .ok (.iload 4, 2) := by decide +kernel
theorem d_M_hasGoodAttributes_153 : decode b_M_hasGoodAttributes 153 = .ok (.ifCond .eq 12, 3) := by decide +kernel
theorem d_M_hasGoodAttributes_156 : decode b_M_hasGoodAttributes 156 = .ok (.iload 5, 2) := by decide +kernel
theorem d_M_hasGoodAttributes_158 : decode b_M_hasGoodAttributes 158 = .ok (.ifCond .eq 7, 3) := by decide +kernel
theorem d_M_hasGoodAttributes_161 : decode b_M_hasGoodAttributes 161 = .ok (.iconst 1, 1) := by decide +kernel
theorem d_M_hasGoodAttributes_162 : decode b_M_hasGoodAttributes 162 = .ok (.goto 4, 3) := by decide +kernel
theorem d_M_hasGoodAttributes_165 : decode b_M_hasGoodAttributes 165 = .ok (.iconst 0, 1) := by decide +kernel
theorem d_M_hasGoodAttributes_166 : decode b_M_hasGoodAttributes 166 = .ok (.istore 4, 2) := by decide +kernel
theorem d_M_hasGoodAttributes_168 : decode b_M_hasGoodAttributes 168 = .ok (.iload_n 3, 1) := by decide +kernel
theorem d_M_hasGoodAttributes_169 : decode b_M_hasGoodAttributes 169 = .ok (.iload 5, 2) := by decide +kernel
theorem d_M_hasGoodAttributes_171 : decode b_M_hasGoodAttributes 171 = .ok (.ifCond .eq 7, 3) := by decide +kernel
theorem d_M_hasGoodAttributes_174 : decode b_M_hasGoodAttributes 174 = .ok (.iconst 2, 1) := by decide +kernel
theorem d_M_hasGoodAttributes_175 : decode b_M_hasGoodAttributes 175 = .ok (.goto 4, 3) := by decide +kernel
theorem d_M_hasGoodAttributes_178 : decode b_M_hasGoodAttributes 178 = .ok (.iconst 0, 1) := by decide +kernel
theorem d_M_hasGoodAttributes_179 : decode b_M_hasGoodAttributes 179 = .ok (.iadd, 1) := by decide +kernel
theorem d_M_hasGoodAttributes_180 : decode b_M_hasGoodAttributes 180 = .ok (.istore_n 3, 1) := by decide +kernel
theorem d_M_hasGoodAttributes_181 : decode b_M_hasGoodAttributes 181 = .ok (.iload_n 3, 1) := by decide +kernel
theorem d_M_hasGoodAttributes_182 : decode b_M_hasGoodAttributes 182 = .ok (.aload_n 0, 1) := by decide +kernel
theorem d_M_hasGoodAttributes_183 : decode b_M_hasGoodAttributes 183 = .ok (.iload_n 1, 1) := by decide +kernel
theorem d_M_hasGoodAttributes_184 : decode b_M_hasGoodAttributes 184 = .ok (.ldc2_w 235, 3) := by decide +kernel
theorem d_M_hasGoodAttributes_187 : decode b_M_hasGoodAttributes 187 = .ok (.iconst 5, 1) := by decide +kernel
theorem d_M_hasGoodAttributes_188 : decode b_M_hasGoodAttributes 188 = .ok (.invokevirtual 274, 3) := by decide +kernel
theorem d_M_hasGoodAttributes_191 : decode b_M_hasGoodAttributes 191 = .ok (.ifCond .eq 7, 3) := by decide +kernel
theorem d_M_hasGoodAttributes_194 : decode b_M_hasGoodAttributes 194 = .ok (.iconst 1, 1) := by decide +kernel
theorem d_M_hasGoodAttributes_195 : decode b_M_hasGoodAttributes 195 = .ok (.goto 4, 3) := by decide +kernel
theorem d_M_hasGoodAttributes_198 : decode b_M_hasGoodAttributes 198 = .ok (.iconst 0, 1) := by decide +kernel
theorem d_M_hasGoodAttributes_199 : decode b_M_hasGoodAttributes 199 = .ok (.iadd, 1) := by decide +kernel
theorem d_M_hasGoodAttributes_200 : decode b_M_hasGoodAttributes 200 = .ok (.istore_n 3, 1) := by decide +kernel
theorem d_M_hasGoodAttributes_201 : decode b_M_hasGoodAttributes 201 = .ok (.goto 129, 3) := by decide +kernel
theorem d_M_hasGoodAttributes_204 : decode b_M_hasGoodAttributes 204 = .ok (.iload_n 2, 1) := by decide +kernel
theorem d_M_hasGoodAttributes_205 : decode b_M_hasGoodAttributes 205 = .ok (.bipush 20, 2) := by decide +kernel
theorem d_M_hasGoodAttributes_207 : decode b_M_hasGoodAttributes 207 = .ok (.if_icmp .ne 26, 3) := by decide +kernel
theorem d_M_hasGoodAttributes_210 : decode b_M_hasGoodAttributes 210 = .ok (.iload_n 3, 1) := by decide +kernel
theorem d_M_hasGoodAttributes_211 : decode b_M_hasGoodAttributes 211 = .ok (.aload_n 0, 1) := by decide +kernel
theorem d_M_hasGoodAttributes_212 : decode b_M_hasGoodAttributes 212 = .ok (.iload_n 1, 1) := by decide +kernel
theorem d_M_hasGoodAttributes_213 : decode b_M_hasGoodAttributes 213 = .ok (.ldc2_w 295, 3) := by decide +kernel
theorem d_M_hasGoodAttributes_216 : decode b_M_hasGoodAttributes 216 = .ok (.iconst 5, 1) := by decide +kernel
theorem d_M_hasGoodAttributes_217 : decode b_M_hasGoodAttributes 217 = .ok (.invokevirtual 274, 3) := by decide +kernel
theorem d_M_hasGoodAttributes_220 : decode b_M_hasGoodAttributes 220 = .ok (.ifCond .eq 7, 3) := by decide +kernel
theorem d_M_hasGoodAttributes_223 : decode b_M_hasGoodAttributes 223 = .ok (.iconst 1, 1) := by decide +kernel
theorem d_M_hasGoodAttributes_224 : decode b_M_hasGoodAttributes 224 = .ok (.goto 4, 3) := by decide +kernel
theorem d_M_hasGoodAttributes_227 : decode b_M_hasGoodAttributes 227 = .ok (.iconst 0, 1) := by decide +kernel
theorem d_M_hasGoodAttributes_228 : decode b_M_hasGoodAttributes 228 = .ok (.iadd, 1) := by decide +kernel
theorem d_M_hasGoodAttributes_229 : decode b_M_hasGoodAttributes 229 = .ok (.istore_n 3, 1) := by decide +kernel
theorem d_M_hasGoodAttributes_230 : decode b_M_hasGoodAttributes 230 = .ok (.goto 100, 3) := by decide +kernel
theorem d_M_hasGoodAttributes_233 : decode b_M_hasGoodAttributes 233 = .ok (.iload_n 2, 1) := by decide +kernel
theorem d_M_hasGoodAttributes_234 : decode b_M_hasGoodAttributes 234 = .ok (.bipush 7, 2) := by decide +kernel
theorem d_M_hasGoodAttributes_236 : decode b_M_hasGoodAttributes 236 = .ok (.if_icmp .ne 94, 3) := by decide +kernel
theorem d_M_hasGoodAttributes_239 : decode b_M_hasGoodAttributes 239 = .ok (.aload_n 0, 1) := by decide +kernel
theorem d_M_hasGoodAttributes_240 : decode b_M_hasGoodAttributes 240 = .ok (.iload_n 1, 1) := by decide +kernel
theorem d_M_hasGoodAttributes_241 : decode b_M_hasGoodAttributes 241 = .ok (.ldc2_w 297, 3) := by decide +kernel
theorem d_M_hasGoodAttributes_244 : decode b_M_hasGoodAttributes 244 = .ok (.iconst 5, 1) := by decide +kernel
theorem d_M_hasGoodAttributes_245 : decode b_M_hasGoodAttributes 245 = .ok (.invokevirtual 274, 3) := by decide +kernel
theorem d_M_hasGoodAttributes_248 : decode b_M_hasGoodAttributes 248 = .ok (.ifCond .eq 82, 3) := by decide +kernel
theorem d_M_hasGoodAttributes_251 : decode b_M_hasGoodAttributes 251 = .ok (.iinc 3 1, 3) := by decide +kernel
theorem d_M_hasGoodAttributes_254 : decode b_M_hasGoodAttributes 254 = .ok (.aload_n 0, 1) := by decide +kernel
theorem d_M_hasGoodAttributes_255 : decode b_M_hasGoodAttributes 255 = .ok (.invokevirtual 277, 3) := by decide +kernel
theorem d_M_hasGoodAttributes_258 : decode b_M_hasGoodAttributes 258 = .ok (.iload 4, 2) := by decide +kernel
theorem d_M_hasGoodAttributes_260 : decode b_M_hasGoodAttributes 260 = .ok (.ifCond .eq 24, 3) := by decide +kernel
theorem d_M_hasGoodAttributes_263 : decode b_M_hasGoodAttributes 263 = .ok (.aload_n 0, 1) := by decide +kernel
theorem d_M_hasGoodAttributes_264 : decode b_M_hasGoodAttributes 264 = .ok (.getfield 269, 3) := by decide +kernel
theorem d_M_hasGoodAttributes_267 : decode b_M_hasGoodAttributes 267 = .ok (.iconst 1, 1) := by decide +kernel
theorem d_M_hasGoodAttributes_268 : decode b_M_hasGoodAttributes 268 = .ok (.if_icmp .lt 16, 3) := by decide +kernel
theorem d_M_hasGoodAttributes_271 : decode b_M_hasGoodAttributes 271 = .ok (.aload_n 0, 1) := by decide +kernel
theorem d_M_hasGoodAttributes_272 : decode b_M_hasGoodAttributes 272 = .ok (.getfield 269, 3) := by decide +kernel
theorem d_M_hasGoodAttributes_275 : decode b_M_hasGoodAttributes 275 = .ok (.bipush 9, 2) := by decide +kernel
theorem d_M_hasGoodAttributes_277 : decode b_M_hasGoodAttributes 277 = .ok (.if_icmp .gt 7, 3) := by decide +kernel
theorem d_M_hasGoodAttributes_280 : decode b_M_hasGoodAttributes 280 = .ok (.iconst 1, 1) := by decide +kernel
theorem d_M_hasGoodAttributes_281 : decode b_M_hasGoodAttributes 281 = .ok (.goto 4, 3) := by decide +kernel
theorem d_M_hasGoodAttributes_284 : decode b_M_hasGoodAttributes 284 = .ok (.iconst 0, 1) := by decide +kernel
theorem d_M_hasGoodAttributes_285 : decode b_M_hasGoodAttributes 285 = .ok (.istore 4, 2) := by decide +kernel
theorem d_M_hasGoodAttributes_287 : decode b_M_hasGoodAttributes 287 = .ok (.iconst 0, 1) := by decide +kernel
theorem d_M_hasGoodAttributes_288 : decode b_M_hasGoodAttributes 288 = .ok (.istore 5, 2) := by decide +kernel
theorem d_M_hasGoodAttributes_290 : decode b_M_hasGoodAttributes 290 = .ok (.iload 5, 2) := by decide +kernel
theorem d_M_hasGoodAttributes_292 : decode b_M_hasGoodAttributes 292 = .ok (.aload_n 0, 1) := by decide +kernel
theorem d_M_hasGoodAttributes_293 : decode b_M_hasGoodAttributes 293 = .ok (.getfield 269, 3) := by decide +kernel
theorem d_M_hasGoodAttributes_296 : decode b_M_hasGoodAttributes 296 = .ok (.if_icmp .ge 34, 3) := by decide +kernel
theorem d_M_hasGoodAttributes_299 : decode b_M_hasGoodAttributes 299 = .ok (.iload 4, 2) := by decide +kernel
theorem d_M_hasGoodAttributes_301 : decode b_M_hasGoodAttributes 301 = .ok (.ifCond .eq 20, 3) := by decide +kernel
theorem d_M_hasGoodAttributes_304 : decode b_M_hasGoodAttributes 304 = .ok (.aload_n 0, 1) := by decide +kernel
theorem d_M_hasGoodAttributes_305 : decode b_M_hasGoodAttributes 305 = .ok (.getfield 64, 3) := by decide +kernel
theorem d_M_hasGoodAttributes_308 : decode b_M_hasGoodAttributes 308 = .ok (.iload 5, 2) := by decide +kernel
theorem d_M_hasGoodAttributes_310 : decode b_M_hasGoodAttributes 310 = .ok (.iaload, 1) := by decide +kernel
theorem d_M_hasGoodAttributes_311 : decode b_M_hasGoodAttributes 311 = .ok (.invokestatic 85, 3) := by decide +kernel
theorem d_M_hasGoodAttributes_314 : decode b_M_hasGoodAttributes 314 = .ok (.ifCond .eq 7, 3) := by decide +kernel
theorem d_M_hasGoodAttributes_317 : decode b_M_hasGoodAttributes 317 = .ok (.iconst 1, 1) := by decide +kernel
theorem d_M_hasGoodAttributes_318 : decode b_M_hasGoodAttributes 318 = .ok (.goto 4, 3) := by decide +kernel
theorem d_M_hasGoodAttributes_321 : decode b_M_hasGoodAttributes 321 = .ok (.iconst 0, 1) := by decide +kernel
theorem d_M_hasGoodAttributes_322 : decode b_M_hasGoodAttributes 322 = .ok (.istore 4, 2) := by decide +kernel
theorem d_M_hasGoodAttributes_324 : decode b_M_hasGoodAttributes 324 = .ok (.iinc 5 1, 3) := by decide +kernel
theorem d_M_hasGoodAttributes_327 : decode b_M_hasGoodAttributes 327 = .ok (.goto (-37), 3) := by decide +kernel
theorem d_M_hasGoodAttributes_330 : decode b_M_hasGoodAttributes 330 = .ok (.iload 4, 2) := by decide +kernel
theorem d_M_hasGoodAttributes_332 : decode b_M_hasGoodAttributes 332 = .ok (.ifCond .eq 16, 3) := by decide +kernel
theorem d_M_hasGoodAttributes_335 : decode b_M_hasGoodAttributes 335 = .ok (.iload_n 3, 1) := by decide +kernel
theorem d_M_hasGoodAttributes_336 : decode b_M_hasGoodAttributes 336 = .ok (.aload_n 0, 1) := by decide +kernel
theorem d_M_hasGoodAttributes_337 : decode b_M_hasGoodAttributes 337 = .ok (.iload_n 1, 1) := by decide +kernel
theorem d_M_hasGoodAttributes_338 : decode b_M_hasGoodAttributes 338 = .ok (.invokevirtual 299, 3) := by decide +kernel
theorem d_M_hasGoodAttributes_341 : decode b_M_hasGoodAttributes 341 = .ok (.if_icmp .ne 7, 3) := by decide +kernel
theorem d_M_hasGoodAttributes_344 : decode b_M_hasGoodAttributes 344 = .ok (.iconst 1, 1) := by decide +kernel
theorem d_M_hasGoodAttributes_345 : decode b_M_hasGoodAttributes 345 = .ok (.goto 4, 3) := by decide +kernel
theorem d_M_hasGoodAttributes_348 : decode b_M_hasGoodAttributes 348 = .ok (.iconst 0, 1) := by decide +kernel
theorem d_M_hasGoodAttributes_349 : decode b_M_hasGoodAttributes 349 = .ok (.ireturn, 1) := by decide +kernel
def w_M_hasGoodAttributes_J330   (post : Int32 → MPS → Prop) (v1 : Int32) (v3 : Int32) (v4 : Int32) (σ : MPS) : Prop := ((v4 = 0 → post 0 σ) ∧ (¬ v4 = 0 → w_M_attributes σ v1 (fun r338 σ338 => ((v3 = r338 → post 1 σ338) ∧ (¬ v3 = r338 → post 0 σ338)))))
def w_M_hasGoodAttributes_J322  (v1 : Int32) (v3 : Int32) (K290 : Int32 → Int32 → MPS → Prop) (post : Int32 → MPS → Prop) (v5 : Int32) (t0 : Int32) (σ : MPS) : Prop := K290 t0 (v5 + 1) σ
def w_M_hasGoodAttributes_J321  (v1 : Int32) (v3 : Int32) (K290 : Int32 → Int32 → MPS → Prop) (post : Int32 → MPS → Prop) (v5 : Int32) (σ : MPS) : Prop := w_M_hasGoodAttributes_J322 v1 v3 (K290) post v5 0 σ
def w_M_hasGoodAttributes_L290  (v1 : Int32) (v3 : Int32) (post : Int32 → MPS → Prop) : Nat → Int32 → Int32 → MPS → Prop
  | 0, _, _, _ => False
  | n290 + 1, v4, v5, σ => (((mp_valueMany σ) ≤ v5 → w_M_hasGoodAttributes_J330 post v1 v3 v4 σ) ∧ (¬ (mp_valueMany σ) ≤ v5 → ((v4 = 0 → w_M_hasGoodAttributes_J321 v1 v3 (w_M_hasGoodAttributes_L290 v1 v3 post n290) post v5 σ) ∧ (¬ v4 = 0 → (vp_in v5 4000 ∧ (((b2i (cDg ((mp_value σ) v5.toNatClampNeg))) = 0 → w_M_hasGoodAttributes_J321 v1 v3 (w_M_hasGoodAttributes_L290 v1 v3 post n290) post v5 σ) ∧ (¬ (b2i (cDg ((mp_value σ) v5.toNatClampNeg))) = 0 → w_M_hasGoodAttributes_J322 v1 v3 (w_M_hasGoodAttributes_L290 v1 v3 post n290) post v5 1 σ)))))))
def w_M_hasGoodAttributes_J285   (post : Int32 → MPS → Prop) (v1 : Int32) (v3 : Int32) (t0 : Int32) (σ : MPS) : Prop := (∃ n290, w_M_hasGoodAttributes_L290 v1 v3 post n290 t0 0 σ)
def w_M_hasGoodAttributes_J284   (post : Int32 → MPS → Prop) (v1 : Int32) (v3 : Int32) (σ : MPS) : Prop := w_M_hasGoodAttributes_J285 post v1 v3 0 σ
def w_M_hasGoodAttributes_J228   (post : Int32 → MPS → Prop) (v1 : Int32) (v4 : Int32) (t0 : Int32) (t1 : Int32) (σ : MPS) : Prop := w_M_hasGoodAttributes_J330 post v1 (t1 + t0) v4 σ
def w_M_hasGoodAttributes_J199   (post : Int32 → MPS → Prop) (v1 : Int32) (v4 : Int32) (t0 : Int32) (t1 : Int32) (σ : MPS) : Prop := w_M_hasGoodAttributes_J330 post v1 (t1 + t0) v4 σ
def w_M_hasGoodAttributes_J179   (post : Int32 → MPS → Prop) (v1 : Int32) (v4 : Int32) (t0 : Int32) (t1 : Int32) (σ : MPS) : Prop := w_M_hasAttribute σ v1 499985443941 5 (fun r188 σ188 => ((r188 = 0 → w_M_hasGoodAttributes_J199 post v1 v4 0 (t1 + t0) σ188) ∧ (¬ r188 = 0 → w_M_hasGoodAttributes_J199 post v1 v4 1 (t1 + t0) σ188)))
def w_M_hasGoodAttributes_J166   (post : Int32 → MPS → Prop) (v1 : Int32) (v3 : Int32) (v5 : Int32) (t0 : Int32) (σ : MPS) : Prop := ((v5 = 0 → w_M_hasGoodAttributes_J179 post v1 t0 0 v3 σ) ∧ (¬ v5 = 0 → w_M_hasGoodAttributes_J179 post v1 t0 2 v3 σ))
def w_M_hasGoodAttributes_J165   (post : Int32 → MPS → Prop) (v1 : Int32) (v3 : Int32) (v5 : Int32) (σ : MPS) : Prop := w_M_hasGoodAttributes_J166 post v1 v3 v5 0 σ
def w_M_hasGoodAttributes_J149   (post : Int32 → MPS → Prop) (v1 : Int32) (v3 : Int32) (v4 : Int32) (t0 : Int32) (σ : MPS) : Prop := ((v4 = 0 → w_M_hasGoodAttributes_J165 post v1 v3 t0 σ) ∧ (¬ v4 = 0 → ((t0 = 0 → w_M_hasGoodAttributes_J165 post v1 v3 t0 σ) ∧ (¬ t0 = 0 → w_M_hasGoodAttributes_J166 post v1 v3 t0 1 σ))))
def w_M_hasGoodAttributes_J148   (post : Int32 → MPS → Prop) (v1 : Int32) (v3 : Int32) (v4 : Int32) (σ : MPS) : Prop := w_M_hasGoodAttributes_J149 post v1 v3 v4 0 σ
def w_M_hasGoodAttributes_J109   (post : Int32 → MPS → Prop) (v1 : Int32) (v4 : Int32) (t0 : Int32) (t1 : Int32) (σ : MPS) : Prop := w_M_hasGoodAttributes_J330 post v1 (t1 + t0) v4 σ
def w_M_hasGoodAttributes_J89   (post : Int32 → MPS → Prop) (v1 : Int32) (v4 : Int32) (t0 : Int32) (t1 : Int32) (σ : MPS) : Prop := w_M_hasAttribute σ v1 499985443941 5 (fun r98 σ98 => ((r98 = 0 → w_M_hasGoodAttributes_J109 post v1 v4 0 (t1 + t0) σ98) ∧ (¬ r98 = 0 → w_M_hasGoodAttributes_J109 post v1 v4 1 (t1 + t0) σ98)))
def w_M_hasGoodAttributes_J76   (post : Int32 → MPS → Prop) (v1 : Int32) (v3 : Int32) (v5 : Int32) (t0 : Int32) (σ : MPS) : Prop := ((v5 = 0 → w_M_hasGoodAttributes_J89 post v1 t0 0 v3 σ) ∧ (¬ v5 = 0 → w_M_hasGoodAttributes_J89 post v1 t0 1 v3 σ))
def w_M_hasGoodAttributes_J75   (post : Int32 → MPS → Prop) (v1 : Int32) (v3 : Int32) (v5 : Int32) (σ : MPS) : Prop := w_M_hasGoodAttributes_J76 post v1 v3 v5 0 σ
def w_M_hasGoodAttributes_J44   (post : Int32 → MPS → Prop) (v1 : Int32) (v2 : Int32) (v3 : Int32) (v4 : Int32) (σ : MPS) : Prop := ((v2 = 18 → w_M_hasAttribute σ v1 1752327526 4 (fun r56 σ56 => ((v4 = 0 → w_M_hasGoodAttributes_J75 post v1 v3 r56 σ56) ∧ (¬ v4 = 0 → ((r56 = 0 → w_M_hasGoodAttributes_J75 post v1 v3 r56 σ56) ∧ (¬ r56 = 0 → w_M_hasGoodAttributes_J76 post v1 v3 r56 1 σ56)))))) ∧ (¬ v2 = 18 → ((v2 = 23 → w_M_hasAttribute σ v1 7565923 3 (fun r126 σ126 => ((r126 = 0 → w_M_hasGoodAttributes_J148 post v1 v3 v4 σ126) ∧ (¬ r126 = 0 → w_M_hasAttribute σ126 v1 6384756 3 (fun r138 σ138 => ((r138 = 0 → w_M_hasGoodAttributes_J148 post v1 v3 v4 σ138) ∧ (¬ r138 = 0 → w_M_hasGoodAttributes_J149 post v1 v3 v4 1 σ138))))))) ∧ (¬ v2 = 23 → ((v2 = 20 → w_M_hasAttribute σ v1 427020088179 5 (fun r217 σ217 => ((r217 = 0 → w_M_hasGoodAttributes_J228 post v1 v4 0 v3 σ217) ∧ (¬ r217 = 0 → w_M_hasGoodAttributes_J228 post v1 v4 1 v3 σ217)))) ∧ (¬ v2 = 20 → ((v2 = 7 → w_M_hasAttribute σ v1 495873782388 5 (fun r245 σ245 => ((r245 = 0 → w_M_hasGoodAttributes_J330 post v1 v3 v4 σ245) ∧ (¬ r245 = 0 → w_M_takeValue σ245  (fun σ255 => ((v4 = 0 → w_M_hasGoodAttributes_J284 post v1 (v3 + 1) σ255) ∧ (¬ v4 = 0 → (((mp_valueMany σ255) < 1 → w_M_hasGoodAttributes_J284 post v1 (v3 + 1) σ255) ∧ (¬ (mp_valueMany σ255) < 1 → ((9 < (mp_valueMany σ255) → w_M_hasGoodAttributes_J284 post v1 (v3 + 1) σ255) ∧ (¬ 9 < (mp_valueMany σ255) → w_M_hasGoodAttributes_J285 post v1 (v3 + 1) 1 σ255))))))))))) ∧ (¬ v2 = 7 → w_M_hasGoodAttributes_J330 post v1 v3 v4 σ))))))))
def w_M_hasGoodAttributes_J42   (post : Int32 → MPS → Prop) (v1 : Int32) (v2 : Int32) (v3 : Int32) (t0 : Int32) (σ : MPS) : Prop := w_M_hasGoodAttributes_J44 post v1 v2 v3 t0 σ
def w_M_hasGoodAttributes  (σ : MPS) (x0 : Int32) (x1 : Int32) (post : Int32 → MPS → Prop) : Prop := w_M_hasAttribute σ x0 26980 2 (fun r11 σ11 => ((r11 = 0 → w_M_hasGoodAttributes_J44 post x0 x1 0 1 σ11) ∧ (¬ r11 = 0 → w_M_takeValue σ11  (fun σ21 => w_M_want σ21 0 (fun σ26 => w_M_withId σ26 x0 (fun r31 σ31 => ((0 ≤ r31 → w_M_hasGoodAttributes_J42 post x0 x1 (0 + 1) 0 σ31) ∧ (¬ 0 ≤ r31 → w_M_hasGoodAttributes_J42 post x0 x1 (0 + 1) 1 σ31))))))))
set_option maxHeartbeats 4000000 in
set_option maxRecDepth 100000 in
theorem c_M_hasGoodAttributes (l : Launch) (md : MD) (sz : Nat) (σ : MPS) (x0 : Int32) (x1 : Int32)  (post : Int32 → MPS → Prop) (hE : w_M_hasGoodAttributes σ x0 x1 post) : Met l y_M_hasGoodAttributes ws_M_hasGoodAttributes { frames := 5, cells := 0, slots := 0, locals := 119 } (va_Pc [.ref (mA md 0), .int x0, .int x1] (gM md σ sz)) (va_Qi post (eM md (va_A (MW md σ) sz)) (va_A (MW md σ) sz)) 0 0 (va_A (MW md σ) sz) := by
  refine Met.ofW (cc := b_M_hasGoodAttributes) (maxL := 6) (ret := (some .boolean)) (by decide) rfl ?_
  intro p e s m args below meth c s₁ B hml hv
  obtain ⟨rfl, hsz, hP, hK, hD0⟩ := hv
  have hx := B.exec
  have hb := B.bytes
  have hr := B.returns
  have hta : ∀ w ∈ aW, w.before _ s = true := fun w h => atoms_spec (ws := ws_M_hasGoodAttributes) B.pre w (List.mem_cons_of_mem _ h)
  have hown : s.vm.findClass R_M = some m.cls := findClass_of_methodNamed B.named
  have hlocks := B.notSynchronized
  subst hsz
  have hD := hD0.self (sz := s.heap.size)
  generalize hAe : va_A (MW md σ) s.heap.size = A at hD ⊢
  have hA : ∀ q : Nat, s.heap.size ≤ q → A q := fun q h => by rw [← hAe]; exact Or.inr h
  have hS : va_S A s.heap s.heap [] := va_S.rf
  have hP : va_P (mG md) classes (MW md σ) s.heap := hP
  have hl := lv_entry ([.ref (mA md 0), .int x0, .int x1]) (n := 6) (Nat.le_of_ble_eq_true rfl)
  rw [lg_entry_eq]
  generalize (lg_sl ([.ref (mA md 0), .int x0, .int x1]) ++ List.replicate (6 - (lg_sl ([.ref (mA md 0), .int x0, .int x1])).length) Slot.unset).toArray = ls at hl ⊢
  have hl : lv_has ls 6 [(0, .ref (mA md 0)), (1, .int x0), (2, .int x1)] := hl
  have J330 : ∀ (v1 : Int32) (v3 : Int32) (v4 : Int32) (σ : MPS) (H : Heap) (locs : List Loc) (hP : va_P (mG md) classes (MW md σ) H) (hD : va_D A (MW md σ)) (hS : va_S A s.heap H locs) (ls : Array Slot) (hl : lv_has ls 6 [(0, .ref (mA md 0)), (1, .int v1), (3, .int v3), (4, .int v4)]) (hE : w_M_hasGoodAttributes_J330 post v1 v3 v4 σ), W p l e (headSpec ws_M_hasGoodAttributes { frames := 5, cells := 0, slots := 0, locals := 119 }).room s m ([.ref (mA md 0), .int x0, .int x1] : List Value).toArray below meth c H locs 0 0 (MQ below (va_Qi post (eM md A) A) ([.ref (mA md 0), .int x0, .int x1] : List Value).toArray s 0 0 A) (F0 m 330 ls []) := by
    intro  v1 v3 v4 σ H locs hP hD hS ls hl hE
    unfold w_M_hasGoodAttributes_J330 at hE
    refine lv_iload hx hb d_M_hasGoodAttributes_330 (lv_at hl 3 rfl) ?_
    refine lv_if_eq (tgt := 348) hx hb d_M_hasGoodAttributes_332 (by decide) (fun cc332 => ?_) (fun cc332 => ?_)
    · have hE := hE.1 cc332
      refine lv_iconst (v := 0) hx hb d_M_hasGoodAttributes_348 (by decide) ?_
      exact W.zret (v := 0) hx hb hr rfl (fun t ht hW => ⟨⟨_, σ, rfl, hE, by rw [ht]; exact hP, va_K.moved hW.alike hK, hD⟩, hS.F ht⟩) hS.2.2 d_M_hasGoodAttributes_349
    · have hE := hE.2 cc332
      refine lv_iload_n hx hb d_M_hasGoodAttributes_335 rfl (lv_at hl 2 rfl) ?_
      refine lv_aload_n hx hb d_M_hasGoodAttributes_336 rfl (lv_at hl 0 rfl) ?_
      refine lv_iload_n hx hb d_M_hasGoodAttributes_337 rfl (lv_at hl 1 rfl) ?_
      refine mm_i (b0 := (mA md 0)) (As := [.int v1]) (rest := [.int v3]) ⟨hx, hb, hml, hown, hta⟩ (c_M_attributes l md _ σ v1 _ hE) ok_M_299 ⟨Nat.le_of_ble_eq_true rfl, Nat.le_of_ble_eq_true rfl⟩ (va_recv hK hP (ci := 7) (q0 := 0) rfl rfl) hP hK hD hS hA rfl hl.1 rfl (Nat.le_of_ble_eq_true rfl) d_M_hasGoodAttributes_338 ⟨Nat.zero_le _, Nat.zero_le _⟩ (fun r338 σ338 H locs hE hP hD hS => ?_)
      refine lv_icmp_ne (tgt := 348) hx hb d_M_hasGoodAttributes_341 (by decide) (fun cc341 => ?_) (fun cc341 => ?_)
      · have hE := hE.2 cc341
        refine lv_iconst (v := 0) hx hb d_M_hasGoodAttributes_348 (by decide) ?_
        exact W.zret (v := 0) hx hb hr rfl (fun t ht hW => ⟨⟨_, σ338, rfl, hE, by rw [ht]; exact hP, va_K.moved hW.alike hK, hD⟩, hS.F ht⟩) hS.2.2 d_M_hasGoodAttributes_349
      · have hE := hE.1 cc341
        refine lv_iconst (v := 1) hx hb d_M_hasGoodAttributes_344 (by decide) ?_
        refine lv_goto (tgt := 349) hx hb d_M_hasGoodAttributes_345 (by decide) ?_
        exact W.zret (v := 1) hx hb hr rfl (fun t ht hW => ⟨⟨_, σ338, rfl, hE, by rw [ht]; exact hP, va_K.moved hW.alike hK, hD⟩, hS.F ht⟩) hS.2.2 d_M_hasGoodAttributes_349
  have L290 : ∀ (v1 : Int32) (v3 : Int32) (n290 : Nat) (v4 : Int32) (v5 : Int32) (σ : MPS) (H : Heap) (locs : List Loc) (hP : va_P (mG md) classes (MW md σ) H) (hD : va_D A (MW md σ)) (hS : va_S A s.heap H locs) (ls : Array Slot) (hl : lv_has ls 6 [(0, .ref (mA md 0)), (1, .int v1), (3, .int v3), (4, .int v4), (5, .int v5)]) (hE : w_M_hasGoodAttributes_L290 v1 v3 post n290 v4 v5 σ), W p l e (headSpec ws_M_hasGoodAttributes { frames := 5, cells := 0, slots := 0, locals := 119 }).room s m ([.ref (mA md 0), .int x0, .int x1] : List Value).toArray below meth c H locs 0 0 (MQ below (va_Qi post (eM md A) A) ([.ref (mA md 0), .int x0, .int x1] : List Value).toArray s 0 0 A) (F0 m 290 ls []) := by
    intro v1 v3 n290
    induction n290 with
    | zero => intro v4 v5 σ H locs hP hD hS ls hl hE; exact hE.elim
    | succ n290 ih290 =>
      have J322 : ∀ (v5 : Int32) (t0 : Int32) (σ : MPS) (H : Heap) (locs : List Loc) (hP : va_P (mG md) classes (MW md σ) H) (hD : va_D A (MW md σ)) (hS : va_S A s.heap H locs) (ls : Array Slot) (hl : lv_has ls 6 [(0, .ref (mA md 0)), (1, .int v1), (3, .int v3), (5, .int v5)]) (hE : w_M_hasGoodAttributes_J322 v1 v3 (w_M_hasGoodAttributes_L290 v1 v3 post n290) post v5 t0 σ), W p l e (headSpec ws_M_hasGoodAttributes { frames := 5, cells := 0, slots := 0, locals := 119 }).room s m ([.ref (mA md 0), .int x0, .int x1] : List Value).toArray below meth c H locs 0 0 (MQ below (va_Qi post (eM md A) A) ([.ref (mA md 0), .int x0, .int x1] : List Value).toArray s 0 0 A) (F0 m 322 ls [.int t0]) := by
        intro  v5 t0 σ H locs hP hD hS ls hl hE
        unfold w_M_hasGoodAttributes_J322 at hE
        refine lv_istore (lv' := [(4, .int t0), (0, .ref (mA md 0)), (1, .int v1), (3, .int v3), (5, .int v5)]) hx hb d_M_hasGoodAttributes_322 hl (by decide) rfl (fun ls hl => ?_)
        refine lv_iinc (v := v5 + 1) (lv' := [(5, .int (v5 + 1)), (4, .int t0), (0, .ref (mA md 0)), (1, .int v1), (3, .int v3)]) hx hb d_M_hasGoodAttributes_324 hl (k := 4) rfl rfl (by decide) rfl (fun ls hl => ?_)
        refine lv_goto (tgt := 290) hx hb d_M_hasGoodAttributes_327 (by decide) ?_
        exact ih290 t0 (v5 + 1) σ _ _ hP hD hS _ (lv_sub hl [2, 3, 4, 1, 0] rfl) hE
      have J321 : ∀ (v5 : Int32) (σ : MPS) (H : Heap) (locs : List Loc) (hP : va_P (mG md) classes (MW md σ) H) (hD : va_D A (MW md σ)) (hS : va_S A s.heap H locs) (ls : Array Slot) (hl : lv_has ls 6 [(0, .ref (mA md 0)), (1, .int v1), (3, .int v3), (5, .int v5)]) (hE : w_M_hasGoodAttributes_J321 v1 v3 (w_M_hasGoodAttributes_L290 v1 v3 post n290) post v5 σ), W p l e (headSpec ws_M_hasGoodAttributes { frames := 5, cells := 0, slots := 0, locals := 119 }).room s m ([.ref (mA md 0), .int x0, .int x1] : List Value).toArray below meth c H locs 0 0 (MQ below (va_Qi post (eM md A) A) ([.ref (mA md 0), .int x0, .int x1] : List Value).toArray s 0 0 A) (F0 m 321 ls []) := by
        intro  v5 σ H locs hP hD hS ls hl hE
        unfold w_M_hasGoodAttributes_J321 at hE
        refine lv_iconst (v := 0) hx hb d_M_hasGoodAttributes_321 (by decide) ?_
        exact J322  v5 0 σ _ _ hP hD hS _ (lv_sub hl [0, 1, 2, 3] rfl) hE
      intro v4 v5 σ H locs hP hD hS ls hl hE
      unfold w_M_hasGoodAttributes_L290 at hE
      refine lv_iload hx hb d_M_hasGoodAttributes_290 (lv_at hl 4 rfl) ?_
      refine lv_aload_n hx hb d_M_hasGoodAttributes_292 rfl (lv_at hl 0 rfl) ?_
      refine va_get (D := (mG md)) (ci := 7) (v := .int (mp_valueMany σ)) (C := R_M) (T := F_M) (N := 37) hx hb hta i_M hown hK hP 0 rfl rfl 35 (by decide) (hta _ fl_M_269) (fun _ h9 => h9) rfl d_M_hasGoodAttributes_293 ?_
      refine lv_icmp_ge (tgt := 330) hx hb d_M_hasGoodAttributes_296 (by decide) (fun cc296 => ?_) (fun cc296 => ?_)
      · have hE := hE.1 cc296
        exact J330  v1 v3 v4 σ _ _ hP hD hS _ (lv_sub hl [0, 1, 2, 3] rfl) hE
      · have hE := hE.2 cc296
        refine lv_iload hx hb d_M_hasGoodAttributes_299 (lv_at hl 3 rfl) ?_
        refine lv_if_eq (tgt := 321) hx hb d_M_hasGoodAttributes_301 (by decide) (fun cc301 => ?_) (fun cc301 => ?_)
        · have hE := hE.1 cc301
          exact J321  v5 σ _ _ hP hD hS _ (lv_sub hl [0, 1, 2, 4] rfl) hE
        · have hE := hE.2 cc301
          refine lv_aload_n hx hb d_M_hasGoodAttributes_304 rfl (lv_at hl 0 rfl) ?_
          refine va_get (D := (mG md)) (ci := 7) (v := .ref (mA md 17)) (C := R_M) (T := F_M) (N := 37) hx hb hta i_M hown hK hP 0 rfl rfl 33 (by decide) (hta _ fl_M_64) (fun _ h9 => h9) rfl d_M_hasGoodAttributes_305 ?_
          refine lv_iload hx hb d_M_hasGoodAttributes_308 (lv_at hl 4 rfl) ?_
          obtain ⟨hI310, hE⟩ := hE
          refine va_iald (D := (mG md)) (f := mp_value σ) hx hb hK hP 17 0 rfl rfl hI310 d_M_hasGoodAttributes_310 ?_
          refine ro_S  (As := [.int ((mp_value σ) v5.toNatClampNeg)]) (rest := []) ⟨hx, hb, hml, hown, hta⟩ (f_M_isDigit l ((mp_value σ) v5.toNatClampNeg)) ok_M_85 ⟨Nat.le_of_ble_eq_true rfl, Nat.le_of_ble_eq_true rfl⟩ blind_true  (fun _ _ _ => trivial) rfl hl.1 rfl (Nat.le_of_ble_eq_true rfl) d_M_hasGoodAttributes_311 ⟨Nat.zero_le _, Nat.zero_le _⟩ (fun r311 hrr => ?_)
          subst hrr
          refine lv_if_eq (tgt := 321) hx hb d_M_hasGoodAttributes_314 (by decide) (fun cc314 => ?_) (fun cc314 => ?_)
          · have hE := hE.1 cc314
            exact J321  v5 σ _ _ hP hD hS _ (lv_sub hl [0, 1, 2, 4] rfl) hE
          · have hE := hE.2 cc314
            refine lv_iconst (v := 1) hx hb d_M_hasGoodAttributes_317 (by decide) ?_
            refine lv_goto (tgt := 322) hx hb d_M_hasGoodAttributes_318 (by decide) ?_
            exact J322  v5 1 σ _ _ hP hD hS _ (lv_sub hl [0, 1, 2, 4] rfl) hE
  have J285 : ∀ (v1 : Int32) (v3 : Int32) (t0 : Int32) (σ : MPS) (H : Heap) (locs : List Loc) (hP : va_P (mG md) classes (MW md σ) H) (hD : va_D A (MW md σ)) (hS : va_S A s.heap H locs) (ls : Array Slot) (hl : lv_has ls 6 [(0, .ref (mA md 0)), (1, .int v1), (3, .int v3)]) (hE : w_M_hasGoodAttributes_J285 post v1 v3 t0 σ), W p l e (headSpec ws_M_hasGoodAttributes { frames := 5, cells := 0, slots := 0, locals := 119 }).room s m ([.ref (mA md 0), .int x0, .int x1] : List Value).toArray below meth c H locs 0 0 (MQ below (va_Qi post (eM md A) A) ([.ref (mA md 0), .int x0, .int x1] : List Value).toArray s 0 0 A) (F0 m 285 ls [.int t0]) := by
    intro  v1 v3 t0 σ H locs hP hD hS ls hl hE
    unfold w_M_hasGoodAttributes_J285 at hE
    refine lv_istore (lv' := [(4, .int t0), (0, .ref (mA md 0)), (1, .int v1), (3, .int v3)]) hx hb d_M_hasGoodAttributes_285 hl (by decide) rfl (fun ls hl => ?_)
    refine lv_iconst (v := 0) hx hb d_M_hasGoodAttributes_287 (by decide) ?_
    refine lv_istore (lv' := [(5, .int 0), (4, .int t0), (0, .ref (mA md 0)), (1, .int v1), (3, .int v3)]) hx hb d_M_hasGoodAttributes_288 hl (by decide) rfl (fun ls hl => ?_)
    obtain ⟨n290, hE⟩ := hE
    exact L290 v1 v3 n290 t0 0 σ _ _ hP hD hS _ (lv_sub hl [2, 3, 4, 1, 0] rfl) hE
  have J284 : ∀ (v1 : Int32) (v3 : Int32) (σ : MPS) (H : Heap) (locs : List Loc) (hP : va_P (mG md) classes (MW md σ) H) (hD : va_D A (MW md σ)) (hS : va_S A s.heap H locs) (ls : Array Slot) (hl : lv_has ls 6 [(0, .ref (mA md 0)), (1, .int v1), (3, .int v3)]) (hE : w_M_hasGoodAttributes_J284 post v1 v3 σ), W p l e (headSpec ws_M_hasGoodAttributes { frames := 5, cells := 0, slots := 0, locals := 119 }).room s m ([.ref (mA md 0), .int x0, .int x1] : List Value).toArray below meth c H locs 0 0 (MQ below (va_Qi post (eM md A) A) ([.ref (mA md 0), .int x0, .int x1] : List Value).toArray s 0 0 A) (F0 m 284 ls []) := by
    intro  v1 v3 σ H locs hP hD hS ls hl hE
    unfold w_M_hasGoodAttributes_J284 at hE
    refine lv_iconst (v := 0) hx hb d_M_hasGoodAttributes_284 (by decide) ?_
    exact J285  v1 v3 0 σ _ _ hP hD hS _ (lv_sub hl [0, 1, 2] rfl) hE
  have J228 : ∀ (v1 : Int32) (v4 : Int32) (t0 : Int32) (t1 : Int32) (σ : MPS) (H : Heap) (locs : List Loc) (hP : va_P (mG md) classes (MW md σ) H) (hD : va_D A (MW md σ)) (hS : va_S A s.heap H locs) (ls : Array Slot) (hl : lv_has ls 6 [(0, .ref (mA md 0)), (1, .int v1), (4, .int v4)]) (hE : w_M_hasGoodAttributes_J228 post v1 v4 t0 t1 σ), W p l e (headSpec ws_M_hasGoodAttributes { frames := 5, cells := 0, slots := 0, locals := 119 }).room s m ([.ref (mA md 0), .int x0, .int x1] : List Value).toArray below meth c H locs 0 0 (MQ below (va_Qi post (eM md A) A) ([.ref (mA md 0), .int x0, .int x1] : List Value).toArray s 0 0 A) (F0 m 228 ls [.int t0, .int t1]) := by
    intro  v1 v4 t0 t1 σ H locs hP hD hS ls hl hE
    unfold w_M_hasGoodAttributes_J228 at hE
    refine lv_iadd hx hb d_M_hasGoodAttributes_228 ?_
    refine lv_istore_n (lv' := [(3, .int (t1 + t0)), (0, .ref (mA md 0)), (1, .int v1), (4, .int v4)]) hx hb d_M_hasGoodAttributes_229 rfl hl (by decide) rfl (fun ls hl => ?_)
    refine lv_goto (tgt := 330) hx hb d_M_hasGoodAttributes_230 (by decide) ?_
    exact J330  v1 (t1 + t0) v4 σ _ _ hP hD hS _ (lv_sub hl [1, 2, 0, 3] rfl) hE
  have J199 : ∀ (v1 : Int32) (v4 : Int32) (t0 : Int32) (t1 : Int32) (σ : MPS) (H : Heap) (locs : List Loc) (hP : va_P (mG md) classes (MW md σ) H) (hD : va_D A (MW md σ)) (hS : va_S A s.heap H locs) (ls : Array Slot) (hl : lv_has ls 6 [(0, .ref (mA md 0)), (1, .int v1), (4, .int v4)]) (hE : w_M_hasGoodAttributes_J199 post v1 v4 t0 t1 σ), W p l e (headSpec ws_M_hasGoodAttributes { frames := 5, cells := 0, slots := 0, locals := 119 }).room s m ([.ref (mA md 0), .int x0, .int x1] : List Value).toArray below meth c H locs 0 0 (MQ below (va_Qi post (eM md A) A) ([.ref (mA md 0), .int x0, .int x1] : List Value).toArray s 0 0 A) (F0 m 199 ls [.int t0, .int t1]) := by
    intro  v1 v4 t0 t1 σ H locs hP hD hS ls hl hE
    unfold w_M_hasGoodAttributes_J199 at hE
    refine lv_iadd hx hb d_M_hasGoodAttributes_199 ?_
    refine lv_istore_n (lv' := [(3, .int (t1 + t0)), (0, .ref (mA md 0)), (1, .int v1), (4, .int v4)]) hx hb d_M_hasGoodAttributes_200 rfl hl (by decide) rfl (fun ls hl => ?_)
    refine lv_goto (tgt := 330) hx hb d_M_hasGoodAttributes_201 (by decide) ?_
    exact J330  v1 (t1 + t0) v4 σ _ _ hP hD hS _ (lv_sub hl [1, 2, 0, 3] rfl) hE
  have J179 : ∀ (v1 : Int32) (v4 : Int32) (t0 : Int32) (t1 : Int32) (σ : MPS) (H : Heap) (locs : List Loc) (hP : va_P (mG md) classes (MW md σ) H) (hD : va_D A (MW md σ)) (hS : va_S A s.heap H locs) (ls : Array Slot) (hl : lv_has ls 6 [(0, .ref (mA md 0)), (1, .int v1), (4, .int v4)]) (hE : w_M_hasGoodAttributes_J179 post v1 v4 t0 t1 σ), W p l e (headSpec ws_M_hasGoodAttributes { frames := 5, cells := 0, slots := 0, locals := 119 }).room s m ([.ref (mA md 0), .int x0, .int x1] : List Value).toArray below meth c H locs 0 0 (MQ below (va_Qi post (eM md A) A) ([.ref (mA md 0), .int x0, .int x1] : List Value).toArray s 0 0 A) (F0 m 179 ls [.int t0, .int t1]) := by
    intro  v1 v4 t0 t1 σ H locs hP hD hS ls hl hE
    unfold w_M_hasGoodAttributes_J179 at hE
    refine lv_iadd hx hb d_M_hasGoodAttributes_179 ?_
    refine lv_istore_n (lv' := [(3, .int (t1 + t0)), (0, .ref (mA md 0)), (1, .int v1), (4, .int v4)]) hx hb d_M_hasGoodAttributes_180 rfl hl (by decide) rfl (fun ls hl => ?_)
    refine lv_iload_n hx hb d_M_hasGoodAttributes_181 rfl (lv_at hl 0 rfl) ?_
    refine lv_aload_n hx hb d_M_hasGoodAttributes_182 rfl (lv_at hl 1 rfl) ?_
    refine lv_iload_n hx hb d_M_hasGoodAttributes_183 rfl (lv_at hl 2 rfl) ?_
    refine lv_ldc2 hx hb hown (hta _ cl_M_235) d_M_hasGoodAttributes_184 ?_
    refine lv_iconst (v := 5) hx hb d_M_hasGoodAttributes_187 (by decide) ?_
    refine mm_i (b0 := (mA md 0)) (As := [.int v1, .long 499985443941, .int 5]) (rest := [.int (t1 + t0)]) ⟨hx, hb, hml, hown, hta⟩ (c_M_hasAttribute l md _ σ v1 499985443941 5 _ hE) ok_M_274 ⟨Nat.le_of_ble_eq_true rfl, Nat.le_of_ble_eq_true rfl⟩ (va_recv hK hP (ci := 7) (q0 := 0) rfl rfl) hP hK hD hS hA rfl hl.1 rfl (Nat.le_of_ble_eq_true rfl) d_M_hasGoodAttributes_188 ⟨Nat.zero_le _, Nat.zero_le _⟩ (fun r188 σ188 H locs hE hP hD hS => ?_)
    refine lv_if_eq (tgt := 198) hx hb d_M_hasGoodAttributes_191 (by decide) (fun cc191 => ?_) (fun cc191 => ?_)
    · have hE := hE.1 cc191
      refine lv_iconst (v := 0) hx hb d_M_hasGoodAttributes_198 (by decide) ?_
      exact J199  v1 v4 0 (t1 + t0) σ188 _ _ hP hD hS _ (lv_sub hl [1, 2, 3] rfl) hE
    · have hE := hE.2 cc191
      refine lv_iconst (v := 1) hx hb d_M_hasGoodAttributes_194 (by decide) ?_
      refine lv_goto (tgt := 199) hx hb d_M_hasGoodAttributes_195 (by decide) ?_
      exact J199  v1 v4 1 (t1 + t0) σ188 _ _ hP hD hS _ (lv_sub hl [1, 2, 3] rfl) hE
  have J166 : ∀ (v1 : Int32) (v3 : Int32) (v5 : Int32) (t0 : Int32) (σ : MPS) (H : Heap) (locs : List Loc) (hP : va_P (mG md) classes (MW md σ) H) (hD : va_D A (MW md σ)) (hS : va_S A s.heap H locs) (ls : Array Slot) (hl : lv_has ls 6 [(0, .ref (mA md 0)), (1, .int v1), (3, .int v3), (5, .int v5)]) (hE : w_M_hasGoodAttributes_J166 post v1 v3 v5 t0 σ), W p l e (headSpec ws_M_hasGoodAttributes { frames := 5, cells := 0, slots := 0, locals := 119 }).room s m ([.ref (mA md 0), .int x0, .int x1] : List Value).toArray below meth c H locs 0 0 (MQ below (va_Qi post (eM md A) A) ([.ref (mA md 0), .int x0, .int x1] : List Value).toArray s 0 0 A) (F0 m 166 ls [.int t0]) := by
    intro  v1 v3 v5 t0 σ H locs hP hD hS ls hl hE
    unfold w_M_hasGoodAttributes_J166 at hE
    refine lv_istore (lv' := [(4, .int t0), (0, .ref (mA md 0)), (1, .int v1), (3, .int v3), (5, .int v5)]) hx hb d_M_hasGoodAttributes_166 hl (by decide) rfl (fun ls hl => ?_)
    refine lv_iload_n hx hb d_M_hasGoodAttributes_168 rfl (lv_at hl 3 rfl) ?_
    refine lv_iload hx hb d_M_hasGoodAttributes_169 (lv_at hl 4 rfl) ?_
    refine lv_if_eq (tgt := 178) hx hb d_M_hasGoodAttributes_171 (by decide) (fun cc171 => ?_) (fun cc171 => ?_)
    · have hE := hE.1 cc171
      refine lv_iconst (v := 0) hx hb d_M_hasGoodAttributes_178 (by decide) ?_
      exact J179  v1 t0 0 v3 σ _ _ hP hD hS _ (lv_sub hl [1, 2, 0] rfl) hE
    · have hE := hE.2 cc171
      refine lv_iconst (v := 2) hx hb d_M_hasGoodAttributes_174 (by decide) ?_
      refine lv_goto (tgt := 179) hx hb d_M_hasGoodAttributes_175 (by decide) ?_
      exact J179  v1 t0 2 v3 σ _ _ hP hD hS _ (lv_sub hl [1, 2, 0] rfl) hE
  have J165 : ∀ (v1 : Int32) (v3 : Int32) (v5 : Int32) (σ : MPS) (H : Heap) (locs : List Loc) (hP : va_P (mG md) classes (MW md σ) H) (hD : va_D A (MW md σ)) (hS : va_S A s.heap H locs) (ls : Array Slot) (hl : lv_has ls 6 [(0, .ref (mA md 0)), (1, .int v1), (3, .int v3), (5, .int v5)]) (hE : w_M_hasGoodAttributes_J165 post v1 v3 v5 σ), W p l e (headSpec ws_M_hasGoodAttributes { frames := 5, cells := 0, slots := 0, locals := 119 }).room s m ([.ref (mA md 0), .int x0, .int x1] : List Value).toArray below meth c H locs 0 0 (MQ below (va_Qi post (eM md A) A) ([.ref (mA md 0), .int x0, .int x1] : List Value).toArray s 0 0 A) (F0 m 165 ls []) := by
    intro  v1 v3 v5 σ H locs hP hD hS ls hl hE
    unfold w_M_hasGoodAttributes_J165 at hE
    refine lv_iconst (v := 0) hx hb d_M_hasGoodAttributes_165 (by decide) ?_
    exact J166  v1 v3 v5 0 σ _ _ hP hD hS _ (lv_sub hl [0, 1, 2, 3] rfl) hE
  have J149 : ∀ (v1 : Int32) (v3 : Int32) (v4 : Int32) (t0 : Int32) (σ : MPS) (H : Heap) (locs : List Loc) (hP : va_P (mG md) classes (MW md σ) H) (hD : va_D A (MW md σ)) (hS : va_S A s.heap H locs) (ls : Array Slot) (hl : lv_has ls 6 [(0, .ref (mA md 0)), (1, .int v1), (3, .int v3), (4, .int v4)]) (hE : w_M_hasGoodAttributes_J149 post v1 v3 v4 t0 σ), W p l e (headSpec ws_M_hasGoodAttributes { frames := 5, cells := 0, slots := 0, locals := 119 }).room s m ([.ref (mA md 0), .int x0, .int x1] : List Value).toArray below meth c H locs 0 0 (MQ below (va_Qi post (eM md A) A) ([.ref (mA md 0), .int x0, .int x1] : List Value).toArray s 0 0 A) (F0 m 149 ls [.int t0]) := by
    intro  v1 v3 v4 t0 σ H locs hP hD hS ls hl hE
    unfold w_M_hasGoodAttributes_J149 at hE
    refine lv_istore (lv' := [(5, .int t0), (0, .ref (mA md 0)), (1, .int v1), (3, .int v3), (4, .int v4)]) hx hb d_M_hasGoodAttributes_149 hl (by decide) rfl (fun ls hl => ?_)
    refine lv_iload hx hb d_M_hasGoodAttributes_151 (lv_at hl 4 rfl) ?_
    refine lv_if_eq (tgt := 165) hx hb d_M_hasGoodAttributes_153 (by decide) (fun cc153 => ?_) (fun cc153 => ?_)
    · have hE := hE.1 cc153
      exact J165  v1 v3 t0 σ _ _ hP hD hS _ (lv_sub hl [1, 2, 3, 0] rfl) hE
    · have hE := hE.2 cc153
      refine lv_iload hx hb d_M_hasGoodAttributes_156 (lv_at hl 0 rfl) ?_
      refine lv_if_eq (tgt := 165) hx hb d_M_hasGoodAttributes_158 (by decide) (fun cc158 => ?_) (fun cc158 => ?_)
      · have hE := hE.1 cc158
        exact J165  v1 v3 t0 σ _ _ hP hD hS _ (lv_sub hl [1, 2, 3, 0] rfl) hE
      · have hE := hE.2 cc158
        refine lv_iconst (v := 1) hx hb d_M_hasGoodAttributes_161 (by decide) ?_
        refine lv_goto (tgt := 166) hx hb d_M_hasGoodAttributes_162 (by decide) ?_
        exact J166  v1 v3 t0 1 σ _ _ hP hD hS _ (lv_sub hl [1, 2, 3, 0] rfl) hE
  have J148 : ∀ (v1 : Int32) (v3 : Int32) (v4 : Int32) (σ : MPS) (H : Heap) (locs : List Loc) (hP : va_P (mG md) classes (MW md σ) H) (hD : va_D A (MW md σ)) (hS : va_S A s.heap H locs) (ls : Array Slot) (hl : lv_has ls 6 [(0, .ref (mA md 0)), (1, .int v1), (3, .int v3), (4, .int v4)]) (hE : w_M_hasGoodAttributes_J148 post v1 v3 v4 σ), W p l e (headSpec ws_M_hasGoodAttributes { frames := 5, cells := 0, slots := 0, locals := 119 }).room s m ([.ref (mA md 0), .int x0, .int x1] : List Value).toArray below meth c H locs 0 0 (MQ below (va_Qi post (eM md A) A) ([.ref (mA md 0), .int x0, .int x1] : List Value).toArray s 0 0 A) (F0 m 148 ls []) := by
    intro  v1 v3 v4 σ H locs hP hD hS ls hl hE
    unfold w_M_hasGoodAttributes_J148 at hE
    refine lv_iconst (v := 0) hx hb d_M_hasGoodAttributes_148 (by decide) ?_
    exact J149  v1 v3 v4 0 σ _ _ hP hD hS _ (lv_sub hl [0, 1, 2, 3] rfl) hE
  have J109 : ∀ (v1 : Int32) (v4 : Int32) (t0 : Int32) (t1 : Int32) (σ : MPS) (H : Heap) (locs : List Loc) (hP : va_P (mG md) classes (MW md σ) H) (hD : va_D A (MW md σ)) (hS : va_S A s.heap H locs) (ls : Array Slot) (hl : lv_has ls 6 [(0, .ref (mA md 0)), (1, .int v1), (4, .int v4)]) (hE : w_M_hasGoodAttributes_J109 post v1 v4 t0 t1 σ), W p l e (headSpec ws_M_hasGoodAttributes { frames := 5, cells := 0, slots := 0, locals := 119 }).room s m ([.ref (mA md 0), .int x0, .int x1] : List Value).toArray below meth c H locs 0 0 (MQ below (va_Qi post (eM md A) A) ([.ref (mA md 0), .int x0, .int x1] : List Value).toArray s 0 0 A) (F0 m 109 ls [.int t0, .int t1]) := by
    intro  v1 v4 t0 t1 σ H locs hP hD hS ls hl hE
    unfold w_M_hasGoodAttributes_J109 at hE
    refine lv_iadd hx hb d_M_hasGoodAttributes_109 ?_
    refine lv_istore_n (lv' := [(3, .int (t1 + t0)), (0, .ref (mA md 0)), (1, .int v1), (4, .int v4)]) hx hb d_M_hasGoodAttributes_110 rfl hl (by decide) rfl (fun ls hl => ?_)
    refine lv_goto (tgt := 330) hx hb d_M_hasGoodAttributes_111 (by decide) ?_
    exact J330  v1 (t1 + t0) v4 σ _ _ hP hD hS _ (lv_sub hl [1, 2, 0, 3] rfl) hE
  have J89 : ∀ (v1 : Int32) (v4 : Int32) (t0 : Int32) (t1 : Int32) (σ : MPS) (H : Heap) (locs : List Loc) (hP : va_P (mG md) classes (MW md σ) H) (hD : va_D A (MW md σ)) (hS : va_S A s.heap H locs) (ls : Array Slot) (hl : lv_has ls 6 [(0, .ref (mA md 0)), (1, .int v1), (4, .int v4)]) (hE : w_M_hasGoodAttributes_J89 post v1 v4 t0 t1 σ), W p l e (headSpec ws_M_hasGoodAttributes { frames := 5, cells := 0, slots := 0, locals := 119 }).room s m ([.ref (mA md 0), .int x0, .int x1] : List Value).toArray below meth c H locs 0 0 (MQ below (va_Qi post (eM md A) A) ([.ref (mA md 0), .int x0, .int x1] : List Value).toArray s 0 0 A) (F0 m 89 ls [.int t0, .int t1]) := by
    intro  v1 v4 t0 t1 σ H locs hP hD hS ls hl hE
    unfold w_M_hasGoodAttributes_J89 at hE
    refine lv_iadd hx hb d_M_hasGoodAttributes_89 ?_
    refine lv_istore_n (lv' := [(3, .int (t1 + t0)), (0, .ref (mA md 0)), (1, .int v1), (4, .int v4)]) hx hb d_M_hasGoodAttributes_90 rfl hl (by decide) rfl (fun ls hl => ?_)
    refine lv_iload_n hx hb d_M_hasGoodAttributes_91 rfl (lv_at hl 0 rfl) ?_
    refine lv_aload_n hx hb d_M_hasGoodAttributes_92 rfl (lv_at hl 1 rfl) ?_
    refine lv_iload_n hx hb d_M_hasGoodAttributes_93 rfl (lv_at hl 2 rfl) ?_
    refine lv_ldc2 hx hb hown (hta _ cl_M_235) d_M_hasGoodAttributes_94 ?_
    refine lv_iconst (v := 5) hx hb d_M_hasGoodAttributes_97 (by decide) ?_
    refine mm_i (b0 := (mA md 0)) (As := [.int v1, .long 499985443941, .int 5]) (rest := [.int (t1 + t0)]) ⟨hx, hb, hml, hown, hta⟩ (c_M_hasAttribute l md _ σ v1 499985443941 5 _ hE) ok_M_274 ⟨Nat.le_of_ble_eq_true rfl, Nat.le_of_ble_eq_true rfl⟩ (va_recv hK hP (ci := 7) (q0 := 0) rfl rfl) hP hK hD hS hA rfl hl.1 rfl (Nat.le_of_ble_eq_true rfl) d_M_hasGoodAttributes_98 ⟨Nat.zero_le _, Nat.zero_le _⟩ (fun r98 σ98 H locs hE hP hD hS => ?_)
    refine lv_if_eq (tgt := 108) hx hb d_M_hasGoodAttributes_101 (by decide) (fun cc101 => ?_) (fun cc101 => ?_)
    · have hE := hE.1 cc101
      refine lv_iconst (v := 0) hx hb d_M_hasGoodAttributes_108 (by decide) ?_
      exact J109  v1 v4 0 (t1 + t0) σ98 _ _ hP hD hS _ (lv_sub hl [1, 2, 3] rfl) hE
    · have hE := hE.2 cc101
      refine lv_iconst (v := 1) hx hb d_M_hasGoodAttributes_104 (by decide) ?_
      refine lv_goto (tgt := 109) hx hb d_M_hasGoodAttributes_105 (by decide) ?_
      exact J109  v1 v4 1 (t1 + t0) σ98 _ _ hP hD hS _ (lv_sub hl [1, 2, 3] rfl) hE
  have J76 : ∀ (v1 : Int32) (v3 : Int32) (v5 : Int32) (t0 : Int32) (σ : MPS) (H : Heap) (locs : List Loc) (hP : va_P (mG md) classes (MW md σ) H) (hD : va_D A (MW md σ)) (hS : va_S A s.heap H locs) (ls : Array Slot) (hl : lv_has ls 6 [(0, .ref (mA md 0)), (1, .int v1), (3, .int v3), (5, .int v5)]) (hE : w_M_hasGoodAttributes_J76 post v1 v3 v5 t0 σ), W p l e (headSpec ws_M_hasGoodAttributes { frames := 5, cells := 0, slots := 0, locals := 119 }).room s m ([.ref (mA md 0), .int x0, .int x1] : List Value).toArray below meth c H locs 0 0 (MQ below (va_Qi post (eM md A) A) ([.ref (mA md 0), .int x0, .int x1] : List Value).toArray s 0 0 A) (F0 m 76 ls [.int t0]) := by
    intro  v1 v3 v5 t0 σ H locs hP hD hS ls hl hE
    unfold w_M_hasGoodAttributes_J76 at hE
    refine lv_istore (lv' := [(4, .int t0), (0, .ref (mA md 0)), (1, .int v1), (3, .int v3), (5, .int v5)]) hx hb d_M_hasGoodAttributes_76 hl (by decide) rfl (fun ls hl => ?_)
    refine lv_iload_n hx hb d_M_hasGoodAttributes_78 rfl (lv_at hl 3 rfl) ?_
    refine lv_iload hx hb d_M_hasGoodAttributes_79 (lv_at hl 4 rfl) ?_
    refine lv_if_eq (tgt := 88) hx hb d_M_hasGoodAttributes_81 (by decide) (fun cc81 => ?_) (fun cc81 => ?_)
    · have hE := hE.1 cc81
      refine lv_iconst (v := 0) hx hb d_M_hasGoodAttributes_88 (by decide) ?_
      exact J89  v1 t0 0 v3 σ _ _ hP hD hS _ (lv_sub hl [1, 2, 0] rfl) hE
    · have hE := hE.2 cc81
      refine lv_iconst (v := 1) hx hb d_M_hasGoodAttributes_84 (by decide) ?_
      refine lv_goto (tgt := 89) hx hb d_M_hasGoodAttributes_85 (by decide) ?_
      exact J89  v1 t0 1 v3 σ _ _ hP hD hS _ (lv_sub hl [1, 2, 0] rfl) hE
  have J75 : ∀ (v1 : Int32) (v3 : Int32) (v5 : Int32) (σ : MPS) (H : Heap) (locs : List Loc) (hP : va_P (mG md) classes (MW md σ) H) (hD : va_D A (MW md σ)) (hS : va_S A s.heap H locs) (ls : Array Slot) (hl : lv_has ls 6 [(0, .ref (mA md 0)), (1, .int v1), (3, .int v3), (5, .int v5)]) (hE : w_M_hasGoodAttributes_J75 post v1 v3 v5 σ), W p l e (headSpec ws_M_hasGoodAttributes { frames := 5, cells := 0, slots := 0, locals := 119 }).room s m ([.ref (mA md 0), .int x0, .int x1] : List Value).toArray below meth c H locs 0 0 (MQ below (va_Qi post (eM md A) A) ([.ref (mA md 0), .int x0, .int x1] : List Value).toArray s 0 0 A) (F0 m 75 ls []) := by
    intro  v1 v3 v5 σ H locs hP hD hS ls hl hE
    unfold w_M_hasGoodAttributes_J75 at hE
    refine lv_iconst (v := 0) hx hb d_M_hasGoodAttributes_75 (by decide) ?_
    exact J76  v1 v3 v5 0 σ _ _ hP hD hS _ (lv_sub hl [0, 1, 2, 3] rfl) hE
  have J44 : ∀ (v1 : Int32) (v2 : Int32) (v3 : Int32) (v4 : Int32) (σ : MPS) (H : Heap) (locs : List Loc) (hP : va_P (mG md) classes (MW md σ) H) (hD : va_D A (MW md σ)) (hS : va_S A s.heap H locs) (ls : Array Slot) (hl : lv_has ls 6 [(0, .ref (mA md 0)), (1, .int v1), (2, .int v2), (3, .int v3), (4, .int v4)]) (hE : w_M_hasGoodAttributes_J44 post v1 v2 v3 v4 σ), W p l e (headSpec ws_M_hasGoodAttributes { frames := 5, cells := 0, slots := 0, locals := 119 }).room s m ([.ref (mA md 0), .int x0, .int x1] : List Value).toArray below meth c H locs 0 0 (MQ below (va_Qi post (eM md A) A) ([.ref (mA md 0), .int x0, .int x1] : List Value).toArray s 0 0 A) (F0 m 44 ls []) := by
    intro  v1 v2 v3 v4 σ H locs hP hD hS ls hl hE
    unfold w_M_hasGoodAttributes_J44 at hE
    refine lv_iload_n hx hb d_M_hasGoodAttributes_44 rfl (lv_at hl 2 rfl) ?_
    refine lv_bipush (v := 18) hx hb d_M_hasGoodAttributes_45 (by decide) ?_
    refine lv_icmp_ne (tgt := 114) hx hb d_M_hasGoodAttributes_47 (by decide) (fun cc47 => ?_) (fun cc47 => ?_)
    · have hE := hE.2 cc47
      refine lv_iload_n hx hb d_M_hasGoodAttributes_114 rfl (lv_at hl 2 rfl) ?_
      refine lv_bipush (v := 23) hx hb d_M_hasGoodAttributes_115 (by decide) ?_
      refine lv_icmp_ne (tgt := 204) hx hb d_M_hasGoodAttributes_117 (by decide) (fun cc117 => ?_) (fun cc117 => ?_)
      · have hE := hE.2 cc117
        refine lv_iload_n hx hb d_M_hasGoodAttributes_204 rfl (lv_at hl 2 rfl) ?_
        refine lv_bipush (v := 20) hx hb d_M_hasGoodAttributes_205 (by decide) ?_
        refine lv_icmp_ne (tgt := 233) hx hb d_M_hasGoodAttributes_207 (by decide) (fun cc207 => ?_) (fun cc207 => ?_)
        · have hE := hE.2 cc207
          refine lv_iload_n hx hb d_M_hasGoodAttributes_233 rfl (lv_at hl 2 rfl) ?_
          refine lv_bipush (v := 7) hx hb d_M_hasGoodAttributes_234 (by decide) ?_
          refine lv_icmp_ne (tgt := 330) hx hb d_M_hasGoodAttributes_236 (by decide) (fun cc236 => ?_) (fun cc236 => ?_)
          · have hE := hE.2 cc236
            exact J330  v1 v3 v4 σ _ _ hP hD hS _ (lv_sub hl [0, 1, 3, 4] rfl) hE
          · have hE := hE.1 cc236
            refine lv_aload_n hx hb d_M_hasGoodAttributes_239 rfl (lv_at hl 0 rfl) ?_
            refine lv_iload_n hx hb d_M_hasGoodAttributes_240 rfl (lv_at hl 1 rfl) ?_
            refine lv_ldc2 hx hb hown (hta _ cl_M_297) d_M_hasGoodAttributes_241 ?_
            refine lv_iconst (v := 5) hx hb d_M_hasGoodAttributes_244 (by decide) ?_
            refine mm_i (b0 := (mA md 0)) (As := [.int v1, .long 495873782388, .int 5]) (rest := []) ⟨hx, hb, hml, hown, hta⟩ (c_M_hasAttribute l md _ σ v1 495873782388 5 _ hE) ok_M_274 ⟨Nat.le_of_ble_eq_true rfl, Nat.le_of_ble_eq_true rfl⟩ (va_recv hK hP (ci := 7) (q0 := 0) rfl rfl) hP hK hD hS hA rfl hl.1 rfl (Nat.le_of_ble_eq_true rfl) d_M_hasGoodAttributes_245 ⟨Nat.zero_le _, Nat.zero_le _⟩ (fun r245 σ245 H locs hE hP hD hS => ?_)
            refine lv_if_eq (tgt := 330) hx hb d_M_hasGoodAttributes_248 (by decide) (fun cc248 => ?_) (fun cc248 => ?_)
            · have hE := hE.1 cc248
              exact J330  v1 v3 v4 σ245 _ _ hP hD hS _ (lv_sub hl [0, 1, 3, 4] rfl) hE
            · have hE := hE.2 cc248
              refine lv_iinc (v := v3 + 1) (lv' := [(3, .int (v3 + 1)), (0, .ref (mA md 0)), (1, .int v1), (2, .int v2), (4, .int v4)]) hx hb d_M_hasGoodAttributes_251 hl (k := 3) rfl rfl (by decide) rfl (fun ls hl => ?_)
              refine lv_aload_n hx hb d_M_hasGoodAttributes_254 rfl (lv_at hl 1 rfl) ?_
              refine mm_v (b0 := (mA md 0)) (As := []) (rest := []) ⟨hx, hb, hml, hown, hta⟩ (c_M_takeValue l md _ σ245  _ hE) ok_M_277 ⟨Nat.le_of_ble_eq_true rfl, Nat.le_of_ble_eq_true rfl⟩ (va_recv hK hP (ci := 7) (q0 := 0) rfl rfl) hP hK hD hS hA rfl hl.1 rfl (Nat.le_of_ble_eq_true rfl) d_M_hasGoodAttributes_255 ⟨Nat.zero_le _, Nat.zero_le _⟩ (fun σ255 H locs hE hP hD hS => ?_)
              refine lv_iload hx hb d_M_hasGoodAttributes_258 (lv_at hl 4 rfl) ?_
              refine lv_if_eq (tgt := 284) hx hb d_M_hasGoodAttributes_260 (by decide) (fun cc260 => ?_) (fun cc260 => ?_)
              · have hE := hE.1 cc260
                exact J284  v1 (v3 + 1) σ255 _ _ hP hD hS _ (lv_sub hl [1, 2, 0] rfl) hE
              · have hE := hE.2 cc260
                refine lv_aload_n hx hb d_M_hasGoodAttributes_263 rfl (lv_at hl 1 rfl) ?_
                refine va_get (D := (mG md)) (ci := 7) (v := .int (mp_valueMany σ255)) (C := R_M) (T := F_M) (N := 37) hx hb hta i_M hown hK hP 0 rfl rfl 35 (by decide) (hta _ fl_M_269) (fun _ h9 => h9) rfl d_M_hasGoodAttributes_264 ?_
                refine lv_iconst (v := 1) hx hb d_M_hasGoodAttributes_267 (by decide) ?_
                refine lv_icmp_lt (tgt := 284) hx hb d_M_hasGoodAttributes_268 (by decide) (fun cc268 => ?_) (fun cc268 => ?_)
                · have hE := hE.1 cc268
                  exact J284  v1 (v3 + 1) σ255 _ _ hP hD hS _ (lv_sub hl [1, 2, 0] rfl) hE
                · have hE := hE.2 cc268
                  refine lv_aload_n hx hb d_M_hasGoodAttributes_271 rfl (lv_at hl 1 rfl) ?_
                  refine va_get (D := (mG md)) (ci := 7) (v := .int (mp_valueMany σ255)) (C := R_M) (T := F_M) (N := 37) hx hb hta i_M hown hK hP 0 rfl rfl 35 (by decide) (hta _ fl_M_269) (fun _ h9 => h9) rfl d_M_hasGoodAttributes_272 ?_
                  refine lv_bipush (v := 9) hx hb d_M_hasGoodAttributes_275 (by decide) ?_
                  refine lv_icmp_gt (tgt := 284) hx hb d_M_hasGoodAttributes_277 (by decide) (fun cc277 => ?_) (fun cc277 => ?_)
                  · have hE := hE.1 cc277
                    exact J284  v1 (v3 + 1) σ255 _ _ hP hD hS _ (lv_sub hl [1, 2, 0] rfl) hE
                  · have hE := hE.2 cc277
                    refine lv_iconst (v := 1) hx hb d_M_hasGoodAttributes_280 (by decide) ?_
                    refine lv_goto (tgt := 285) hx hb d_M_hasGoodAttributes_281 (by decide) ?_
                    exact J285  v1 (v3 + 1) 1 σ255 _ _ hP hD hS _ (lv_sub hl [1, 2, 0] rfl) hE
        · have hE := hE.1 cc207
          refine lv_iload_n hx hb d_M_hasGoodAttributes_210 rfl (lv_at hl 3 rfl) ?_
          refine lv_aload_n hx hb d_M_hasGoodAttributes_211 rfl (lv_at hl 0 rfl) ?_
          refine lv_iload_n hx hb d_M_hasGoodAttributes_212 rfl (lv_at hl 1 rfl) ?_
          refine lv_ldc2 hx hb hown (hta _ cl_M_295) d_M_hasGoodAttributes_213 ?_
          refine lv_iconst (v := 5) hx hb d_M_hasGoodAttributes_216 (by decide) ?_
          refine mm_i (b0 := (mA md 0)) (As := [.int v1, .long 427020088179, .int 5]) (rest := [.int v3]) ⟨hx, hb, hml, hown, hta⟩ (c_M_hasAttribute l md _ σ v1 427020088179 5 _ hE) ok_M_274 ⟨Nat.le_of_ble_eq_true rfl, Nat.le_of_ble_eq_true rfl⟩ (va_recv hK hP (ci := 7) (q0 := 0) rfl rfl) hP hK hD hS hA rfl hl.1 rfl (Nat.le_of_ble_eq_true rfl) d_M_hasGoodAttributes_217 ⟨Nat.zero_le _, Nat.zero_le _⟩ (fun r217 σ217 H locs hE hP hD hS => ?_)
          refine lv_if_eq (tgt := 227) hx hb d_M_hasGoodAttributes_220 (by decide) (fun cc220 => ?_) (fun cc220 => ?_)
          · have hE := hE.1 cc220
            refine lv_iconst (v := 0) hx hb d_M_hasGoodAttributes_227 (by decide) ?_
            exact J228  v1 v4 0 v3 σ217 _ _ hP hD hS _ (lv_sub hl [0, 1, 4] rfl) hE
          · have hE := hE.2 cc220
            refine lv_iconst (v := 1) hx hb d_M_hasGoodAttributes_223 (by decide) ?_
            refine lv_goto (tgt := 228) hx hb d_M_hasGoodAttributes_224 (by decide) ?_
            exact J228  v1 v4 1 v3 σ217 _ _ hP hD hS _ (lv_sub hl [0, 1, 4] rfl) hE
      · have hE := hE.1 cc117
        refine lv_aload_n hx hb d_M_hasGoodAttributes_120 rfl (lv_at hl 0 rfl) ?_
        refine lv_iload_n hx hb d_M_hasGoodAttributes_121 rfl (lv_at hl 1 rfl) ?_
        refine lv_ldc2 hx hb hown (hta _ cl_M_291) d_M_hasGoodAttributes_122 ?_
        refine lv_iconst (v := 3) hx hb d_M_hasGoodAttributes_125 (by decide) ?_
        refine mm_i (b0 := (mA md 0)) (As := [.int v1, .long 7565923, .int 3]) (rest := []) ⟨hx, hb, hml, hown, hta⟩ (c_M_hasAttribute l md _ σ v1 7565923 3 _ hE) ok_M_274 ⟨Nat.le_of_ble_eq_true rfl, Nat.le_of_ble_eq_true rfl⟩ (va_recv hK hP (ci := 7) (q0 := 0) rfl rfl) hP hK hD hS hA rfl hl.1 rfl (Nat.le_of_ble_eq_true rfl) d_M_hasGoodAttributes_126 ⟨Nat.zero_le _, Nat.zero_le _⟩ (fun r126 σ126 H locs hE hP hD hS => ?_)
        refine lv_if_eq (tgt := 148) hx hb d_M_hasGoodAttributes_129 (by decide) (fun cc129 => ?_) (fun cc129 => ?_)
        · have hE := hE.1 cc129
          exact J148  v1 v3 v4 σ126 _ _ hP hD hS _ (lv_sub hl [0, 1, 3, 4] rfl) hE
        · have hE := hE.2 cc129
          refine lv_aload_n hx hb d_M_hasGoodAttributes_132 rfl (lv_at hl 0 rfl) ?_
          refine lv_iload_n hx hb d_M_hasGoodAttributes_133 rfl (lv_at hl 1 rfl) ?_
          refine lv_ldc2 hx hb hown (hta _ cl_M_293) d_M_hasGoodAttributes_134 ?_
          refine lv_iconst (v := 3) hx hb d_M_hasGoodAttributes_137 (by decide) ?_
          refine mm_i (b0 := (mA md 0)) (As := [.int v1, .long 6384756, .int 3]) (rest := []) ⟨hx, hb, hml, hown, hta⟩ (c_M_hasAttribute l md _ σ126 v1 6384756 3 _ hE) ok_M_274 ⟨Nat.le_of_ble_eq_true rfl, Nat.le_of_ble_eq_true rfl⟩ (va_recv hK hP (ci := 7) (q0 := 0) rfl rfl) hP hK hD hS hA rfl hl.1 rfl (Nat.le_of_ble_eq_true rfl) d_M_hasGoodAttributes_138 ⟨Nat.zero_le _, Nat.zero_le _⟩ (fun r138 σ138 H locs hE hP hD hS => ?_)
          refine lv_if_eq (tgt := 148) hx hb d_M_hasGoodAttributes_141 (by decide) (fun cc141 => ?_) (fun cc141 => ?_)
          · have hE := hE.1 cc141
            exact J148  v1 v3 v4 σ138 _ _ hP hD hS _ (lv_sub hl [0, 1, 3, 4] rfl) hE
          · have hE := hE.2 cc141
            refine lv_iconst (v := 1) hx hb d_M_hasGoodAttributes_144 (by decide) ?_
            refine lv_goto (tgt := 149) hx hb d_M_hasGoodAttributes_145 (by decide) ?_
            exact J149  v1 v3 v4 1 σ138 _ _ hP hD hS _ (lv_sub hl [0, 1, 3, 4] rfl) hE
    · have hE := hE.1 cc47
      refine lv_aload_n hx hb d_M_hasGoodAttributes_50 rfl (lv_at hl 0 rfl) ?_
      refine lv_iload_n hx hb d_M_hasGoodAttributes_51 rfl (lv_at hl 1 rfl) ?_
      refine lv_ldc2 hx hb hown (hta _ cl_M_289) d_M_hasGoodAttributes_52 ?_
      refine lv_iconst (v := 4) hx hb d_M_hasGoodAttributes_55 (by decide) ?_
      refine mm_i (b0 := (mA md 0)) (As := [.int v1, .long 1752327526, .int 4]) (rest := []) ⟨hx, hb, hml, hown, hta⟩ (c_M_hasAttribute l md _ σ v1 1752327526 4 _ hE) ok_M_274 ⟨Nat.le_of_ble_eq_true rfl, Nat.le_of_ble_eq_true rfl⟩ (va_recv hK hP (ci := 7) (q0 := 0) rfl rfl) hP hK hD hS hA rfl hl.1 rfl (Nat.le_of_ble_eq_true rfl) d_M_hasGoodAttributes_56 ⟨Nat.zero_le _, Nat.zero_le _⟩ (fun r56 σ56 H locs hE hP hD hS => ?_)
      refine lv_istore (lv' := [(5, .int r56), (0, .ref (mA md 0)), (1, .int v1), (2, .int v2), (3, .int v3), (4, .int v4)]) hx hb d_M_hasGoodAttributes_59 hl (by decide) rfl (fun ls hl => ?_)
      refine lv_iload hx hb d_M_hasGoodAttributes_61 (lv_at hl 5 rfl) ?_
      refine lv_if_eq (tgt := 75) hx hb d_M_hasGoodAttributes_63 (by decide) (fun cc63 => ?_) (fun cc63 => ?_)
      · have hE := hE.1 cc63
        exact J75  v1 v3 r56 σ56 _ _ hP hD hS _ (lv_sub hl [1, 2, 4, 0] rfl) hE
      · have hE := hE.2 cc63
        refine lv_iload hx hb d_M_hasGoodAttributes_66 (lv_at hl 0 rfl) ?_
        refine lv_if_eq (tgt := 75) hx hb d_M_hasGoodAttributes_68 (by decide) (fun cc68 => ?_) (fun cc68 => ?_)
        · have hE := hE.1 cc68
          exact J75  v1 v3 r56 σ56 _ _ hP hD hS _ (lv_sub hl [1, 2, 4, 0] rfl) hE
        · have hE := hE.2 cc68
          refine lv_iconst (v := 1) hx hb d_M_hasGoodAttributes_71 (by decide) ?_
          refine lv_goto (tgt := 76) hx hb d_M_hasGoodAttributes_72 (by decide) ?_
          exact J76  v1 v3 r56 1 σ56 _ _ hP hD hS _ (lv_sub hl [1, 2, 4, 0] rfl) hE
  have J42 : ∀ (v1 : Int32) (v2 : Int32) (v3 : Int32) (t0 : Int32) (σ : MPS) (H : Heap) (locs : List Loc) (hP : va_P (mG md) classes (MW md σ) H) (hD : va_D A (MW md σ)) (hS : va_S A s.heap H locs) (ls : Array Slot) (hl : lv_has ls 6 [(0, .ref (mA md 0)), (1, .int v1), (2, .int v2), (3, .int v3)]) (hE : w_M_hasGoodAttributes_J42 post v1 v2 v3 t0 σ), W p l e (headSpec ws_M_hasGoodAttributes { frames := 5, cells := 0, slots := 0, locals := 119 }).room s m ([.ref (mA md 0), .int x0, .int x1] : List Value).toArray below meth c H locs 0 0 (MQ below (va_Qi post (eM md A) A) ([.ref (mA md 0), .int x0, .int x1] : List Value).toArray s 0 0 A) (F0 m 42 ls [.int t0]) := by
    intro  v1 v2 v3 t0 σ H locs hP hD hS ls hl hE
    unfold w_M_hasGoodAttributes_J42 at hE
    refine lv_istore (lv' := [(4, .int t0), (0, .ref (mA md 0)), (1, .int v1), (2, .int v2), (3, .int v3)]) hx hb d_M_hasGoodAttributes_42 hl (by decide) rfl (fun ls hl => ?_)
    exact J44  v1 v2 v3 t0 σ _ _ hP hD hS _ (lv_sub hl [1, 2, 3, 4, 0] rfl) hE
  unfold w_M_hasGoodAttributes at hE
  refine lv_iconst (v := 0) hx hb d_M_hasGoodAttributes_0 (by decide) ?_
  refine lv_istore_n (lv' := [(3, .int 0), (0, .ref (mA md 0)), (1, .int x0), (2, .int x1)]) hx hb d_M_hasGoodAttributes_1 rfl hl (by decide) rfl (fun ls hl => ?_)
  refine lv_iconst (v := 1) hx hb d_M_hasGoodAttributes_2 (by decide) ?_
  refine lv_istore (lv' := [(4, .int 1), (3, .int 0), (0, .ref (mA md 0)), (1, .int x0), (2, .int x1)]) hx hb d_M_hasGoodAttributes_3 hl (by decide) rfl (fun ls hl => ?_)
  refine lv_aload_n hx hb d_M_hasGoodAttributes_5 rfl (lv_at hl 2 rfl) ?_
  refine lv_iload_n hx hb d_M_hasGoodAttributes_6 rfl (lv_at hl 3 rfl) ?_
  refine lv_ldc2 hx hb hown (hta _ cl_M_272) d_M_hasGoodAttributes_7 ?_
  refine lv_iconst (v := 2) hx hb d_M_hasGoodAttributes_10 (by decide) ?_
  refine mm_i (b0 := (mA md 0)) (As := [.int x0, .long 26980, .int 2]) (rest := []) ⟨hx, hb, hml, hown, hta⟩ (c_M_hasAttribute l md _ σ x0 26980 2 _ hE) ok_M_274 ⟨Nat.le_of_ble_eq_true rfl, Nat.le_of_ble_eq_true rfl⟩ (va_recv hK hP (ci := 7) (q0 := 0) rfl rfl) hP hK hD hS hA rfl hl.1 rfl (Nat.le_of_ble_eq_true rfl) d_M_hasGoodAttributes_11 ⟨Nat.zero_le _, Nat.zero_le _⟩ (fun r11 σ11 H locs hE hP hD hS => ?_)
  refine lv_if_eq (tgt := 44) hx hb d_M_hasGoodAttributes_14 (by decide) (fun cc14 => ?_) (fun cc14 => ?_)
  · have hE := hE.1 cc14
    exact J44  x0 x1 0 1 σ11 _ _ hP hD hS _ (lv_sub hl [2, 3, 4, 1, 0] rfl) hE
  · have hE := hE.2 cc14
    refine lv_iinc (v := 0 + 1) (lv' := [(3, .int (0 + 1)), (4, .int 1), (0, .ref (mA md 0)), (1, .int x0), (2, .int x1)]) hx hb d_M_hasGoodAttributes_17 hl (k := 1) rfl rfl (by decide) rfl (fun ls hl => ?_)
    refine lv_aload_n hx hb d_M_hasGoodAttributes_20 rfl (lv_at hl 2 rfl) ?_
    refine mm_v (b0 := (mA md 0)) (As := []) (rest := []) ⟨hx, hb, hml, hown, hta⟩ (c_M_takeValue l md _ σ11  _ hE) ok_M_277 ⟨Nat.le_of_ble_eq_true rfl, Nat.le_of_ble_eq_true rfl⟩ (va_recv hK hP (ci := 7) (q0 := 0) rfl rfl) hP hK hD hS hA rfl hl.1 rfl (Nat.le_of_ble_eq_true rfl) d_M_hasGoodAttributes_21 ⟨Nat.zero_le _, Nat.zero_le _⟩ (fun σ21 H locs hE hP hD hS => ?_)
    refine lv_aload_n hx hb d_M_hasGoodAttributes_24 rfl (lv_at hl 2 rfl) ?_
    refine lv_iconst (v := 0) hx hb d_M_hasGoodAttributes_25 (by decide) ?_
    refine mm_v (b0 := (mA md 0)) (As := [.int 0]) (rest := []) ⟨hx, hb, hml, hown, hta⟩ (c_M_want l md _ σ21 0 _ hE) ok_M_283 ⟨Nat.le_of_ble_eq_true rfl, Nat.le_of_ble_eq_true rfl⟩ (va_recv hK hP (ci := 7) (q0 := 0) rfl rfl) hP hK hD hS hA rfl hl.1 rfl (Nat.le_of_ble_eq_true rfl) d_M_hasGoodAttributes_26 ⟨Nat.zero_le _, Nat.zero_le _⟩ (fun σ26 H locs hE hP hD hS => ?_)
    refine lv_aload_n hx hb d_M_hasGoodAttributes_29 rfl (lv_at hl 2 rfl) ?_
    refine lv_iload_n hx hb d_M_hasGoodAttributes_30 rfl (lv_at hl 3 rfl) ?_
    refine mm_i (b0 := (mA md 0)) (As := [.int x0]) (rest := []) ⟨hx, hb, hml, hown, hta⟩ (c_M_withId l md _ σ26 x0 _ hE) ok_M_286 ⟨Nat.le_of_ble_eq_true rfl, Nat.le_of_ble_eq_true rfl⟩ (va_recv hK hP (ci := 7) (q0 := 0) rfl rfl) hP hK hD hS hA rfl hl.1 rfl (Nat.le_of_ble_eq_true rfl) d_M_hasGoodAttributes_31 ⟨Nat.zero_le _, Nat.zero_le _⟩ (fun r31 σ31 H locs hE hP hD hS => ?_)
    refine lv_if_ge (tgt := 41) hx hb d_M_hasGoodAttributes_34 (by decide) (fun cc34 => ?_) (fun cc34 => ?_)
    · have hE := hE.1 cc34
      refine lv_iconst (v := 0) hx hb d_M_hasGoodAttributes_41 (by decide) ?_
      exact J42  x0 x1 (0 + 1) 0 σ31 _ _ hP hD hS _ (lv_sub hl [2, 3, 4, 0] rfl) hE
    · have hE := hE.2 cc34
      refine lv_iconst (v := 1) hx hb d_M_hasGoodAttributes_37 (by decide) ?_
      refine lv_goto (tgt := 42) hx hb d_M_hasGoodAttributes_38 (by decide) ?_
      exact J42  x0 x1 (0 + 1) 1 σ31 _ _ hP hD hS _ (lv_sub hl [2, 3, 4, 0] rfl) hE
