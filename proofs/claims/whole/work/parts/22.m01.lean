-- printed by wip/gen: the reference
theorem cl_M_224 : Cond.constantLong "PlainPagesModel" 224 (7092165985996731759) ∈ aW := aW_in 1155 (by decide +kernel) rfl
theorem cl_M_226 : Cond.constantLong "PlainPagesModel" 226 (29797) ∈ aW := aW_in 1156 (by decide +kernel) rfl
theorem cl_M_228 : Cond.constantLong "PlainPagesModel" 228 (1752460652) ∈ aW := aW_in 1157 (by decide +kernel) rfl
theorem ok_M_230 : okV "PlainPagesModel" 230 R_M y_M_isNamed b_M_isNamed 5 (some .boolean) 3 := ⟨aW_in 1158 (by decide +kernel) rfl, aW_in 1160 (by decide +kernel) rfl, aW_in 61 (by decide +kernel) rfl, aW_in 92 (by decide +kernel) rfl, cd_M_isNamed, rfl, by decide +kernel, by decide +kernel, by decide +kernel⟩
theorem cl_M_233 : Cond.constantLong "PlainPagesModel" 233 (1751474532) ∈ aW := aW_in 1162 (by decide +kernel) rfl
theorem cl_M_235 : Cond.constantLong "PlainPagesModel" 235 (499985443941) ∈ aW := aW_in 1163 (by decide +kernel) rfl
theorem cl_M_237 : Cond.constantLong "PlainPagesModel" 237 (1651467385) ∈ aW := aW_in 1164 (by decide +kernel) rfl
theorem cl_M_239 : Cond.constantLong "PlainPagesModel" 239 (30060) ∈ aW := aW_in 1165 (by decide +kernel) rfl
theorem cl_M_241 : Cond.constantLong "PlainPagesModel" 241 (28524) ∈ aW := aW_in 1166 (by decide +kernel) rfl
theorem cl_M_243 : Cond.constantLong "PlainPagesModel" 243 (27753) ∈ aW := aW_in 1167 (by decide +kernel) rfl
theorem cl_M_245 : Cond.constantLong "PlainPagesModel" 245 (112) ∈ aW := aW_in 1168 (by decide +kernel) rfl
theorem cl_M_247 : Cond.constantLong "PlainPagesModel" 247 (25965) ∈ aW := aW_in 1169 (by decide +kernel) rfl
theorem cl_M_249 : Cond.constantLong "PlainPagesModel" 249 (126943973305959) ∈ aW := aW_in 1170 (by decide +kernel) rfl
theorem cl_M_251 : Cond.constantLong "PlainPagesModel" 251 (97) ∈ aW := aW_in 1171 (by decide +kernel) rfl
theorem cl_M_253 : Cond.constantLong "PlainPagesModel" 253 (7369317) ∈ aW := aW_in 1172 (by decide +kernel) rfl
theorem cl_M_255 : Cond.constantLong "PlainPagesModel" 255 (1668244581) ∈ aW := aW_in 1173 (by decide +kernel) rfl
theorem cl_M_257 : Cond.constantLong "PlainPagesModel" 257 (26738) ∈ aW := aW_in 1174 (by decide +kernel) rfl
theorem cl_M_259 : Cond.constantLong "PlainPagesModel" 259 (25202) ∈ aW := aW_in 1175 (by decide +kernel) rfl
theorem cl_M_261 : Cond.constantLong "PlainPagesModel" 261 (6909287) ∈ aW := aW_in 1176 (by decide +kernel) rfl
theorem d_M_kindOf_0 : decode b_M_kindOf 0 = .ok (.aload_n 0, 1) := by decide +kernel
theorem d_M_kindOf_1 : decode b_M_kindOf 1 = .ok (.iload_n 1, 1) := by decide +kernel
theorem d_M_kindOf_2 : decode b_M_kindOf 2 = .ok (.invokevirtual 221, 3) := by decide +kernel
theorem d_M_kindOf_5 : decode b_M_kindOf 5 = .ok (.istore_n 2, 1) := by decide +kernel
theorem d_M_kindOf_6 : decode b_M_kindOf 6 = .ok (.aload_n 0, 1) := by decide +kernel
theorem d_M_kindOf_7 : decode b_M_kindOf 7 = .ok (.getfield 40, 3) := by decide +kernel
theorem d_M_kindOf_10 : decode b_M_kindOf 10 = .ok (.iload_n 1, 1) := by decide +kernel
theorem d_M_kindOf_11 : decode b_M_kindOf 11 = .ok (.iaload, 1) := by decide +kernel
theorem d_M_kindOf_12 : decode b_M_kindOf 12 = .ok (.iconst 1, 1) := by decide +kernel
theorem d_M_kindOf_13 : decode b_M_kindOf 13 = .ok (.iadd, 1) := by decide +kernel
theorem d_M_kindOf_14 : decode b_M_kindOf 14 = .ok (.istore_n 3, 1) := by decide +kernel
theorem d_M_kindOf_15 : decode b_M_kindOf 15 = .ok (.iload_n 2, 1) := by decide +kernel
theorem d_M_kindOf_16 : decode b_M_kindOf 16 = .ok (.iconst 2, 1) := by decide +kernel
theorem d_M_kindOf_17 : decode b_M_kindOf 17 = .ok (.if_icmp .ne 51, 3) := by decide +kernel
theorem d_M_kindOf_20 : decode b_M_kindOf 20 = .ok (.aload_n 0, 1) := by decide +kernel
theorem d_M_kindOf_21 : decode b_M_kindOf 21 = .ok (.iload_n 3, 1) := by decide +kernel
theorem d_M_kindOf_22 : decode b_M_kindOf 22 = .ok (.invokevirtual 95, 3) := by decide +kernel
theorem d_M_kindOf_25 : decode b_M_kindOf 25 = .ok (.bipush 104, 2) := by decide +kernel
theorem d_M_kindOf_27 : decode b_M_kindOf 27 = .ok (.if_icmp .ne 41, 3) := by decide +kernel
theorem d_M_kindOf_30 : decode b_M_kindOf 30 = .ok (.aload_n 0, 1) := by decide +kernel
theorem d_M_kindOf_31 : decode b_M_kindOf 31 = .ok (.iload_n 3, 1) := by decide +kernel
theorem d_M_kindOf_32 : decode b_M_kindOf 32 = .ok (.iconst 1, 1) := by decide +kernel
theorem d_M_kindOf_33 : decode b_M_kindOf 33 = .ok (.iadd, 1) := by decide +kernel
theorem d_M_kindOf_34 : decode b_M_kindOf 34 = .ok (.invokevirtual 95, 3) := by decide +kernel
theorem d_M_kindOf_37 : decode b_M_kindOf 37 = .ok (.bipush 49, 2) := by decide +kernel
theorem d_M_kindOf_39 : decode b_M_kindOf 39 = .ok (.if_icmp .lt 29, 3) := by decide +kernel
theorem d_M_kindOf_42 : decode b_M_kindOf 42 = .ok (.aload_n 0, 1) := by decide +kernel
theorem d_M_kindOf_43 : decode b_M_kindOf 43 = .ok (.iload_n 3, 1) := by decide +kernel
theorem d_M_kindOf_44 : decode b_M_kindOf 44 = .ok (.iconst 1, 1) := by decide +kernel
theorem d_M_kindOf_45 : decode b_M_kindOf 45 = .ok (.iadd, 1) := by decide +kernel
theorem d_M_kindOf_46 : decode b_M_kindOf 46 = .ok (.invokevirtual 95, 3) := by decide +kernel
theorem d_M_kindOf_49 : decode b_M_kindOf 49 = .ok (.bipush 54, 2) := by decide +kernel
theorem d_M_kindOf_51 : decode b_M_kindOf 51 = .ok (.if_icmp .gt 17, 3) := by decide +kernel
theorem d_M_kindOf_54 : decode b_M_kindOf 54 = .ok (.bipush 10, 2) := by decide +kernel
theorem d_M_kindOf_56 : decode b_M_kindOf 56 = .ok (.aload_n 0, 1) := by decide +kernel
theorem d_M_kindOf_57 : decode b_M_kindOf 57 = .ok (.iload_n 3, 1) := by decide +kernel
theorem d_M_kindOf_58 : decode b_M_kindOf 58 = .ok (.iconst 1, 1) := by decide +kernel
theorem d_M_kindOf_59 : decode b_M_kindOf 59 = .ok (.iadd, 1) := by decide +kernel
theorem d_M_kindOf_60 : decode b_M_kindOf 60 = .ok (.invokevirtual 95, 3) := by decide +kernel
theorem d_M_kindOf_63 : decode b_M_kindOf 63 = .ok (.iadd, 1) := by decide +kernel
theorem d_M_kindOf_64 : decode b_M_kindOf 64 = .ok (.bipush 49, 2) := by decide +kernel
theorem d_M_kindOf_66 : decode b_M_kindOf 66 = .ok (.isub, 1) := by decide +kernel
theorem d_M_kindOf_67 : decode b_M_kindOf 67 = .ok (.ireturn, 1) := by decide +kernel
theorem d_M_kindOf_68 : decode b_M_kindOf 68 = .ok (.iload_n 2, 1) := by decide +kernel
theorem d_M_kindOf_69 : decode b_M_kindOf 69 = .ok (.bipush 10, 2) := by decide +kernel
theorem d_M_kindOf_71 : decode b_M_kindOf 71 = .ok (.if_icmp .ne 33, 3) := by decide +kernel
theorem d_M_kindOf_74 : decode b_M_kindOf 74 = .ok (.aload_n 0, 1) := by decide +kernel
theorem d_M_kindOf_75 : decode b_M_kindOf 75 = .ok (.iload_n 3, 1) := by decide +kernel
theorem d_M_kindOf_76 : decode b_M_kindOf 76 = .ok (.ldc2_w 224, 3) := by decide +kernel
theorem d_M_kindOf_79 : decode b_M_kindOf 79 = .ok (.bipush 8, 2) := by decide +kernel
theorem d_M_kindOf_81 : decode b_M_kindOf 81 = .ok (.invokevirtual 124, 3) := by decide +kernel
theorem d_M_kindOf_84 : decode b_M_kindOf 84 = .ok (.ifCond .eq 20, 3) := by decide +kernel
theorem d_M_kindOf_87 : decode b_M_kindOf 87 = .ok (.aload_n 0, 1) := by decide +kernel
theorem d_M_kindOf_88 : decode b_M_kindOf 88 = .ok (.iload_n 3, 1) := by decide +kernel
theorem d_M_kindOf_89 : decode b_M_kindOf 89 = .ok (.bipush 8, 2) := by decide +kernel
theorem d_M_kindOf_91 : decode b_M_kindOf 91 = .ok (.iadd, 1) := by decide +kernel
theorem d_M_kindOf_92 : decode b_M_kindOf 92 = .ok (.ldc2_w 226, 3) := by decide +kernel
theorem d_M_kindOf_95 : decode b_M_kindOf 95 = .ok (.iconst 2, 1) := by decide +kernel
theorem d_M_kindOf_96 : decode b_M_kindOf 96 = .ok (.invokevirtual 124, 3) := by decide +kernel
theorem d_M_kindOf_99 : decode b_M_kindOf 99 = .ok (.ifCond .eq 5, 3) := by decide +kernel
theorem d_M_kindOf_102 : decode b_M_kindOf 102 = .ok (.iconst 5, 1) := by decide +kernel
theorem d_M_kindOf_103 : decode b_M_kindOf 103 = .ok (.ireturn, 1) := by decide +kernel
theorem d_M_kindOf_104 : decode b_M_kindOf 104 = .ok (.aload_n 0, 1) := by decide +kernel
theorem d_M_kindOf_105 : decode b_M_kindOf 105 = .ok (.iload_n 1, 1) := by decide +kernel
theorem d_M_kindOf_106 : decode b_M_kindOf 106 = .ok (.ldc2_w 228, 3) := by decide +kernel
theorem d_M_kindOf_109 : decode b_M_kindOf 109 = .ok (.iconst 4, 1) := by decide +kernel
theorem d_M_kindOf_110 : decode b_M_kindOf 110 = .ok (.invokevirtual 230, 3) := by decide +kernel
theorem d_M_kindOf_113 : decode b_M_kindOf 113 = .ok (.ifCond .eq 5, 3) := by decide +kernel
theorem d_M_kindOf_116 : decode b_M_kindOf 116 = .ok (.iconst 1, 1) := by decide +kernel
theorem d_M_kindOf_117 : decode b_M_kindOf 117 = .ok (.ireturn, 1) := by decide +kernel
theorem d_M_kindOf_118 : decode b_M_kindOf 118 = .ok (.aload_n 0, 1) := by decide +kernel
theorem d_M_kindOf_119 : decode b_M_kindOf 119 = .ok (.iload_n 1, 1) := by decide +kernel
theorem d_M_kindOf_120 : decode b_M_kindOf 120 = .ok (.ldc2_w 233, 3) := by decide +kernel
theorem d_M_kindOf_123 : decode b_M_kindOf 123 = .ok (.iconst 4, 1) := by decide +kernel
theorem d_M_kindOf_124 : decode b_M_kindOf 124 = .ok (.invokevirtual 230, 3) := by decide +kernel
theorem d_M_kindOf_127 : decode b_M_kindOf 127 = .ok (.ifCond .eq 5, 3) := by decide +kernel
theorem d_M_kindOf_130 : decode b_M_kindOf 130 = .ok (.iconst 2, 1) := by decide +kernel
theorem d_M_kindOf_131 : decode b_M_kindOf 131 = .ok (.ireturn, 1) := by decide +kernel
theorem d_M_kindOf_132 : decode b_M_kindOf 132 = .ok (.aload_n 0, 1) := by decide +kernel
theorem d_M_kindOf_133 : decode b_M_kindOf 133 = .ok (.iload_n 1, 1) := by decide +kernel
theorem d_M_kindOf_134 : decode b_M_kindOf 134 = .ok (.ldc2_w 235, 3) := by decide +kernel
theorem d_M_kindOf_137 : decode b_M_kindOf 137 = .ok (.iconst 5, 1) := by decide +kernel
theorem d_M_kindOf_138 : decode b_M_kindOf 138 = .ok (.invokevirtual 230, 3) := by decide +kernel
theorem d_M_kindOf_141 : decode b_M_kindOf 141 = .ok (.ifCond .eq 5, 3) := by decide +kernel
theorem d_M_kindOf_144 : decode b_M_kindOf 144 = .ok (.iconst 3, 1) := by decide +kernel
theorem d_M_kindOf_145 : decode b_M_kindOf 145 = .ok (.ireturn, 1) := by decide +kernel
theorem d_M_kindOf_146 : decode b_M_kindOf 146 = .ok (.aload_n 0, 1) := by decide +kernel
theorem d_M_kindOf_147 : decode b_M_kindOf 147 = .ok (.iload_n 1, 1) := by decide +kernel
theorem d_M_kindOf_148 : decode b_M_kindOf 148 = .ok (.ldc2_w 237, 3) := by decide +kernel
theorem d_M_kindOf_151 : decode b_M_kindOf 151 = .ok (.iconst 4, 1) := by decide +kernel
theorem d_M_kindOf_152 : decode b_M_kindOf 152 = .ok (.invokevirtual 230, 3) := by decide +kernel
theorem d_M_kindOf_155 : decode b_M_kindOf 155 = .ok (.ifCond .eq 5, 3) := by decide +kernel
theorem d_M_kindOf_158 : decode b_M_kindOf 158 = .ok (.iconst 4, 1) := by decide +kernel
theorem d_M_kindOf_159 : decode b_M_kindOf 159 = .ok (.ireturn, 1) := by decide +kernel
theorem d_M_kindOf_160 : decode b_M_kindOf 160 = .ok (.aload_n 0, 1) := by decide +kernel
theorem d_M_kindOf_161 : decode b_M_kindOf 161 = .ok (.iload_n 1, 1) := by decide +kernel
theorem d_M_kindOf_162 : decode b_M_kindOf 162 = .ok (.ldc2_w 239, 3) := by decide +kernel
theorem d_M_kindOf_165 : decode b_M_kindOf 165 = .ok (.iconst 2, 1) := by decide +kernel
theorem d_M_kindOf_166 : decode b_M_kindOf 166 = .ok (.invokevirtual 230, 3) := by decide +kernel
theorem d_M_kindOf_169 : decode b_M_kindOf 169 = .ok (.ifCond .eq 6, 3) := by decide +kernel
theorem d_M_kindOf_172 : decode b_M_kindOf 172 = .ok (.bipush 6, 2) := by decide +kernel
theorem d_M_kindOf_174 : decode b_M_kindOf 174 = .ok (.ireturn, 1) := by decide +kernel
theorem d_M_kindOf_175 : decode b_M_kindOf 175 = .ok (.aload_n 0, 1) := by decide +kernel
theorem d_M_kindOf_176 : decode b_M_kindOf 176 = .ok (.iload_n 1, 1) := by decide +kernel
theorem d_M_kindOf_177 : decode b_M_kindOf 177 = .ok (.ldc2_w 241, 3) := by decide +kernel
theorem d_M_kindOf_180 : decode b_M_kindOf 180 = .ok (.iconst 2, 1) := by decide +kernel
theorem d_M_kindOf_181 : decode b_M_kindOf 181 = .ok (.invokevirtual 230, 3) := by decide +kernel
theorem d_M_kindOf_184 : decode b_M_kindOf 184 = .ok (.ifCond .eq 6, 3) := by decide +kernel
theorem d_M_kindOf_187 : decode b_M_kindOf 187 = .ok (.bipush 7, 2) := by decide +kernel
theorem d_M_kindOf_189 : decode b_M_kindOf 189 = .ok (.ireturn, 1) := by decide +kernel
theorem d_M_kindOf_190 : decode b_M_kindOf 190 = .ok (.aload_n 0, 1) := by decide +kernel
theorem d_M_kindOf_191 : decode b_M_kindOf 191 = .ok (.iload_n 1, 1) := by decide +kernel
theorem d_M_kindOf_192 : decode b_M_kindOf 192 = .ok (.ldc2_w 243, 3) := by decide +kernel
theorem d_M_kindOf_195 : decode b_M_kindOf 195 = .ok (.iconst 2, 1) := by decide +kernel
theorem d_M_kindOf_196 : decode b_M_kindOf 196 = .ok (.invokevirtual 230, 3) := by decide +kernel
theorem d_M_kindOf_199 : decode b_M_kindOf 199 = .ok (.ifCond .eq 6, 3) := by decide +kernel
theorem d_M_kindOf_202 : decode b_M_kindOf 202 = .ok (.bipush 8, 2) := by decide +kernel
theorem d_M_kindOf_204 : decode b_M_kindOf 204 = .ok (.ireturn, 1) := by decide +kernel
theorem d_M_kindOf_205 : decode b_M_kindOf 205 = .ok (.aload_n 0, 1) := by decide +kernel
theorem d_M_kindOf_206 : decode b_M_kindOf 206 = .ok (.iload_n 1, 1) := by decide +kernel
theorem d_M_kindOf_207 : decode b_M_kindOf 207 = .ok (.ldc2_w 245, 3) := by decide +kernel
theorem d_M_kindOf_210 : decode b_M_kindOf 210 = .ok (.iconst 1, 1) := by decide +kernel
theorem d_M_kindOf_211 : decode b_M_kindOf 211 = .ok (.invokevirtual 230, 3) := by decide +kernel
theorem d_M_kindOf_214 : decode b_M_kindOf 214 = .ok (.ifCond .eq 6, 3) := by decide +kernel
theorem d_M_kindOf_217 : decode b_M_kindOf 217 = .ok (.bipush 9, 2) := by decide +kernel
theorem d_M_kindOf_219 : decode b_M_kindOf 219 = .ok (.ireturn, 1) := by decide +kernel
theorem d_M_kindOf_220 : decode b_M_kindOf 220 = .ok (.aload_n 0, 1) := by decide +kernel
theorem d_M_kindOf_221 : decode b_M_kindOf 221 = .ok (.iload_n 1, 1) := by decide +kernel
theorem d_M_kindOf_222 : decode b_M_kindOf 222 = .ok (.ldc2_w 247, 3) := by decide +kernel
theorem d_M_kindOf_225 : decode b_M_kindOf 225 = .ok (.iconst 2, 1) := by decide +kernel
theorem d_M_kindOf_226 : decode b_M_kindOf 226 = .ok (.invokevirtual 230, 3) := by decide +kernel
theorem d_M_kindOf_229 : decode b_M_kindOf 229 = .ok (.ifCond .eq 6, 3) := by decide +kernel
theorem d_M_kindOf_232 : decode b_M_kindOf 232 = .ok (.bipush 16, 2) := by decide +kernel
theorem d_M_kindOf_234 : decode b_M_kindOf 234 = .ok (.ireturn, 1) := by decide +kernel
theorem d_M_kindOf_235 : decode b_M_kindOf 235 = .ok (.aload_n 0, 1) := by decide +kernel
theorem d_M_kindOf_236 : decode b_M_kindOf 236 = .ok (.iload_n 1, 1) := by decide +kernel
theorem d_M_kindOf_237 : decode b_M_kindOf 237 = .ok (.ldc2_w 249, 3) := by decide +kernel
theorem d_M_kindOf_240 : decode b_M_kindOf 240 = .ok (.bipush 6, 2) := by decide +kernel
theorem d_M_kindOf_242 : decode b_M_kindOf 242 = .ok (.invokevirtual 230, 3) := by decide +kernel
theorem d_M_kindOf_245 : decode b_M_kindOf 245 = .ok (.ifCond .eq 6, 3) := by decide +kernel
theorem d_M_kindOf_248 : decode b_M_kindOf 248 = .ok (.bipush 17, 2) := by decide +kernel
theorem d_M_kindOf_250 : decode b_M_kindOf 250 = .ok (.ireturn, 1) := by decide +kernel
theorem d_M_kindOf_251 : decode b_M_kindOf 251 = .ok (.aload_n 0, 1) := by decide +kernel
theorem d_M_kindOf_252 : decode b_M_kindOf 252 = .ok (.iload_n 1, 1) := by decide +kernel
theorem d_M_kindOf_253 : decode b_M_kindOf 253 = .ok (.ldc2_w 251, 3) := by decide +kernel
theorem d_M_kindOf_256 : decode b_M_kindOf 256 = .ok (.iconst 1, 1) := by decide +kernel
theorem d_M_kindOf_257 : decode b_M_kindOf 257 = .ok (.invokevirtual 230, 3) := by decide +kernel
theorem d_M_kindOf_260 : decode b_M_kindOf 260 = .ok (.ifCond .eq 6, 3) := by decide +kernel
theorem d_M_kindOf_263 : decode b_M_kindOf 263 = .ok (.bipush 18, 2) := by decide +kernel
theorem d_M_kindOf_265 : decode b_M_kindOf 265 = .ok (.ireturn, 1) := by decide +kernel
theorem d_M_kindOf_266 : decode b_M_kindOf 266 = .ok (.aload_n 0, 1) := by decide +kernel
theorem d_M_kindOf_267 : decode b_M_kindOf 267 = .ok (.iload_n 1, 1) := by decide +kernel
theorem d_M_kindOf_268 : decode b_M_kindOf 268 = .ok (.ldc2_w 253, 3) := by decide +kernel
theorem d_M_kindOf_271 : decode b_M_kindOf 271 = .ok (.iconst 3, 1) := by decide +kernel
theorem d_M_kindOf_272 : decode b_M_kindOf 272 = .ok (.invokevirtual 230, 3) := by decide +kernel
theorem d_M_kindOf_275 : decode b_M_kindOf 275 = .ok (.ifCond .eq 6, 3) := by decide +kernel
theorem d_M_kindOf_278 : decode b_M_kindOf 278 = .ok (.bipush 19, 2) := by decide +kernel
theorem d_M_kindOf_280 : decode b_M_kindOf 280 = .ok (.ireturn, 1) := by decide +kernel
theorem d_M_kindOf_281 : decode b_M_kindOf 281 = .ok (.aload_n 0, 1) := by decide +kernel
theorem d_M_kindOf_282 : decode b_M_kindOf 282 = .ok (.iload_n 1, 1) := by decide +kernel
theorem d_M_kindOf_283 : decode b_M_kindOf 283 = .ok (.ldc2_w 255, 3) := by decide +kernel
theorem d_M_kindOf_286 : decode b_M_kindOf 286 = .ok (.iconst 4, 1) := by decide +kernel
theorem d_M_kindOf_287 : decode b_M_kindOf 287 = .ok (.invokevirtual 230, 3) := by decide +kernel
theorem d_M_kindOf_290 : decode b_M_kindOf 290 = .ok (.ifCond .eq 6, 3) := by decide +kernel
theorem d_M_kindOf_293 : decode b_M_kindOf 293 = .ok (.bipush 20, 2) := by decide +kernel
theorem d_M_kindOf_295 : decode b_M_kindOf 295 = .ok (.ireturn, 1) := by decide +kernel
theorem d_M_kindOf_296 : decode b_M_kindOf 296 = .ok (.aload_n 0, 1) := by decide +kernel
theorem d_M_kindOf_297 : decode b_M_kindOf 297 = .ok (.iload_n 1, 1) := by decide +kernel
theorem d_M_kindOf_298 : decode b_M_kindOf 298 = .ok (.ldc2_w 257, 3) := by decide +kernel
theorem d_M_kindOf_301 : decode b_M_kindOf 301 = .ok (.iconst 2, 1) := by decide +kernel
theorem d_M_kindOf_302 : decode b_M_kindOf 302 = .ok (.invokevirtual 230, 3) := by decide +kernel
theorem d_M_kindOf_305 : decode b_M_kindOf 305 = .ok (.ifCond .eq 6, 3) := by decide +kernel
theorem d_M_kindOf_308 : decode b_M_kindOf 308 = .ok (.bipush 21, 2) := by decide +kernel
theorem d_M_kindOf_310 : decode b_M_kindOf 310 = .ok (.ireturn, 1) := by decide +kernel
theorem d_M_kindOf_311 : decode b_M_kindOf 311 = .ok (.aload_n 0, 1) := by decide +kernel
theorem d_M_kindOf_312 : decode b_M_kindOf 312 = .ok (.iload_n 1, 1) := by decide +kernel
theorem d_M_kindOf_313 : decode b_M_kindOf 313 = .ok (.ldc2_w 259, 3) := by decide +kernel
theorem d_M_kindOf_316 : decode b_M_kindOf 316 = .ok (.iconst 2, 1) := by decide +kernel
theorem d_M_kindOf_317 : decode b_M_kindOf 317 = .ok (.invokevirtual 230, 3) := by decide +kernel
theorem d_M_kindOf_320 : decode b_M_kindOf 320 = .ok (.ifCond .eq 6, 3) := by decide +kernel
theorem d_M_kindOf_323 : decode b_M_kindOf 323 = .ok (.bipush 22, 2) := by decide +kernel
theorem d_M_kindOf_325 : decode b_M_kindOf 325 = .ok (.ireturn, 1) := by decide +kernel
theorem d_M_kindOf_326 : decode b_M_kindOf 326 = .ok (.aload_n 0, 1) := by decide +kernel
theorem d_M_kindOf_327 : decode b_M_kindOf 327 = .ok (.iload_n 1, 1) := by decide +kernel
theorem d_M_kindOf_328 : decode b_M_kindOf 328 = .ok (.ldc2_w 261, 3) := by decide +kernel
theorem d_M_kindOf_331 : decode b_M_kindOf 331 = .ok (.iconst 3, 1) := by decide +kernel
theorem d_M_kindOf_332 : decode b_M_kindOf 332 = .ok (.invokevirtual 230, 3) := by decide +kernel
theorem d_M_kindOf_335 : decode b_M_kindOf 335 = .ok (.ifCond .eq 6, 3) := by decide +kernel
theorem d_M_kindOf_338 : decode b_M_kindOf 338 = .ok (.bipush 23, 2) := by decide +kernel
theorem d_M_kindOf_340 : decode b_M_kindOf 340 = .ok (.ireturn, 1) := by decide +kernel
theorem d_M_kindOf_341 : decode b_M_kindOf 341 = .ok (.iconst 0, 1) := by decide +kernel
theorem d_M_kindOf_342 : decode b_M_kindOf 342 = .ok (.ireturn, 1) := by decide +kernel
def w_M_kindOf_J104  (σ : MPS) (post : Int32 → Prop) (v1 : Int32) : Prop := w_M_isNamed σ v1 1752460652 4 (fun r110 => ((r110 = 0 → w_M_isNamed σ v1 1751474532 4 (fun r124 => ((r124 = 0 → w_M_isNamed σ v1 499985443941 5 (fun r138 => ((r138 = 0 → w_M_isNamed σ v1 1651467385 4 (fun r152 => ((r152 = 0 → w_M_isNamed σ v1 30060 2 (fun r166 => ((r166 = 0 → w_M_isNamed σ v1 28524 2 (fun r181 => ((r181 = 0 → w_M_isNamed σ v1 27753 2 (fun r196 => ((r196 = 0 → w_M_isNamed σ v1 112 1 (fun r211 => ((r211 = 0 → w_M_isNamed σ v1 25965 2 (fun r226 => ((r226 = 0 → w_M_isNamed σ v1 126943973305959 6 (fun r242 => ((r242 = 0 → w_M_isNamed σ v1 97 1 (fun r257 => ((r257 = 0 → w_M_isNamed σ v1 7369317 3 (fun r272 => ((r272 = 0 → w_M_isNamed σ v1 1668244581 4 (fun r287 => ((r287 = 0 → w_M_isNamed σ v1 26738 2 (fun r302 => ((r302 = 0 → w_M_isNamed σ v1 25202 2 (fun r317 => ((r317 = 0 → w_M_isNamed σ v1 6909287 3 (fun r332 => ((r332 = 0 → post 0) ∧ (¬ r332 = 0 → post 23)))) ∧ (¬ r317 = 0 → post 22)))) ∧ (¬ r302 = 0 → post 21)))) ∧ (¬ r287 = 0 → post 20)))) ∧ (¬ r272 = 0 → post 19)))) ∧ (¬ r257 = 0 → post 18)))) ∧ (¬ r242 = 0 → post 17)))) ∧ (¬ r226 = 0 → post 16)))) ∧ (¬ r211 = 0 → post 9)))) ∧ (¬ r196 = 0 → post 8)))) ∧ (¬ r181 = 0 → post 7)))) ∧ (¬ r166 = 0 → post 6)))) ∧ (¬ r152 = 0 → post 4)))) ∧ (¬ r138 = 0 → post 3)))) ∧ (¬ r124 = 0 → post 2)))) ∧ (¬ r110 = 0 → post 1)))
def w_M_kindOf_J68  (σ : MPS) (post : Int32 → Prop) (v1 : Int32) (v2 : Int32) (v3 : Int32) : Prop := ((v2 = 10 → w_M_says σ v3 7092165985996731759 8 (fun r81 => ((r81 = 0 → w_M_kindOf_J104 σ post v1) ∧ (¬ r81 = 0 → w_M_says σ (v3 + 8) 29797 2 (fun r96 => ((r96 = 0 → w_M_kindOf_J104 σ post v1) ∧ (¬ r96 = 0 → post 5))))))) ∧ (¬ v2 = 10 → w_M_kindOf_J104 σ post v1))
def w_M_kindOf  (σ : MPS) (x0 : Int32) (post : Int32 → Prop) : Prop := w_M_nameSize σ x0 (fun r2 => (vp_in x0 1000 ∧ ((r2 = 2 → (mXk σ (((mp_begins σ) x0.toNatClampNeg) + 1) ∧ (((mX σ (((mp_begins σ) x0.toNatClampNeg) + 1)) = 104 → (mXk σ ((((mp_begins σ) x0.toNatClampNeg) + 1) + 1) ∧ (((mX σ ((((mp_begins σ) x0.toNatClampNeg) + 1) + 1)) < 49 → w_M_kindOf_J68 σ post x0 r2 (((mp_begins σ) x0.toNatClampNeg) + 1)) ∧ (¬ (mX σ ((((mp_begins σ) x0.toNatClampNeg) + 1) + 1)) < 49 → (mXk σ ((((mp_begins σ) x0.toNatClampNeg) + 1) + 1) ∧ ((54 < (mX σ ((((mp_begins σ) x0.toNatClampNeg) + 1) + 1)) → w_M_kindOf_J68 σ post x0 r2 (((mp_begins σ) x0.toNatClampNeg) + 1)) ∧ (¬ 54 < (mX σ ((((mp_begins σ) x0.toNatClampNeg) + 1) + 1)) → (mXk σ ((((mp_begins σ) x0.toNatClampNeg) + 1) + 1) ∧ post ((10 + (mX σ ((((mp_begins σ) x0.toNatClampNeg) + 1) + 1))) - 49))))))))) ∧ (¬ (mX σ (((mp_begins σ) x0.toNatClampNeg) + 1)) = 104 → w_M_kindOf_J68 σ post x0 r2 (((mp_begins σ) x0.toNatClampNeg) + 1))))) ∧ (¬ r2 = 2 → w_M_kindOf_J68 σ post x0 r2 (((mp_begins σ) x0.toNatClampNeg) + 1)))))
set_option maxHeartbeats 4000000 in
set_option maxRecDepth 100000 in
theorem c_M_kindOf (l : Launch) (md : MD) (σ : MPS) (x0 : Int32)  (post : Int32 → Prop) (hE : w_M_kindOf σ x0 post) : Met l y_M_kindOf ws_M_kindOf { frames := 5, cells := 0, slots := 0, locals := 108 } (va_Pc [.ref (mA md 0), .int x0] (rM md σ)) (vp_Si post) 0 0 (fun _ => False) := by
  refine Met.ofW (cc := b_M_kindOf) (maxL := 4) (ret := (some .int)) (by decide) rfl ?_
  intro p e s m args below meth c s₁ B hml hv
  obtain ⟨rfl, hP, hK⟩ := hv
  have hS : va_S (fun _ : Nat => False) s.heap s.heap [] := va_S.rf
  have hx := B.exec
  have hb := B.bytes
  have hr := B.returns
  have hta : ∀ w ∈ aW, w.before _ s = true := fun w h => atoms_spec (ws := ws_M_kindOf) B.pre w (List.mem_cons_of_mem _ h)
  have hown : s.vm.findClass R_M = some m.cls := findClass_of_methodNamed B.named
  have hlocks := B.notSynchronized
  have hl := lv_entry ([.ref (mA md 0), .int x0]) (n := 4) (Nat.le_of_ble_eq_true rfl)
  rw [lg_entry_eq]
  generalize (lg_sl ([.ref (mA md 0), .int x0]) ++ List.replicate (4 - (lg_sl ([.ref (mA md 0), .int x0])).length) Slot.unset).toArray = ls at hl ⊢
  have hl : lv_has ls 4 [(0, .ref (mA md 0)), (1, .int x0)] := hl
  have J104 : ∀ (v1 : Int32) (ls : Array Slot) (hl : lv_has ls 4 [(0, .ref (mA md 0)), (1, .int v1)]) (hE : w_M_kindOf_J104 σ post v1), W p l e (headSpec ws_M_kindOf { frames := 5, cells := 0, slots := 0, locals := 108 }).room s m ([.ref (mA md 0), .int x0] : List Value).toArray below meth c s.heap [] 0 0 (MQ below (vp_Si post) ([.ref (mA md 0), .int x0] : List Value).toArray s 0 0 (fun _ => False)) (F0 m 104 ls []) := by
    intro  v1 ls hl hE
    unfold w_M_kindOf_J104 at hE
    refine lv_aload_n hx hb d_M_kindOf_104 rfl (lv_at hl 0 rfl) ?_
    refine lv_iload_n hx hb d_M_kindOf_105 rfl (lv_at hl 1 rfl) ?_
    refine lv_ldc2 hx hb hown (hta _ cl_M_228) d_M_kindOf_106 ?_
    refine lv_iconst (v := 4) hx hb d_M_kindOf_109 (by decide) ?_
    refine ro_V (b0 := (mA md 0)) (As := [.int v1, .long 1752460652, .int 4]) (rest := []) ⟨hx, hb, hml, hown, hta⟩ (c_M_isNamed l md σ v1 1752460652 4  _ hE) ok_M_230 ⟨Nat.le_of_ble_eq_true rfl, Nat.le_of_ble_eq_true rfl⟩ blind_rM (va_recv hK hP (ci := 7) (q0 := 0) rfl rfl) (rM_of hP hK) rfl hl.1 rfl (Nat.le_of_ble_eq_true rfl) d_M_kindOf_110 ⟨Nat.zero_le _, Nat.zero_le _⟩ (fun r110 hE => ?_)
    refine lv_if_eq (tgt := 118) hx hb d_M_kindOf_113 (by decide) (fun cc113 => ?_) (fun cc113 => ?_)
    · have hE := hE.1 cc113
      refine lv_aload_n hx hb d_M_kindOf_118 rfl (lv_at hl 0 rfl) ?_
      refine lv_iload_n hx hb d_M_kindOf_119 rfl (lv_at hl 1 rfl) ?_
      refine lv_ldc2 hx hb hown (hta _ cl_M_233) d_M_kindOf_120 ?_
      refine lv_iconst (v := 4) hx hb d_M_kindOf_123 (by decide) ?_
      refine ro_V (b0 := (mA md 0)) (As := [.int v1, .long 1751474532, .int 4]) (rest := []) ⟨hx, hb, hml, hown, hta⟩ (c_M_isNamed l md σ v1 1751474532 4  _ hE) ok_M_230 ⟨Nat.le_of_ble_eq_true rfl, Nat.le_of_ble_eq_true rfl⟩ blind_rM (va_recv hK hP (ci := 7) (q0 := 0) rfl rfl) (rM_of hP hK) rfl hl.1 rfl (Nat.le_of_ble_eq_true rfl) d_M_kindOf_124 ⟨Nat.zero_le _, Nat.zero_le _⟩ (fun r124 hE => ?_)
      refine lv_if_eq (tgt := 132) hx hb d_M_kindOf_127 (by decide) (fun cc127 => ?_) (fun cc127 => ?_)
      · have hE := hE.1 cc127
        refine lv_aload_n hx hb d_M_kindOf_132 rfl (lv_at hl 0 rfl) ?_
        refine lv_iload_n hx hb d_M_kindOf_133 rfl (lv_at hl 1 rfl) ?_
        refine lv_ldc2 hx hb hown (hta _ cl_M_235) d_M_kindOf_134 ?_
        refine lv_iconst (v := 5) hx hb d_M_kindOf_137 (by decide) ?_
        refine ro_V (b0 := (mA md 0)) (As := [.int v1, .long 499985443941, .int 5]) (rest := []) ⟨hx, hb, hml, hown, hta⟩ (c_M_isNamed l md σ v1 499985443941 5  _ hE) ok_M_230 ⟨Nat.le_of_ble_eq_true rfl, Nat.le_of_ble_eq_true rfl⟩ blind_rM (va_recv hK hP (ci := 7) (q0 := 0) rfl rfl) (rM_of hP hK) rfl hl.1 rfl (Nat.le_of_ble_eq_true rfl) d_M_kindOf_138 ⟨Nat.zero_le _, Nat.zero_le _⟩ (fun r138 hE => ?_)
        refine lv_if_eq (tgt := 146) hx hb d_M_kindOf_141 (by decide) (fun cc141 => ?_) (fun cc141 => ?_)
        · have hE := hE.1 cc141
          refine lv_aload_n hx hb d_M_kindOf_146 rfl (lv_at hl 0 rfl) ?_
          refine lv_iload_n hx hb d_M_kindOf_147 rfl (lv_at hl 1 rfl) ?_
          refine lv_ldc2 hx hb hown (hta _ cl_M_237) d_M_kindOf_148 ?_
          refine lv_iconst (v := 4) hx hb d_M_kindOf_151 (by decide) ?_
          refine ro_V (b0 := (mA md 0)) (As := [.int v1, .long 1651467385, .int 4]) (rest := []) ⟨hx, hb, hml, hown, hta⟩ (c_M_isNamed l md σ v1 1651467385 4  _ hE) ok_M_230 ⟨Nat.le_of_ble_eq_true rfl, Nat.le_of_ble_eq_true rfl⟩ blind_rM (va_recv hK hP (ci := 7) (q0 := 0) rfl rfl) (rM_of hP hK) rfl hl.1 rfl (Nat.le_of_ble_eq_true rfl) d_M_kindOf_152 ⟨Nat.zero_le _, Nat.zero_le _⟩ (fun r152 hE => ?_)
          refine lv_if_eq (tgt := 160) hx hb d_M_kindOf_155 (by decide) (fun cc155 => ?_) (fun cc155 => ?_)
          · have hE := hE.1 cc155
            refine lv_aload_n hx hb d_M_kindOf_160 rfl (lv_at hl 0 rfl) ?_
            refine lv_iload_n hx hb d_M_kindOf_161 rfl (lv_at hl 1 rfl) ?_
            refine lv_ldc2 hx hb hown (hta _ cl_M_239) d_M_kindOf_162 ?_
            refine lv_iconst (v := 2) hx hb d_M_kindOf_165 (by decide) ?_
            refine ro_V (b0 := (mA md 0)) (As := [.int v1, .long 30060, .int 2]) (rest := []) ⟨hx, hb, hml, hown, hta⟩ (c_M_isNamed l md σ v1 30060 2  _ hE) ok_M_230 ⟨Nat.le_of_ble_eq_true rfl, Nat.le_of_ble_eq_true rfl⟩ blind_rM (va_recv hK hP (ci := 7) (q0 := 0) rfl rfl) (rM_of hP hK) rfl hl.1 rfl (Nat.le_of_ble_eq_true rfl) d_M_kindOf_166 ⟨Nat.zero_le _, Nat.zero_le _⟩ (fun r166 hE => ?_)
            refine lv_if_eq (tgt := 175) hx hb d_M_kindOf_169 (by decide) (fun cc169 => ?_) (fun cc169 => ?_)
            · have hE := hE.1 cc169
              refine lv_aload_n hx hb d_M_kindOf_175 rfl (lv_at hl 0 rfl) ?_
              refine lv_iload_n hx hb d_M_kindOf_176 rfl (lv_at hl 1 rfl) ?_
              refine lv_ldc2 hx hb hown (hta _ cl_M_241) d_M_kindOf_177 ?_
              refine lv_iconst (v := 2) hx hb d_M_kindOf_180 (by decide) ?_
              refine ro_V (b0 := (mA md 0)) (As := [.int v1, .long 28524, .int 2]) (rest := []) ⟨hx, hb, hml, hown, hta⟩ (c_M_isNamed l md σ v1 28524 2  _ hE) ok_M_230 ⟨Nat.le_of_ble_eq_true rfl, Nat.le_of_ble_eq_true rfl⟩ blind_rM (va_recv hK hP (ci := 7) (q0 := 0) rfl rfl) (rM_of hP hK) rfl hl.1 rfl (Nat.le_of_ble_eq_true rfl) d_M_kindOf_181 ⟨Nat.zero_le _, Nat.zero_le _⟩ (fun r181 hE => ?_)
              refine lv_if_eq (tgt := 190) hx hb d_M_kindOf_184 (by decide) (fun cc184 => ?_) (fun cc184 => ?_)
              · have hE := hE.1 cc184
                refine lv_aload_n hx hb d_M_kindOf_190 rfl (lv_at hl 0 rfl) ?_
                refine lv_iload_n hx hb d_M_kindOf_191 rfl (lv_at hl 1 rfl) ?_
                refine lv_ldc2 hx hb hown (hta _ cl_M_243) d_M_kindOf_192 ?_
                refine lv_iconst (v := 2) hx hb d_M_kindOf_195 (by decide) ?_
                refine ro_V (b0 := (mA md 0)) (As := [.int v1, .long 27753, .int 2]) (rest := []) ⟨hx, hb, hml, hown, hta⟩ (c_M_isNamed l md σ v1 27753 2  _ hE) ok_M_230 ⟨Nat.le_of_ble_eq_true rfl, Nat.le_of_ble_eq_true rfl⟩ blind_rM (va_recv hK hP (ci := 7) (q0 := 0) rfl rfl) (rM_of hP hK) rfl hl.1 rfl (Nat.le_of_ble_eq_true rfl) d_M_kindOf_196 ⟨Nat.zero_le _, Nat.zero_le _⟩ (fun r196 hE => ?_)
                refine lv_if_eq (tgt := 205) hx hb d_M_kindOf_199 (by decide) (fun cc199 => ?_) (fun cc199 => ?_)
                · have hE := hE.1 cc199
                  refine lv_aload_n hx hb d_M_kindOf_205 rfl (lv_at hl 0 rfl) ?_
                  refine lv_iload_n hx hb d_M_kindOf_206 rfl (lv_at hl 1 rfl) ?_
                  refine lv_ldc2 hx hb hown (hta _ cl_M_245) d_M_kindOf_207 ?_
                  refine lv_iconst (v := 1) hx hb d_M_kindOf_210 (by decide) ?_
                  refine ro_V (b0 := (mA md 0)) (As := [.int v1, .long 112, .int 1]) (rest := []) ⟨hx, hb, hml, hown, hta⟩ (c_M_isNamed l md σ v1 112 1  _ hE) ok_M_230 ⟨Nat.le_of_ble_eq_true rfl, Nat.le_of_ble_eq_true rfl⟩ blind_rM (va_recv hK hP (ci := 7) (q0 := 0) rfl rfl) (rM_of hP hK) rfl hl.1 rfl (Nat.le_of_ble_eq_true rfl) d_M_kindOf_211 ⟨Nat.zero_le _, Nat.zero_le _⟩ (fun r211 hE => ?_)
                  refine lv_if_eq (tgt := 220) hx hb d_M_kindOf_214 (by decide) (fun cc214 => ?_) (fun cc214 => ?_)
                  · have hE := hE.1 cc214
                    refine lv_aload_n hx hb d_M_kindOf_220 rfl (lv_at hl 0 rfl) ?_
                    refine lv_iload_n hx hb d_M_kindOf_221 rfl (lv_at hl 1 rfl) ?_
                    refine lv_ldc2 hx hb hown (hta _ cl_M_247) d_M_kindOf_222 ?_
                    refine lv_iconst (v := 2) hx hb d_M_kindOf_225 (by decide) ?_
                    refine ro_V (b0 := (mA md 0)) (As := [.int v1, .long 25965, .int 2]) (rest := []) ⟨hx, hb, hml, hown, hta⟩ (c_M_isNamed l md σ v1 25965 2  _ hE) ok_M_230 ⟨Nat.le_of_ble_eq_true rfl, Nat.le_of_ble_eq_true rfl⟩ blind_rM (va_recv hK hP (ci := 7) (q0 := 0) rfl rfl) (rM_of hP hK) rfl hl.1 rfl (Nat.le_of_ble_eq_true rfl) d_M_kindOf_226 ⟨Nat.zero_le _, Nat.zero_le _⟩ (fun r226 hE => ?_)
                    refine lv_if_eq (tgt := 235) hx hb d_M_kindOf_229 (by decide) (fun cc229 => ?_) (fun cc229 => ?_)
                    · have hE := hE.1 cc229
                      refine lv_aload_n hx hb d_M_kindOf_235 rfl (lv_at hl 0 rfl) ?_
                      refine lv_iload_n hx hb d_M_kindOf_236 rfl (lv_at hl 1 rfl) ?_
                      refine lv_ldc2 hx hb hown (hta _ cl_M_249) d_M_kindOf_237 ?_
                      refine lv_bipush (v := 6) hx hb d_M_kindOf_240 (by decide) ?_
                      refine ro_V (b0 := (mA md 0)) (As := [.int v1, .long 126943973305959, .int 6]) (rest := []) ⟨hx, hb, hml, hown, hta⟩ (c_M_isNamed l md σ v1 126943973305959 6  _ hE) ok_M_230 ⟨Nat.le_of_ble_eq_true rfl, Nat.le_of_ble_eq_true rfl⟩ blind_rM (va_recv hK hP (ci := 7) (q0 := 0) rfl rfl) (rM_of hP hK) rfl hl.1 rfl (Nat.le_of_ble_eq_true rfl) d_M_kindOf_242 ⟨Nat.zero_le _, Nat.zero_le _⟩ (fun r242 hE => ?_)
                      refine lv_if_eq (tgt := 251) hx hb d_M_kindOf_245 (by decide) (fun cc245 => ?_) (fun cc245 => ?_)
                      · have hE := hE.1 cc245
                        refine lv_aload_n hx hb d_M_kindOf_251 rfl (lv_at hl 0 rfl) ?_
                        refine lv_iload_n hx hb d_M_kindOf_252 rfl (lv_at hl 1 rfl) ?_
                        refine lv_ldc2 hx hb hown (hta _ cl_M_251) d_M_kindOf_253 ?_
                        refine lv_iconst (v := 1) hx hb d_M_kindOf_256 (by decide) ?_
                        refine ro_V (b0 := (mA md 0)) (As := [.int v1, .long 97, .int 1]) (rest := []) ⟨hx, hb, hml, hown, hta⟩ (c_M_isNamed l md σ v1 97 1  _ hE) ok_M_230 ⟨Nat.le_of_ble_eq_true rfl, Nat.le_of_ble_eq_true rfl⟩ blind_rM (va_recv hK hP (ci := 7) (q0 := 0) rfl rfl) (rM_of hP hK) rfl hl.1 rfl (Nat.le_of_ble_eq_true rfl) d_M_kindOf_257 ⟨Nat.zero_le _, Nat.zero_le _⟩ (fun r257 hE => ?_)
                        refine lv_if_eq (tgt := 266) hx hb d_M_kindOf_260 (by decide) (fun cc260 => ?_) (fun cc260 => ?_)
                        · have hE := hE.1 cc260
                          refine lv_aload_n hx hb d_M_kindOf_266 rfl (lv_at hl 0 rfl) ?_
                          refine lv_iload_n hx hb d_M_kindOf_267 rfl (lv_at hl 1 rfl) ?_
                          refine lv_ldc2 hx hb hown (hta _ cl_M_253) d_M_kindOf_268 ?_
                          refine lv_iconst (v := 3) hx hb d_M_kindOf_271 (by decide) ?_
                          refine ro_V (b0 := (mA md 0)) (As := [.int v1, .long 7369317, .int 3]) (rest := []) ⟨hx, hb, hml, hown, hta⟩ (c_M_isNamed l md σ v1 7369317 3  _ hE) ok_M_230 ⟨Nat.le_of_ble_eq_true rfl, Nat.le_of_ble_eq_true rfl⟩ blind_rM (va_recv hK hP (ci := 7) (q0 := 0) rfl rfl) (rM_of hP hK) rfl hl.1 rfl (Nat.le_of_ble_eq_true rfl) d_M_kindOf_272 ⟨Nat.zero_le _, Nat.zero_le _⟩ (fun r272 hE => ?_)
                          refine lv_if_eq (tgt := 281) hx hb d_M_kindOf_275 (by decide) (fun cc275 => ?_) (fun cc275 => ?_)
                          · have hE := hE.1 cc275
                            refine lv_aload_n hx hb d_M_kindOf_281 rfl (lv_at hl 0 rfl) ?_
                            refine lv_iload_n hx hb d_M_kindOf_282 rfl (lv_at hl 1 rfl) ?_
                            refine lv_ldc2 hx hb hown (hta _ cl_M_255) d_M_kindOf_283 ?_
                            refine lv_iconst (v := 4) hx hb d_M_kindOf_286 (by decide) ?_
                            refine ro_V (b0 := (mA md 0)) (As := [.int v1, .long 1668244581, .int 4]) (rest := []) ⟨hx, hb, hml, hown, hta⟩ (c_M_isNamed l md σ v1 1668244581 4  _ hE) ok_M_230 ⟨Nat.le_of_ble_eq_true rfl, Nat.le_of_ble_eq_true rfl⟩ blind_rM (va_recv hK hP (ci := 7) (q0 := 0) rfl rfl) (rM_of hP hK) rfl hl.1 rfl (Nat.le_of_ble_eq_true rfl) d_M_kindOf_287 ⟨Nat.zero_le _, Nat.zero_le _⟩ (fun r287 hE => ?_)
                            refine lv_if_eq (tgt := 296) hx hb d_M_kindOf_290 (by decide) (fun cc290 => ?_) (fun cc290 => ?_)
                            · have hE := hE.1 cc290
                              refine lv_aload_n hx hb d_M_kindOf_296 rfl (lv_at hl 0 rfl) ?_
                              refine lv_iload_n hx hb d_M_kindOf_297 rfl (lv_at hl 1 rfl) ?_
                              refine lv_ldc2 hx hb hown (hta _ cl_M_257) d_M_kindOf_298 ?_
                              refine lv_iconst (v := 2) hx hb d_M_kindOf_301 (by decide) ?_
                              refine ro_V (b0 := (mA md 0)) (As := [.int v1, .long 26738, .int 2]) (rest := []) ⟨hx, hb, hml, hown, hta⟩ (c_M_isNamed l md σ v1 26738 2  _ hE) ok_M_230 ⟨Nat.le_of_ble_eq_true rfl, Nat.le_of_ble_eq_true rfl⟩ blind_rM (va_recv hK hP (ci := 7) (q0 := 0) rfl rfl) (rM_of hP hK) rfl hl.1 rfl (Nat.le_of_ble_eq_true rfl) d_M_kindOf_302 ⟨Nat.zero_le _, Nat.zero_le _⟩ (fun r302 hE => ?_)
                              refine lv_if_eq (tgt := 311) hx hb d_M_kindOf_305 (by decide) (fun cc305 => ?_) (fun cc305 => ?_)
                              · have hE := hE.1 cc305
                                refine lv_aload_n hx hb d_M_kindOf_311 rfl (lv_at hl 0 rfl) ?_
                                refine lv_iload_n hx hb d_M_kindOf_312 rfl (lv_at hl 1 rfl) ?_
                                refine lv_ldc2 hx hb hown (hta _ cl_M_259) d_M_kindOf_313 ?_
                                refine lv_iconst (v := 2) hx hb d_M_kindOf_316 (by decide) ?_
                                refine ro_V (b0 := (mA md 0)) (As := [.int v1, .long 25202, .int 2]) (rest := []) ⟨hx, hb, hml, hown, hta⟩ (c_M_isNamed l md σ v1 25202 2  _ hE) ok_M_230 ⟨Nat.le_of_ble_eq_true rfl, Nat.le_of_ble_eq_true rfl⟩ blind_rM (va_recv hK hP (ci := 7) (q0 := 0) rfl rfl) (rM_of hP hK) rfl hl.1 rfl (Nat.le_of_ble_eq_true rfl) d_M_kindOf_317 ⟨Nat.zero_le _, Nat.zero_le _⟩ (fun r317 hE => ?_)
                                refine lv_if_eq (tgt := 326) hx hb d_M_kindOf_320 (by decide) (fun cc320 => ?_) (fun cc320 => ?_)
                                · have hE := hE.1 cc320
                                  refine lv_aload_n hx hb d_M_kindOf_326 rfl (lv_at hl 0 rfl) ?_
                                  refine lv_iload_n hx hb d_M_kindOf_327 rfl (lv_at hl 1 rfl) ?_
                                  refine lv_ldc2 hx hb hown (hta _ cl_M_261) d_M_kindOf_328 ?_
                                  refine lv_iconst (v := 3) hx hb d_M_kindOf_331 (by decide) ?_
                                  refine ro_V (b0 := (mA md 0)) (As := [.int v1, .long 6909287, .int 3]) (rest := []) ⟨hx, hb, hml, hown, hta⟩ (c_M_isNamed l md σ v1 6909287 3  _ hE) ok_M_230 ⟨Nat.le_of_ble_eq_true rfl, Nat.le_of_ble_eq_true rfl⟩ blind_rM (va_recv hK hP (ci := 7) (q0 := 0) rfl rfl) (rM_of hP hK) rfl hl.1 rfl (Nat.le_of_ble_eq_true rfl) d_M_kindOf_332 ⟨Nat.zero_le _, Nat.zero_le _⟩ (fun r332 hE => ?_)
                                  refine lv_if_eq (tgt := 341) hx hb d_M_kindOf_335 (by decide) (fun cc335 => ?_) (fun cc335 => ?_)
                                  · have hE := hE.1 cc335
                                    refine lv_iconst (v := 0) hx hb d_M_kindOf_341 (by decide) ?_
                                    exact W.iret (v := 0) hx hb hr (fun t ht hW => ⟨_, rfl, hE, ht⟩) (fun q h => by cases h) d_M_kindOf_342
                                  · have hE := hE.2 cc335
                                    refine lv_bipush (v := 23) hx hb d_M_kindOf_338 (by decide) ?_
                                    exact W.iret (v := 23) hx hb hr (fun t ht hW => ⟨_, rfl, hE, ht⟩) (fun q h => by cases h) d_M_kindOf_340
                                · have hE := hE.2 cc320
                                  refine lv_bipush (v := 22) hx hb d_M_kindOf_323 (by decide) ?_
                                  exact W.iret (v := 22) hx hb hr (fun t ht hW => ⟨_, rfl, hE, ht⟩) (fun q h => by cases h) d_M_kindOf_325
                              · have hE := hE.2 cc305
                                refine lv_bipush (v := 21) hx hb d_M_kindOf_308 (by decide) ?_
                                exact W.iret (v := 21) hx hb hr (fun t ht hW => ⟨_, rfl, hE, ht⟩) (fun q h => by cases h) d_M_kindOf_310
                            · have hE := hE.2 cc290
                              refine lv_bipush (v := 20) hx hb d_M_kindOf_293 (by decide) ?_
                              exact W.iret (v := 20) hx hb hr (fun t ht hW => ⟨_, rfl, hE, ht⟩) (fun q h => by cases h) d_M_kindOf_295
                          · have hE := hE.2 cc275
                            refine lv_bipush (v := 19) hx hb d_M_kindOf_278 (by decide) ?_
                            exact W.iret (v := 19) hx hb hr (fun t ht hW => ⟨_, rfl, hE, ht⟩) (fun q h => by cases h) d_M_kindOf_280
                        · have hE := hE.2 cc260
                          refine lv_bipush (v := 18) hx hb d_M_kindOf_263 (by decide) ?_
                          exact W.iret (v := 18) hx hb hr (fun t ht hW => ⟨_, rfl, hE, ht⟩) (fun q h => by cases h) d_M_kindOf_265
                      · have hE := hE.2 cc245
                        refine lv_bipush (v := 17) hx hb d_M_kindOf_248 (by decide) ?_
                        exact W.iret (v := 17) hx hb hr (fun t ht hW => ⟨_, rfl, hE, ht⟩) (fun q h => by cases h) d_M_kindOf_250
                    · have hE := hE.2 cc229
                      refine lv_bipush (v := 16) hx hb d_M_kindOf_232 (by decide) ?_
                      exact W.iret (v := 16) hx hb hr (fun t ht hW => ⟨_, rfl, hE, ht⟩) (fun q h => by cases h) d_M_kindOf_234
                  · have hE := hE.2 cc214
                    refine lv_bipush (v := 9) hx hb d_M_kindOf_217 (by decide) ?_
                    exact W.iret (v := 9) hx hb hr (fun t ht hW => ⟨_, rfl, hE, ht⟩) (fun q h => by cases h) d_M_kindOf_219
                · have hE := hE.2 cc199
                  refine lv_bipush (v := 8) hx hb d_M_kindOf_202 (by decide) ?_
                  exact W.iret (v := 8) hx hb hr (fun t ht hW => ⟨_, rfl, hE, ht⟩) (fun q h => by cases h) d_M_kindOf_204
              · have hE := hE.2 cc184
                refine lv_bipush (v := 7) hx hb d_M_kindOf_187 (by decide) ?_
                exact W.iret (v := 7) hx hb hr (fun t ht hW => ⟨_, rfl, hE, ht⟩) (fun q h => by cases h) d_M_kindOf_189
            · have hE := hE.2 cc169
              refine lv_bipush (v := 6) hx hb d_M_kindOf_172 (by decide) ?_
              exact W.iret (v := 6) hx hb hr (fun t ht hW => ⟨_, rfl, hE, ht⟩) (fun q h => by cases h) d_M_kindOf_174
          · have hE := hE.2 cc155
            refine lv_iconst (v := 4) hx hb d_M_kindOf_158 (by decide) ?_
            exact W.iret (v := 4) hx hb hr (fun t ht hW => ⟨_, rfl, hE, ht⟩) (fun q h => by cases h) d_M_kindOf_159
        · have hE := hE.2 cc141
          refine lv_iconst (v := 3) hx hb d_M_kindOf_144 (by decide) ?_
          exact W.iret (v := 3) hx hb hr (fun t ht hW => ⟨_, rfl, hE, ht⟩) (fun q h => by cases h) d_M_kindOf_145
      · have hE := hE.2 cc127
        refine lv_iconst (v := 2) hx hb d_M_kindOf_130 (by decide) ?_
        exact W.iret (v := 2) hx hb hr (fun t ht hW => ⟨_, rfl, hE, ht⟩) (fun q h => by cases h) d_M_kindOf_131
    · have hE := hE.2 cc113
      refine lv_iconst (v := 1) hx hb d_M_kindOf_116 (by decide) ?_
      exact W.iret (v := 1) hx hb hr (fun t ht hW => ⟨_, rfl, hE, ht⟩) (fun q h => by cases h) d_M_kindOf_117
  have J68 : ∀ (v1 : Int32) (v2 : Int32) (v3 : Int32) (ls : Array Slot) (hl : lv_has ls 4 [(0, .ref (mA md 0)), (1, .int v1), (2, .int v2), (3, .int v3)]) (hE : w_M_kindOf_J68 σ post v1 v2 v3), W p l e (headSpec ws_M_kindOf { frames := 5, cells := 0, slots := 0, locals := 108 }).room s m ([.ref (mA md 0), .int x0] : List Value).toArray below meth c s.heap [] 0 0 (MQ below (vp_Si post) ([.ref (mA md 0), .int x0] : List Value).toArray s 0 0 (fun _ => False)) (F0 m 68 ls []) := by
    intro  v1 v2 v3 ls hl hE
    unfold w_M_kindOf_J68 at hE
    refine lv_iload_n hx hb d_M_kindOf_68 rfl (lv_at hl 2 rfl) ?_
    refine lv_bipush (v := 10) hx hb d_M_kindOf_69 (by decide) ?_
    refine lv_icmp_ne (tgt := 104) hx hb d_M_kindOf_71 (by decide) (fun cc71 => ?_) (fun cc71 => ?_)
    · have hE := hE.2 cc71
      exact J104  v1 _ (lv_sub hl [0, 1] rfl) hE
    · have hE := hE.1 cc71
      refine lv_aload_n hx hb d_M_kindOf_74 rfl (lv_at hl 0 rfl) ?_
      refine lv_iload_n hx hb d_M_kindOf_75 rfl (lv_at hl 3 rfl) ?_
      refine lv_ldc2 hx hb hown (hta _ cl_M_224) d_M_kindOf_76 ?_
      refine lv_bipush (v := 8) hx hb d_M_kindOf_79 (by decide) ?_
      refine ro_V (b0 := (mA md 0)) (As := [.int v3, .long 7092165985996731759, .int 8]) (rest := []) ⟨hx, hb, hml, hown, hta⟩ (c_M_says l md σ v3 7092165985996731759 8  _ hE) ok_M_124 ⟨Nat.le_of_ble_eq_true rfl, Nat.le_of_ble_eq_true rfl⟩ blind_rM (va_recv hK hP (ci := 7) (q0 := 0) rfl rfl) (rM_of hP hK) rfl hl.1 rfl (Nat.le_of_ble_eq_true rfl) d_M_kindOf_81 ⟨Nat.zero_le _, Nat.zero_le _⟩ (fun r81 hE => ?_)
      refine lv_if_eq (tgt := 104) hx hb d_M_kindOf_84 (by decide) (fun cc84 => ?_) (fun cc84 => ?_)
      · have hE := hE.1 cc84
        exact J104  v1 _ (lv_sub hl [0, 1] rfl) hE
      · have hE := hE.2 cc84
        refine lv_aload_n hx hb d_M_kindOf_87 rfl (lv_at hl 0 rfl) ?_
        refine lv_iload_n hx hb d_M_kindOf_88 rfl (lv_at hl 3 rfl) ?_
        refine lv_bipush (v := 8) hx hb d_M_kindOf_89 (by decide) ?_
        refine lv_iadd hx hb d_M_kindOf_91 ?_
        refine lv_ldc2 hx hb hown (hta _ cl_M_226) d_M_kindOf_92 ?_
        refine lv_iconst (v := 2) hx hb d_M_kindOf_95 (by decide) ?_
        refine ro_V (b0 := (mA md 0)) (As := [.int (v3 + 8), .long 29797, .int 2]) (rest := []) ⟨hx, hb, hml, hown, hta⟩ (c_M_says l md σ (v3 + 8) 29797 2  _ hE) ok_M_124 ⟨Nat.le_of_ble_eq_true rfl, Nat.le_of_ble_eq_true rfl⟩ blind_rM (va_recv hK hP (ci := 7) (q0 := 0) rfl rfl) (rM_of hP hK) rfl hl.1 rfl (Nat.le_of_ble_eq_true rfl) d_M_kindOf_96 ⟨Nat.zero_le _, Nat.zero_le _⟩ (fun r96 hE => ?_)
        refine lv_if_eq (tgt := 104) hx hb d_M_kindOf_99 (by decide) (fun cc99 => ?_) (fun cc99 => ?_)
        · have hE := hE.1 cc99
          exact J104  v1 _ (lv_sub hl [0, 1] rfl) hE
        · have hE := hE.2 cc99
          refine lv_iconst (v := 5) hx hb d_M_kindOf_102 (by decide) ?_
          exact W.iret (v := 5) hx hb hr (fun t ht hW => ⟨_, rfl, hE, ht⟩) (fun q h => by cases h) d_M_kindOf_103
  unfold w_M_kindOf at hE
  refine lv_aload_n hx hb d_M_kindOf_0 rfl (lv_at hl 0 rfl) ?_
  refine lv_iload_n hx hb d_M_kindOf_1 rfl (lv_at hl 1 rfl) ?_
  refine ro_V (b0 := (mA md 0)) (As := [.int x0]) (rest := []) ⟨hx, hb, hml, hown, hta⟩ (c_M_nameSize l md σ x0  _ hE) ok_M_221 ⟨Nat.le_of_ble_eq_true rfl, Nat.le_of_ble_eq_true rfl⟩ blind_rM (va_recv hK hP (ci := 7) (q0 := 0) rfl rfl) (rM_of hP hK) rfl hl.1 rfl (Nat.le_of_ble_eq_true rfl) d_M_kindOf_2 ⟨Nat.zero_le _, Nat.zero_le _⟩ (fun r2 hE => ?_)
  refine lv_istore_n (lv' := [(2, .int r2), (0, .ref (mA md 0)), (1, .int x0)]) hx hb d_M_kindOf_5 rfl hl (by decide) rfl (fun ls hl => ?_)
  refine lv_aload_n hx hb d_M_kindOf_6 rfl (lv_at hl 1 rfl) ?_
  refine va_get (D := (mG md)) (ci := 7) (v := .ref (mA md 9)) (C := R_M) (T := F_M) (N := 37) hx hb hta i_M hown hK hP 0 rfl rfl 24 (by decide) (hta _ fl_M_40) (fun _ h9 => h9) rfl d_M_kindOf_7 ?_
  refine lv_iload_n hx hb d_M_kindOf_10 rfl (lv_at hl 2 rfl) ?_
  obtain ⟨hI11, hE⟩ := hE
  refine va_iald (D := (mG md)) (f := mp_begins σ) hx hb hK hP 9 0 rfl rfl hI11 d_M_kindOf_11 ?_
  refine lv_iconst (v := 1) hx hb d_M_kindOf_12 (by decide) ?_
  refine lv_iadd hx hb d_M_kindOf_13 ?_
  refine lv_istore_n (lv' := [(3, .int (((mp_begins σ) x0.toNatClampNeg) + 1)), (2, .int r2), (0, .ref (mA md 0)), (1, .int x0)]) hx hb d_M_kindOf_14 rfl hl (by decide) rfl (fun ls hl => ?_)
  refine lv_iload_n hx hb d_M_kindOf_15 rfl (lv_at hl 1 rfl) ?_
  refine lv_iconst (v := 2) hx hb d_M_kindOf_16 (by decide) ?_
  refine lv_icmp_ne (tgt := 68) hx hb d_M_kindOf_17 (by decide) (fun cc17 => ?_) (fun cc17 => ?_)
  · have hE := hE.2 cc17
    exact J68  x0 r2 (((mp_begins σ) x0.toNatClampNeg) + 1) _ (lv_sub hl [2, 3, 1, 0] rfl) hE
  · have hE := hE.1 cc17
    refine lv_aload_n hx hb d_M_kindOf_20 rfl (lv_at hl 2 rfl) ?_
    refine lv_iload_n hx hb d_M_kindOf_21 rfl (lv_at hl 0 rfl) ?_
    obtain ⟨hc22_0, hE⟩ := hE
    refine ro_V (b0 := (mA md 0)) (As := [.int (((mp_begins σ) x0.toNatClampNeg) + 1)]) (rest := []) ⟨hx, hb, hml, hown, hta⟩ (f_M_x l md σ (((mp_begins σ) x0.toNatClampNeg) + 1) hc22_0) ok_M_95 ⟨Nat.le_of_ble_eq_true rfl, Nat.le_of_ble_eq_true rfl⟩ blind_rM (va_recv hK hP (ci := 7) (q0 := 0) rfl rfl) (rM_of hP hK) rfl hl.1 rfl (Nat.le_of_ble_eq_true rfl) d_M_kindOf_22 ⟨Nat.zero_le _, Nat.zero_le _⟩ (fun r22 hrr => ?_)
    subst hrr
    refine lv_bipush (v := 104) hx hb d_M_kindOf_25 (by decide) ?_
    refine lv_icmp_ne (tgt := 68) hx hb d_M_kindOf_27 (by decide) (fun cc27 => ?_) (fun cc27 => ?_)
    · have hE := hE.2 cc27
      exact J68  x0 r2 (((mp_begins σ) x0.toNatClampNeg) + 1) _ (lv_sub hl [2, 3, 1, 0] rfl) hE
    · have hE := hE.1 cc27
      refine lv_aload_n hx hb d_M_kindOf_30 rfl (lv_at hl 2 rfl) ?_
      refine lv_iload_n hx hb d_M_kindOf_31 rfl (lv_at hl 0 rfl) ?_
      refine lv_iconst (v := 1) hx hb d_M_kindOf_32 (by decide) ?_
      refine lv_iadd hx hb d_M_kindOf_33 ?_
      obtain ⟨hc34_0, hE⟩ := hE
      refine ro_V (b0 := (mA md 0)) (As := [.int ((((mp_begins σ) x0.toNatClampNeg) + 1) + 1)]) (rest := []) ⟨hx, hb, hml, hown, hta⟩ (f_M_x l md σ ((((mp_begins σ) x0.toNatClampNeg) + 1) + 1) hc34_0) ok_M_95 ⟨Nat.le_of_ble_eq_true rfl, Nat.le_of_ble_eq_true rfl⟩ blind_rM (va_recv hK hP (ci := 7) (q0 := 0) rfl rfl) (rM_of hP hK) rfl hl.1 rfl (Nat.le_of_ble_eq_true rfl) d_M_kindOf_34 ⟨Nat.zero_le _, Nat.zero_le _⟩ (fun r34 hrr => ?_)
      subst hrr
      refine lv_bipush (v := 49) hx hb d_M_kindOf_37 (by decide) ?_
      refine lv_icmp_lt (tgt := 68) hx hb d_M_kindOf_39 (by decide) (fun cc39 => ?_) (fun cc39 => ?_)
      · have hE := hE.1 cc39
        exact J68  x0 r2 (((mp_begins σ) x0.toNatClampNeg) + 1) _ (lv_sub hl [2, 3, 1, 0] rfl) hE
      · have hE := hE.2 cc39
        refine lv_aload_n hx hb d_M_kindOf_42 rfl (lv_at hl 2 rfl) ?_
        refine lv_iload_n hx hb d_M_kindOf_43 rfl (lv_at hl 0 rfl) ?_
        refine lv_iconst (v := 1) hx hb d_M_kindOf_44 (by decide) ?_
        refine lv_iadd hx hb d_M_kindOf_45 ?_
        obtain ⟨hc46_0, hE⟩ := hE
        refine ro_V (b0 := (mA md 0)) (As := [.int ((((mp_begins σ) x0.toNatClampNeg) + 1) + 1)]) (rest := []) ⟨hx, hb, hml, hown, hta⟩ (f_M_x l md σ ((((mp_begins σ) x0.toNatClampNeg) + 1) + 1) hc46_0) ok_M_95 ⟨Nat.le_of_ble_eq_true rfl, Nat.le_of_ble_eq_true rfl⟩ blind_rM (va_recv hK hP (ci := 7) (q0 := 0) rfl rfl) (rM_of hP hK) rfl hl.1 rfl (Nat.le_of_ble_eq_true rfl) d_M_kindOf_46 ⟨Nat.zero_le _, Nat.zero_le _⟩ (fun r46 hrr => ?_)
        subst hrr
        refine lv_bipush (v := 54) hx hb d_M_kindOf_49 (by decide) ?_
        refine lv_icmp_gt (tgt := 68) hx hb d_M_kindOf_51 (by decide) (fun cc51 => ?_) (fun cc51 => ?_)
        · have hE := hE.1 cc51
          exact J68  x0 r2 (((mp_begins σ) x0.toNatClampNeg) + 1) _ (lv_sub hl [2, 3, 1, 0] rfl) hE
        · have hE := hE.2 cc51
          refine lv_bipush (v := 10) hx hb d_M_kindOf_54 (by decide) ?_
          refine lv_aload_n hx hb d_M_kindOf_56 rfl (lv_at hl 2 rfl) ?_
          refine lv_iload_n hx hb d_M_kindOf_57 rfl (lv_at hl 0 rfl) ?_
          refine lv_iconst (v := 1) hx hb d_M_kindOf_58 (by decide) ?_
          refine lv_iadd hx hb d_M_kindOf_59 ?_
          obtain ⟨hc60_0, hE⟩ := hE
          refine ro_V (b0 := (mA md 0)) (As := [.int ((((mp_begins σ) x0.toNatClampNeg) + 1) + 1)]) (rest := [.int 10]) ⟨hx, hb, hml, hown, hta⟩ (f_M_x l md σ ((((mp_begins σ) x0.toNatClampNeg) + 1) + 1) hc60_0) ok_M_95 ⟨Nat.le_of_ble_eq_true rfl, Nat.le_of_ble_eq_true rfl⟩ blind_rM (va_recv hK hP (ci := 7) (q0 := 0) rfl rfl) (rM_of hP hK) rfl hl.1 rfl (Nat.le_of_ble_eq_true rfl) d_M_kindOf_60 ⟨Nat.zero_le _, Nat.zero_le _⟩ (fun r60 hrr => ?_)
          subst hrr
          refine lv_iadd hx hb d_M_kindOf_63 ?_
          refine lv_bipush (v := 49) hx hb d_M_kindOf_64 (by decide) ?_
          refine lv_isub hx hb d_M_kindOf_66 ?_
          exact W.iret (v := (10 + (mX σ ((((mp_begins σ) x0.toNatClampNeg) + 1) + 1))) - 49) hx hb hr (fun t ht hW => ⟨_, rfl, hE, ht⟩) (fun q h => by cases h) d_M_kindOf_67
theorem fl_M_46 : Cond.fieldLink "PlainPagesModel" 46 "PlainPagesModel" "up" "[I" ∈ aW := aW_in 930 (by decide +kernel) rfl
theorem ok_M_302 : okV "PlainPagesModel" 302 R_M y_M_kindOf b_M_kindOf 4 (some .int) 1 := ⟨aW_in 1147 (by decide +kernel) rfl, aW_in 1149 (by decide +kernel) rfl, aW_in 59 (by decide +kernel) rfl, aW_in 92 (by decide +kernel) rfl, cd_M_kindOf, rfl, by decide +kernel, by decide +kernel, by decide +kernel⟩
theorem d_M_isInAnchor_0 : decode b_M_isInAnchor 0 = .ok (.aload_n 0, 1) := by decide +kernel
theorem d_M_isInAnchor_1 : decode b_M_isInAnchor 1 = .ok (.getfield 46, 3) := by decide +kernel
theorem d_M_isInAnchor_4 : decode b_M_isInAnchor 4 = .ok (.iload_n 1, 1) := by decide +kernel
theorem d_M_isInAnchor_5 : decode b_M_isInAnchor 5 = .ok (.iaload, 1) := by decide +kernel
theorem d_M_isInAnchor_6 : decode b_M_isInAnchor 6 = .ok (.istore_n 2, 1) := by decide +kernel
theorem d_M_isInAnchor_7 : decode b_M_isInAnchor 7 = .ok (.iload_n 2, 1) := by decide +kernel
theorem d_M_isInAnchor_8 : decode b_M_isInAnchor 8 = .ok (.ifCond .lt 23, 3) := by decide +kernel
theorem d_M_isInAnchor_11 : decode b_M_isInAnchor 11 = .ok (.aload_n 0, 1) := by decide +kernel
theorem d_M_isInAnchor_12 : decode b_M_isInAnchor 12 = .ok (.iload_n 2, 1) := by decide +kernel
theorem d_M_isInAnchor_13 : decode b_M_isInAnchor 13 = .ok (.invokevirtual 302, 3) := by decide +kernel
theorem d_M_isInAnchor_16 : decode b_M_isInAnchor 16 = .ok (.bipush 18, 2) := by decide +kernel
theorem d_M_isInAnchor_18 : decode b_M_isInAnchor 18 = .ok (.if_icmp .eq 13, 3) := by decide +kernel
theorem d_M_isInAnchor_21 : decode b_M_isInAnchor 21 = .ok (.aload_n 0, 1) := by decide +kernel
theorem d_M_isInAnchor_22 : decode b_M_isInAnchor 22 = .ok (.getfield 46, 3) := by decide +kernel
theorem d_M_isInAnchor_25 : decode b_M_isInAnchor 25 = .ok (.iload_n 2, 1) := by decide +kernel
theorem d_M_isInAnchor_26 : decode b_M_isInAnchor 26 = .ok (.iaload, 1) := by decide +kernel
theorem d_M_isInAnchor_27 : decode b_M_isInAnchor 27 = .ok (.istore_n 2, 1) := by decide +kernel
theorem d_M_isInAnchor_28 : decode b_M_isInAnchor 28 = .ok (.goto (-21), 3) := by decide +kernel
theorem d_M_isInAnchor_31 : decode b_M_isInAnchor 31 = .ok (.iload_n 2, 1) := by decide +kernel
theorem d_M_isInAnchor_32 : decode b_M_isInAnchor 32 = .ok (.ifCond .lt 7, 3) := by decide +kernel
theorem d_M_isInAnchor_35 : decode b_M_isInAnchor 35 = .ok (.iconst 1, 1) := by decide +kernel
theorem d_M_isInAnchor_36 : decode b_M_isInAnchor 36 = .ok (.goto 4, 3) := by decide +kernel
theorem d_M_isInAnchor_39 : decode b_M_isInAnchor 39 = .ok (.iconst 0, 1) := by decide +kernel
theorem d_M_isInAnchor_40 : decode b_M_isInAnchor 40 = .ok (.ireturn, 1) := by decide +kernel
def w_M_isInAnchor_J31  (σ : MPS) (post : Int32 → Prop) (v2 : Int32) : Prop := ((v2 < 0 → post 0) ∧ (¬ v2 < 0 → post 1))
def w_M_isInAnchor_L7  (σ : MPS) (post : Int32 → Prop) : Nat → Int32 → Prop
  | 0, _ => False
  | n7 + 1, v2 => ((v2 < 0 → w_M_isInAnchor_J31 σ post v2) ∧ (¬ v2 < 0 → w_M_kindOf σ v2 (fun r13 => ((r13 = 18 → w_M_isInAnchor_J31 σ post v2) ∧ (¬ r13 = 18 → (vp_in v2 1000 ∧ w_M_isInAnchor_L7 σ post n7 ((mp_up σ) v2.toNatClampNeg)))))))
def w_M_isInAnchor  (σ : MPS) (x0 : Int32) (post : Int32 → Prop) : Prop := (vp_in x0 1000 ∧ (∃ n7, w_M_isInAnchor_L7 σ post n7 ((mp_up σ) x0.toNatClampNeg)))
set_option maxHeartbeats 4000000 in
set_option maxRecDepth 100000 in
theorem c_M_isInAnchor (l : Launch) (md : MD) (σ : MPS) (x0 : Int32)  (post : Int32 → Prop) (hE : w_M_isInAnchor σ x0 post) : Met l y_M_isInAnchor ws_M_isInAnchor { frames := 6, cells := 0, slots := 0, locals := 131 } (va_Pc [.ref (mA md 0), .int x0] (rM md σ)) (vp_Si post) 0 0 (fun _ => False) := by
  refine Met.ofW (cc := b_M_isInAnchor) (maxL := 3) (ret := (some .boolean)) (by decide) rfl ?_
  intro p e s m args below meth c s₁ B hml hv
  obtain ⟨rfl, hP, hK⟩ := hv
  have hS : va_S (fun _ : Nat => False) s.heap s.heap [] := va_S.rf
  have hx := B.exec
  have hb := B.bytes
  have hr := B.returns
  have hta : ∀ w ∈ aW, w.before _ s = true := fun w h => atoms_spec (ws := ws_M_isInAnchor) B.pre w (List.mem_cons_of_mem _ h)
  have hown : s.vm.findClass R_M = some m.cls := findClass_of_methodNamed B.named
  have hlocks := B.notSynchronized
  have hl := lv_entry ([.ref (mA md 0), .int x0]) (n := 3) (Nat.le_of_ble_eq_true rfl)
  rw [lg_entry_eq]
  generalize (lg_sl ([.ref (mA md 0), .int x0]) ++ List.replicate (3 - (lg_sl ([.ref (mA md 0), .int x0])).length) Slot.unset).toArray = ls at hl ⊢
  have hl : lv_has ls 3 [(0, .ref (mA md 0)), (1, .int x0)] := hl
  have J31 : ∀ (v2 : Int32) (ls : Array Slot) (hl : lv_has ls 3 [(2, .int v2)]) (hE : w_M_isInAnchor_J31 σ post v2), W p l e (headSpec ws_M_isInAnchor { frames := 6, cells := 0, slots := 0, locals := 131 }).room s m ([.ref (mA md 0), .int x0] : List Value).toArray below meth c s.heap [] 0 0 (MQ below (vp_Si post) ([.ref (mA md 0), .int x0] : List Value).toArray s 0 0 (fun _ => False)) (F0 m 31 ls []) := by
    intro  v2 ls hl hE
    unfold w_M_isInAnchor_J31 at hE
    refine lv_iload_n hx hb d_M_isInAnchor_31 rfl (lv_at hl 0 rfl) ?_
    refine lv_if_lt (tgt := 39) hx hb d_M_isInAnchor_32 (by decide) (fun cc32 => ?_) (fun cc32 => ?_)
    · have hE := hE.1 cc32
      refine lv_iconst (v := 0) hx hb d_M_isInAnchor_39 (by decide) ?_
      exact W.zret (v := 0) hx hb hr rfl (fun t ht hW => ⟨_, rfl, hE, ht⟩) (fun q h => by cases h) d_M_isInAnchor_40
    · have hE := hE.2 cc32
      refine lv_iconst (v := 1) hx hb d_M_isInAnchor_35 (by decide) ?_
      refine lv_goto (tgt := 40) hx hb d_M_isInAnchor_36 (by decide) ?_
      exact W.zret (v := 1) hx hb hr rfl (fun t ht hW => ⟨_, rfl, hE, ht⟩) (fun q h => by cases h) d_M_isInAnchor_40
  have L7 : ∀ (n7 : Nat) (v2 : Int32) (ls : Array Slot) (hl : lv_has ls 3 [(0, .ref (mA md 0)), (2, .int v2)]) (hE : w_M_isInAnchor_L7 σ post n7 v2), W p l e (headSpec ws_M_isInAnchor { frames := 6, cells := 0, slots := 0, locals := 131 }).room s m ([.ref (mA md 0), .int x0] : List Value).toArray below meth c s.heap [] 0 0 (MQ below (vp_Si post) ([.ref (mA md 0), .int x0] : List Value).toArray s 0 0 (fun _ => False)) (F0 m 7 ls []) := by
    intro n7
    induction n7 with
    | zero => intro v2 ls hl hE; exact hE.elim
    | succ n7 ih7 =>
      intro v2 ls hl hE
      unfold w_M_isInAnchor_L7 at hE
      refine lv_iload_n hx hb d_M_isInAnchor_7 rfl (lv_at hl 1 rfl) ?_
      refine lv_if_lt (tgt := 31) hx hb d_M_isInAnchor_8 (by decide) (fun cc8 => ?_) (fun cc8 => ?_)
      · have hE := hE.1 cc8
        exact J31  v2 _ (lv_sub hl [1] rfl) hE
      · have hE := hE.2 cc8
        refine lv_aload_n hx hb d_M_isInAnchor_11 rfl (lv_at hl 0 rfl) ?_
        refine lv_iload_n hx hb d_M_isInAnchor_12 rfl (lv_at hl 1 rfl) ?_
        refine ro_V (b0 := (mA md 0)) (As := [.int v2]) (rest := []) ⟨hx, hb, hml, hown, hta⟩ (c_M_kindOf l md σ v2  _ hE) ok_M_302 ⟨Nat.le_of_ble_eq_true rfl, Nat.le_of_ble_eq_true rfl⟩ blind_rM (va_recv hK hP (ci := 7) (q0 := 0) rfl rfl) (rM_of hP hK) rfl hl.1 rfl (Nat.le_of_ble_eq_true rfl) d_M_isInAnchor_13 ⟨Nat.zero_le _, Nat.zero_le _⟩ (fun r13 hE => ?_)
        refine lv_bipush (v := 18) hx hb d_M_isInAnchor_16 (by decide) ?_
        refine lv_icmp_eq (tgt := 31) hx hb d_M_isInAnchor_18 (by decide) (fun cc18 => ?_) (fun cc18 => ?_)
        · have hE := hE.1 cc18
          exact J31  v2 _ (lv_sub hl [1] rfl) hE
        · have hE := hE.2 cc18
          refine lv_aload_n hx hb d_M_isInAnchor_21 rfl (lv_at hl 0 rfl) ?_
          refine va_get (D := (mG md)) (ci := 7) (v := .ref (mA md 11)) (C := R_M) (T := F_M) (N := 37) hx hb hta i_M hown hK hP 0 rfl rfl 26 (by decide) (hta _ fl_M_46) (fun _ h9 => h9) rfl d_M_isInAnchor_22 ?_
          refine lv_iload_n hx hb d_M_isInAnchor_25 rfl (lv_at hl 1 rfl) ?_
          obtain ⟨hI26, hE⟩ := hE
          refine va_iald (D := (mG md)) (f := mp_up σ) hx hb hK hP 11 0 rfl rfl hI26 d_M_isInAnchor_26 ?_
          refine lv_istore_n (lv' := [(2, .int ((mp_up σ) v2.toNatClampNeg)), (0, .ref (mA md 0))]) hx hb d_M_isInAnchor_27 rfl hl (by decide) rfl (fun ls hl => ?_)
          refine lv_goto (tgt := 7) hx hb d_M_isInAnchor_28 (by decide) ?_
          exact ih7 ((mp_up σ) v2.toNatClampNeg) _ (lv_sub hl [1, 0] rfl) hE
  unfold w_M_isInAnchor at hE
  refine lv_aload_n hx hb d_M_isInAnchor_0 rfl (lv_at hl 0 rfl) ?_
  refine va_get (D := (mG md)) (ci := 7) (v := .ref (mA md 11)) (C := R_M) (T := F_M) (N := 37) hx hb hta i_M hown hK hP 0 rfl rfl 26 (by decide) (hta _ fl_M_46) (fun _ h9 => h9) rfl d_M_isInAnchor_1 ?_
  refine lv_iload_n hx hb d_M_isInAnchor_4 rfl (lv_at hl 1 rfl) ?_
  obtain ⟨hI5, hE⟩ := hE
  refine va_iald (D := (mG md)) (f := mp_up σ) hx hb hK hP 11 0 rfl rfl hI5 d_M_isInAnchor_5 ?_
  refine lv_istore_n (lv' := [(2, .int ((mp_up σ) x0.toNatClampNeg)), (0, .ref (mA md 0)), (1, .int x0)]) hx hb d_M_isInAnchor_6 rfl hl (by decide) rfl (fun ls hl => ?_)
  obtain ⟨n7, hE⟩ := hE
  exact L7  n7 ((mp_up σ) x0.toNatClampNeg) _ (lv_sub hl [1, 0] rfl) hE
