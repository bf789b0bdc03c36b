-- printed by wip/gen: the law's loop
theorem ok_L_37 : okV "PlainPagesLaw" 37 R_X y_X_feed b_X_feed 6 none 5 := ⟨aW_in 248 (by decide +kernel) rfl, aW_in 249 (by decide +kernel) rfl, aW_in 250 (by decide +kernel) rfl, aW_in 84 (by decide +kernel) rfl, cd_X_feed, rfl, by decide +kernel, by decide +kernel, by decide +kernel⟩
theorem ok_L_41 : okV "PlainPagesLaw" 41 R_M y_M_feed b_M_feed 8 none 5 := ⟨aW_in 1021 (by decide +kernel) rfl, aW_in 1022 (by decide +kernel) rfl, aW_in 1023 (by decide +kernel) rfl, aW_in 92 (by decide +kernel) rfl, cd_M_feed, rfl, by decide +kernel, by decide +kernel, by decide +kernel⟩
theorem ok_L_42 : okV "PlainPagesLaw" 42 R_X y_X_end b_X_end 3 (some .int) 1 := ⟨aW_in 256 (by decide +kernel) rfl, aW_in 257 (by decide +kernel) rfl, aW_in 258 (by decide +kernel) rfl, aW_in 84 (by decide +kernel) rfl, cd_X_end, rfl, by decide +kernel, by decide +kernel, by decide +kernel⟩
theorem ok_L_45 : okV "PlainPagesLaw" 45 R_M y_M_end b_M_end 3 (some .int) 1 := ⟨aW_in 1025 (by decide +kernel) rfl, aW_in 1026 (by decide +kernel) rfl, aW_in 1027 (by decide +kernel) rfl, aW_in 92 (by decide +kernel) rfl, cd_M_end, rfl, by decide +kernel, by decide +kernel, by decide +kernel⟩
theorem ok_L_46 : okV "PlainPagesLaw" 46 R_X y_X_wipe b_X_wipe 1 none 0 := ⟨aW_in 268 (by decide +kernel) rfl, aW_in 269 (by decide +kernel) rfl, aW_in 270 (by decide +kernel) rfl, aW_in 84 (by decide +kernel) rfl, cd_X_wipe, rfl, by decide +kernel, by decide +kernel, by decide +kernel⟩
theorem ok_L_49 : okV "PlainPagesLaw" 49 R_M y_M_wipe b_M_wipe 1 none 0 := ⟨aW_in 1029 (by decide +kernel) rfl, aW_in 1030 (by decide +kernel) rfl, aW_in 1031 (by decide +kernel) rfl, aW_in 92 (by decide +kernel) rfl, cd_M_wipe, rfl, by decide +kernel, by decide +kernel, by decide +kernel⟩
theorem ok_L_55 : okV "PlainPagesLaw" 55 R_M y_M_read b_M_read 2 (some .int) 0 := ⟨aW_in 1033 (by decide +kernel) rfl, aW_in 1034 (by decide +kernel) rfl, aW_in 1035 (by decide +kernel) rfl, aW_in 92 (by decide +kernel) rfl, cd_M_read, rfl, by decide +kernel, by decide +kernel, by decide +kernel⟩
theorem ok_L_56 : okV "PlainPagesLaw" 56 R_M y_M_thrown b_M_thrown 1 (some .int) 0 := ⟨aW_in 1017 (by decide +kernel) rfl, aW_in 1018 (by decide +kernel) rfl, aW_in 1019 (by decide +kernel) rfl, aW_in 92 (by decide +kernel) rfl, cd_M_thrown, rfl, by decide +kernel, by decide +kernel, by decide +kernel⟩
theorem ok_L_61 : okV "PlainPagesLaw" 61 R_M y_M_isPage b_M_isPage 4 (some .boolean) 0 := ⟨aW_in 1143 (by decide +kernel) rfl, aW_in 1144 (by decide +kernel) rfl, aW_in 1145 (by decide +kernel) rfl, aW_in 92 (by decide +kernel) rfl, cd_M_isPage, rfl, by decide +kernel, by decide +kernel, by decide +kernel⟩
theorem ok_L_64 : okV "PlainPagesLaw" 64 R_M y_M_isLinked b_M_isLinked 2 (some .boolean) 0 := ⟨aW_in 1231 (by decide +kernel) rfl, aW_in 1232 (by decide +kernel) rfl, aW_in 1233 (by decide +kernel) rfl, aW_in 92 (by decide +kernel) rfl, cd_M_isLinked, rfl, by decide +kernel, by decide +kernel, by decide +kernel⟩
theorem ok_L_65 : okV "PlainPagesLaw" 65 R_X y_X_fault b_X_fault 2 (some .int) 1 := ⟨aW_in 276 (by decide +kernel) rfl, aW_in 277 (by decide +kernel) rfl, aW_in 278 (by decide +kernel) rfl, aW_in 84 (by decide +kernel) rfl, cd_X_fault, rfl, by decide +kernel, by decide +kernel, by decide +kernel⟩
theorem ok_L_68 : okV "PlainPagesLaw" 68 R_M y_M_fault b_M_fault 2 (some .int) 1 := ⟨aW_in 1235 (by decide +kernel) rfl, aW_in 1236 (by decide +kernel) rfl, aW_in 1237 (by decide +kernel) rfl, aW_in 92 (by decide +kernel) rfl, cd_M_fault, rfl, by decide +kernel, by decide +kernel, by decide +kernel⟩
theorem ok_L_69 : okV "PlainPagesLaw" 69 R_X y_X_node b_X_node 3 (some .int) 2 := ⟨aW_in 280 (by decide +kernel) rfl, aW_in 281 (by decide +kernel) rfl, aW_in 282 (by decide +kernel) rfl, aW_in 84 (by decide +kernel) rfl, cd_X_node, rfl, by decide +kernel, by decide +kernel, by decide +kernel⟩
theorem ok_L_73 : okV "PlainPagesLaw" 73 R_M y_M_node b_M_node 3 (some .int) 2 := ⟨aW_in 1239 (by decide +kernel) rfl, aW_in 1240 (by decide +kernel) rfl, aW_in 1241 (by decide +kernel) rfl, aW_in 92 (by decide +kernel) rfl, cd_M_node, rfl, by decide +kernel, by decide +kernel, by decide +kernel⟩
theorem ok_L_74 : okV "PlainPagesLaw" 74 R_X y_X_letter b_X_letter 3 (some .int) 2 := ⟨aW_in 292 (by decide +kernel) rfl, aW_in 293 (by decide +kernel) rfl, aW_in 294 (by decide +kernel) rfl, aW_in 84 (by decide +kernel) rfl, cd_X_letter, rfl, by decide +kernel, by decide +kernel, by decide +kernel⟩
theorem ok_L_77 : okV "PlainPagesLaw" 77 R_M y_M_letter b_M_letter 3 (some .int) 2 := ⟨aW_in 1251 (by decide +kernel) rfl, aW_in 1252 (by decide +kernel) rfl, aW_in 1253 (by decide +kernel) rfl, aW_in 92 (by decide +kernel) rfl, cd_M_letter, rfl, by decide +kernel, by decide +kernel, by decide +kernel⟩
theorem ok_L_78 : okV "PlainPagesLaw" 78 R_X y_X_attribute b_X_attribute 4 (some .int) 3 := ⟨aW_in 304 (by decide +kernel) rfl, aW_in 305 (by decide +kernel) rfl, aW_in 306 (by decide +kernel) rfl, aW_in 84 (by decide +kernel) rfl, cd_X_attribute, rfl, by decide +kernel, by decide +kernel, by decide +kernel⟩
theorem ok_L_82 : okV "PlainPagesLaw" 82 R_M y_M_attribute b_M_attribute 4 (some .int) 3 := ⟨aW_in 1259 (by decide +kernel) rfl, aW_in 1260 (by decide +kernel) rfl, aW_in 1261 (by decide +kernel) rfl, aW_in 92 (by decide +kernel) rfl, cd_M_attribute, rfl, by decide +kernel, by decide +kernel, by decide +kernel⟩
theorem ok_L_83 : okV "PlainPagesLaw" 83 R_X y_X_sign b_X_sign 7 (some .int) 4 := ⟨aW_in 316 (by decide +kernel) rfl, aW_in 317 (by decide +kernel) rfl, aW_in 318 (by decide +kernel) rfl, aW_in 84 (by decide +kernel) rfl, cd_X_sign, rfl, by decide +kernel, by decide +kernel, by decide +kernel⟩
theorem ok_L_87 : okV "PlainPagesLaw" 87 R_M y_M_sign b_M_sign 5 (some .int) 4 := ⟨aW_in 1267 (by decide +kernel) rfl, aW_in 1268 (by decide +kernel) rfl, aW_in 1269 (by decide +kernel) rfl, aW_in 92 (by decide +kernel) rfl, cd_M_sign, rfl, by decide +kernel, by decide +kernel, by decide +kernel⟩
theorem ok_L_88 : okV "PlainPagesLaw" 88 R_X y_X_find b_X_find 3 (some .int) 0 := ⟨aW_in 320 (by decide +kernel) rfl, aW_in 321 (by decide +kernel) rfl, aW_in 322 (by decide +kernel) rfl, aW_in 84 (by decide +kernel) rfl, cd_X_find, rfl, by decide +kernel, by decide +kernel, by decide +kernel⟩
theorem ok_L_91 : okV "PlainPagesLaw" 91 R_M y_M_find b_M_find 3 (some .int) 0 := ⟨aW_in 1271 (by decide +kernel) rfl, aW_in 1272 (by decide +kernel) rfl, aW_in 1273 (by decide +kernel) rfl, aW_in 92 (by decide +kernel) rfl, cd_M_find, rfl, by decide +kernel, by decide +kernel, by decide +kernel⟩
theorem ok_L_95 : okV "PlainPagesLaw" 95 R_M y_M_plain b_M_plain 6 (some .int) 1 := ⟨aW_in 1275 (by decide +kernel) rfl, aW_in 1276 (by decide +kernel) rfl, aW_in 1277 (by decide +kernel) rfl, aW_in 92 (by decide +kernel) rfl, cd_M_plain, rfl, by decide +kernel, by decide +kernel, by decide +kernel⟩
theorem ok_L_98 : okV "PlainPagesLaw" 98 R_M y_M_write b_M_write 5 (some .int) 1 := ⟨aW_in 1299 (by decide +kernel) rfl, aW_in 1300 (by decide +kernel) rfl, aW_in 1301 (by decide +kernel) rfl, aW_in 92 (by decide +kernel) rfl, cd_M_write, rfl, by decide +kernel, by decide +kernel, by decide +kernel⟩
theorem ok_L_99 : okV "PlainPagesLaw" 99 R_X y_X_output b_X_output 2 (some .int) 1 := ⟨aW_in 352 (by decide +kernel) rfl, aW_in 353 (by decide +kernel) rfl, aW_in 354 (by decide +kernel) rfl, aW_in 84 (by decide +kernel) rfl, cd_X_output, rfl, by decide +kernel, by decide +kernel, by decide +kernel⟩
theorem ok_L_102 : okV "PlainPagesLaw" 102 R_M y_M_output b_M_output 2 (some .int) 1 := ⟨aW_in 1315 (by decide +kernel) rfl, aW_in 1316 (by decide +kernel) rfl, aW_in 1317 (by decide +kernel) rfl, aW_in 92 (by decide +kernel) rfl, cd_M_output, rfl, by decide +kernel, by decide +kernel, by decide +kernel⟩
theorem ok_L_103 : okV "PlainPagesLaw" 103 R_X y_X_about b_X_about 2 (some .int) 1 := ⟨aW_in 357 (by decide +kernel) rfl, aW_in 358 (by decide +kernel) rfl, aW_in 359 (by decide +kernel) rfl, aW_in 84 (by decide +kernel) rfl, cd_X_about, rfl, by decide +kernel, by decide +kernel, by decide +kernel⟩
theorem ok_L_106 : okV "PlainPagesLaw" 106 R_M y_M_about b_M_about 2 (some .int) 1 := ⟨aW_in 1319 (by decide +kernel) rfl, aW_in 1320 (by decide +kernel) rfl, aW_in 1321 (by decide +kernel) rfl, aW_in 92 (by decide +kernel) rfl, cd_M_about, rfl, by decide +kernel, by decide +kernel, by decide +kernel⟩
theorem okw_read : okSW "PlainPagesLaw" 50 y_L_read method_3_code 3 (some .int) [(0, 8, 11, 13)] 2 := ⟨aW_in 365 (by decide +kernel) rfl, aW_in 366 (by decide +kernel) rfl, aW_in 83 (by decide +kernel) rfl, aW_in 367 (by decide +kernel) rfl, by decide +kernel, by decide +kernel, by decide +kernel⟩
theorem okw_isPage : okSW "PlainPagesLaw" 59 y_L_isPage method_4_code 3 (some .int) [(0, 15, 18, 19)] 2 := ⟨aW_in 684 (by decide +kernel) rfl, aW_in 685 (by decide +kernel) rfl, aW_in 83 (by decide +kernel) rfl, aW_in 686 (by decide +kernel) rfl, by decide +kernel, by decide +kernel, by decide +kernel⟩
theorem okw_isLinked : okSW "PlainPagesLaw" 62 y_L_isLinked method_5_code 3 (some .int) [(0, 15, 18, 19)] 2 := ⟨aW_in 785 (by decide +kernel) rfl, aW_in 786 (by decide +kernel) rfl, aW_in 83 (by decide +kernel) rfl, aW_in 787 (by decide +kernel) rfl, by decide +kernel, by decide +kernel, by decide +kernel⟩
theorem okw_plain : okSW "PlainPagesLaw" 92 y_L_plain method_6_code 4 (some .int) [(0, 9, 12, 28)] 3 := ⟨aW_in 806 (by decide +kernel) rfl, aW_in 807 (by decide +kernel) rfl, aW_in 83 (by decide +kernel) rfl, aW_in 808 (by decide +kernel) rfl, by decide +kernel, by decide +kernel, by decide +kernel⟩
theorem okw_write : okSW "PlainPagesLaw" 96 y_L_write method_7_code 4 (some .int) [(0, 9, 12, 28)] 3 := ⟨aW_in 860 (by decide +kernel) rfl, aW_in 861 (by decide +kernel) rfl, aW_in 83 (by decide +kernel) rfl, aW_in 862 (by decide +kernel) rfl, by decide +kernel, by decide +kernel, by decide +kernel⟩
theorem d_law_0 : decode code 0 = .ok (.new 8, 3) := by decide +kernel
theorem d_law_3 : decode code 3 = .ok (.dup, 1) := by decide +kernel
theorem d_law_4 : decode code 4 = .ok (.invokespecial 33, 3) := by decide +kernel
theorem d_law_7 : decode code 7 = .ok (.astore_n 1, 1) := by decide +kernel
theorem d_law_8 : decode code 8 = .ok (.new 34, 3) := by decide +kernel
theorem d_law_11 : decode code 11 = .ok (.dup, 1) := by decide +kernel
theorem d_law_12 : decode code 12 = .ok (.invokespecial 36, 3) := by decide +kernel
theorem d_law_15 : decode code 15 = .ok (.astore_n 2, 1) := by decide +kernel
theorem d_law_16 : decode code 16 = .ok (.iconst 1, 1) := by decide +kernel
theorem d_law_17 : decode code 17 = .ok (.newarray .long, 2) := by decide +kernel
theorem d_law_19 : decode code 19 = .ok (.astore_n 3, 1) := by decide +kernel
theorem d_law_20 : decode code 20 = .ok (.iconst 0, 1) := by decide +kernel
theorem d_law_21 : decode code 21 = .ok (.istore 4, 2) := by decide +kernel
theorem d_law_23 : decode code 23 = .ok (.iload 4, 2) := by decide +kernel
theorem d_law_25 : decode code 25 = .ok (.aload_n 0, 1) := by decide +kernel
theorem d_law_26 : decode code 26 = .ok (.arraylength, 1) := by decide +kernel
theorem d_law_27 : decode code 27 = .ok (.bipush 6, 2) := by decide +kernel
theorem d_law_29 : decode code 29 = .ok (.isub, 1) := by decide +kernel
theorem d_law_30 : decode code 30 = .ok (.if_icmp .gt 749, 3) := by decide +kernel
theorem d_law_33 : decode code 33 = .ok (.aload_n 0, 1) := by decide +kernel
theorem d_law_34 : decode code 34 = .ok (.iload 4, 2) := by decide +kernel
theorem d_law_36 : decode code 36 = .ok (.iaload, 1) := by decide +kernel
theorem d_law_37 : decode code 37 = .ok (.bipush 15, 2) := by decide +kernel
theorem d_law_39 : decode code 39 = .ok (.iand, 1) := by decide +kernel
theorem d_law_40 : decode code 40 = .ok (.tableswitch 733 0 15 #[80, 151, 176, 187, 231, 282, 333, 358, 395, 432, 481, 558, 571, 627, 683, 708], 80) := by decide +kernel
theorem d_law_120 : decode code 120 = .ok (.aload_n 1, 1) := by decide +kernel
theorem d_law_121 : decode code 121 = .ok (.aload_n 0, 1) := by decide +kernel
theorem d_law_122 : decode code 122 = .ok (.iload 4, 2) := by decide +kernel
theorem d_law_124 : decode code 124 = .ok (.iconst 1, 1) := by decide +kernel
theorem d_law_125 : decode code 125 = .ok (.iadd, 1) := by decide +kernel
theorem d_law_126 : decode code 126 = .ok (.iaload, 1) := by decide +kernel
theorem d_law_127 : decode code 127 = .ok (.aload_n 0, 1) := by decide +kernel
theorem d_law_128 : decode code 128 = .ok (.iload 4, 2) := by decide +kernel
theorem d_law_130 : decode code 130 = .ok (.iconst 2, 1) := by decide +kernel
theorem d_law_131 : decode code 131 = .ok (.iadd, 1) := by decide +kernel
theorem d_law_132 : decode code 132 = .ok (.iaload, 1) := by decide +kernel
theorem d_law_133 : decode code 133 = .ok (.aload_n 0, 1) := by decide +kernel
theorem d_law_134 : decode code 134 = .ok (.iload 4, 2) := by decide +kernel
theorem d_law_136 : decode code 136 = .ok (.iconst 3, 1) := by decide +kernel
theorem d_law_137 : decode code 137 = .ok (.iadd, 1) := by decide +kernel
theorem d_law_138 : decode code 138 = .ok (.iaload, 1) := by decide +kernel
theorem d_law_139 : decode code 139 = .ok (.aload_n 0, 1) := by decide +kernel
theorem d_law_140 : decode code 140 = .ok (.iload 4, 2) := by decide +kernel
theorem d_law_142 : decode code 142 = .ok (.iconst 4, 1) := by decide +kernel
theorem d_law_143 : decode code 143 = .ok (.iadd, 1) := by decide +kernel
theorem d_law_144 : decode code 144 = .ok (.iaload, 1) := by decide +kernel
theorem d_law_145 : decode code 145 = .ok (.aload_n 0, 1) := by decide +kernel
theorem d_law_146 : decode code 146 = .ok (.iload 4, 2) := by decide +kernel
theorem d_law_148 : decode code 148 = .ok (.iconst 5, 1) := by decide +kernel
theorem d_law_149 : decode code 149 = .ok (.iadd, 1) := by decide +kernel
theorem d_law_150 : decode code 150 = .ok (.iaload, 1) := by decide +kernel
theorem d_law_151 : decode code 151 = .ok (.invokevirtual 37, 3) := by decide +kernel
theorem d_law_154 : decode code 154 = .ok (.aload_n 2, 1) := by decide +kernel
theorem d_law_155 : decode code 155 = .ok (.aload_n 0, 1) := by decide +kernel
theorem d_law_156 : decode code 156 = .ok (.iload 4, 2) := by decide +kernel
theorem d_law_158 : decode code 158 = .ok (.iconst 1, 1) := by decide +kernel
theorem d_law_159 : decode code 159 = .ok (.iadd, 1) := by decide +kernel
theorem d_law_160 : decode code 160 = .ok (.iaload, 1) := by decide +kernel
theorem d_law_161 : decode code 161 = .ok (.aload_n 0, 1) := by decide +kernel
theorem d_law_162 : decode code 162 = .ok (.iload 4, 2) := by decide +kernel
theorem d_law_164 : decode code 164 = .ok (.iconst 2, 1) := by decide +kernel
theorem d_law_165 : decode code 165 = .ok (.iadd, 1) := by decide +kernel
theorem d_law_166 : decode code 166 = .ok (.iaload, 1) := by decide +kernel
theorem d_law_167 : decode code 167 = .ok (.aload_n 0, 1) := by decide +kernel
theorem d_law_168 : decode code 168 = .ok (.iload 4, 2) := by decide +kernel
theorem d_law_170 : decode code 170 = .ok (.iconst 3, 1) := by decide +kernel
theorem d_law_171 : decode code 171 = .ok (.iadd, 1) := by decide +kernel
theorem d_law_172 : decode code 172 = .ok (.iaload, 1) := by decide +kernel
theorem d_law_173 : decode code 173 = .ok (.aload_n 0, 1) := by decide +kernel
theorem d_law_174 : decode code 174 = .ok (.iload 4, 2) := by decide +kernel
theorem d_law_176 : decode code 176 = .ok (.iconst 4, 1) := by decide +kernel
theorem d_law_177 : decode code 177 = .ok (.iadd, 1) := by decide +kernel
theorem d_law_178 : decode code 178 = .ok (.iaload, 1) := by decide +kernel
theorem d_law_179 : decode code 179 = .ok (.aload_n 0, 1) := by decide +kernel
theorem d_law_180 : decode code 180 = .ok (.iload 4, 2) := by decide +kernel
theorem d_law_182 : decode code 182 = .ok (.iconst 5, 1) := by decide +kernel
theorem d_law_183 : decode code 183 = .ok (.iadd, 1) := by decide +kernel
theorem d_law_184 : decode code 184 = .ok (.iaload, 1) := by decide +kernel
theorem d_law_185 : decode code 185 = .ok (.invokevirtual 41, 3) := by decide +kernel
theorem d_law_188 : decode code 188 = .ok (.goto 585, 3) := by decide +kernel
theorem d_law_191 : decode code 191 = .ok (.aload_n 1, 1) := by decide +kernel
theorem d_law_192 : decode code 192 = .ok (.aload_n 0, 1) := by decide +kernel
theorem d_law_193 : decode code 193 = .ok (.iload 4, 2) := by decide +kernel
theorem d_law_195 : decode code 195 = .ok (.iconst 1, 1) := by decide +kernel
theorem d_law_196 : decode code 196 = .ok (.iadd, 1) := by decide +kernel
theorem d_law_197 : decode code 197 = .ok (.iaload, 1) := by decide +kernel
theorem d_law_198 : decode code 198 = .ok (.invokevirtual 42, 3) := by decide +kernel
theorem d_law_201 : decode code 201 = .ok (.aload_n 2, 1) := by decide +kernel
theorem d_law_202 : decode code 202 = .ok (.aload_n 0, 1) := by decide +kernel
theorem d_law_203 : decode code 203 = .ok (.iload 4, 2) := by decide +kernel
theorem d_law_205 : decode code 205 = .ok (.iconst 1, 1) := by decide +kernel
theorem d_law_206 : decode code 206 = .ok (.iadd, 1) := by decide +kernel
theorem d_law_207 : decode code 207 = .ok (.iaload, 1) := by decide +kernel
theorem d_law_208 : decode code 208 = .ok (.invokevirtual 45, 3) := by decide +kernel
theorem d_law_211 : decode code 211 = .ok (.if_icmp .eq 562, 3) := by decide +kernel
theorem d_law_214 : decode code 214 = .ok (.iconst 0, 1) := by decide +kernel
theorem d_law_215 : decode code 215 = .ok (.ireturn, 1) := by decide +kernel
theorem d_law_216 : decode code 216 = .ok (.aload_n 1, 1) := by decide +kernel
theorem d_law_217 : decode code 217 = .ok (.invokevirtual 46, 3) := by decide +kernel
theorem d_law_220 : decode code 220 = .ok (.aload_n 2, 1) := by decide +kernel
theorem d_law_221 : decode code 221 = .ok (.invokevirtual 49, 3) := by decide +kernel
theorem d_law_224 : decode code 224 = .ok (.goto 549, 3) := by decide +kernel
theorem d_law_227 : decode code 227 = .ok (.aload_n 1, 1) := by decide +kernel
theorem d_law_228 : decode code 228 = .ok (.aload_n 3, 1) := by decide +kernel
theorem d_law_229 : decode code 229 = .ok (.invokestatic 50, 3) := by decide +kernel
theorem d_law_232 : decode code 232 = .ok (.istore 5, 2) := by decide +kernel
theorem d_law_234 : decode code 234 = .ok (.aload_n 2, 1) := by decide +kernel
theorem d_law_235 : decode code 235 = .ok (.invokevirtual 55, 3) := by decide +kernel
theorem d_law_238 : decode code 238 = .ok (.istore 6, 2) := by decide +kernel
theorem d_law_240 : decode code 240 = .ok (.aload_n 2, 1) := by decide +kernel
theorem d_law_241 : decode code 241 = .ok (.invokevirtual 56, 3) := by decide +kernel
theorem d_law_244 : decode code 244 = .ok (.iload 5, 2) := by decide +kernel
theorem d_law_246 : decode code 246 = .ok (.if_icmp .eq 5, 3) := by decide +kernel
theorem d_law_249 : decode code 249 = .ok (.iconst 0, 1) := by decide +kernel
theorem d_law_250 : decode code 250 = .ok (.ireturn, 1) := by decide +kernel
theorem d_law_251 : decode code 251 = .ok (.iload 5, 2) := by decide +kernel
theorem d_law_253 : decode code 253 = .ok (.ifCond .ne 15, 3) := by decide +kernel
theorem d_law_256 : decode code 256 = .ok (.aload_n 3, 1) := by decide +kernel
theorem d_law_257 : decode code 257 = .ok (.iconst 0, 1) := by decide +kernel
theorem d_law_258 : decode code 258 = .ok (.laload, 1) := by decide +kernel
theorem d_law_259 : decode code 259 = .ok (.iload 6, 2) := by decide +kernel
theorem d_law_261 : decode code 261 = .ok (.i2l, 1) := by decide +kernel
theorem d_law_262 : decode code 262 = .ok (.lcmp, 1) := by decide +kernel
theorem d_law_263 : decode code 263 = .ok (.ifCond .eq 5, 3) := by decide +kernel
theorem d_law_266 : decode code 266 = .ok (.iconst 0, 1) := by decide +kernel
theorem d_law_267 : decode code 267 = .ok (.ireturn, 1) := by decide +kernel
theorem d_law_268 : decode code 268 = .ok (.goto 505, 3) := by decide +kernel
theorem d_law_271 : decode code 271 = .ok (.aload_n 1, 1) := by decide +kernel
theorem d_law_272 : decode code 272 = .ok (.aload_n 3, 1) := by decide +kernel
theorem d_law_273 : decode code 273 = .ok (.invokestatic 59, 3) := by decide +kernel
theorem d_law_276 : decode code 276 = .ok (.istore 5, 2) := by decide +kernel
theorem d_law_278 : decode code 278 = .ok (.aload_n 2, 1) := by decide +kernel
theorem d_law_279 : decode code 279 = .ok (.invokevirtual 61, 3) := by decide +kernel
theorem d_law_282 : decode code 282 = .ok (.istore 6, 2) := by decide +kernel
theorem d_law_284 : decode code 284 = .ok (.aload_n 2, 1) := by decide +kernel
theorem d_law_285 : decode code 285 = .ok (.invokevirtual 56, 3) := by decide +kernel
theorem d_law_288 : decode code 288 = .ok (.iload 5, 2) := by decide +kernel
theorem d_law_290 : decode code 290 = .ok (.if_icmp .eq 5, 3) := by decide +kernel
theorem d_law_293 : decode code 293 = .ok (.iconst 0, 1) := by decide +kernel
theorem d_law_294 : decode code 294 = .ok (.ireturn, 1) := by decide +kernel
theorem d_law_295 : decode code 295 = .ok (.iload 5, 2) := by decide +kernel
theorem d_law_297 : decode code 297 = .ok (.ifCond .ne 22, 3) := by decide +kernel
theorem d_law_300 : decode code 300 = .ok (.aload_n 3, 1) := by decide +kernel
theorem d_law_301 : decode code 301 = .ok (.iconst 0, 1) := by decide +kernel
theorem d_law_302 : decode code 302 = .ok (.laload, 1) := by decide +kernel
theorem d_law_303 : decode code 303 = .ok (.iload 6, 2) := by decide +kernel
theorem d_law_305 : decode code 305 = .ok (.ifCond .eq 7, 3) := by decide +kernel
theorem d_law_308 : decode code 308 = .ok (.lconst 1, 1) := by decide +kernel
theorem d_law_309 : decode code 309 = .ok (.goto 4, 3) := by decide +kernel
theorem d_law_312 : decode code 312 = .ok (.lconst 0, 1) := by decide +kernel
theorem d_law_313 : decode code 313 = .ok (.lcmp, 1) := by decide +kernel
theorem d_law_314 : decode code 314 = .ok (.ifCond .eq 5, 3) := by decide +kernel
theorem d_law_317 : decode code 317 = .ok (.iconst 0, 1) := by decide +kernel
theorem d_law_318 : decode code 318 = .ok (.ireturn, 1) := by decide +kernel
theorem d_law_319 : decode code 319 = .ok (.goto 454, 3) := by decide +kernel
theorem d_law_322 : decode code 322 = .ok (.aload_n 1, 1) := by decide +kernel
theorem d_law_323 : decode code 323 = .ok (.aload_n 3, 1) := by decide +kernel
theorem d_law_324 : decode code 324 = .ok (.invokestatic 62, 3) := by decide +kernel
theorem d_law_327 : decode code 327 = .ok (.istore 5, 2) := by decide +kernel
theorem d_law_329 : decode code 329 = .ok (.aload_n 2, 1) := by decide +kernel
theorem d_law_330 : decode code 330 = .ok (.invokevirtual 64, 3) := by decide +kernel
theorem d_law_333 : decode code 333 = .ok (.istore 6, 2) := by decide +kernel
theorem d_law_335 : decode code 335 = .ok (.aload_n 2, 1) := by decide +kernel
theorem d_law_336 : decode code 336 = .ok (.invokevirtual 56, 3) := by decide +kernel
theorem d_law_339 : decode code 339 = .ok (.iload 5, 2) := by decide +kernel
theorem d_law_341 : decode code 341 = .ok (.if_icmp .eq 5, 3) := by decide +kernel
theorem d_law_344 : decode code 344 = .ok (.iconst 0, 1) := by decide +kernel
theorem d_law_345 : decode code 345 = .ok (.ireturn, 1) := by decide +kernel
theorem d_law_346 : decode code 346 = .ok (.iload 5, 2) := by decide +kernel
theorem d_law_348 : decode code 348 = .ok (.ifCond .ne 22, 3) := by decide +kernel
theorem d_law_351 : decode code 351 = .ok (.aload_n 3, 1) := by decide +kernel
theorem d_law_352 : decode code 352 = .ok (.iconst 0, 1) := by decide +kernel
theorem d_law_353 : decode code 353 = .ok (.laload, 1) := by decide +kernel
theorem d_law_354 : decode code 354 = .ok (.iload 6, 2) := by decide +kernel
theorem d_law_356 : decode code 356 = .ok (.ifCond .eq 7, 3) := by decide +kernel
theorem d_law_359 : decode code 359 = .ok (.lconst 1, 1) := by decide +kernel
theorem d_law_360 : decode code 360 = .ok (.goto 4, 3) := by decide +kernel
theorem d_law_363 : decode code 363 = .ok (.lconst 0, 1) := by decide +kernel
theorem d_law_364 : decode code 364 = .ok (.lcmp, 1) := by decide +kernel
theorem d_law_365 : decode code 365 = .ok (.ifCond .eq 5, 3) := by decide +kernel
theorem d_law_368 : decode code 368 = .ok (.iconst 0, 1) := by decide +kernel
theorem d_law_369 : decode code 369 = .ok (.ireturn, 1) := by decide +kernel
theorem d_law_370 : decode code 370 = .ok (.goto 403, 3) := by decide +kernel
theorem d_law_373 : decode code 373 = .ok (.aload_n 1, 1) := by decide +kernel
theorem d_law_374 : decode code 374 = .ok (.aload_n 0, 1) := by decide +kernel
theorem d_law_375 : decode code 375 = .ok (.iload 4, 2) := by decide +kernel
theorem d_law_377 : decode code 377 = .ok (.iconst 1, 1) := by decide +kernel
theorem d_law_378 : decode code 378 = .ok (.iadd, 1) := by decide +kernel
theorem d_law_379 : decode code 379 = .ok (.iaload, 1) := by decide +kernel
theorem d_law_380 : decode code 380 = .ok (.invokevirtual 65, 3) := by decide +kernel
theorem d_law_383 : decode code 383 = .ok (.aload_n 2, 1) := by decide +kernel
theorem d_law_384 : decode code 384 = .ok (.aload_n 0, 1) := by decide +kernel
theorem d_law_385 : decode code 385 = .ok (.iload 4, 2) := by decide +kernel
theorem d_law_387 : decode code 387 = .ok (.iconst 1, 1) := by decide +kernel
theorem d_law_388 : decode code 388 = .ok (.iadd, 1) := by decide +kernel
theorem d_law_389 : decode code 389 = .ok (.iaload, 1) := by decide +kernel
theorem d_law_390 : decode code 390 = .ok (.invokevirtual 68, 3) := by decide +kernel
theorem d_law_393 : decode code 393 = .ok (.if_icmp .eq 380, 3) := by decide +kernel
theorem d_law_396 : decode code 396 = .ok (.iconst 0, 1) := by decide +kernel
theorem d_law_397 : decode code 397 = .ok (.ireturn, 1) := by decide +kernel
theorem d_law_398 : decode code 398 = .ok (.aload_n 1, 1) := by decide +kernel
theorem d_law_399 : decode code 399 = .ok (.aload_n 0, 1) := by decide +kernel
theorem d_law_400 : decode code 400 = .ok (.iload 4, 2) := by decide +kernel
theorem d_law_402 : decode code 402 = .ok (.iconst 1, 1) := by decide +kernel
theorem d_law_403 : decode code 403 = .ok (.iadd, 1) := by decide +kernel
theorem d_law_404 : decode code 404 = .ok (.iaload, 1) := by decide +kernel
theorem d_law_405 : decode code 405 = .ok (.aload_n 0, 1) := by decide +kernel
theorem d_law_406 : decode code 406 = .ok (.iload 4, 2) := by decide +kernel
theorem d_law_408 : decode code 408 = .ok (.iconst 2, 1) := by decide +kernel
theorem d_law_409 : decode code 409 = .ok (.iadd, 1) := by decide +kernel
theorem d_law_410 : decode code 410 = .ok (.iaload, 1) := by decide +kernel
theorem d_law_411 : decode code 411 = .ok (.invokevirtual 69, 3) := by decide +kernel
theorem d_law_414 : decode code 414 = .ok (.aload_n 2, 1) := by decide +kernel
theorem d_law_415 : decode code 415 = .ok (.aload_n 0, 1) := by decide +kernel
theorem d_law_416 : decode code 416 = .ok (.iload 4, 2) := by decide +kernel
theorem d_law_418 : decode code 418 = .ok (.iconst 1, 1) := by decide +kernel
theorem d_law_419 : decode code 419 = .ok (.iadd, 1) := by decide +kernel
theorem d_law_420 : decode code 420 = .ok (.iaload, 1) := by decide +kernel
theorem d_law_421 : decode code 421 = .ok (.aload_n 0, 1) := by decide +kernel
theorem d_law_422 : decode code 422 = .ok (.iload 4, 2) := by decide +kernel
theorem d_law_424 : decode code 424 = .ok (.iconst 2, 1) := by decide +kernel
theorem d_law_425 : decode code 425 = .ok (.iadd, 1) := by decide +kernel
theorem d_law_426 : decode code 426 = .ok (.iaload, 1) := by decide +kernel
theorem d_law_427 : decode code 427 = .ok (.invokevirtual 73, 3) := by decide +kernel
theorem d_law_430 : decode code 430 = .ok (.if_icmp .eq 343, 3) := by decide +kernel
theorem d_law_433 : decode code 433 = .ok (.iconst 0, 1) := by decide +kernel
theorem d_law_434 : decode code 434 = .ok (.ireturn, 1) := by decide +kernel
theorem d_law_435 : decode code 435 = .ok (.aload_n 1, 1) := by decide +kernel
theorem d_law_436 : decode code 436 = .ok (.aload_n 0, 1) := by decide +kernel
theorem d_law_437 : decode code 437 = .ok (.iload 4, 2) := by decide +kernel
theorem d_law_439 : decode code 439 = .ok (.iconst 1, 1) := by decide +kernel
theorem d_law_440 : decode code 440 = .ok (.iadd, 1) := by decide +kernel
theorem d_law_441 : decode code 441 = .ok (.iaload, 1) := by decide +kernel
theorem d_law_442 : decode code 442 = .ok (.aload_n 0, 1) := by decide +kernel
theorem d_law_443 : decode code 443 = .ok (.iload 4, 2) := by decide +kernel
theorem d_law_445 : decode code 445 = .ok (.iconst 2, 1) := by decide +kernel
theorem d_law_446 : decode code 446 = .ok (.iadd, 1) := by decide +kernel
theorem d_law_447 : decode code 447 = .ok (.iaload, 1) := by decide +kernel
theorem d_law_448 : decode code 448 = .ok (.invokevirtual 74, 3) := by decide +kernel
theorem d_law_451 : decode code 451 = .ok (.aload_n 2, 1) := by decide +kernel
theorem d_law_452 : decode code 452 = .ok (.aload_n 0, 1) := by decide +kernel
theorem d_law_453 : decode code 453 = .ok (.iload 4, 2) := by decide +kernel
theorem d_law_455 : decode code 455 = .ok (.iconst 1, 1) := by decide +kernel
theorem d_law_456 : decode code 456 = .ok (.iadd, 1) := by decide +kernel
theorem d_law_457 : decode code 457 = .ok (.iaload, 1) := by decide +kernel
theorem d_law_458 : decode code 458 = .ok (.aload_n 0, 1) := by decide +kernel
theorem d_law_459 : decode code 459 = .ok (.iload 4, 2) := by decide +kernel
theorem d_law_461 : decode code 461 = .ok (.iconst 2, 1) := by decide +kernel
theorem d_law_462 : decode code 462 = .ok (.iadd, 1) := by decide +kernel
theorem d_law_463 : decode code 463 = .ok (.iaload, 1) := by decide +kernel
theorem d_law_464 : decode code 464 = .ok (.invokevirtual 77, 3) := by decide +kernel
theorem d_law_467 : decode code 467 = .ok (.if_icmp .eq 306, 3) := by decide +kernel
theorem d_law_470 : decode code 470 = .ok (.iconst 0, 1) := by decide +kernel
theorem d_law_471 : decode code 471 = .ok (.ireturn, 1) := by decide +kernel
theorem d_law_472 : decode code 472 = .ok (.aload_n 1, 1) := by decide +kernel
theorem d_law_473 : decode code 473 = .ok (.aload_n 0, 1) := by decide +kernel
theorem d_law_474 : decode code 474 = .ok (.iload 4, 2) := by decide +kernel
theorem d_law_476 : decode code 476 = .ok (.iconst 1, 1) := by decide +kernel
theorem d_law_477 : decode code 477 = .ok (.iadd, 1) := by decide +kernel
theorem d_law_478 : decode code 478 = .ok (.iaload, 1) := by decide +kernel
theorem d_law_479 : decode code 479 = .ok (.aload_n 0, 1) := by decide +kernel
theorem d_law_480 : decode code 480 = .ok (.iload 4, 2) := by decide +kernel
theorem d_law_482 : decode code 482 = .ok (.iconst 2, 1) := by decide +kernel
theorem d_law_483 : decode code 483 = .ok (.iadd, 1) := by decide +kernel
theorem d_law_484 : decode code 484 = .ok (.iaload, 1) := by decide +kernel
theorem d_law_485 : decode code 485 = .ok (.aload_n 0, 1) := by decide +kernel
theorem d_law_486 : decode code 486 = .ok (.iload 4, 2) := by decide +kernel
theorem d_law_488 : decode code 488 = .ok (.iconst 3, 1) := by decide +kernel
theorem d_law_489 : decode code 489 = .ok (.iadd, 1) := by decide +kernel
theorem d_law_490 : decode code 490 = .ok (.iaload, 1) := by decide +kernel
theorem d_law_491 : decode code 491 = .ok (.invokevirtual 78, 3) := by decide +kernel
theorem d_law_494 : decode code 494 = .ok (.aload_n 2, 1) := by decide +kernel
theorem d_law_495 : decode code 495 = .ok (.aload_n 0, 1) := by decide +kernel
theorem d_law_496 : decode code 496 = .ok (.iload 4, 2) := by decide +kernel
theorem d_law_498 : decode code 498 = .ok (.iconst 1, 1) := by decide +kernel
theorem d_law_499 : decode code 499 = .ok (.iadd, 1) := by decide +kernel
theorem d_law_500 : decode code 500 = .ok (.iaload, 1) := by decide +kernel
theorem d_law_501 : decode code 501 = .ok (.aload_n 0, 1) := by decide +kernel
theorem d_law_502 : decode code 502 = .ok (.iload 4, 2) := by decide +kernel
theorem d_law_504 : decode code 504 = .ok (.iconst 2, 1) := by decide +kernel
theorem d_law_505 : decode code 505 = .ok (.iadd, 1) := by decide +kernel
theorem d_law_506 : decode code 506 = .ok (.iaload, 1) := by decide +kernel
theorem d_law_507 : decode code 507 = .ok (.aload_n 0, 1) := by decide +kernel
theorem d_law_508 : decode code 508 = .ok (.iload 4, 2) := by decide +kernel
theorem d_law_510 : decode code 510 = .ok (.iconst 3, 1) := by decide +kernel
theorem d_law_511 : decode code 511 = .ok (.iadd, 1) := by decide +kernel
theorem d_law_512 : decode code 512 = .ok (.iaload, 1) := by decide +kernel
theorem d_law_513 : decode code 513 = .ok (.invokevirtual 82, 3) := by decide +kernel
theorem d_law_516 : decode code 516 = .ok (.if_icmp .eq 257, 3) := by decide +kernel
theorem d_law_519 : decode code 519 = .ok (.iconst 0, 1) := by decide +kernel
theorem d_law_520 : decode code 520 = .ok (.ireturn, 1) := by decide +kernel
theorem d_law_521 : decode code 521 = .ok (.aload_n 1, 1) := by decide +kernel
theorem d_law_522 : decode code 522 = .ok (.aload_n 0, 1) := by decide +kernel
theorem d_law_523 : decode code 523 = .ok (.iload 4, 2) := by decide +kernel
theorem d_law_525 : decode code 525 = .ok (.iconst 1, 1) := by decide +kernel
theorem d_law_526 : decode code 526 = .ok (.iadd, 1) := by decide +kernel
theorem d_law_527 : decode code 527 = .ok (.iaload, 1) := by decide +kernel
theorem d_law_528 : decode code 528 = .ok (.aload_n 0, 1) := by decide +kernel
theorem d_law_529 : decode code 529 = .ok (.iload 4, 2) := by decide +kernel
theorem d_law_531 : decode code 531 = .ok (.iconst 2, 1) := by decide +kernel
theorem d_law_532 : decode code 532 = .ok (.iadd, 1) := by decide +kernel
theorem d_law_533 : decode code 533 = .ok (.iaload, 1) := by decide +kernel
theorem d_law_534 : decode code 534 = .ok (.aload_n 0, 1) := by decide +kernel
theorem d_law_535 : decode code 535 = .ok (.iload 4, 2) := by decide +kernel
theorem d_law_537 : decode code 537 = .ok (.iconst 3, 1) := by decide +kernel
theorem d_law_538 : decode code 538 = .ok (.iadd, 1) := by decide +kernel
theorem d_law_539 : decode code 539 = .ok (.iaload, 1) := by decide +kernel
theorem d_law_540 : decode code 540 = .ok (.ifCond .eq 7, 3) := by decide +kernel
theorem d_law_543 : decode code 543 = .ok (.iconst 1, 1) := by decide +kernel
theorem d_law_544 : decode code 544 = .ok (.goto 4, 3) := by decide +kernel
theorem d_law_547 : decode code 547 = .ok (.iconst 0, 1) := by decide +kernel
theorem d_law_548 : decode code 548 = .ok (.aload_n 0, 1) := by decide +kernel
theorem d_law_549 : decode code 549 = .ok (.iload 4, 2) := by decide +kernel
theorem d_law_551 : decode code 551 = .ok (.iconst 4, 1) := by decide +kernel
theorem d_law_552 : decode code 552 = .ok (.iadd, 1) := by decide +kernel
theorem d_law_553 : decode code 553 = .ok (.iaload, 1) := by decide +kernel
theorem d_law_554 : decode code 554 = .ok (.invokevirtual 83, 3) := by decide +kernel
theorem d_law_557 : decode code 557 = .ok (.aload_n 2, 1) := by decide +kernel
theorem d_law_558 : decode code 558 = .ok (.aload_n 0, 1) := by decide +kernel
theorem d_law_559 : decode code 559 = .ok (.iload 4, 2) := by decide +kernel
theorem d_law_561 : decode code 561 = .ok (.iconst 1, 1) := by decide +kernel
theorem d_law_562 : decode code 562 = .ok (.iadd, 1) := by decide +kernel
theorem d_law_563 : decode code 563 = .ok (.iaload, 1) := by decide +kernel
theorem d_law_564 : decode code 564 = .ok (.aload_n 0, 1) := by decide +kernel
theorem d_law_565 : decode code 565 = .ok (.iload 4, 2) := by decide +kernel
theorem d_law_567 : decode code 567 = .ok (.iconst 2, 1) := by decide +kernel
theorem d_law_568 : decode code 568 = .ok (.iadd, 1) := by decide +kernel
theorem d_law_569 : decode code 569 = .ok (.iaload, 1) := by decide +kernel
theorem d_law_570 : decode code 570 = .ok (.aload_n 0, 1) := by decide +kernel
theorem d_law_571 : decode code 571 = .ok (.iload 4, 2) := by decide +kernel
theorem d_law_573 : decode code 573 = .ok (.iconst 3, 1) := by decide +kernel
theorem d_law_574 : decode code 574 = .ok (.iadd, 1) := by decide +kernel
theorem d_law_575 : decode code 575 = .ok (.iaload, 1) := by decide +kernel
theorem d_law_576 : decode code 576 = .ok (.ifCond .eq 7, 3) := by decide +kernel
theorem d_law_579 : decode code 579 = .ok (.iconst 1, 1) := by decide +kernel
theorem d_law_580 : decode code 580 = .ok (.goto 4, 3) := by decide +kernel
theorem d_law_583 : decode code 583 = .ok (.iconst 0, 1) := by decide +kernel
theorem d_law_584 : decode code 584 = .ok (.aload_n 0, 1) := by decide +kernel
theorem d_law_585 : decode code 585 = .ok (.iload 4, 2) := by decide +kernel
theorem d_law_587 : decode code 587 = .ok (.iconst 4, 1) := by decide +kernel
theorem d_law_588 : decode code 588 = .ok (.iadd, 1) := by decide +kernel
theorem d_law_589 : decode code 589 = .ok (.iaload, 1) := by decide +kernel
theorem d_law_590 : decode code 590 = .ok (.invokevirtual 87, 3) := by decide +kernel
theorem d_law_593 : decode code 593 = .ok (.if_icmp .eq 180, 3) := by decide +kernel
theorem d_law_596 : decode code 596 = .ok (.iconst 0, 1) := by decide +kernel
theorem d_law_597 : decode code 597 = .ok (.ireturn, 1) := by decide +kernel
theorem d_law_598 : decode code 598 = .ok (.aload_n 1, 1) := by decide +kernel
theorem d_law_599 : decode code 599 = .ok (.invokevirtual 88, 3) := by decide +kernel
theorem d_law_602 : decode code 602 = .ok (.aload_n 2, 1) := by decide +kernel
theorem d_law_603 : decode code 603 = .ok (.invokevirtual 91, 3) := by decide +kernel
theorem d_law_606 : decode code 606 = .ok (.if_icmp .eq 167, 3) := by decide +kernel
theorem d_law_609 : decode code 609 = .ok (.iconst 0, 1) := by decide +kernel
theorem d_law_610 : decode code 610 = .ok (.ireturn, 1) := by decide +kernel
theorem d_law_611 : decode code 611 = .ok (.aload_n 1, 1) := by decide +kernel
theorem d_law_612 : decode code 612 = .ok (.aload_n 0, 1) := by decide +kernel
theorem d_law_613 : decode code 613 = .ok (.iload 4, 2) := by decide +kernel
theorem d_law_615 : decode code 615 = .ok (.iconst 1, 1) := by decide +kernel
theorem d_law_616 : decode code 616 = .ok (.iadd, 1) := by decide +kernel
theorem d_law_617 : decode code 617 = .ok (.iaload, 1) := by decide +kernel
theorem d_law_618 : decode code 618 = .ok (.aload_n 3, 1) := by decide +kernel
theorem d_law_619 : decode code 619 = .ok (.invokestatic 92, 3) := by decide +kernel
theorem d_law_622 : decode code 622 = .ok (.istore 5, 2) := by decide +kernel
theorem d_law_624 : decode code 624 = .ok (.aload_n 2, 1) := by decide +kernel
theorem d_law_625 : decode code 625 = .ok (.aload_n 0, 1) := by decide +kernel
theorem d_law_626 : decode code 626 = .ok (.iload 4, 2) := by decide +kernel
theorem d_law_628 : decode code 628 = .ok (.iconst 1, 1) := by decide +kernel
theorem d_law_629 : decode code 629 = .ok (.iadd, 1) := by decide +kernel
theorem d_law_630 : decode code 630 = .ok (.iaload, 1) := by decide +kernel
theorem d_law_631 : decode code 631 = .ok (.invokevirtual 95, 3) := by decide +kernel
theorem d_law_634 : decode code 634 = .ok (.istore 6, 2) := by decide +kernel
theorem d_law_636 : decode code 636 = .ok (.aload_n 2, 1) := by decide +kernel
theorem d_law_637 : decode code 637 = .ok (.invokevirtual 56, 3) := by decide +kernel
theorem d_law_640 : decode code 640 = .ok (.iload 5, 2) := by decide +kernel
theorem d_law_642 : decode code 642 = .ok (.if_icmp .eq 5, 3) := by decide +kernel
theorem d_law_645 : decode code 645 = .ok (.iconst 0, 1) := by decide +kernel
theorem d_law_646 : decode code 646 = .ok (.ireturn, 1) := by decide +kernel
theorem d_law_647 : decode code 647 = .ok (.iload 5, 2) := by decide +kernel
theorem d_law_649 : decode code 649 = .ok (.ifCond .ne 15, 3) := by decide +kernel
theorem d_law_652 : decode code 652 = .ok (.aload_n 3, 1) := by decide +kernel
theorem d_law_653 : decode code 653 = .ok (.iconst 0, 1) := by decide +kernel
theorem d_law_654 : decode code 654 = .ok (.laload, 1) := by decide +kernel
theorem d_law_655 : decode code 655 = .ok (.iload 6, 2) := by decide +kernel
theorem d_law_657 : decode code 657 = .ok (.i2l, 1) := by decide +kernel
theorem d_law_658 : decode code 658 = .ok (.lcmp, 1) := by decide +kernel
theorem d_law_659 : decode code 659 = .ok (.ifCond .eq 5, 3) := by decide +kernel
theorem d_law_662 : decode code 662 = .ok (.iconst 0, 1) := by decide +kernel
theorem d_law_663 : decode code 663 = .ok (.ireturn, 1) := by decide +kernel
theorem d_law_664 : decode code 664 = .ok (.goto 109, 3) := by decide +kernel
theorem d_law_667 : decode code 667 = .ok (.aload_n 1, 1) := by decide +kernel
theorem d_law_668 : decode code 668 = .ok (.aload_n 0, 1) := by decide +kernel
theorem d_law_669 : decode code 669 = .ok (.iload 4, 2) := by decide +kernel
theorem d_law_671 : decode code 671 = .ok (.iconst 1, 1) := by decide +kernel
theorem d_law_672 : decode code 672 = .ok (.iadd, 1) := by decide +kernel
theorem d_law_673 : decode code 673 = .ok (.iaload, 1) := by decide +kernel
theorem d_law_674 : decode code 674 = .ok (.aload_n 3, 1) := by decide +kernel
theorem d_law_675 : decode code 675 = .ok (.invokestatic 96, 3) := by decide +kernel
theorem d_law_678 : decode code 678 = .ok (.istore 5, 2) := by decide +kernel
theorem d_law_680 : decode code 680 = .ok (.aload_n 2, 1) := by decide +kernel
theorem d_law_681 : decode code 681 = .ok (.aload_n 0, 1) := by decide +kernel
theorem d_law_682 : decode code 682 = .ok (.iload 4, 2) := by decide +kernel
theorem d_law_684 : decode code 684 = .ok (.iconst 1, 1) := by decide +kernel
theorem d_law_685 : decode code 685 = .ok (.iadd, 1) := by decide +kernel
theorem d_law_686 : decode code 686 = .ok (.iaload, 1) := by decide +kernel
theorem d_law_687 : decode code 687 = .ok (.invokevirtual 98, 3) := by decide +kernel
theorem d_law_690 : decode code 690 = .ok (.istore 6, 2) := by decide +kernel
theorem d_law_692 : decode code 692 = .ok (.aload_n 2, 1) := by decide +kernel
theorem d_law_693 : decode code 693 = .ok (.invokevirtual 56, 3) := by decide +kernel
theorem d_law_696 : decode code 696 = .ok (.iload 5, 2) := by decide +kernel
theorem d_law_698 : decode code 698 = .ok (.if_icmp .eq 5, 3) := by decide +kernel
theorem d_law_701 : decode code 701 = .ok (.iconst 0, 1) := by decide +kernel
theorem d_law_702 : decode code 702 = .ok (.ireturn, 1) := by decide +kernel
theorem d_law_703 : decode code 703 = .ok (.iload 5, 2) := by decide +kernel
theorem d_law_705 : decode code 705 = .ok (.ifCond .ne 15, 3) := by decide +kernel
theorem d_law_708 : decode code 708 = .ok (.aload_n 3, 1) := by decide +kernel
theorem d_law_709 : decode code 709 = .ok (.iconst 0, 1) := by decide +kernel
theorem d_law_710 : decode code 710 = .ok (.laload, 1) := by decide +kernel
theorem d_law_711 : decode code 711 = .ok (.iload 6, 2) := by decide +kernel
theorem d_law_713 : decode code 713 = .ok (.i2l, 1) := by decide +kernel
theorem d_law_714 : decode code 714 = .ok (.lcmp, 1) := by decide +kernel
theorem d_law_715 : decode code 715 = .ok (.ifCond .eq 5, 3) := by decide +kernel
theorem d_law_718 : decode code 718 = .ok (.iconst 0, 1) := by decide +kernel
theorem d_law_719 : decode code 719 = .ok (.ireturn, 1) := by decide +kernel
theorem d_law_720 : decode code 720 = .ok (.goto 53, 3) := by decide +kernel
theorem d_law_723 : decode code 723 = .ok (.aload_n 1, 1) := by decide +kernel
theorem d_law_724 : decode code 724 = .ok (.aload_n 0, 1) := by decide +kernel
theorem d_law_725 : decode code 725 = .ok (.iload 4, 2) := by decide +kernel
theorem d_law_727 : decode code 727 = .ok (.iconst 1, 1) := by decide +kernel
theorem d_law_728 : decode code 728 = .ok (.iadd, 1) := by decide +kernel
theorem d_law_729 : decode code 729 = .ok (.iaload, 1) := by decide +kernel
theorem d_law_730 : decode code 730 = .ok (.invokevirtual 99, 3) := by decide +kernel
theorem d_law_733 : decode code 733 = .ok (.aload_n 2, 1) := by decide +kernel
theorem d_law_734 : decode code 734 = .ok (.aload_n 0, 1) := by decide +kernel
theorem d_law_735 : decode code 735 = .ok (.iload 4, 2) := by decide +kernel
theorem d_law_737 : decode code 737 = .ok (.iconst 1, 1) := by decide +kernel
theorem d_law_738 : decode code 738 = .ok (.iadd, 1) := by decide +kernel
theorem d_law_739 : decode code 739 = .ok (.iaload, 1) := by decide +kernel
theorem d_law_740 : decode code 740 = .ok (.invokevirtual 102, 3) := by decide +kernel
theorem d_law_743 : decode code 743 = .ok (.if_icmp .eq 30, 3) := by decide +kernel
theorem d_law_746 : decode code 746 = .ok (.iconst 0, 1) := by decide +kernel
theorem d_law_747 : decode code 747 = .ok (.ireturn, 1) := by decide +kernel
theorem d_law_748 : decode code 748 = .ok (.aload_n 1, 1) := by decide +kernel
theorem d_law_749 : decode code 749 = .ok (.aload_n 0, 1) := by decide +kernel
theorem d_law_750 : decode code 750 = .ok (.iload 4, 2) := by decide +kernel
theorem d_law_752 : decode code 752 = .ok (.iconst 1, 1) := by decide +kernel
theorem d_law_753 : decode code 753 = .ok (.iadd, 1) := by decide +kernel
theorem d_law_754 : decode code 754 = .ok (.iaload, 1) := by decide +kernel
theorem d_law_755 : decode code 755 = .ok (.invokevirtual 103, 3) := by decide +kernel
theorem d_law_758 : decode code 758 = .ok (.aload_n 2, 1) := by decide +kernel
theorem d_law_759 : decode code 759 = .ok (.aload_n 0, 1) := by decide +kernel
theorem d_law_760 : decode code 760 = .ok (.iload 4, 2) := by decide +kernel
theorem d_law_762 : decode code 762 = .ok (.iconst 1, 1) := by decide +kernel
theorem d_law_763 : decode code 763 = .ok (.iadd, 1) := by decide +kernel
theorem d_law_764 : decode code 764 = .ok (.iaload, 1) := by decide +kernel
theorem d_law_765 : decode code 765 = .ok (.invokevirtual 106, 3) := by decide +kernel
theorem d_law_768 : decode code 768 = .ok (.if_icmp .eq 5, 3) := by decide +kernel
theorem d_law_771 : decode code 771 = .ok (.iconst 0, 1) := by decide +kernel
theorem d_law_772 : decode code 772 = .ok (.ireturn, 1) := by decide +kernel
theorem d_law_773 : decode code 773 = .ok (.iinc 4 6, 3) := by decide +kernel
theorem d_law_776 : decode code 776 = .ok (.goto (-753), 3) := by decide +kernel
theorem d_law_779 : decode code 779 = .ok (.iconst 1, 1) := by decide +kernel
theorem d_law_780 : decode code 780 = .ok (.ireturn, 1) := by decide +kernel
/-- the loop's continuation -/
def LK (p : Program) (l : Launch) (e : Env) (s : State) (m : MethodId) (below : List Frame) (meth : Method) (c : Code) (b : Nat) (d : LD) (n : Nat) (next : Int32 → PPS → MPS → (Nat → Int64) → Prop) : Prop :=
  ∀ (i : Int32) (σ : PPS) (τ : MPS) (f : Nat → Int64) (H : Heap) (locs : List Loc) (kc ks : Nat) (hL : LST d (fun q => s.heap.size ≤ q) σ τ f H) (hI : inv σ) (hS : va_S (fun q => s.heap.size ≤ q) s.heap H locs) (hn : kc + n ≤ 601024 ∧ ks + 6 * n ≤ 7293034) (ls : Array Slot) (hl : lv_has ls 7 [(4, .int i), (3, .ref (dL d)), (2, .ref (mA (dM d) 0)), (1, .ref (wA (dW d) 0)), (0, .ref b)]) (hE : next i σ τ f),
      W p l e room_1 s m #[Value.ref b] below meth c H locs kc ks (lw_Z below #[Value.ref b] s) (F0 m 23 ls [])
def w_case_0 (N : Nat) (xs : Nat → Int32) (next : Int32 → PPS → MPS → (Nat → Int64) → Prop) (i : Int32) (σ : PPS) (τ : MPS) (f : Nat → Int64) : Prop := (vp_in (i + 1) N ∧ (vp_in (i + 2) N ∧ (vp_in (i + 3) N ∧ (vp_in (i + 4) N ∧ (vp_in (i + 5) N ∧ w_X_feed σ (xs (i + 1).toNatClampNeg) (xs (i + 2).toNatClampNeg) (xs (i + 3).toNatClampNeg) (xs (i + 4).toNatClampNeg) (xs (i + 5).toNatClampNeg) (fun σ151 => (vp_in (i + 1) N ∧ (vp_in (i + 2) N ∧ (vp_in (i + 3) N ∧ (vp_in (i + 4) N ∧ (vp_in (i + 5) N ∧ w_M_feed τ (xs (i + 1).toNatClampNeg) (xs (i + 2).toNatClampNeg) (xs (i + 3).toNatClampNeg) (xs (i + 4).toNatClampNeg) (xs (i + 5).toNatClampNeg) (fun τ185 => next (i + 6) σ151 τ185 f))))))))))))
set_option maxHeartbeats 8000000 in
set_option maxRecDepth 100000 in
theorem law_case_0 {p : Program} {e : Env} {s : State} {m : MethodId} {below : List Frame} {meth : Method} {c : Code} (l : Launch) {b N : Nat} {xs : Nat → Int32} (hls : l.stackTraces = false) (C0 : lw_At p s m meth c b N xs) {d : LD} (hC : LCT d (fun q => s.heap.size ≤ q) s) {n : Nat} {next : Int32 → PPS → MPS → (Nat → Int64) → Prop} (ih : LK p l e s m below meth c b d n next)
    (i : Int32) (σ : PPS) (τ : MPS) (f : Nat → Int64) (H : Heap) (locs : List Loc) (kc ks : Nat) (hL : LST d (fun q => s.heap.size ≤ q) σ τ f H) (hI : inv σ) (hS : va_S (fun q => s.heap.size ≤ q) s.heap H locs) (hn : kc + (n + 1) ≤ 601024 ∧ ks + 6 * (n + 1) ≤ 7293034) (ls : Array Slot) (hl : lv_has ls 7 [(4, .int i), (3, .ref (dL d)), (2, .ref (mA (dM d) 0)), (1, .ref (wA (dW d) 0)), (0, .ref b)]) (hE : w_case_0 N xs next i σ τ f) :
      W p l e room_1 s m #[Value.ref b] below meth c H locs kc ks (lw_Z below #[Value.ref b] s) (F0 m 120 ls []) := by
  obtain ⟨hx, hb, hr, hml, hown, hts, hXs, hbl, hlocks, hgv⟩ := C0
  have hta : ∀ w ∈ aW, w.before #[Value.ref b] s = true := fun w h => hts w (aW_tbl h)
  have hbA : ¬ (s.heap.size ≤ b) := Nat.not_le.mpr hbl
  have hc0 : kc ≤ room_1.cells ∧ ks ≤ room_1.slots := ⟨by show kc ≤ 601024; omega, by show ks ≤ 7293034; omega⟩
  have hc1 : kc + 1 ≤ room_1.cells ∧ ks + 6 ≤ room_1.slots := ⟨by show kc + 1 ≤ 601024; omega, by show ks + 6 ≤ 7293034; omega⟩
  have hcw := hc1
  have hn0 : kc + n ≤ 601024 ∧ ks + 6 * n ≤ 7293034 := by omega
  have hn1 : (kc + 1) + n ≤ 601024 ∧ (ks + 6) + 6 * n ≤ 7293034 := by omega
  unfold w_case_0 at hE
  refine lv_aload_n hx hb d_law_120 rfl (lv_at hl 3 rfl) ?_
  refine lv_aload_n hx hb d_law_121 rfl (lv_at hl 4 rfl) ?_
  refine lv_iload hx hb d_law_122 (lv_at hl 0 rfl) ?_
  refine lv_iconst (v := 1) hx hb d_law_124 (by decide) ?_
  refine lv_iadd hx hb d_law_125 ?_
  obtain ⟨hi126, hE⟩ := hE
  refine va_sld hx hb hXs hbl hbA hS hi126 d_law_126 ?_
  refine lv_aload_n hx hb d_law_127 rfl (lv_at hl 4 rfl) ?_
  refine lv_iload hx hb d_law_128 (lv_at hl 0 rfl) ?_
  refine lv_iconst (v := 2) hx hb d_law_130 (by decide) ?_
  refine lv_iadd hx hb d_law_131 ?_
  obtain ⟨hi132, hE⟩ := hE
  refine va_sld hx hb hXs hbl hbA hS hi132 d_law_132 ?_
  refine lv_aload_n hx hb d_law_133 rfl (lv_at hl 4 rfl) ?_
  refine lv_iload hx hb d_law_134 (lv_at hl 0 rfl) ?_
  refine lv_iconst (v := 3) hx hb d_law_136 (by decide) ?_
  refine lv_iadd hx hb d_law_137 ?_
  obtain ⟨hi138, hE⟩ := hE
  refine va_sld hx hb hXs hbl hbA hS hi138 d_law_138 ?_
  refine lv_aload_n hx hb d_law_139 rfl (lv_at hl 4 rfl) ?_
  refine lv_iload hx hb d_law_140 (lv_at hl 0 rfl) ?_
  refine lv_iconst (v := 4) hx hb d_law_142 (by decide) ?_
  refine lv_iadd hx hb d_law_143 ?_
  obtain ⟨hi144, hE⟩ := hE
  refine va_sld hx hb hXs hbl hbA hS hi144 d_law_144 ?_
  refine lv_aload_n hx hb d_law_145 rfl (lv_at hl 4 rfl) ?_
  refine lv_iload hx hb d_law_146 (lv_at hl 0 rfl) ?_
  refine lv_iconst (v := 5) hx hb d_law_148 (by decide) ?_
  refine lv_iadd hx hb d_law_149 ?_
  obtain ⟨hi150, hE⟩ := hE
  refine va_sld hx hb hXs hbl hbA hS hi150 d_law_150 ?_
  refine lx_v (As := [.int (xs (i + 1).toNatClampNeg), .int (xs (i + 2).toNatClampNeg), .int (xs (i + 3).toNatClampNeg), .int (xs (i + 4).toNatClampNeg), .int (xs (i + 5).toNatClampNeg)]) (rest := []) ⟨hx, hb, hml, hown, hta⟩ (c_X_feed l (dW d) _ σ (xs (i + 1).toNatClampNeg) (xs (i + 2).toNatClampNeg) (xs (i + 3).toNatClampNeg) (xs (i + 4).toNatClampNeg) (xs (i + 5).toNatClampNeg) _ hI hE) ok_L_37 ⟨Nat.le_of_ble_eq_true rfl, Nat.le_of_ble_eq_true rfl⟩ hL hC hS rfl hl.1 rfl (Nat.le_of_ble_eq_true rfl) d_law_151 hc0 (fun σ151 H locs hE hL hS => ?_)
  obtain ⟨hE, hI⟩ := hE
  refine lv_aload_n hx hb d_law_154 rfl (lv_at hl 2 rfl) ?_
  refine lv_aload_n hx hb d_law_155 rfl (lv_at hl 4 rfl) ?_
  refine lv_iload hx hb d_law_156 (lv_at hl 0 rfl) ?_
  refine lv_iconst (v := 1) hx hb d_law_158 (by decide) ?_
  refine lv_iadd hx hb d_law_159 ?_
  obtain ⟨hi160, hE⟩ := hE
  refine va_sld hx hb hXs hbl hbA hS hi160 d_law_160 ?_
  refine lv_aload_n hx hb d_law_161 rfl (lv_at hl 4 rfl) ?_
  refine lv_iload hx hb d_law_162 (lv_at hl 0 rfl) ?_
  refine lv_iconst (v := 2) hx hb d_law_164 (by decide) ?_
  refine lv_iadd hx hb d_law_165 ?_
  obtain ⟨hi166, hE⟩ := hE
  refine va_sld hx hb hXs hbl hbA hS hi166 d_law_166 ?_
  refine lv_aload_n hx hb d_law_167 rfl (lv_at hl 4 rfl) ?_
  refine lv_iload hx hb d_law_168 (lv_at hl 0 rfl) ?_
  refine lv_iconst (v := 3) hx hb d_law_170 (by decide) ?_
  refine lv_iadd hx hb d_law_171 ?_
  obtain ⟨hi172, hE⟩ := hE
  refine va_sld hx hb hXs hbl hbA hS hi172 d_law_172 ?_
  refine lv_aload_n hx hb d_law_173 rfl (lv_at hl 4 rfl) ?_
  refine lv_iload hx hb d_law_174 (lv_at hl 0 rfl) ?_
  refine lv_iconst (v := 4) hx hb d_law_176 (by decide) ?_
  refine lv_iadd hx hb d_law_177 ?_
  obtain ⟨hi178, hE⟩ := hE
  refine va_sld hx hb hXs hbl hbA hS hi178 d_law_178 ?_
  refine lv_aload_n hx hb d_law_179 rfl (lv_at hl 4 rfl) ?_
  refine lv_iload hx hb d_law_180 (lv_at hl 0 rfl) ?_
  refine lv_iconst (v := 5) hx hb d_law_182 (by decide) ?_
  refine lv_iadd hx hb d_law_183 ?_
  obtain ⟨hi184, hE⟩ := hE
  refine va_sld hx hb hXs hbl hbA hS hi184 d_law_184 ?_
  refine lm_v (As := [.int (xs (i + 1).toNatClampNeg), .int (xs (i + 2).toNatClampNeg), .int (xs (i + 3).toNatClampNeg), .int (xs (i + 4).toNatClampNeg), .int (xs (i + 5).toNatClampNeg)]) (rest := []) ⟨hx, hb, hml, hown, hta⟩ (c_M_feed l (dM d) _ τ (xs (i + 1).toNatClampNeg) (xs (i + 2).toNatClampNeg) (xs (i + 3).toNatClampNeg) (xs (i + 4).toNatClampNeg) (xs (i + 5).toNatClampNeg) _ hE) ok_L_41 ⟨Nat.le_of_ble_eq_true rfl, Nat.le_of_ble_eq_true rfl⟩ hL hC hS rfl hl.1 rfl (Nat.le_of_ble_eq_true rfl) d_law_185 hc0 (fun τ185 H locs hE hL hS => ?_)
  refine lv_goto (tgt := 773) hx hb d_law_188 (by decide) ?_
  refine lv_iinc (v := i + 6) (lv' := [(4, .int (i + 6)), (3, .ref (dL d)), (2, .ref (mA (dM d) 0)), (1, .ref (wA (dW d) 0)), (0, .ref b)]) hx hb d_law_773 hl (k := 0) rfl rfl (by decide) rfl (fun ls hl => ?_)
  refine lv_goto (tgt := 23) hx hb d_law_776 (by decide) ?_
  exact ih (i + 6) σ151 τ185 f _ _ _ _ hL hI hS hn0 ls (lv_sub hl [0, 1, 2, 3, 4] rfl) hE
def w_case_1 (N : Nat) (xs : Nat → Int32) (next : Int32 → PPS → MPS → (Nat → Int64) → Prop) (i : Int32) (σ : PPS) (τ : MPS) (f : Nat → Int64) : Prop := (vp_in (i + 1) N ∧ w_X_end σ (xs (i + 1).toNatClampNeg) (fun r198 σ198 => (vp_in (i + 1) N ∧ w_M_end τ (xs (i + 1).toNatClampNeg) (fun r208 τ208 => ((r198 = r208 → next (i + 6) σ198 τ208 f) ∧ (¬ r198 = r208 → False))))))
set_option maxHeartbeats 8000000 in
set_option maxRecDepth 100000 in
theorem law_case_1 {p : Program} {e : Env} {s : State} {m : MethodId} {below : List Frame} {meth : Method} {c : Code} (l : Launch) {b N : Nat} {xs : Nat → Int32} (hls : l.stackTraces = false) (C0 : lw_At p s m meth c b N xs) {d : LD} (hC : LCT d (fun q => s.heap.size ≤ q) s) {n : Nat} {next : Int32 → PPS → MPS → (Nat → Int64) → Prop} (ih : LK p l e s m below meth c b d n next)
    (i : Int32) (σ : PPS) (τ : MPS) (f : Nat → Int64) (H : Heap) (locs : List Loc) (kc ks : Nat) (hL : LST d (fun q => s.heap.size ≤ q) σ τ f H) (hI : inv σ) (hS : va_S (fun q => s.heap.size ≤ q) s.heap H locs) (hn : kc + (n + 1) ≤ 601024 ∧ ks + 6 * (n + 1) ≤ 7293034) (ls : Array Slot) (hl : lv_has ls 7 [(4, .int i), (3, .ref (dL d)), (2, .ref (mA (dM d) 0)), (1, .ref (wA (dW d) 0)), (0, .ref b)]) (hE : w_case_1 N xs next i σ τ f) :
      W p l e room_1 s m #[Value.ref b] below meth c H locs kc ks (lw_Z below #[Value.ref b] s) (F0 m 191 ls []) := by
  obtain ⟨hx, hb, hr, hml, hown, hts, hXs, hbl, hlocks, hgv⟩ := C0
  have hta : ∀ w ∈ aW, w.before #[Value.ref b] s = true := fun w h => hts w (aW_tbl h)
  have hbA : ¬ (s.heap.size ≤ b) := Nat.not_le.mpr hbl
  have hc0 : kc ≤ room_1.cells ∧ ks ≤ room_1.slots := ⟨by show kc ≤ 601024; omega, by show ks ≤ 7293034; omega⟩
  have hc1 : kc + 1 ≤ room_1.cells ∧ ks + 6 ≤ room_1.slots := ⟨by show kc + 1 ≤ 601024; omega, by show ks + 6 ≤ 7293034; omega⟩
  have hcw := hc1
  have hn0 : kc + n ≤ 601024 ∧ ks + 6 * n ≤ 7293034 := by omega
  have hn1 : (kc + 1) + n ≤ 601024 ∧ (ks + 6) + 6 * n ≤ 7293034 := by omega
  unfold w_case_1 at hE
  refine lv_aload_n hx hb d_law_191 rfl (lv_at hl 3 rfl) ?_
  refine lv_aload_n hx hb d_law_192 rfl (lv_at hl 4 rfl) ?_
  refine lv_iload hx hb d_law_193 (lv_at hl 0 rfl) ?_
  refine lv_iconst (v := 1) hx hb d_law_195 (by decide) ?_
  refine lv_iadd hx hb d_law_196 ?_
  obtain ⟨hi197, hE⟩ := hE
  refine va_sld hx hb hXs hbl hbA hS hi197 d_law_197 ?_
  refine lx_i (As := [.int (xs (i + 1).toNatClampNeg)]) (rest := []) ⟨hx, hb, hml, hown, hta⟩ (c_X_end l (dW d) _ σ (xs (i + 1).toNatClampNeg) _ hI hE) ok_L_42 ⟨Nat.le_of_ble_eq_true rfl, Nat.le_of_ble_eq_true rfl⟩ hL hC hS rfl hl.1 rfl (Nat.le_of_ble_eq_true rfl) d_law_198 hc0 (fun r198 σ198 H locs hE hL hS => ?_)
  obtain ⟨hE, hI⟩ := hE
  refine lv_aload_n hx hb d_law_201 rfl (lv_at hl 2 rfl) ?_
  refine lv_aload_n hx hb d_law_202 rfl (lv_at hl 4 rfl) ?_
  refine lv_iload hx hb d_law_203 (lv_at hl 0 rfl) ?_
  refine lv_iconst (v := 1) hx hb d_law_205 (by decide) ?_
  refine lv_iadd hx hb d_law_206 ?_
  obtain ⟨hi207, hE⟩ := hE
  refine va_sld hx hb hXs hbl hbA hS hi207 d_law_207 ?_
  refine lm_i (As := [.int (xs (i + 1).toNatClampNeg)]) (rest := [.int r198]) ⟨hx, hb, hml, hown, hta⟩ (c_M_end l (dM d) _ τ (xs (i + 1).toNatClampNeg) _ hE) ok_L_45 ⟨Nat.le_of_ble_eq_true rfl, Nat.le_of_ble_eq_true rfl⟩ hL hC hS rfl hl.1 rfl (Nat.le_of_ble_eq_true rfl) d_law_208 hc0 (fun r208 τ208 H locs hE hL hS => ?_)
  refine lv_icmp_eq (tgt := 773) hx hb d_law_211 (by decide) (fun cc211 => ?_) (fun cc211 => ?_)
  · have hE := hE.1 cc211
    refine lv_iinc (v := i + 6) (lv' := [(4, .int (i + 6)), (3, .ref (dL d)), (2, .ref (mA (dM d) 0)), (1, .ref (wA (dW d) 0)), (0, .ref b)]) hx hb d_law_773 hl (k := 0) rfl rfl (by decide) rfl (fun ls hl => ?_)
    refine lv_goto (tgt := 23) hx hb d_law_776 (by decide) ?_
    exact ih (i + 6) σ198 τ208 f _ _ _ _ hL hI hS hn0 ls (lv_sub hl [0, 1, 2, 3, 4] rfl) hE
  · have hE := hE.2 cc211
    exact hE.elim
def w_case_2 (N : Nat) (xs : Nat → Int32) (next : Int32 → PPS → MPS → (Nat → Int64) → Prop) (i : Int32) (σ : PPS) (τ : MPS) (f : Nat → Int64) : Prop := w_X_wipe σ  (fun σ217 => w_M_wipe τ  (fun τ221 => next (i + 6) σ217 τ221 f))
set_option maxHeartbeats 8000000 in
set_option maxRecDepth 100000 in
theorem law_case_2 {p : Program} {e : Env} {s : State} {m : MethodId} {below : List Frame} {meth : Method} {c : Code} (l : Launch) {b N : Nat} {xs : Nat → Int32} (hls : l.stackTraces = false) (C0 : lw_At p s m meth c b N xs) {d : LD} (hC : LCT d (fun q => s.heap.size ≤ q) s) {n : Nat} {next : Int32 → PPS → MPS → (Nat → Int64) → Prop} (ih : LK p l e s m below meth c b d n next)
    (i : Int32) (σ : PPS) (τ : MPS) (f : Nat → Int64) (H : Heap) (locs : List Loc) (kc ks : Nat) (hL : LST d (fun q => s.heap.size ≤ q) σ τ f H) (hI : inv σ) (hS : va_S (fun q => s.heap.size ≤ q) s.heap H locs) (hn : kc + (n + 1) ≤ 601024 ∧ ks + 6 * (n + 1) ≤ 7293034) (ls : Array Slot) (hl : lv_has ls 7 [(4, .int i), (3, .ref (dL d)), (2, .ref (mA (dM d) 0)), (1, .ref (wA (dW d) 0)), (0, .ref b)]) (hE : w_case_2 N xs next i σ τ f) :
      W p l e room_1 s m #[Value.ref b] below meth c H locs kc ks (lw_Z below #[Value.ref b] s) (F0 m 216 ls []) := by
  obtain ⟨hx, hb, hr, hml, hown, hts, hXs, hbl, hlocks, hgv⟩ := C0
  have hta : ∀ w ∈ aW, w.before #[Value.ref b] s = true := fun w h => hts w (aW_tbl h)
  have hbA : ¬ (s.heap.size ≤ b) := Nat.not_le.mpr hbl
  have hc0 : kc ≤ room_1.cells ∧ ks ≤ room_1.slots := ⟨by show kc ≤ 601024; omega, by show ks ≤ 7293034; omega⟩
  have hc1 : kc + 1 ≤ room_1.cells ∧ ks + 6 ≤ room_1.slots := ⟨by show kc + 1 ≤ 601024; omega, by show ks + 6 ≤ 7293034; omega⟩
  have hcw := hc1
  have hn0 : kc + n ≤ 601024 ∧ ks + 6 * n ≤ 7293034 := by omega
  have hn1 : (kc + 1) + n ≤ 601024 ∧ (ks + 6) + 6 * n ≤ 7293034 := by omega
  unfold w_case_2 at hE
  refine lv_aload_n hx hb d_law_216 rfl (lv_at hl 3 rfl) ?_
  refine lx_v (As := []) (rest := []) ⟨hx, hb, hml, hown, hta⟩ (c_X_wipe l (dW d) _ σ  _ hI hE) ok_L_46 ⟨Nat.le_of_ble_eq_true rfl, Nat.le_of_ble_eq_true rfl⟩ hL hC hS rfl hl.1 rfl (Nat.le_of_ble_eq_true rfl) d_law_217 hc0 (fun σ217 H locs hE hL hS => ?_)
  obtain ⟨hE, hI⟩ := hE
  refine lv_aload_n hx hb d_law_220 rfl (lv_at hl 2 rfl) ?_
  refine lm_v (As := []) (rest := []) ⟨hx, hb, hml, hown, hta⟩ (c_M_wipe l (dM d) _ τ  _ hE) ok_L_49 ⟨Nat.le_of_ble_eq_true rfl, Nat.le_of_ble_eq_true rfl⟩ hL hC hS rfl hl.1 rfl (Nat.le_of_ble_eq_true rfl) d_law_221 hc0 (fun τ221 H locs hE hL hS => ?_)
  refine lv_goto (tgt := 773) hx hb d_law_224 (by decide) ?_
  refine lv_iinc (v := i + 6) (lv' := [(4, .int (i + 6)), (3, .ref (dL d)), (2, .ref (mA (dM d) 0)), (1, .ref (wA (dW d) 0)), (0, .ref b)]) hx hb d_law_773 hl (k := 0) rfl rfl (by decide) rfl (fun ls hl => ?_)
  refine lv_goto (tgt := 23) hx hb d_law_776 (by decide) ?_
  exact ih (i + 6) σ217 τ221 f _ _ _ _ hL hI hS hn0 ls (lv_sub hl [0, 1, 2, 3, 4] rfl) hE
def w_case_3 (N : Nat) (xs : Nat → Int32) (next : Int32 → PPS → MPS → (Nat → Int64) → Prop) (i : Int32) (σ : PPS) (τ : MPS) (f : Nat → Int64) : Prop := w_L_read σ f  (fun r229 v229 g229 => w_M_read τ  (fun r235 τ235 => (((mp_thrown τ235) = r229 → ((r229 = 0 → (((g229 (0 : Int32).toNatClampNeg) = r235.toInt64 → next (i + 6) v229 τ235 g229) ∧ (¬ (g229 (0 : Int32).toNatClampNeg) = r235.toInt64 → False))) ∧ (¬ r229 = 0 → next (i + 6) v229 τ235 g229))) ∧ (¬ (mp_thrown τ235) = r229 → False))))
set_option maxHeartbeats 8000000 in
set_option maxRecDepth 100000 in
theorem law_case_3 {p : Program} {e : Env} {s : State} {m : MethodId} {below : List Frame} {meth : Method} {c : Code} (l : Launch) {b N : Nat} {xs : Nat → Int32} (hls : l.stackTraces = false) (C0 : lw_At p s m meth c b N xs) {d : LD} (hC : LCT d (fun q => s.heap.size ≤ q) s) {n : Nat} {next : Int32 → PPS → MPS → (Nat → Int64) → Prop} (ih : LK p l e s m below meth c b d n next)
    (i : Int32) (σ : PPS) (τ : MPS) (f : Nat → Int64) (H : Heap) (locs : List Loc) (kc ks : Nat) (hL : LST d (fun q => s.heap.size ≤ q) σ τ f H) (hI : inv σ) (hS : va_S (fun q => s.heap.size ≤ q) s.heap H locs) (hn : kc + (n + 1) ≤ 601024 ∧ ks + 6 * (n + 1) ≤ 7293034) (ls : Array Slot) (hl : lv_has ls 7 [(4, .int i), (3, .ref (dL d)), (2, .ref (mA (dM d) 0)), (1, .ref (wA (dW d) 0)), (0, .ref b)]) (hE : w_case_3 N xs next i σ τ f) :
      W p l e room_1 s m #[Value.ref b] below meth c H locs kc ks (lw_Z below #[Value.ref b] s) (F0 m 227 ls []) := by
  obtain ⟨hx, hb, hr, hml, hown, hts, hXs, hbl, hlocks, hgv⟩ := C0
  have hta : ∀ w ∈ aW, w.before #[Value.ref b] s = true := fun w h => hts w (aW_tbl h)
  have hbA : ¬ (s.heap.size ≤ b) := Nat.not_le.mpr hbl
  have hc0 : kc ≤ room_1.cells ∧ ks ≤ room_1.slots := ⟨by show kc ≤ 601024; omega, by show ks ≤ 7293034; omega⟩
  have hc1 : kc + 1 ≤ room_1.cells ∧ ks + 6 ≤ room_1.slots := ⟨by show kc + 1 ≤ 601024; omega, by show ks + 6 ≤ 7293034; omega⟩
  have hcw := hc1
  have hn0 : kc + n ≤ 601024 ∧ ks + 6 * n ≤ 7293034 := by omega
  have hn1 : (kc + 1) + n ≤ 601024 ∧ (ks + 6) + 6 * n ≤ 7293034 := by omega
  unfold w_case_3 at hE
  refine lv_aload_n hx hb d_law_227 rfl (lv_at hl 3 rfl) ?_
  refine lv_aload_n hx hb d_law_228 rfl (lv_at hl 1 rfl) ?_
  refine ll_i (As := [.ref (wA (dW d) 0), .ref (dL d)]) (rest := []) ⟨hx, hb, hml, hown, hta⟩ (c_L_read l (dW d) (dL d) (dC d) _ σ f  _ hI hls hE) okw_read ⟨Nat.le_of_ble_eq_true rfl, Nat.le_of_ble_eq_true rfl⟩ hL hC hS rfl hl.1 rfl (Nat.le_of_ble_eq_true rfl) d_law_229 hc1 (fun r229 u229 H locs hE hL hS => ?_)
  obtain ⟨v229, g229⟩ := u229
  obtain ⟨hE, hI⟩ := hE
  refine lv_istore (lv' := [(5, .int r229), (4, .int i), (3, .ref (dL d)), (2, .ref (mA (dM d) 0)), (1, .ref (wA (dW d) 0)), (0, .ref b)]) hx hb d_law_232 hl (by decide) rfl (fun ls hl => ?_)
  refine lv_aload_n hx hb d_law_234 rfl (lv_at hl 3 rfl) ?_
  refine lm_i (As := []) (rest := []) ⟨hx, hb, hml, hown, hta⟩ (c_M_read l (dM d) _ τ  _ hE) ok_L_55 ⟨Nat.le_of_ble_eq_true rfl, Nat.le_of_ble_eq_true rfl⟩ hL hC hS rfl hl.1 rfl (Nat.le_of_ble_eq_true rfl) d_law_235 hcw (fun r235 τ235 H locs hE hL hS => ?_)
  refine lv_istore (lv' := [(6, .int r235), (5, .int r229), (4, .int i), (3, .ref (dL d)), (2, .ref (mA (dM d) 0)), (1, .ref (wA (dW d) 0)), (0, .ref b)]) hx hb d_law_238 hl (by decide) rfl (fun ls hl => ?_)
  refine lv_aload_n hx hb d_law_240 rfl (lv_at hl 4 rfl) ?_
  refine lm_r (As := []) (rest := []) ⟨hx, hb, hml, hown, hta⟩ (f_M_thrown l (dM d) τ235 ) ok_L_56 ⟨Nat.le_of_ble_eq_true rfl, Nat.le_of_ble_eq_true rfl⟩ hL hC rfl hl.1 rfl (Nat.le_of_ble_eq_true rfl) d_law_241 hcw (fun r241 hrr => ?_)
  subst hrr
  refine lv_iload hx hb d_law_244 (lv_at hl 1 rfl) ?_
  refine lv_icmp_eq (tgt := 251) hx hb d_law_246 (by decide) (fun cc246 => ?_) (fun cc246 => ?_)
  · have hE := hE.1 cc246
    refine lv_iload hx hb d_law_251 (lv_at hl 1 rfl) ?_
    refine lv_if_ne (tgt := 268) hx hb d_law_253 (by decide) (fun cc253 => ?_) (fun cc253 => ?_)
    · have hE := hE.2 cc253
      refine lv_goto (tgt := 773) hx hb d_law_268 (by decide) ?_
      refine lv_iinc (v := i + 6) (lv' := [(4, .int (i + 6)), (6, .int r235), (5, .int r229), (3, .ref (dL d)), (2, .ref (mA (dM d) 0)), (1, .ref (wA (dW d) 0)), (0, .ref b)]) hx hb d_law_773 hl (k := 2) rfl rfl (by decide) rfl (fun ls hl => ?_)
      refine lv_goto (tgt := 23) hx hb d_law_776 (by decide) ?_
      exact ih (i + 6) v229 τ235 g229 _ _ _ _ hL hI hS hn1 ls (lv_sub hl [0, 3, 4, 5, 6] rfl) hE
    · have hE := hE.1 cc253
      refine lv_aload_n hx hb d_law_256 rfl (lv_at hl 3 rfl) ?_
      refine lv_iconst (v := 0) hx hb d_law_257 (by decide) ?_
      refine va_lald hx hb hC.kL hL.1 0 1 rfl rfl (i := 0) (by unfold vp_in; decide) d_law_258 ?_
      refine lv_iload hx hb d_law_259 (lv_at hl 0 rfl) ?_
      refine lv_i2l hx hb d_law_261 rfl ?_
      refine lv_lcmp_eq (tgt := 268) hx hb d_law_262 d_law_263 (by decide) (fun cc263 => ?_) (fun cc263 => ?_)
      · have hE := hE.1 cc263
        refine lv_goto (tgt := 773) hx hb d_law_268 (by decide) ?_
        refine lv_iinc (v := i + 6) (lv' := [(4, .int (i + 6)), (6, .int r235), (5, .int r229), (3, .ref (dL d)), (2, .ref (mA (dM d) 0)), (1, .ref (wA (dW d) 0)), (0, .ref b)]) hx hb d_law_773 hl (k := 2) rfl rfl (by decide) rfl (fun ls hl => ?_)
        refine lv_goto (tgt := 23) hx hb d_law_776 (by decide) ?_
        exact ih (i + 6) v229 τ235 g229 _ _ _ _ hL hI hS hn1 ls (lv_sub hl [0, 3, 4, 5, 6] rfl) hE
      · have hE := hE.2 cc263
        exact hE.elim
  · have hE := hE.2 cc246
    exact hE.elim
def w_case_4 (N : Nat) (xs : Nat → Int32) (next : Int32 → PPS → MPS → (Nat → Int64) → Prop) (i : Int32) (σ : PPS) (τ : MPS) (f : Nat → Int64) : Prop := w_L_isPage σ f  (fun r273 v273 g273 => w_M_isPage τ  (fun r279 τ279 => (((mp_thrown τ279) = r273 → ((r273 = 0 → ((r279 = 0 → (((g273 (0 : Int32).toNatClampNeg) = (0 : Int64) → next (i + 6) v273 τ279 g273) ∧ (¬ (g273 (0 : Int32).toNatClampNeg) = (0 : Int64) → False))) ∧ (¬ r279 = 0 → (((g273 (0 : Int32).toNatClampNeg) = (1 : Int64) → next (i + 6) v273 τ279 g273) ∧ (¬ (g273 (0 : Int32).toNatClampNeg) = (1 : Int64) → False))))) ∧ (¬ r273 = 0 → next (i + 6) v273 τ279 g273))) ∧ (¬ (mp_thrown τ279) = r273 → False))))
set_option maxHeartbeats 8000000 in
set_option maxRecDepth 100000 in
theorem law_case_4 {p : Program} {e : Env} {s : State} {m : MethodId} {below : List Frame} {meth : Method} {c : Code} (l : Launch) {b N : Nat} {xs : Nat → Int32} (hls : l.stackTraces = false) (C0 : lw_At p s m meth c b N xs) {d : LD} (hC : LCT d (fun q => s.heap.size ≤ q) s) {n : Nat} {next : Int32 → PPS → MPS → (Nat → Int64) → Prop} (ih : LK p l e s m below meth c b d n next)
    (i : Int32) (σ : PPS) (τ : MPS) (f : Nat → Int64) (H : Heap) (locs : List Loc) (kc ks : Nat) (hL : LST d (fun q => s.heap.size ≤ q) σ τ f H) (hI : inv σ) (hS : va_S (fun q => s.heap.size ≤ q) s.heap H locs) (hn : kc + (n + 1) ≤ 601024 ∧ ks + 6 * (n + 1) ≤ 7293034) (ls : Array Slot) (hl : lv_has ls 7 [(4, .int i), (3, .ref (dL d)), (2, .ref (mA (dM d) 0)), (1, .ref (wA (dW d) 0)), (0, .ref b)]) (hE : w_case_4 N xs next i σ τ f) :
      W p l e room_1 s m #[Value.ref b] below meth c H locs kc ks (lw_Z below #[Value.ref b] s) (F0 m 271 ls []) := by
  obtain ⟨hx, hb, hr, hml, hown, hts, hXs, hbl, hlocks, hgv⟩ := C0
  have hta : ∀ w ∈ aW, w.before #[Value.ref b] s = true := fun w h => hts w (aW_tbl h)
  have hbA : ¬ (s.heap.size ≤ b) := Nat.not_le.mpr hbl
  have hc0 : kc ≤ room_1.cells ∧ ks ≤ room_1.slots := ⟨by show kc ≤ 601024; omega, by show ks ≤ 7293034; omega⟩
  have hc1 : kc + 1 ≤ room_1.cells ∧ ks + 6 ≤ room_1.slots := ⟨by show kc + 1 ≤ 601024; omega, by show ks + 6 ≤ 7293034; omega⟩
  have hcw := hc1
  have hn0 : kc + n ≤ 601024 ∧ ks + 6 * n ≤ 7293034 := by omega
  have hn1 : (kc + 1) + n ≤ 601024 ∧ (ks + 6) + 6 * n ≤ 7293034 := by omega
  unfold w_case_4 at hE
  refine lv_aload_n hx hb d_law_271 rfl (lv_at hl 3 rfl) ?_
  refine lv_aload_n hx hb d_law_272 rfl (lv_at hl 1 rfl) ?_
  refine ll_i (As := [.ref (wA (dW d) 0), .ref (dL d)]) (rest := []) ⟨hx, hb, hml, hown, hta⟩ (c_L_isPage l (dW d) (dL d) (dC d) _ σ f  _ hI hls hE) okw_isPage ⟨Nat.le_of_ble_eq_true rfl, Nat.le_of_ble_eq_true rfl⟩ hL hC hS rfl hl.1 rfl (Nat.le_of_ble_eq_true rfl) d_law_273 hc1 (fun r273 u273 H locs hE hL hS => ?_)
  obtain ⟨v273, g273⟩ := u273
  obtain ⟨hE, hI⟩ := hE
  refine lv_istore (lv' := [(5, .int r273), (4, .int i), (3, .ref (dL d)), (2, .ref (mA (dM d) 0)), (1, .ref (wA (dW d) 0)), (0, .ref b)]) hx hb d_law_276 hl (by decide) rfl (fun ls hl => ?_)
  refine lv_aload_n hx hb d_law_278 rfl (lv_at hl 3 rfl) ?_
  refine lm_i (As := []) (rest := []) ⟨hx, hb, hml, hown, hta⟩ (c_M_isPage l (dM d) _ τ  _ hE) ok_L_61 ⟨Nat.le_of_ble_eq_true rfl, Nat.le_of_ble_eq_true rfl⟩ hL hC hS rfl hl.1 rfl (Nat.le_of_ble_eq_true rfl) d_law_279 hcw (fun r279 τ279 H locs hE hL hS => ?_)
  refine lv_istore (lv' := [(6, .int r279), (5, .int r273), (4, .int i), (3, .ref (dL d)), (2, .ref (mA (dM d) 0)), (1, .ref (wA (dW d) 0)), (0, .ref b)]) hx hb d_law_282 hl (by decide) rfl (fun ls hl => ?_)
  refine lv_aload_n hx hb d_law_284 rfl (lv_at hl 4 rfl) ?_
  refine lm_r (As := []) (rest := []) ⟨hx, hb, hml, hown, hta⟩ (f_M_thrown l (dM d) τ279 ) ok_L_56 ⟨Nat.le_of_ble_eq_true rfl, Nat.le_of_ble_eq_true rfl⟩ hL hC rfl hl.1 rfl (Nat.le_of_ble_eq_true rfl) d_law_285 hcw (fun r285 hrr => ?_)
  subst hrr
  refine lv_iload hx hb d_law_288 (lv_at hl 1 rfl) ?_
  refine lv_icmp_eq (tgt := 295) hx hb d_law_290 (by decide) (fun cc290 => ?_) (fun cc290 => ?_)
  · have hE := hE.1 cc290
    refine lv_iload hx hb d_law_295 (lv_at hl 1 rfl) ?_
    refine lv_if_ne (tgt := 319) hx hb d_law_297 (by decide) (fun cc297 => ?_) (fun cc297 => ?_)
    · have hE := hE.2 cc297
      refine lv_goto (tgt := 773) hx hb d_law_319 (by decide) ?_
      refine lv_iinc (v := i + 6) (lv' := [(4, .int (i + 6)), (6, .int r279), (5, .int r273), (3, .ref (dL d)), (2, .ref (mA (dM d) 0)), (1, .ref (wA (dW d) 0)), (0, .ref b)]) hx hb d_law_773 hl (k := 2) rfl rfl (by decide) rfl (fun ls hl => ?_)
      refine lv_goto (tgt := 23) hx hb d_law_776 (by decide) ?_
      exact ih (i + 6) v273 τ279 g273 _ _ _ _ hL hI hS hn1 ls (lv_sub hl [0, 3, 4, 5, 6] rfl) hE
    · have hE := hE.1 cc297
      refine lv_aload_n hx hb d_law_300 rfl (lv_at hl 3 rfl) ?_
      refine lv_iconst (v := 0) hx hb d_law_301 (by decide) ?_
      refine va_lald hx hb hC.kL hL.1 0 1 rfl rfl (i := 0) (by unfold vp_in; decide) d_law_302 ?_
      refine lv_iload hx hb d_law_303 (lv_at hl 0 rfl) ?_
      refine lv_if_eq (tgt := 312) hx hb d_law_305 (by decide) (fun cc305 => ?_) (fun cc305 => ?_)
      · have hE := hE.1 cc305
        refine lv_lconst (v := 0) hx hb d_law_312 (by decide) ?_
        refine lv_lcmp_eq (tgt := 319) hx hb d_law_313 d_law_314 (by decide) (fun cc314 => ?_) (fun cc314 => ?_)
        · have hE := hE.1 cc314
          refine lv_goto (tgt := 773) hx hb d_law_319 (by decide) ?_
          refine lv_iinc (v := i + 6) (lv' := [(4, .int (i + 6)), (6, .int r279), (5, .int r273), (3, .ref (dL d)), (2, .ref (mA (dM d) 0)), (1, .ref (wA (dW d) 0)), (0, .ref b)]) hx hb d_law_773 hl (k := 2) rfl rfl (by decide) rfl (fun ls hl => ?_)
          refine lv_goto (tgt := 23) hx hb d_law_776 (by decide) ?_
          exact ih (i + 6) v273 τ279 g273 _ _ _ _ hL hI hS hn1 ls (lv_sub hl [0, 3, 4, 5, 6] rfl) hE
        · have hE := hE.2 cc314
          exact hE.elim
      · have hE := hE.2 cc305
        refine lv_lconst (v := 1) hx hb d_law_308 (by decide) ?_
        refine lv_goto (tgt := 313) hx hb d_law_309 (by decide) ?_
        refine lv_lcmp_eq (tgt := 319) hx hb d_law_313 d_law_314 (by decide) (fun cc314 => ?_) (fun cc314 => ?_)
        · have hE := hE.1 cc314
          refine lv_goto (tgt := 773) hx hb d_law_319 (by decide) ?_
          refine lv_iinc (v := i + 6) (lv' := [(4, .int (i + 6)), (6, .int r279), (5, .int r273), (3, .ref (dL d)), (2, .ref (mA (dM d) 0)), (1, .ref (wA (dW d) 0)), (0, .ref b)]) hx hb d_law_773 hl (k := 2) rfl rfl (by decide) rfl (fun ls hl => ?_)
          refine lv_goto (tgt := 23) hx hb d_law_776 (by decide) ?_
          exact ih (i + 6) v273 τ279 g273 _ _ _ _ hL hI hS hn1 ls (lv_sub hl [0, 3, 4, 5, 6] rfl) hE
        · have hE := hE.2 cc314
          exact hE.elim
  · have hE := hE.2 cc290
    exact hE.elim
def w_case_5 (N : Nat) (xs : Nat → Int32) (next : Int32 → PPS → MPS → (Nat → Int64) → Prop) (i : Int32) (σ : PPS) (τ : MPS) (f : Nat → Int64) : Prop := w_L_isLinked σ f  (fun r324 v324 g324 => w_M_isLinked τ  (fun r330 τ330 => (((mp_thrown τ330) = r324 → ((r324 = 0 → ((r330 = 0 → (((g324 (0 : Int32).toNatClampNeg) = (0 : Int64) → next (i + 6) v324 τ330 g324) ∧ (¬ (g324 (0 : Int32).toNatClampNeg) = (0 : Int64) → False))) ∧ (¬ r330 = 0 → (((g324 (0 : Int32).toNatClampNeg) = (1 : Int64) → next (i + 6) v324 τ330 g324) ∧ (¬ (g324 (0 : Int32).toNatClampNeg) = (1 : Int64) → False))))) ∧ (¬ r324 = 0 → next (i + 6) v324 τ330 g324))) ∧ (¬ (mp_thrown τ330) = r324 → False))))
set_option maxHeartbeats 8000000 in
set_option maxRecDepth 100000 in
theorem law_case_5 {p : Program} {e : Env} {s : State} {m : MethodId} {below : List Frame} {meth : Method} {c : Code} (l : Launch) {b N : Nat} {xs : Nat → Int32} (hls : l.stackTraces = false) (C0 : lw_At p s m meth c b N xs) {d : LD} (hC : LCT d (fun q => s.heap.size ≤ q) s) {n : Nat} {next : Int32 → PPS → MPS → (Nat → Int64) → Prop} (ih : LK p l e s m below meth c b d n next)
    (i : Int32) (σ : PPS) (τ : MPS) (f : Nat → Int64) (H : Heap) (locs : List Loc) (kc ks : Nat) (hL : LST d (fun q => s.heap.size ≤ q) σ τ f H) (hI : inv σ) (hS : va_S (fun q => s.heap.size ≤ q) s.heap H locs) (hn : kc + (n + 1) ≤ 601024 ∧ ks + 6 * (n + 1) ≤ 7293034) (ls : Array Slot) (hl : lv_has ls 7 [(4, .int i), (3, .ref (dL d)), (2, .ref (mA (dM d) 0)), (1, .ref (wA (dW d) 0)), (0, .ref b)]) (hE : w_case_5 N xs next i σ τ f) :
      W p l e room_1 s m #[Value.ref b] below meth c H locs kc ks (lw_Z below #[Value.ref b] s) (F0 m 322 ls []) := by
  obtain ⟨hx, hb, hr, hml, hown, hts, hXs, hbl, hlocks, hgv⟩ := C0
  have hta : ∀ w ∈ aW, w.before #[Value.ref b] s = true := fun w h => hts w (aW_tbl h)
  have hbA : ¬ (s.heap.size ≤ b) := Nat.not_le.mpr hbl
  have hc0 : kc ≤ room_1.cells ∧ ks ≤ room_1.slots := ⟨by show kc ≤ 601024; omega, by show ks ≤ 7293034; omega⟩
  have hc1 : kc + 1 ≤ room_1.cells ∧ ks + 6 ≤ room_1.slots := ⟨by show kc + 1 ≤ 601024; omega, by show ks + 6 ≤ 7293034; omega⟩
  have hcw := hc1
  have hn0 : kc + n ≤ 601024 ∧ ks + 6 * n ≤ 7293034 := by omega
  have hn1 : (kc + 1) + n ≤ 601024 ∧ (ks + 6) + 6 * n ≤ 7293034 := by omega
  unfold w_case_5 at hE
  refine lv_aload_n hx hb d_law_322 rfl (lv_at hl 3 rfl) ?_
  refine lv_aload_n hx hb d_law_323 rfl (lv_at hl 1 rfl) ?_
  refine ll_i (As := [.ref (wA (dW d) 0), .ref (dL d)]) (rest := []) ⟨hx, hb, hml, hown, hta⟩ (c_L_isLinked l (dW d) (dL d) (dC d) _ σ f  _ hI hls hE) okw_isLinked ⟨Nat.le_of_ble_eq_true rfl, Nat.le_of_ble_eq_true rfl⟩ hL hC hS rfl hl.1 rfl (Nat.le_of_ble_eq_true rfl) d_law_324 hc1 (fun r324 u324 H locs hE hL hS => ?_)
  obtain ⟨v324, g324⟩ := u324
  obtain ⟨hE, hI⟩ := hE
  refine lv_istore (lv' := [(5, .int r324), (4, .int i), (3, .ref (dL d)), (2, .ref (mA (dM d) 0)), (1, .ref (wA (dW d) 0)), (0, .ref b)]) hx hb d_law_327 hl (by decide) rfl (fun ls hl => ?_)
  refine lv_aload_n hx hb d_law_329 rfl (lv_at hl 3 rfl) ?_
  refine lm_i (As := []) (rest := []) ⟨hx, hb, hml, hown, hta⟩ (c_M_isLinked l (dM d) _ τ  _ hE) ok_L_64 ⟨Nat.le_of_ble_eq_true rfl, Nat.le_of_ble_eq_true rfl⟩ hL hC hS rfl hl.1 rfl (Nat.le_of_ble_eq_true rfl) d_law_330 hcw (fun r330 τ330 H locs hE hL hS => ?_)
  refine lv_istore (lv' := [(6, .int r330), (5, .int r324), (4, .int i), (3, .ref (dL d)), (2, .ref (mA (dM d) 0)), (1, .ref (wA (dW d) 0)), (0, .ref b)]) hx hb d_law_333 hl (by decide) rfl (fun ls hl => ?_)
  refine lv_aload_n hx hb d_law_335 rfl (lv_at hl 4 rfl) ?_
  refine lm_r (As := []) (rest := []) ⟨hx, hb, hml, hown, hta⟩ (f_M_thrown l (dM d) τ330 ) ok_L_56 ⟨Nat.le_of_ble_eq_true rfl, Nat.le_of_ble_eq_true rfl⟩ hL hC rfl hl.1 rfl (Nat.le_of_ble_eq_true rfl) d_law_336 hcw (fun r336 hrr => ?_)
  subst hrr
  refine lv_iload hx hb d_law_339 (lv_at hl 1 rfl) ?_
  refine lv_icmp_eq (tgt := 346) hx hb d_law_341 (by decide) (fun cc341 => ?_) (fun cc341 => ?_)
  · have hE := hE.1 cc341
    refine lv_iload hx hb d_law_346 (lv_at hl 1 rfl) ?_
    refine lv_if_ne (tgt := 370) hx hb d_law_348 (by decide) (fun cc348 => ?_) (fun cc348 => ?_)
    · have hE := hE.2 cc348
      refine lv_goto (tgt := 773) hx hb d_law_370 (by decide) ?_
      refine lv_iinc (v := i + 6) (lv' := [(4, .int (i + 6)), (6, .int r330), (5, .int r324), (3, .ref (dL d)), (2, .ref (mA (dM d) 0)), (1, .ref (wA (dW d) 0)), (0, .ref b)]) hx hb d_law_773 hl (k := 2) rfl rfl (by decide) rfl (fun ls hl => ?_)
      refine lv_goto (tgt := 23) hx hb d_law_776 (by decide) ?_
      exact ih (i + 6) v324 τ330 g324 _ _ _ _ hL hI hS hn1 ls (lv_sub hl [0, 3, 4, 5, 6] rfl) hE
    · have hE := hE.1 cc348
      refine lv_aload_n hx hb d_law_351 rfl (lv_at hl 3 rfl) ?_
      refine lv_iconst (v := 0) hx hb d_law_352 (by decide) ?_
      refine va_lald hx hb hC.kL hL.1 0 1 rfl rfl (i := 0) (by unfold vp_in; decide) d_law_353 ?_
      refine lv_iload hx hb d_law_354 (lv_at hl 0 rfl) ?_
      refine lv_if_eq (tgt := 363) hx hb d_law_356 (by decide) (fun cc356 => ?_) (fun cc356 => ?_)
      · have hE := hE.1 cc356
        refine lv_lconst (v := 0) hx hb d_law_363 (by decide) ?_
        refine lv_lcmp_eq (tgt := 370) hx hb d_law_364 d_law_365 (by decide) (fun cc365 => ?_) (fun cc365 => ?_)
        · have hE := hE.1 cc365
          refine lv_goto (tgt := 773) hx hb d_law_370 (by decide) ?_
          refine lv_iinc (v := i + 6) (lv' := [(4, .int (i + 6)), (6, .int r330), (5, .int r324), (3, .ref (dL d)), (2, .ref (mA (dM d) 0)), (1, .ref (wA (dW d) 0)), (0, .ref b)]) hx hb d_law_773 hl (k := 2) rfl rfl (by decide) rfl (fun ls hl => ?_)
          refine lv_goto (tgt := 23) hx hb d_law_776 (by decide) ?_
          exact ih (i + 6) v324 τ330 g324 _ _ _ _ hL hI hS hn1 ls (lv_sub hl [0, 3, 4, 5, 6] rfl) hE
        · have hE := hE.2 cc365
          exact hE.elim
      · have hE := hE.2 cc356
        refine lv_lconst (v := 1) hx hb d_law_359 (by decide) ?_
        refine lv_goto (tgt := 364) hx hb d_law_360 (by decide) ?_
        refine lv_lcmp_eq (tgt := 370) hx hb d_law_364 d_law_365 (by decide) (fun cc365 => ?_) (fun cc365 => ?_)
        · have hE := hE.1 cc365
          refine lv_goto (tgt := 773) hx hb d_law_370 (by decide) ?_
          refine lv_iinc (v := i + 6) (lv' := [(4, .int (i + 6)), (6, .int r330), (5, .int r324), (3, .ref (dL d)), (2, .ref (mA (dM d) 0)), (1, .ref (wA (dW d) 0)), (0, .ref b)]) hx hb d_law_773 hl (k := 2) rfl rfl (by decide) rfl (fun ls hl => ?_)
          refine lv_goto (tgt := 23) hx hb d_law_776 (by decide) ?_
          exact ih (i + 6) v324 τ330 g324 _ _ _ _ hL hI hS hn1 ls (lv_sub hl [0, 3, 4, 5, 6] rfl) hE
        · have hE := hE.2 cc365
          exact hE.elim
  · have hE := hE.2 cc341
    exact hE.elim
def w_case_6 (N : Nat) (xs : Nat → Int32) (next : Int32 → PPS → MPS → (Nat → Int64) → Prop) (i : Int32) (σ : PPS) (τ : MPS) (f : Nat → Int64) : Prop := (vp_in (i + 1) N ∧ w_X_fault σ (xs (i + 1).toNatClampNeg) (fun r380 => (vp_in (i + 1) N ∧ w_M_fault τ (xs (i + 1).toNatClampNeg) (fun r390 τ390 => ((r380 = r390 → next (i + 6) σ τ390 f) ∧ (¬ r380 = r390 → False))))))
set_option maxHeartbeats 8000000 in
set_option maxRecDepth 100000 in
theorem law_case_6 {p : Program} {e : Env} {s : State} {m : MethodId} {below : List Frame} {meth : Method} {c : Code} (l : Launch) {b N : Nat} {xs : Nat → Int32} (hls : l.stackTraces = false) (C0 : lw_At p s m meth c b N xs) {d : LD} (hC : LCT d (fun q => s.heap.size ≤ q) s) {n : Nat} {next : Int32 → PPS → MPS → (Nat → Int64) → Prop} (ih : LK p l e s m below meth c b d n next)
    (i : Int32) (σ : PPS) (τ : MPS) (f : Nat → Int64) (H : Heap) (locs : List Loc) (kc ks : Nat) (hL : LST d (fun q => s.heap.size ≤ q) σ τ f H) (hI : inv σ) (hS : va_S (fun q => s.heap.size ≤ q) s.heap H locs) (hn : kc + (n + 1) ≤ 601024 ∧ ks + 6 * (n + 1) ≤ 7293034) (ls : Array Slot) (hl : lv_has ls 7 [(4, .int i), (3, .ref (dL d)), (2, .ref (mA (dM d) 0)), (1, .ref (wA (dW d) 0)), (0, .ref b)]) (hE : w_case_6 N xs next i σ τ f) :
      W p l e room_1 s m #[Value.ref b] below meth c H locs kc ks (lw_Z below #[Value.ref b] s) (F0 m 373 ls []) := by
  obtain ⟨hx, hb, hr, hml, hown, hts, hXs, hbl, hlocks, hgv⟩ := C0
  have hta : ∀ w ∈ aW, w.before #[Value.ref b] s = true := fun w h => hts w (aW_tbl h)
  have hbA : ¬ (s.heap.size ≤ b) := Nat.not_le.mpr hbl
  have hc0 : kc ≤ room_1.cells ∧ ks ≤ room_1.slots := ⟨by show kc ≤ 601024; omega, by show ks ≤ 7293034; omega⟩
  have hc1 : kc + 1 ≤ room_1.cells ∧ ks + 6 ≤ room_1.slots := ⟨by show kc + 1 ≤ 601024; omega, by show ks + 6 ≤ 7293034; omega⟩
  have hcw := hc1
  have hn0 : kc + n ≤ 601024 ∧ ks + 6 * n ≤ 7293034 := by omega
  have hn1 : (kc + 1) + n ≤ 601024 ∧ (ks + 6) + 6 * n ≤ 7293034 := by omega
  unfold w_case_6 at hE
  refine lv_aload_n hx hb d_law_373 rfl (lv_at hl 3 rfl) ?_
  refine lv_aload_n hx hb d_law_374 rfl (lv_at hl 4 rfl) ?_
  refine lv_iload hx hb d_law_375 (lv_at hl 0 rfl) ?_
  refine lv_iconst (v := 1) hx hb d_law_377 (by decide) ?_
  refine lv_iadd hx hb d_law_378 ?_
  obtain ⟨hi379, hE⟩ := hE
  refine va_sld hx hb hXs hbl hbA hS hi379 d_law_379 ?_
  refine lx_r (As := [.int (xs (i + 1).toNatClampNeg)]) (rest := []) ⟨hx, hb, hml, hown, hta⟩ (c_X_fault l (dW d) σ (xs (i + 1).toNatClampNeg) _ hI hE) ok_L_65 ⟨Nat.le_of_ble_eq_true rfl, Nat.le_of_ble_eq_true rfl⟩ hL hC hS rfl hl.1 rfl (Nat.le_of_ble_eq_true rfl) d_law_380 hc0 (fun r380 hE => ?_)
  refine lv_aload_n hx hb d_law_383 rfl (lv_at hl 2 rfl) ?_
  refine lv_aload_n hx hb d_law_384 rfl (lv_at hl 4 rfl) ?_
  refine lv_iload hx hb d_law_385 (lv_at hl 0 rfl) ?_
  refine lv_iconst (v := 1) hx hb d_law_387 (by decide) ?_
  refine lv_iadd hx hb d_law_388 ?_
  obtain ⟨hi389, hE⟩ := hE
  refine va_sld hx hb hXs hbl hbA hS hi389 d_law_389 ?_
  refine lm_i (As := [.int (xs (i + 1).toNatClampNeg)]) (rest := [.int r380]) ⟨hx, hb, hml, hown, hta⟩ (c_M_fault l (dM d) _ τ (xs (i + 1).toNatClampNeg) _ hE) ok_L_68 ⟨Nat.le_of_ble_eq_true rfl, Nat.le_of_ble_eq_true rfl⟩ hL hC hS rfl hl.1 rfl (Nat.le_of_ble_eq_true rfl) d_law_390 hc0 (fun r390 τ390 H locs hE hL hS => ?_)
  refine lv_icmp_eq (tgt := 773) hx hb d_law_393 (by decide) (fun cc393 => ?_) (fun cc393 => ?_)
  · have hE := hE.1 cc393
    refine lv_iinc (v := i + 6) (lv' := [(4, .int (i + 6)), (3, .ref (dL d)), (2, .ref (mA (dM d) 0)), (1, .ref (wA (dW d) 0)), (0, .ref b)]) hx hb d_law_773 hl (k := 0) rfl rfl (by decide) rfl (fun ls hl => ?_)
    refine lv_goto (tgt := 23) hx hb d_law_776 (by decide) ?_
    exact ih (i + 6) σ τ390 f _ _ _ _ hL hI hS hn0 ls (lv_sub hl [0, 1, 2, 3, 4] rfl) hE
  · have hE := hE.2 cc393
    exact hE.elim
def w_case_7 (N : Nat) (xs : Nat → Int32) (next : Int32 → PPS → MPS → (Nat → Int64) → Prop) (i : Int32) (σ : PPS) (τ : MPS) (f : Nat → Int64) : Prop := (vp_in (i + 1) N ∧ (vp_in (i + 2) N ∧ w_X_node σ (xs (i + 1).toNatClampNeg) (xs (i + 2).toNatClampNeg) (fun r411 => (vp_in (i + 1) N ∧ (vp_in (i + 2) N ∧ w_M_node τ (xs (i + 1).toNatClampNeg) (xs (i + 2).toNatClampNeg) (fun r427 τ427 => ((r411 = r427 → next (i + 6) σ τ427 f) ∧ (¬ r411 = r427 → False))))))))
set_option maxHeartbeats 8000000 in
set_option maxRecDepth 100000 in
theorem law_case_7 {p : Program} {e : Env} {s : State} {m : MethodId} {below : List Frame} {meth : Method} {c : Code} (l : Launch) {b N : Nat} {xs : Nat → Int32} (hls : l.stackTraces = false) (C0 : lw_At p s m meth c b N xs) {d : LD} (hC : LCT d (fun q => s.heap.size ≤ q) s) {n : Nat} {next : Int32 → PPS → MPS → (Nat → Int64) → Prop} (ih : LK p l e s m below meth c b d n next)
    (i : Int32) (σ : PPS) (τ : MPS) (f : Nat → Int64) (H : Heap) (locs : List Loc) (kc ks : Nat) (hL : LST d (fun q => s.heap.size ≤ q) σ τ f H) (hI : inv σ) (hS : va_S (fun q => s.heap.size ≤ q) s.heap H locs) (hn : kc + (n + 1) ≤ 601024 ∧ ks + 6 * (n + 1) ≤ 7293034) (ls : Array Slot) (hl : lv_has ls 7 [(4, .int i), (3, .ref (dL d)), (2, .ref (mA (dM d) 0)), (1, .ref (wA (dW d) 0)), (0, .ref b)]) (hE : w_case_7 N xs next i σ τ f) :
      W p l e room_1 s m #[Value.ref b] below meth c H locs kc ks (lw_Z below #[Value.ref b] s) (F0 m 398 ls []) := by
  obtain ⟨hx, hb, hr, hml, hown, hts, hXs, hbl, hlocks, hgv⟩ := C0
  have hta : ∀ w ∈ aW, w.before #[Value.ref b] s = true := fun w h => hts w (aW_tbl h)
  have hbA : ¬ (s.heap.size ≤ b) := Nat.not_le.mpr hbl
  have hc0 : kc ≤ room_1.cells ∧ ks ≤ room_1.slots := ⟨by show kc ≤ 601024; omega, by show ks ≤ 7293034; omega⟩
  have hc1 : kc + 1 ≤ room_1.cells ∧ ks + 6 ≤ room_1.slots := ⟨by show kc + 1 ≤ 601024; omega, by show ks + 6 ≤ 7293034; omega⟩
  have hcw := hc1
  have hn0 : kc + n ≤ 601024 ∧ ks + 6 * n ≤ 7293034 := by omega
  have hn1 : (kc + 1) + n ≤ 601024 ∧ (ks + 6) + 6 * n ≤ 7293034 := by omega
  unfold w_case_7 at hE
  refine lv_aload_n hx hb d_law_398 rfl (lv_at hl 3 rfl) ?_
  refine lv_aload_n hx hb d_law_399 rfl (lv_at hl 4 rfl) ?_
  refine lv_iload hx hb d_law_400 (lv_at hl 0 rfl) ?_
  refine lv_iconst (v := 1) hx hb d_law_402 (by decide) ?_
  refine lv_iadd hx hb d_law_403 ?_
  obtain ⟨hi404, hE⟩ := hE
  refine va_sld hx hb hXs hbl hbA hS hi404 d_law_404 ?_
  refine lv_aload_n hx hb d_law_405 rfl (lv_at hl 4 rfl) ?_
  refine lv_iload hx hb d_law_406 (lv_at hl 0 rfl) ?_
  refine lv_iconst (v := 2) hx hb d_law_408 (by decide) ?_
  refine lv_iadd hx hb d_law_409 ?_
  obtain ⟨hi410, hE⟩ := hE
  refine va_sld hx hb hXs hbl hbA hS hi410 d_law_410 ?_
  refine lx_r (As := [.int (xs (i + 1).toNatClampNeg), .int (xs (i + 2).toNatClampNeg)]) (rest := []) ⟨hx, hb, hml, hown, hta⟩ (c_X_node l (dW d) σ (xs (i + 1).toNatClampNeg) (xs (i + 2).toNatClampNeg) _ hI hE) ok_L_69 ⟨Nat.le_of_ble_eq_true rfl, Nat.le_of_ble_eq_true rfl⟩ hL hC hS rfl hl.1 rfl (Nat.le_of_ble_eq_true rfl) d_law_411 hc0 (fun r411 hE => ?_)
  refine lv_aload_n hx hb d_law_414 rfl (lv_at hl 2 rfl) ?_
  refine lv_aload_n hx hb d_law_415 rfl (lv_at hl 4 rfl) ?_
  refine lv_iload hx hb d_law_416 (lv_at hl 0 rfl) ?_
  refine lv_iconst (v := 1) hx hb d_law_418 (by decide) ?_
  refine lv_iadd hx hb d_law_419 ?_
  obtain ⟨hi420, hE⟩ := hE
  refine va_sld hx hb hXs hbl hbA hS hi420 d_law_420 ?_
  refine lv_aload_n hx hb d_law_421 rfl (lv_at hl 4 rfl) ?_
  refine lv_iload hx hb d_law_422 (lv_at hl 0 rfl) ?_
  refine lv_iconst (v := 2) hx hb d_law_424 (by decide) ?_
  refine lv_iadd hx hb d_law_425 ?_
  obtain ⟨hi426, hE⟩ := hE
  refine va_sld hx hb hXs hbl hbA hS hi426 d_law_426 ?_
  refine lm_i (As := [.int (xs (i + 1).toNatClampNeg), .int (xs (i + 2).toNatClampNeg)]) (rest := [.int r411]) ⟨hx, hb, hml, hown, hta⟩ (c_M_node l (dM d) _ τ (xs (i + 1).toNatClampNeg) (xs (i + 2).toNatClampNeg) _ hE) ok_L_73 ⟨Nat.le_of_ble_eq_true rfl, Nat.le_of_ble_eq_true rfl⟩ hL hC hS rfl hl.1 rfl (Nat.le_of_ble_eq_true rfl) d_law_427 hc0 (fun r427 τ427 H locs hE hL hS => ?_)
  refine lv_icmp_eq (tgt := 773) hx hb d_law_430 (by decide) (fun cc430 => ?_) (fun cc430 => ?_)
  · have hE := hE.1 cc430
    refine lv_iinc (v := i + 6) (lv' := [(4, .int (i + 6)), (3, .ref (dL d)), (2, .ref (mA (dM d) 0)), (1, .ref (wA (dW d) 0)), (0, .ref b)]) hx hb d_law_773 hl (k := 0) rfl rfl (by decide) rfl (fun ls hl => ?_)
    refine lv_goto (tgt := 23) hx hb d_law_776 (by decide) ?_
    exact ih (i + 6) σ τ427 f _ _ _ _ hL hI hS hn0 ls (lv_sub hl [0, 1, 2, 3, 4] rfl) hE
  · have hE := hE.2 cc430
    exact hE.elim
def w_case_8 (N : Nat) (xs : Nat → Int32) (next : Int32 → PPS → MPS → (Nat → Int64) → Prop) (i : Int32) (σ : PPS) (τ : MPS) (f : Nat → Int64) : Prop := (vp_in (i + 1) N ∧ (vp_in (i + 2) N ∧ w_X_letter σ (xs (i + 1).toNatClampNeg) (xs (i + 2).toNatClampNeg) (fun r448 => (vp_in (i + 1) N ∧ (vp_in (i + 2) N ∧ w_M_letter τ (xs (i + 1).toNatClampNeg) (xs (i + 2).toNatClampNeg) (fun r464 τ464 => ((r448 = r464 → next (i + 6) σ τ464 f) ∧ (¬ r448 = r464 → False))))))))
set_option maxHeartbeats 8000000 in
set_option maxRecDepth 100000 in
theorem law_case_8 {p : Program} {e : Env} {s : State} {m : MethodId} {below : List Frame} {meth : Method} {c : Code} (l : Launch) {b N : Nat} {xs : Nat → Int32} (hls : l.stackTraces = false) (C0 : lw_At p s m meth c b N xs) {d : LD} (hC : LCT d (fun q => s.heap.size ≤ q) s) {n : Nat} {next : Int32 → PPS → MPS → (Nat → Int64) → Prop} (ih : LK p l e s m below meth c b d n next)
    (i : Int32) (σ : PPS) (τ : MPS) (f : Nat → Int64) (H : Heap) (locs : List Loc) (kc ks : Nat) (hL : LST d (fun q => s.heap.size ≤ q) σ τ f H) (hI : inv σ) (hS : va_S (fun q => s.heap.size ≤ q) s.heap H locs) (hn : kc + (n + 1) ≤ 601024 ∧ ks + 6 * (n + 1) ≤ 7293034) (ls : Array Slot) (hl : lv_has ls 7 [(4, .int i), (3, .ref (dL d)), (2, .ref (mA (dM d) 0)), (1, .ref (wA (dW d) 0)), (0, .ref b)]) (hE : w_case_8 N xs next i σ τ f) :
      W p l e room_1 s m #[Value.ref b] below meth c H locs kc ks (lw_Z below #[Value.ref b] s) (F0 m 435 ls []) := by
  obtain ⟨hx, hb, hr, hml, hown, hts, hXs, hbl, hlocks, hgv⟩ := C0
  have hta : ∀ w ∈ aW, w.before #[Value.ref b] s = true := fun w h => hts w (aW_tbl h)
  have hbA : ¬ (s.heap.size ≤ b) := Nat.not_le.mpr hbl
  have hc0 : kc ≤ room_1.cells ∧ ks ≤ room_1.slots := ⟨by show kc ≤ 601024; omega, by show ks ≤ 7293034; omega⟩
  have hc1 : kc + 1 ≤ room_1.cells ∧ ks + 6 ≤ room_1.slots := ⟨by show kc + 1 ≤ 601024; omega, by show ks + 6 ≤ 7293034; omega⟩
  have hcw := hc1
  have hn0 : kc + n ≤ 601024 ∧ ks + 6 * n ≤ 7293034 := by omega
  have hn1 : (kc + 1) + n ≤ 601024 ∧ (ks + 6) + 6 * n ≤ 7293034 := by omega
  unfold w_case_8 at hE
  refine lv_aload_n hx hb d_law_435 rfl (lv_at hl 3 rfl) ?_
  refine lv_aload_n hx hb d_law_436 rfl (lv_at hl 4 rfl) ?_
  refine lv_iload hx hb d_law_437 (lv_at hl 0 rfl) ?_
  refine lv_iconst (v := 1) hx hb d_law_439 (by decide) ?_
  refine lv_iadd hx hb d_law_440 ?_
  obtain ⟨hi441, hE⟩ := hE
  refine va_sld hx hb hXs hbl hbA hS hi441 d_law_441 ?_
  refine lv_aload_n hx hb d_law_442 rfl (lv_at hl 4 rfl) ?_
  refine lv_iload hx hb d_law_443 (lv_at hl 0 rfl) ?_
  refine lv_iconst (v := 2) hx hb d_law_445 (by decide) ?_
  refine lv_iadd hx hb d_law_446 ?_
  obtain ⟨hi447, hE⟩ := hE
  refine va_sld hx hb hXs hbl hbA hS hi447 d_law_447 ?_
  refine lx_r (As := [.int (xs (i + 1).toNatClampNeg), .int (xs (i + 2).toNatClampNeg)]) (rest := []) ⟨hx, hb, hml, hown, hta⟩ (c_X_letter l (dW d) σ (xs (i + 1).toNatClampNeg) (xs (i + 2).toNatClampNeg) _ hI hE) ok_L_74 ⟨Nat.le_of_ble_eq_true rfl, Nat.le_of_ble_eq_true rfl⟩ hL hC hS rfl hl.1 rfl (Nat.le_of_ble_eq_true rfl) d_law_448 hc0 (fun r448 hE => ?_)
  refine lv_aload_n hx hb d_law_451 rfl (lv_at hl 2 rfl) ?_
  refine lv_aload_n hx hb d_law_452 rfl (lv_at hl 4 rfl) ?_
  refine lv_iload hx hb d_law_453 (lv_at hl 0 rfl) ?_
  refine lv_iconst (v := 1) hx hb d_law_455 (by decide) ?_
  refine lv_iadd hx hb d_law_456 ?_
  obtain ⟨hi457, hE⟩ := hE
  refine va_sld hx hb hXs hbl hbA hS hi457 d_law_457 ?_
  refine lv_aload_n hx hb d_law_458 rfl (lv_at hl 4 rfl) ?_
  refine lv_iload hx hb d_law_459 (lv_at hl 0 rfl) ?_
  refine lv_iconst (v := 2) hx hb d_law_461 (by decide) ?_
  refine lv_iadd hx hb d_law_462 ?_
  obtain ⟨hi463, hE⟩ := hE
  refine va_sld hx hb hXs hbl hbA hS hi463 d_law_463 ?_
  refine lm_i (As := [.int (xs (i + 1).toNatClampNeg), .int (xs (i + 2).toNatClampNeg)]) (rest := [.int r448]) ⟨hx, hb, hml, hown, hta⟩ (c_M_letter l (dM d) _ τ (xs (i + 1).toNatClampNeg) (xs (i + 2).toNatClampNeg) _ hE) ok_L_77 ⟨Nat.le_of_ble_eq_true rfl, Nat.le_of_ble_eq_true rfl⟩ hL hC hS rfl hl.1 rfl (Nat.le_of_ble_eq_true rfl) d_law_464 hc0 (fun r464 τ464 H locs hE hL hS => ?_)
  refine lv_icmp_eq (tgt := 773) hx hb d_law_467 (by decide) (fun cc467 => ?_) (fun cc467 => ?_)
  · have hE := hE.1 cc467
    refine lv_iinc (v := i + 6) (lv' := [(4, .int (i + 6)), (3, .ref (dL d)), (2, .ref (mA (dM d) 0)), (1, .ref (wA (dW d) 0)), (0, .ref b)]) hx hb d_law_773 hl (k := 0) rfl rfl (by decide) rfl (fun ls hl => ?_)
    refine lv_goto (tgt := 23) hx hb d_law_776 (by decide) ?_
    exact ih (i + 6) σ τ464 f _ _ _ _ hL hI hS hn0 ls (lv_sub hl [0, 1, 2, 3, 4] rfl) hE
  · have hE := hE.2 cc467
    exact hE.elim
def w_case_9 (N : Nat) (xs : Nat → Int32) (next : Int32 → PPS → MPS → (Nat → Int64) → Prop) (i : Int32) (σ : PPS) (τ : MPS) (f : Nat → Int64) : Prop := (vp_in (i + 1) N ∧ (vp_in (i + 2) N ∧ (vp_in (i + 3) N ∧ w_X_attribute σ (xs (i + 1).toNatClampNeg) (xs (i + 2).toNatClampNeg) (xs (i + 3).toNatClampNeg) (fun r491 => (vp_in (i + 1) N ∧ (vp_in (i + 2) N ∧ (vp_in (i + 3) N ∧ w_M_attribute τ (xs (i + 1).toNatClampNeg) (xs (i + 2).toNatClampNeg) (xs (i + 3).toNatClampNeg) (fun r513 τ513 => ((r491 = r513 → next (i + 6) σ τ513 f) ∧ (¬ r491 = r513 → False))))))))))
set_option maxHeartbeats 8000000 in
set_option maxRecDepth 100000 in
theorem law_case_9 {p : Program} {e : Env} {s : State} {m : MethodId} {below : List Frame} {meth : Method} {c : Code} (l : Launch) {b N : Nat} {xs : Nat → Int32} (hls : l.stackTraces = false) (C0 : lw_At p s m meth c b N xs) {d : LD} (hC : LCT d (fun q => s.heap.size ≤ q) s) {n : Nat} {next : Int32 → PPS → MPS → (Nat → Int64) → Prop} (ih : LK p l e s m below meth c b d n next)
    (i : Int32) (σ : PPS) (τ : MPS) (f : Nat → Int64) (H : Heap) (locs : List Loc) (kc ks : Nat) (hL : LST d (fun q => s.heap.size ≤ q) σ τ f H) (hI : inv σ) (hS : va_S (fun q => s.heap.size ≤ q) s.heap H locs) (hn : kc + (n + 1) ≤ 601024 ∧ ks + 6 * (n + 1) ≤ 7293034) (ls : Array Slot) (hl : lv_has ls 7 [(4, .int i), (3, .ref (dL d)), (2, .ref (mA (dM d) 0)), (1, .ref (wA (dW d) 0)), (0, .ref b)]) (hE : w_case_9 N xs next i σ τ f) :
      W p l e room_1 s m #[Value.ref b] below meth c H locs kc ks (lw_Z below #[Value.ref b] s) (F0 m 472 ls []) := by
  obtain ⟨hx, hb, hr, hml, hown, hts, hXs, hbl, hlocks, hgv⟩ := C0
  have hta : ∀ w ∈ aW, w.before #[Value.ref b] s = true := fun w h => hts w (aW_tbl h)
  have hbA : ¬ (s.heap.size ≤ b) := Nat.not_le.mpr hbl
  have hc0 : kc ≤ room_1.cells ∧ ks ≤ room_1.slots := ⟨by show kc ≤ 601024; omega, by show ks ≤ 7293034; omega⟩
  have hc1 : kc + 1 ≤ room_1.cells ∧ ks + 6 ≤ room_1.slots := ⟨by show kc + 1 ≤ 601024; omega, by show ks + 6 ≤ 7293034; omega⟩
  have hcw := hc1
  have hn0 : kc + n ≤ 601024 ∧ ks + 6 * n ≤ 7293034 := by omega
  have hn1 : (kc + 1) + n ≤ 601024 ∧ (ks + 6) + 6 * n ≤ 7293034 := by omega
  unfold w_case_9 at hE
  refine lv_aload_n hx hb d_law_472 rfl (lv_at hl 3 rfl) ?_
  refine lv_aload_n hx hb d_law_473 rfl (lv_at hl 4 rfl) ?_
  refine lv_iload hx hb d_law_474 (lv_at hl 0 rfl) ?_
  refine lv_iconst (v := 1) hx hb d_law_476 (by decide) ?_
  refine lv_iadd hx hb d_law_477 ?_
  obtain ⟨hi478, hE⟩ := hE
  refine va_sld hx hb hXs hbl hbA hS hi478 d_law_478 ?_
  refine lv_aload_n hx hb d_law_479 rfl (lv_at hl 4 rfl) ?_
  refine lv_iload hx hb d_law_480 (lv_at hl 0 rfl) ?_
  refine lv_iconst (v := 2) hx hb d_law_482 (by decide) ?_
  refine lv_iadd hx hb d_law_483 ?_
  obtain ⟨hi484, hE⟩ := hE
  refine va_sld hx hb hXs hbl hbA hS hi484 d_law_484 ?_
  refine lv_aload_n hx hb d_law_485 rfl (lv_at hl 4 rfl) ?_
  refine lv_iload hx hb d_law_486 (lv_at hl 0 rfl) ?_
  refine lv_iconst (v := 3) hx hb d_law_488 (by decide) ?_
  refine lv_iadd hx hb d_law_489 ?_
  obtain ⟨hi490, hE⟩ := hE
  refine va_sld hx hb hXs hbl hbA hS hi490 d_law_490 ?_
  refine lx_r (As := [.int (xs (i + 1).toNatClampNeg), .int (xs (i + 2).toNatClampNeg), .int (xs (i + 3).toNatClampNeg)]) (rest := []) ⟨hx, hb, hml, hown, hta⟩ (c_X_attribute l (dW d) σ (xs (i + 1).toNatClampNeg) (xs (i + 2).toNatClampNeg) (xs (i + 3).toNatClampNeg) _ hI hE) ok_L_78 ⟨Nat.le_of_ble_eq_true rfl, Nat.le_of_ble_eq_true rfl⟩ hL hC hS rfl hl.1 rfl (Nat.le_of_ble_eq_true rfl) d_law_491 hc0 (fun r491 hE => ?_)
  refine lv_aload_n hx hb d_law_494 rfl (lv_at hl 2 rfl) ?_
  refine lv_aload_n hx hb d_law_495 rfl (lv_at hl 4 rfl) ?_
  refine lv_iload hx hb d_law_496 (lv_at hl 0 rfl) ?_
  refine lv_iconst (v := 1) hx hb d_law_498 (by decide) ?_
  refine lv_iadd hx hb d_law_499 ?_
  obtain ⟨hi500, hE⟩ := hE
  refine va_sld hx hb hXs hbl hbA hS hi500 d_law_500 ?_
  refine lv_aload_n hx hb d_law_501 rfl (lv_at hl 4 rfl) ?_
  refine lv_iload hx hb d_law_502 (lv_at hl 0 rfl) ?_
  refine lv_iconst (v := 2) hx hb d_law_504 (by decide) ?_
  refine lv_iadd hx hb d_law_505 ?_
  obtain ⟨hi506, hE⟩ := hE
  refine va_sld hx hb hXs hbl hbA hS hi506 d_law_506 ?_
  refine lv_aload_n hx hb d_law_507 rfl (lv_at hl 4 rfl) ?_
  refine lv_iload hx hb d_law_508 (lv_at hl 0 rfl) ?_
  refine lv_iconst (v := 3) hx hb d_law_510 (by decide) ?_
  refine lv_iadd hx hb d_law_511 ?_
  obtain ⟨hi512, hE⟩ := hE
  refine va_sld hx hb hXs hbl hbA hS hi512 d_law_512 ?_
  refine lm_i (As := [.int (xs (i + 1).toNatClampNeg), .int (xs (i + 2).toNatClampNeg), .int (xs (i + 3).toNatClampNeg)]) (rest := [.int r491]) ⟨hx, hb, hml, hown, hta⟩ (c_M_attribute l (dM d) _ τ (xs (i + 1).toNatClampNeg) (xs (i + 2).toNatClampNeg) (xs (i + 3).toNatClampNeg) _ hE) ok_L_82 ⟨Nat.le_of_ble_eq_true rfl, Nat.le_of_ble_eq_true rfl⟩ hL hC hS rfl hl.1 rfl (Nat.le_of_ble_eq_true rfl) d_law_513 hc0 (fun r513 τ513 H locs hE hL hS => ?_)
  refine lv_icmp_eq (tgt := 773) hx hb d_law_516 (by decide) (fun cc516 => ?_) (fun cc516 => ?_)
  · have hE := hE.1 cc516
    refine lv_iinc (v := i + 6) (lv' := [(4, .int (i + 6)), (3, .ref (dL d)), (2, .ref (mA (dM d) 0)), (1, .ref (wA (dW d) 0)), (0, .ref b)]) hx hb d_law_773 hl (k := 0) rfl rfl (by decide) rfl (fun ls hl => ?_)
    refine lv_goto (tgt := 23) hx hb d_law_776 (by decide) ?_
    exact ih (i + 6) σ τ513 f _ _ _ _ hL hI hS hn0 ls (lv_sub hl [0, 1, 2, 3, 4] rfl) hE
  · have hE := hE.2 cc516
    exact hE.elim
def w_case_10 (N : Nat) (xs : Nat → Int32) (next : Int32 → PPS → MPS → (Nat → Int64) → Prop) (i : Int32) (σ : PPS) (τ : MPS) (f : Nat → Int64) : Prop := (vp_in (i + 1) N ∧ (vp_in (i + 2) N ∧ (vp_in (i + 3) N ∧ (((xs (i + 3).toNatClampNeg) = 0 → (vp_in (i + 4) N ∧ w_X_sign σ (xs (i + 1).toNatClampNeg) (xs (i + 2).toNatClampNeg) 0 (xs (i + 4).toNatClampNeg) (fun r554 => (vp_in (i + 1) N ∧ (vp_in (i + 2) N ∧ (vp_in (i + 3) N ∧ (((xs (i + 3).toNatClampNeg) = 0 → (vp_in (i + 4) N ∧ w_M_sign τ (xs (i + 1).toNatClampNeg) (xs (i + 2).toNatClampNeg) 0 (xs (i + 4).toNatClampNeg) (fun r590 τ590 => ((r554 = r590 → next (i + 6) σ τ590 f) ∧ (¬ r554 = r590 → False))))) ∧ (¬ (xs (i + 3).toNatClampNeg) = 0 → (vp_in (i + 4) N ∧ w_M_sign τ (xs (i + 1).toNatClampNeg) (xs (i + 2).toNatClampNeg) 1 (xs (i + 4).toNatClampNeg) (fun r590 τ590 => ((r554 = r590 → next (i + 6) σ τ590 f) ∧ (¬ r554 = r590 → False)))))))))))) ∧ (¬ (xs (i + 3).toNatClampNeg) = 0 → (vp_in (i + 4) N ∧ w_X_sign σ (xs (i + 1).toNatClampNeg) (xs (i + 2).toNatClampNeg) 1 (xs (i + 4).toNatClampNeg) (fun r554 => (vp_in (i + 1) N ∧ (vp_in (i + 2) N ∧ (vp_in (i + 3) N ∧ (((xs (i + 3).toNatClampNeg) = 0 → (vp_in (i + 4) N ∧ w_M_sign τ (xs (i + 1).toNatClampNeg) (xs (i + 2).toNatClampNeg) 0 (xs (i + 4).toNatClampNeg) (fun r590 τ590 => ((r554 = r590 → next (i + 6) σ τ590 f) ∧ (¬ r554 = r590 → False))))) ∧ (¬ (xs (i + 3).toNatClampNeg) = 0 → (vp_in (i + 4) N ∧ w_M_sign τ (xs (i + 1).toNatClampNeg) (xs (i + 2).toNatClampNeg) 1 (xs (i + 4).toNatClampNeg) (fun r590 τ590 => ((r554 = r590 → next (i + 6) σ τ590 f) ∧ (¬ r554 = r590 → False))))))))))))))))
set_option maxHeartbeats 8000000 in
set_option maxRecDepth 100000 in
theorem law_case_10 {p : Program} {e : Env} {s : State} {m : MethodId} {below : List Frame} {meth : Method} {c : Code} (l : Launch) {b N : Nat} {xs : Nat → Int32} (hls : l.stackTraces = false) (C0 : lw_At p s m meth c b N xs) {d : LD} (hC : LCT d (fun q => s.heap.size ≤ q) s) {n : Nat} {next : Int32 → PPS → MPS → (Nat → Int64) → Prop} (ih : LK p l e s m below meth c b d n next)
    (i : Int32) (σ : PPS) (τ : MPS) (f : Nat → Int64) (H : Heap) (locs : List Loc) (kc ks : Nat) (hL : LST d (fun q => s.heap.size ≤ q) σ τ f H) (hI : inv σ) (hS : va_S (fun q => s.heap.size ≤ q) s.heap H locs) (hn : kc + (n + 1) ≤ 601024 ∧ ks + 6 * (n + 1) ≤ 7293034) (ls : Array Slot) (hl : lv_has ls 7 [(4, .int i), (3, .ref (dL d)), (2, .ref (mA (dM d) 0)), (1, .ref (wA (dW d) 0)), (0, .ref b)]) (hE : w_case_10 N xs next i σ τ f) :
      W p l e room_1 s m #[Value.ref b] below meth c H locs kc ks (lw_Z below #[Value.ref b] s) (F0 m 521 ls []) := by
  obtain ⟨hx, hb, hr, hml, hown, hts, hXs, hbl, hlocks, hgv⟩ := C0
  have hta : ∀ w ∈ aW, w.before #[Value.ref b] s = true := fun w h => hts w (aW_tbl h)
  have hbA : ¬ (s.heap.size ≤ b) := Nat.not_le.mpr hbl
  have hc0 : kc ≤ room_1.cells ∧ ks ≤ room_1.slots := ⟨by show kc ≤ 601024; omega, by show ks ≤ 7293034; omega⟩
  have hc1 : kc + 1 ≤ room_1.cells ∧ ks + 6 ≤ room_1.slots := ⟨by show kc + 1 ≤ 601024; omega, by show ks + 6 ≤ 7293034; omega⟩
  have hcw := hc1
  have hn0 : kc + n ≤ 601024 ∧ ks + 6 * n ≤ 7293034 := by omega
  have hn1 : (kc + 1) + n ≤ 601024 ∧ (ks + 6) + 6 * n ≤ 7293034 := by omega
  unfold w_case_10 at hE
  refine lv_aload_n hx hb d_law_521 rfl (lv_at hl 3 rfl) ?_
  refine lv_aload_n hx hb d_law_522 rfl (lv_at hl 4 rfl) ?_
  refine lv_iload hx hb d_law_523 (lv_at hl 0 rfl) ?_
  refine lv_iconst (v := 1) hx hb d_law_525 (by decide) ?_
  refine lv_iadd hx hb d_law_526 ?_
  obtain ⟨hi527, hE⟩ := hE
  refine va_sld hx hb hXs hbl hbA hS hi527 d_law_527 ?_
  refine lv_aload_n hx hb d_law_528 rfl (lv_at hl 4 rfl) ?_
  refine lv_iload hx hb d_law_529 (lv_at hl 0 rfl) ?_
  refine lv_iconst (v := 2) hx hb d_law_531 (by decide) ?_
  refine lv_iadd hx hb d_law_532 ?_
  obtain ⟨hi533, hE⟩ := hE
  refine va_sld hx hb hXs hbl hbA hS hi533 d_law_533 ?_
  refine lv_aload_n hx hb d_law_534 rfl (lv_at hl 4 rfl) ?_
  refine lv_iload hx hb d_law_535 (lv_at hl 0 rfl) ?_
  refine lv_iconst (v := 3) hx hb d_law_537 (by decide) ?_
  refine lv_iadd hx hb d_law_538 ?_
  obtain ⟨hi539, hE⟩ := hE
  refine va_sld hx hb hXs hbl hbA hS hi539 d_law_539 ?_
  refine lv_if_eq (tgt := 547) hx hb d_law_540 (by decide) (fun cc540 => ?_) (fun cc540 => ?_)
  · have hE := hE.1 cc540
    refine lv_iconst (v := 0) hx hb d_law_547 (by decide) ?_
    refine lv_aload_n hx hb d_law_548 rfl (lv_at hl 4 rfl) ?_
    refine lv_iload hx hb d_law_549 (lv_at hl 0 rfl) ?_
    refine lv_iconst (v := 4) hx hb d_law_551 (by decide) ?_
    refine lv_iadd hx hb d_law_552 ?_
    obtain ⟨hi553, hE⟩ := hE
    refine va_sld hx hb hXs hbl hbA hS hi553 d_law_553 ?_
    refine lx_r (As := [.int (xs (i + 1).toNatClampNeg), .int (xs (i + 2).toNatClampNeg), .int 0, .int (xs (i + 4).toNatClampNeg)]) (rest := []) ⟨hx, hb, hml, hown, hta⟩ (c_X_sign l (dW d) σ (xs (i + 1).toNatClampNeg) (xs (i + 2).toNatClampNeg) 0 (xs (i + 4).toNatClampNeg) _ hI hE) ok_L_83 ⟨Nat.le_of_ble_eq_true rfl, Nat.le_of_ble_eq_true rfl⟩ hL hC hS rfl hl.1 rfl (Nat.le_of_ble_eq_true rfl) d_law_554 hc0 (fun r554 hE => ?_)
    refine lv_aload_n hx hb d_law_557 rfl (lv_at hl 2 rfl) ?_
    refine lv_aload_n hx hb d_law_558 rfl (lv_at hl 4 rfl) ?_
    refine lv_iload hx hb d_law_559 (lv_at hl 0 rfl) ?_
    refine lv_iconst (v := 1) hx hb d_law_561 (by decide) ?_
    refine lv_iadd hx hb d_law_562 ?_
    obtain ⟨hi563, hE⟩ := hE
    refine va_sld hx hb hXs hbl hbA hS hi563 d_law_563 ?_
    refine lv_aload_n hx hb d_law_564 rfl (lv_at hl 4 rfl) ?_
    refine lv_iload hx hb d_law_565 (lv_at hl 0 rfl) ?_
    refine lv_iconst (v := 2) hx hb d_law_567 (by decide) ?_
    refine lv_iadd hx hb d_law_568 ?_
    obtain ⟨hi569, hE⟩ := hE
    refine va_sld hx hb hXs hbl hbA hS hi569 d_law_569 ?_
    refine lv_aload_n hx hb d_law_570 rfl (lv_at hl 4 rfl) ?_
    refine lv_iload hx hb d_law_571 (lv_at hl 0 rfl) ?_
    refine lv_iconst (v := 3) hx hb d_law_573 (by decide) ?_
    refine lv_iadd hx hb d_law_574 ?_
    obtain ⟨hi575, hE⟩ := hE
    refine va_sld hx hb hXs hbl hbA hS hi575 d_law_575 ?_
    refine lv_if_eq (tgt := 583) hx hb d_law_576 (by decide) (fun cc576 => ?_) (fun cc576 => ?_)
    · have hE := hE.1 cc576
      refine lv_iconst (v := 0) hx hb d_law_583 (by decide) ?_
      refine lv_aload_n hx hb d_law_584 rfl (lv_at hl 4 rfl) ?_
      refine lv_iload hx hb d_law_585 (lv_at hl 0 rfl) ?_
      refine lv_iconst (v := 4) hx hb d_law_587 (by decide) ?_
      refine lv_iadd hx hb d_law_588 ?_
      obtain ⟨hi589, hE⟩ := hE
      refine va_sld hx hb hXs hbl hbA hS hi589 d_law_589 ?_
      refine lm_i (As := [.int (xs (i + 1).toNatClampNeg), .int (xs (i + 2).toNatClampNeg), .int 0, .int (xs (i + 4).toNatClampNeg)]) (rest := [.int r554]) ⟨hx, hb, hml, hown, hta⟩ (c_M_sign l (dM d) _ τ (xs (i + 1).toNatClampNeg) (xs (i + 2).toNatClampNeg) 0 (xs (i + 4).toNatClampNeg) _ hE) ok_L_87 ⟨Nat.le_of_ble_eq_true rfl, Nat.le_of_ble_eq_true rfl⟩ hL hC hS rfl hl.1 rfl (Nat.le_of_ble_eq_true rfl) d_law_590 hc0 (fun r590 τ590 H locs hE hL hS => ?_)
      refine lv_icmp_eq (tgt := 773) hx hb d_law_593 (by decide) (fun cc593 => ?_) (fun cc593 => ?_)
      · have hE := hE.1 cc593
        refine lv_iinc (v := i + 6) (lv' := [(4, .int (i + 6)), (3, .ref (dL d)), (2, .ref (mA (dM d) 0)), (1, .ref (wA (dW d) 0)), (0, .ref b)]) hx hb d_law_773 hl (k := 0) rfl rfl (by decide) rfl (fun ls hl => ?_)
        refine lv_goto (tgt := 23) hx hb d_law_776 (by decide) ?_
        exact ih (i + 6) σ τ590 f _ _ _ _ hL hI hS hn0 ls (lv_sub hl [0, 1, 2, 3, 4] rfl) hE
      · have hE := hE.2 cc593
        exact hE.elim
    · have hE := hE.2 cc576
      refine lv_iconst (v := 1) hx hb d_law_579 (by decide) ?_
      refine lv_goto (tgt := 584) hx hb d_law_580 (by decide) ?_
      refine lv_aload_n hx hb d_law_584 rfl (lv_at hl 4 rfl) ?_
      refine lv_iload hx hb d_law_585 (lv_at hl 0 rfl) ?_
      refine lv_iconst (v := 4) hx hb d_law_587 (by decide) ?_
      refine lv_iadd hx hb d_law_588 ?_
      obtain ⟨hi589, hE⟩ := hE
      refine va_sld hx hb hXs hbl hbA hS hi589 d_law_589 ?_
      refine lm_i (As := [.int (xs (i + 1).toNatClampNeg), .int (xs (i + 2).toNatClampNeg), .int 1, .int (xs (i + 4).toNatClampNeg)]) (rest := [.int r554]) ⟨hx, hb, hml, hown, hta⟩ (c_M_sign l (dM d) _ τ (xs (i + 1).toNatClampNeg) (xs (i + 2).toNatClampNeg) 1 (xs (i + 4).toNatClampNeg) _ hE) ok_L_87 ⟨Nat.le_of_ble_eq_true rfl, Nat.le_of_ble_eq_true rfl⟩ hL hC hS rfl hl.1 rfl (Nat.le_of_ble_eq_true rfl) d_law_590 hc0 (fun r590 τ590 H locs hE hL hS => ?_)
      refine lv_icmp_eq (tgt := 773) hx hb d_law_593 (by decide) (fun cc593 => ?_) (fun cc593 => ?_)
      · have hE := hE.1 cc593
        refine lv_iinc (v := i + 6) (lv' := [(4, .int (i + 6)), (3, .ref (dL d)), (2, .ref (mA (dM d) 0)), (1, .ref (wA (dW d) 0)), (0, .ref b)]) hx hb d_law_773 hl (k := 0) rfl rfl (by decide) rfl (fun ls hl => ?_)
        refine lv_goto (tgt := 23) hx hb d_law_776 (by decide) ?_
        exact ih (i + 6) σ τ590 f _ _ _ _ hL hI hS hn0 ls (lv_sub hl [0, 1, 2, 3, 4] rfl) hE
      · have hE := hE.2 cc593
        exact hE.elim
  · have hE := hE.2 cc540
    refine lv_iconst (v := 1) hx hb d_law_543 (by decide) ?_
    refine lv_goto (tgt := 548) hx hb d_law_544 (by decide) ?_
    refine lv_aload_n hx hb d_law_548 rfl (lv_at hl 4 rfl) ?_
    refine lv_iload hx hb d_law_549 (lv_at hl 0 rfl) ?_
    refine lv_iconst (v := 4) hx hb d_law_551 (by decide) ?_
    refine lv_iadd hx hb d_law_552 ?_
    obtain ⟨hi553, hE⟩ := hE
    refine va_sld hx hb hXs hbl hbA hS hi553 d_law_553 ?_
    refine lx_r (As := [.int (xs (i + 1).toNatClampNeg), .int (xs (i + 2).toNatClampNeg), .int 1, .int (xs (i + 4).toNatClampNeg)]) (rest := []) ⟨hx, hb, hml, hown, hta⟩ (c_X_sign l (dW d) σ (xs (i + 1).toNatClampNeg) (xs (i + 2).toNatClampNeg) 1 (xs (i + 4).toNatClampNeg) _ hI hE) ok_L_83 ⟨Nat.le_of_ble_eq_true rfl, Nat.le_of_ble_eq_true rfl⟩ hL hC hS rfl hl.1 rfl (Nat.le_of_ble_eq_true rfl) d_law_554 hc0 (fun r554 hE => ?_)
    refine lv_aload_n hx hb d_law_557 rfl (lv_at hl 2 rfl) ?_
    refine lv_aload_n hx hb d_law_558 rfl (lv_at hl 4 rfl) ?_
    refine lv_iload hx hb d_law_559 (lv_at hl 0 rfl) ?_
    refine lv_iconst (v := 1) hx hb d_law_561 (by decide) ?_
    refine lv_iadd hx hb d_law_562 ?_
    obtain ⟨hi563, hE⟩ := hE
    refine va_sld hx hb hXs hbl hbA hS hi563 d_law_563 ?_
    refine lv_aload_n hx hb d_law_564 rfl (lv_at hl 4 rfl) ?_
    refine lv_iload hx hb d_law_565 (lv_at hl 0 rfl) ?_
    refine lv_iconst (v := 2) hx hb d_law_567 (by decide) ?_
    refine lv_iadd hx hb d_law_568 ?_
    obtain ⟨hi569, hE⟩ := hE
    refine va_sld hx hb hXs hbl hbA hS hi569 d_law_569 ?_
    refine lv_aload_n hx hb d_law_570 rfl (lv_at hl 4 rfl) ?_
    refine lv_iload hx hb d_law_571 (lv_at hl 0 rfl) ?_
    refine lv_iconst (v := 3) hx hb d_law_573 (by decide) ?_
    refine lv_iadd hx hb d_law_574 ?_
    obtain ⟨hi575, hE⟩ := hE
    refine va_sld hx hb hXs hbl hbA hS hi575 d_law_575 ?_
    refine lv_if_eq (tgt := 583) hx hb d_law_576 (by decide) (fun cc576 => ?_) (fun cc576 => ?_)
    · have hE := hE.1 cc576
      refine lv_iconst (v := 0) hx hb d_law_583 (by decide) ?_
      refine lv_aload_n hx hb d_law_584 rfl (lv_at hl 4 rfl) ?_
      refine lv_iload hx hb d_law_585 (lv_at hl 0 rfl) ?_
      refine lv_iconst (v := 4) hx hb d_law_587 (by decide) ?_
      refine lv_iadd hx hb d_law_588 ?_
      obtain ⟨hi589, hE⟩ := hE
      refine va_sld hx hb hXs hbl hbA hS hi589 d_law_589 ?_
      refine lm_i (As := [.int (xs (i + 1).toNatClampNeg), .int (xs (i + 2).toNatClampNeg), .int 0, .int (xs (i + 4).toNatClampNeg)]) (rest := [.int r554]) ⟨hx, hb, hml, hown, hta⟩ (c_M_sign l (dM d) _ τ (xs (i + 1).toNatClampNeg) (xs (i + 2).toNatClampNeg) 0 (xs (i + 4).toNatClampNeg) _ hE) ok_L_87 ⟨Nat.le_of_ble_eq_true rfl, Nat.le_of_ble_eq_true rfl⟩ hL hC hS rfl hl.1 rfl (Nat.le_of_ble_eq_true rfl) d_law_590 hc0 (fun r590 τ590 H locs hE hL hS => ?_)
      refine lv_icmp_eq (tgt := 773) hx hb d_law_593 (by decide) (fun cc593 => ?_) (fun cc593 => ?_)
      · have hE := hE.1 cc593
        refine lv_iinc (v := i + 6) (lv' := [(4, .int (i + 6)), (3, .ref (dL d)), (2, .ref (mA (dM d) 0)), (1, .ref (wA (dW d) 0)), (0, .ref b)]) hx hb d_law_773 hl (k := 0) rfl rfl (by decide) rfl (fun ls hl => ?_)
        refine lv_goto (tgt := 23) hx hb d_law_776 (by decide) ?_
        exact ih (i + 6) σ τ590 f _ _ _ _ hL hI hS hn0 ls (lv_sub hl [0, 1, 2, 3, 4] rfl) hE
      · have hE := hE.2 cc593
        exact hE.elim
    · have hE := hE.2 cc576
      refine lv_iconst (v := 1) hx hb d_law_579 (by decide) ?_
      refine lv_goto (tgt := 584) hx hb d_law_580 (by decide) ?_
      refine lv_aload_n hx hb d_law_584 rfl (lv_at hl 4 rfl) ?_
      refine lv_iload hx hb d_law_585 (lv_at hl 0 rfl) ?_
      refine lv_iconst (v := 4) hx hb d_law_587 (by decide) ?_
      refine lv_iadd hx hb d_law_588 ?_
      obtain ⟨hi589, hE⟩ := hE
      refine va_sld hx hb hXs hbl hbA hS hi589 d_law_589 ?_
      refine lm_i (As := [.int (xs (i + 1).toNatClampNeg), .int (xs (i + 2).toNatClampNeg), .int 1, .int (xs (i + 4).toNatClampNeg)]) (rest := [.int r554]) ⟨hx, hb, hml, hown, hta⟩ (c_M_sign l (dM d) _ τ (xs (i + 1).toNatClampNeg) (xs (i + 2).toNatClampNeg) 1 (xs (i + 4).toNatClampNeg) _ hE) ok_L_87 ⟨Nat.le_of_ble_eq_true rfl, Nat.le_of_ble_eq_true rfl⟩ hL hC hS rfl hl.1 rfl (Nat.le_of_ble_eq_true rfl) d_law_590 hc0 (fun r590 τ590 H locs hE hL hS => ?_)
      refine lv_icmp_eq (tgt := 773) hx hb d_law_593 (by decide) (fun cc593 => ?_) (fun cc593 => ?_)
      · have hE := hE.1 cc593
        refine lv_iinc (v := i + 6) (lv' := [(4, .int (i + 6)), (3, .ref (dL d)), (2, .ref (mA (dM d) 0)), (1, .ref (wA (dW d) 0)), (0, .ref b)]) hx hb d_law_773 hl (k := 0) rfl rfl (by decide) rfl (fun ls hl => ?_)
        refine lv_goto (tgt := 23) hx hb d_law_776 (by decide) ?_
        exact ih (i + 6) σ τ590 f _ _ _ _ hL hI hS hn0 ls (lv_sub hl [0, 1, 2, 3, 4] rfl) hE
      · have hE := hE.2 cc593
        exact hE.elim
def w_case_11 (N : Nat) (xs : Nat → Int32) (next : Int32 → PPS → MPS → (Nat → Int64) → Prop) (i : Int32) (σ : PPS) (τ : MPS) (f : Nat → Int64) : Prop := w_X_find σ  (fun r599 => w_M_find τ  (fun r603 τ603 => ((r599 = r603 → next (i + 6) σ τ603 f) ∧ (¬ r599 = r603 → False))))
set_option maxHeartbeats 8000000 in
set_option maxRecDepth 100000 in
theorem law_case_11 {p : Program} {e : Env} {s : State} {m : MethodId} {below : List Frame} {meth : Method} {c : Code} (l : Launch) {b N : Nat} {xs : Nat → Int32} (hls : l.stackTraces = false) (C0 : lw_At p s m meth c b N xs) {d : LD} (hC : LCT d (fun q => s.heap.size ≤ q) s) {n : Nat} {next : Int32 → PPS → MPS → (Nat → Int64) → Prop} (ih : LK p l e s m below meth c b d n next)
    (i : Int32) (σ : PPS) (τ : MPS) (f : Nat → Int64) (H : Heap) (locs : List Loc) (kc ks : Nat) (hL : LST d (fun q => s.heap.size ≤ q) σ τ f H) (hI : inv σ) (hS : va_S (fun q => s.heap.size ≤ q) s.heap H locs) (hn : kc + (n + 1) ≤ 601024 ∧ ks + 6 * (n + 1) ≤ 7293034) (ls : Array Slot) (hl : lv_has ls 7 [(4, .int i), (3, .ref (dL d)), (2, .ref (mA (dM d) 0)), (1, .ref (wA (dW d) 0)), (0, .ref b)]) (hE : w_case_11 N xs next i σ τ f) :
      W p l e room_1 s m #[Value.ref b] below meth c H locs kc ks (lw_Z below #[Value.ref b] s) (F0 m 598 ls []) := by
  obtain ⟨hx, hb, hr, hml, hown, hts, hXs, hbl, hlocks, hgv⟩ := C0
  have hta : ∀ w ∈ aW, w.before #[Value.ref b] s = true := fun w h => hts w (aW_tbl h)
  have hbA : ¬ (s.heap.size ≤ b) := Nat.not_le.mpr hbl
  have hc0 : kc ≤ room_1.cells ∧ ks ≤ room_1.slots := ⟨by show kc ≤ 601024; omega, by show ks ≤ 7293034; omega⟩
  have hc1 : kc + 1 ≤ room_1.cells ∧ ks + 6 ≤ room_1.slots := ⟨by show kc + 1 ≤ 601024; omega, by show ks + 6 ≤ 7293034; omega⟩
  have hcw := hc1
  have hn0 : kc + n ≤ 601024 ∧ ks + 6 * n ≤ 7293034 := by omega
  have hn1 : (kc + 1) + n ≤ 601024 ∧ (ks + 6) + 6 * n ≤ 7293034 := by omega
  unfold w_case_11 at hE
  refine lv_aload_n hx hb d_law_598 rfl (lv_at hl 3 rfl) ?_
  refine lx_r (As := []) (rest := []) ⟨hx, hb, hml, hown, hta⟩ (c_X_find l (dW d) σ  _ hI hE) ok_L_88 ⟨Nat.le_of_ble_eq_true rfl, Nat.le_of_ble_eq_true rfl⟩ hL hC hS rfl hl.1 rfl (Nat.le_of_ble_eq_true rfl) d_law_599 hc0 (fun r599 hE => ?_)
  refine lv_aload_n hx hb d_law_602 rfl (lv_at hl 2 rfl) ?_
  refine lm_i (As := []) (rest := [.int r599]) ⟨hx, hb, hml, hown, hta⟩ (c_M_find l (dM d) _ τ  _ hE) ok_L_91 ⟨Nat.le_of_ble_eq_true rfl, Nat.le_of_ble_eq_true rfl⟩ hL hC hS rfl hl.1 rfl (Nat.le_of_ble_eq_true rfl) d_law_603 hc0 (fun r603 τ603 H locs hE hL hS => ?_)
  refine lv_icmp_eq (tgt := 773) hx hb d_law_606 (by decide) (fun cc606 => ?_) (fun cc606 => ?_)
  · have hE := hE.1 cc606
    refine lv_iinc (v := i + 6) (lv' := [(4, .int (i + 6)), (3, .ref (dL d)), (2, .ref (mA (dM d) 0)), (1, .ref (wA (dW d) 0)), (0, .ref b)]) hx hb d_law_773 hl (k := 0) rfl rfl (by decide) rfl (fun ls hl => ?_)
    refine lv_goto (tgt := 23) hx hb d_law_776 (by decide) ?_
    exact ih (i + 6) σ τ603 f _ _ _ _ hL hI hS hn0 ls (lv_sub hl [0, 1, 2, 3, 4] rfl) hE
  · have hE := hE.2 cc606
    exact hE.elim
def w_case_12 (N : Nat) (xs : Nat → Int32) (next : Int32 → PPS → MPS → (Nat → Int64) → Prop) (i : Int32) (σ : PPS) (τ : MPS) (f : Nat → Int64) : Prop := (vp_in (i + 1) N ∧ w_L_plain σ f (xs (i + 1).toNatClampNeg) (fun r619 v619 g619 => (vp_in (i + 1) N ∧ w_M_plain τ (xs (i + 1).toNatClampNeg) (fun r631 τ631 => (((mp_thrown τ631) = r619 → ((r619 = 0 → (((g619 (0 : Int32).toNatClampNeg) = r631.toInt64 → next (i + 6) v619 τ631 g619) ∧ (¬ (g619 (0 : Int32).toNatClampNeg) = r631.toInt64 → False))) ∧ (¬ r619 = 0 → next (i + 6) v619 τ631 g619))) ∧ (¬ (mp_thrown τ631) = r619 → False))))))
set_option maxHeartbeats 8000000 in
set_option maxRecDepth 100000 in
theorem law_case_12 {p : Program} {e : Env} {s : State} {m : MethodId} {below : List Frame} {meth : Method} {c : Code} (l : Launch) {b N : Nat} {xs : Nat → Int32} (hls : l.stackTraces = false) (C0 : lw_At p s m meth c b N xs) {d : LD} (hC : LCT d (fun q => s.heap.size ≤ q) s) {n : Nat} {next : Int32 → PPS → MPS → (Nat → Int64) → Prop} (ih : LK p l e s m below meth c b d n next)
    (i : Int32) (σ : PPS) (τ : MPS) (f : Nat → Int64) (H : Heap) (locs : List Loc) (kc ks : Nat) (hL : LST d (fun q => s.heap.size ≤ q) σ τ f H) (hI : inv σ) (hS : va_S (fun q => s.heap.size ≤ q) s.heap H locs) (hn : kc + (n + 1) ≤ 601024 ∧ ks + 6 * (n + 1) ≤ 7293034) (ls : Array Slot) (hl : lv_has ls 7 [(4, .int i), (3, .ref (dL d)), (2, .ref (mA (dM d) 0)), (1, .ref (wA (dW d) 0)), (0, .ref b)]) (hE : w_case_12 N xs next i σ τ f) :
      W p l e room_1 s m #[Value.ref b] below meth c H locs kc ks (lw_Z below #[Value.ref b] s) (F0 m 611 ls []) := by
  obtain ⟨hx, hb, hr, hml, hown, hts, hXs, hbl, hlocks, hgv⟩ := C0
  have hta : ∀ w ∈ aW, w.before #[Value.ref b] s = true := fun w h => hts w (aW_tbl h)
  have hbA : ¬ (s.heap.size ≤ b) := Nat.not_le.mpr hbl
  have hc0 : kc ≤ room_1.cells ∧ ks ≤ room_1.slots := ⟨by show kc ≤ 601024; omega, by show ks ≤ 7293034; omega⟩
  have hc1 : kc + 1 ≤ room_1.cells ∧ ks + 6 ≤ room_1.slots := ⟨by show kc + 1 ≤ 601024; omega, by show ks + 6 ≤ 7293034; omega⟩
  have hcw := hc1
  have hn0 : kc + n ≤ 601024 ∧ ks + 6 * n ≤ 7293034 := by omega
  have hn1 : (kc + 1) + n ≤ 601024 ∧ (ks + 6) + 6 * n ≤ 7293034 := by omega
  unfold w_case_12 at hE
  refine lv_aload_n hx hb d_law_611 rfl (lv_at hl 3 rfl) ?_
  refine lv_aload_n hx hb d_law_612 rfl (lv_at hl 4 rfl) ?_
  refine lv_iload hx hb d_law_613 (lv_at hl 0 rfl) ?_
  refine lv_iconst (v := 1) hx hb d_law_615 (by decide) ?_
  refine lv_iadd hx hb d_law_616 ?_
  obtain ⟨hi617, hE⟩ := hE
  refine va_sld hx hb hXs hbl hbA hS hi617 d_law_617 ?_
  refine lv_aload_n hx hb d_law_618 rfl (lv_at hl 1 rfl) ?_
  refine ll_i (As := [.ref (wA (dW d) 0), .int (xs (i + 1).toNatClampNeg), .ref (dL d)]) (rest := []) ⟨hx, hb, hml, hown, hta⟩ (c_L_plain l (dW d) (dL d) (dC d) _ σ f (xs (i + 1).toNatClampNeg) _ hI hls hE) okw_plain ⟨Nat.le_of_ble_eq_true rfl, Nat.le_of_ble_eq_true rfl⟩ hL hC hS rfl hl.1 rfl (Nat.le_of_ble_eq_true rfl) d_law_619 hc1 (fun r619 u619 H locs hE hL hS => ?_)
  obtain ⟨v619, g619⟩ := u619
  obtain ⟨hE, hI⟩ := hE
  refine lv_istore (lv' := [(5, .int r619), (4, .int i), (3, .ref (dL d)), (2, .ref (mA (dM d) 0)), (1, .ref (wA (dW d) 0)), (0, .ref b)]) hx hb d_law_622 hl (by decide) rfl (fun ls hl => ?_)
  refine lv_aload_n hx hb d_law_624 rfl (lv_at hl 3 rfl) ?_
  refine lv_aload_n hx hb d_law_625 rfl (lv_at hl 5 rfl) ?_
  refine lv_iload hx hb d_law_626 (lv_at hl 1 rfl) ?_
  refine lv_iconst (v := 1) hx hb d_law_628 (by decide) ?_
  refine lv_iadd hx hb d_law_629 ?_
  obtain ⟨hi630, hE⟩ := hE
  refine va_sld hx hb hXs hbl hbA hS hi630 d_law_630 ?_
  refine lm_i (As := [.int (xs (i + 1).toNatClampNeg)]) (rest := []) ⟨hx, hb, hml, hown, hta⟩ (c_M_plain l (dM d) _ τ (xs (i + 1).toNatClampNeg) _ hE) ok_L_95 ⟨Nat.le_of_ble_eq_true rfl, Nat.le_of_ble_eq_true rfl⟩ hL hC hS rfl hl.1 rfl (Nat.le_of_ble_eq_true rfl) d_law_631 hcw (fun r631 τ631 H locs hE hL hS => ?_)
  refine lv_istore (lv' := [(6, .int r631), (5, .int r619), (4, .int i), (3, .ref (dL d)), (2, .ref (mA (dM d) 0)), (1, .ref (wA (dW d) 0)), (0, .ref b)]) hx hb d_law_634 hl (by decide) rfl (fun ls hl => ?_)
  refine lv_aload_n hx hb d_law_636 rfl (lv_at hl 4 rfl) ?_
  refine lm_r (As := []) (rest := []) ⟨hx, hb, hml, hown, hta⟩ (f_M_thrown l (dM d) τ631 ) ok_L_56 ⟨Nat.le_of_ble_eq_true rfl, Nat.le_of_ble_eq_true rfl⟩ hL hC rfl hl.1 rfl (Nat.le_of_ble_eq_true rfl) d_law_637 hcw (fun r637 hrr => ?_)
  subst hrr
  refine lv_iload hx hb d_law_640 (lv_at hl 1 rfl) ?_
  refine lv_icmp_eq (tgt := 647) hx hb d_law_642 (by decide) (fun cc642 => ?_) (fun cc642 => ?_)
  · have hE := hE.1 cc642
    refine lv_iload hx hb d_law_647 (lv_at hl 1 rfl) ?_
    refine lv_if_ne (tgt := 664) hx hb d_law_649 (by decide) (fun cc649 => ?_) (fun cc649 => ?_)
    · have hE := hE.2 cc649
      refine lv_goto (tgt := 773) hx hb d_law_664 (by decide) ?_
      refine lv_iinc (v := i + 6) (lv' := [(4, .int (i + 6)), (6, .int r631), (5, .int r619), (3, .ref (dL d)), (2, .ref (mA (dM d) 0)), (1, .ref (wA (dW d) 0)), (0, .ref b)]) hx hb d_law_773 hl (k := 2) rfl rfl (by decide) rfl (fun ls hl => ?_)
      refine lv_goto (tgt := 23) hx hb d_law_776 (by decide) ?_
      exact ih (i + 6) v619 τ631 g619 _ _ _ _ hL hI hS hn1 ls (lv_sub hl [0, 3, 4, 5, 6] rfl) hE
    · have hE := hE.1 cc649
      refine lv_aload_n hx hb d_law_652 rfl (lv_at hl 3 rfl) ?_
      refine lv_iconst (v := 0) hx hb d_law_653 (by decide) ?_
      refine va_lald hx hb hC.kL hL.1 0 1 rfl rfl (i := 0) (by unfold vp_in; decide) d_law_654 ?_
      refine lv_iload hx hb d_law_655 (lv_at hl 0 rfl) ?_
      refine lv_i2l hx hb d_law_657 rfl ?_
      refine lv_lcmp_eq (tgt := 664) hx hb d_law_658 d_law_659 (by decide) (fun cc659 => ?_) (fun cc659 => ?_)
      · have hE := hE.1 cc659
        refine lv_goto (tgt := 773) hx hb d_law_664 (by decide) ?_
        refine lv_iinc (v := i + 6) (lv' := [(4, .int (i + 6)), (6, .int r631), (5, .int r619), (3, .ref (dL d)), (2, .ref (mA (dM d) 0)), (1, .ref (wA (dW d) 0)), (0, .ref b)]) hx hb d_law_773 hl (k := 2) rfl rfl (by decide) rfl (fun ls hl => ?_)
        refine lv_goto (tgt := 23) hx hb d_law_776 (by decide) ?_
        exact ih (i + 6) v619 τ631 g619 _ _ _ _ hL hI hS hn1 ls (lv_sub hl [0, 3, 4, 5, 6] rfl) hE
      · have hE := hE.2 cc659
        exact hE.elim
  · have hE := hE.2 cc642
    exact hE.elim
def w_case_13 (N : Nat) (xs : Nat → Int32) (next : Int32 → PPS → MPS → (Nat → Int64) → Prop) (i : Int32) (σ : PPS) (τ : MPS) (f : Nat → Int64) : Prop := (vp_in (i + 1) N ∧ w_L_write σ f (xs (i + 1).toNatClampNeg) (fun r675 v675 g675 => (vp_in (i + 1) N ∧ w_M_write τ (xs (i + 1).toNatClampNeg) (fun r687 τ687 => (((mp_thrown τ687) = r675 → ((r675 = 0 → (((g675 (0 : Int32).toNatClampNeg) = r687.toInt64 → next (i + 6) v675 τ687 g675) ∧ (¬ (g675 (0 : Int32).toNatClampNeg) = r687.toInt64 → False))) ∧ (¬ r675 = 0 → next (i + 6) v675 τ687 g675))) ∧ (¬ (mp_thrown τ687) = r675 → False))))))
set_option maxHeartbeats 8000000 in
set_option maxRecDepth 100000 in
theorem law_case_13 {p : Program} {e : Env} {s : State} {m : MethodId} {below : List Frame} {meth : Method} {c : Code} (l : Launch) {b N : Nat} {xs : Nat → Int32} (hls : l.stackTraces = false) (C0 : lw_At p s m meth c b N xs) {d : LD} (hC : LCT d (fun q => s.heap.size ≤ q) s) {n : Nat} {next : Int32 → PPS → MPS → (Nat → Int64) → Prop} (ih : LK p l e s m below meth c b d n next)
    (i : Int32) (σ : PPS) (τ : MPS) (f : Nat → Int64) (H : Heap) (locs : List Loc) (kc ks : Nat) (hL : LST d (fun q => s.heap.size ≤ q) σ τ f H) (hI : inv σ) (hS : va_S (fun q => s.heap.size ≤ q) s.heap H locs) (hn : kc + (n + 1) ≤ 601024 ∧ ks + 6 * (n + 1) ≤ 7293034) (ls : Array Slot) (hl : lv_has ls 7 [(4, .int i), (3, .ref (dL d)), (2, .ref (mA (dM d) 0)), (1, .ref (wA (dW d) 0)), (0, .ref b)]) (hE : w_case_13 N xs next i σ τ f) :
      W p l e room_1 s m #[Value.ref b] below meth c H locs kc ks (lw_Z below #[Value.ref b] s) (F0 m 667 ls []) := by
  obtain ⟨hx, hb, hr, hml, hown, hts, hXs, hbl, hlocks, hgv⟩ := C0
  have hta : ∀ w ∈ aW, w.before #[Value.ref b] s = true := fun w h => hts w (aW_tbl h)
  have hbA : ¬ (s.heap.size ≤ b) := Nat.not_le.mpr hbl
  have hc0 : kc ≤ room_1.cells ∧ ks ≤ room_1.slots := ⟨by show kc ≤ 601024; omega, by show ks ≤ 7293034; omega⟩
  have hc1 : kc + 1 ≤ room_1.cells ∧ ks + 6 ≤ room_1.slots := ⟨by show kc + 1 ≤ 601024; omega, by show ks + 6 ≤ 7293034; omega⟩
  have hcw := hc1
  have hn0 : kc + n ≤ 601024 ∧ ks + 6 * n ≤ 7293034 := by omega
  have hn1 : (kc + 1) + n ≤ 601024 ∧ (ks + 6) + 6 * n ≤ 7293034 := by omega
  unfold w_case_13 at hE
  refine lv_aload_n hx hb d_law_667 rfl (lv_at hl 3 rfl) ?_
  refine lv_aload_n hx hb d_law_668 rfl (lv_at hl 4 rfl) ?_
  refine lv_iload hx hb d_law_669 (lv_at hl 0 rfl) ?_
  refine lv_iconst (v := 1) hx hb d_law_671 (by decide) ?_
  refine lv_iadd hx hb d_law_672 ?_
  obtain ⟨hi673, hE⟩ := hE
  refine va_sld hx hb hXs hbl hbA hS hi673 d_law_673 ?_
  refine lv_aload_n hx hb d_law_674 rfl (lv_at hl 1 rfl) ?_
  refine ll_i (As := [.ref (wA (dW d) 0), .int (xs (i + 1).toNatClampNeg), .ref (dL d)]) (rest := []) ⟨hx, hb, hml, hown, hta⟩ (c_L_write l (dW d) (dL d) (dC d) _ σ f (xs (i + 1).toNatClampNeg) _ hI hls hE) okw_write ⟨Nat.le_of_ble_eq_true rfl, Nat.le_of_ble_eq_true rfl⟩ hL hC hS rfl hl.1 rfl (Nat.le_of_ble_eq_true rfl) d_law_675 hc1 (fun r675 u675 H locs hE hL hS => ?_)
  obtain ⟨v675, g675⟩ := u675
  obtain ⟨hE, hI⟩ := hE
  refine lv_istore (lv' := [(5, .int r675), (4, .int i), (3, .ref (dL d)), (2, .ref (mA (dM d) 0)), (1, .ref (wA (dW d) 0)), (0, .ref b)]) hx hb d_law_678 hl (by decide) rfl (fun ls hl => ?_)
  refine lv_aload_n hx hb d_law_680 rfl (lv_at hl 3 rfl) ?_
  refine lv_aload_n hx hb d_law_681 rfl (lv_at hl 5 rfl) ?_
  refine lv_iload hx hb d_law_682 (lv_at hl 1 rfl) ?_
  refine lv_iconst (v := 1) hx hb d_law_684 (by decide) ?_
  refine lv_iadd hx hb d_law_685 ?_
  obtain ⟨hi686, hE⟩ := hE
  refine va_sld hx hb hXs hbl hbA hS hi686 d_law_686 ?_
  refine lm_i (As := [.int (xs (i + 1).toNatClampNeg)]) (rest := []) ⟨hx, hb, hml, hown, hta⟩ (c_M_write l (dM d) _ τ (xs (i + 1).toNatClampNeg) _ hE) ok_L_98 ⟨Nat.le_of_ble_eq_true rfl, Nat.le_of_ble_eq_true rfl⟩ hL hC hS rfl hl.1 rfl (Nat.le_of_ble_eq_true rfl) d_law_687 hcw (fun r687 τ687 H locs hE hL hS => ?_)
  refine lv_istore (lv' := [(6, .int r687), (5, .int r675), (4, .int i), (3, .ref (dL d)), (2, .ref (mA (dM d) 0)), (1, .ref (wA (dW d) 0)), (0, .ref b)]) hx hb d_law_690 hl (by decide) rfl (fun ls hl => ?_)
  refine lv_aload_n hx hb d_law_692 rfl (lv_at hl 4 rfl) ?_
  refine lm_r (As := []) (rest := []) ⟨hx, hb, hml, hown, hta⟩ (f_M_thrown l (dM d) τ687 ) ok_L_56 ⟨Nat.le_of_ble_eq_true rfl, Nat.le_of_ble_eq_true rfl⟩ hL hC rfl hl.1 rfl (Nat.le_of_ble_eq_true rfl) d_law_693 hcw (fun r693 hrr => ?_)
  subst hrr
  refine lv_iload hx hb d_law_696 (lv_at hl 1 rfl) ?_
  refine lv_icmp_eq (tgt := 703) hx hb d_law_698 (by decide) (fun cc698 => ?_) (fun cc698 => ?_)
  · have hE := hE.1 cc698
    refine lv_iload hx hb d_law_703 (lv_at hl 1 rfl) ?_
    refine lv_if_ne (tgt := 720) hx hb d_law_705 (by decide) (fun cc705 => ?_) (fun cc705 => ?_)
    · have hE := hE.2 cc705
      refine lv_goto (tgt := 773) hx hb d_law_720 (by decide) ?_
      refine lv_iinc (v := i + 6) (lv' := [(4, .int (i + 6)), (6, .int r687), (5, .int r675), (3, .ref (dL d)), (2, .ref (mA (dM d) 0)), (1, .ref (wA (dW d) 0)), (0, .ref b)]) hx hb d_law_773 hl (k := 2) rfl rfl (by decide) rfl (fun ls hl => ?_)
      refine lv_goto (tgt := 23) hx hb d_law_776 (by decide) ?_
      exact ih (i + 6) v675 τ687 g675 _ _ _ _ hL hI hS hn1 ls (lv_sub hl [0, 3, 4, 5, 6] rfl) hE
    · have hE := hE.1 cc705
      refine lv_aload_n hx hb d_law_708 rfl (lv_at hl 3 rfl) ?_
      refine lv_iconst (v := 0) hx hb d_law_709 (by decide) ?_
      refine va_lald hx hb hC.kL hL.1 0 1 rfl rfl (i := 0) (by unfold vp_in; decide) d_law_710 ?_
      refine lv_iload hx hb d_law_711 (lv_at hl 0 rfl) ?_
      refine lv_i2l hx hb d_law_713 rfl ?_
      refine lv_lcmp_eq (tgt := 720) hx hb d_law_714 d_law_715 (by decide) (fun cc715 => ?_) (fun cc715 => ?_)
      · have hE := hE.1 cc715
        refine lv_goto (tgt := 773) hx hb d_law_720 (by decide) ?_
        refine lv_iinc (v := i + 6) (lv' := [(4, .int (i + 6)), (6, .int r687), (5, .int r675), (3, .ref (dL d)), (2, .ref (mA (dM d) 0)), (1, .ref (wA (dW d) 0)), (0, .ref b)]) hx hb d_law_773 hl (k := 2) rfl rfl (by decide) rfl (fun ls hl => ?_)
        refine lv_goto (tgt := 23) hx hb d_law_776 (by decide) ?_
        exact ih (i + 6) v675 τ687 g675 _ _ _ _ hL hI hS hn1 ls (lv_sub hl [0, 3, 4, 5, 6] rfl) hE
      · have hE := hE.2 cc715
        exact hE.elim
  · have hE := hE.2 cc698
    exact hE.elim
def w_case_14 (N : Nat) (xs : Nat → Int32) (next : Int32 → PPS → MPS → (Nat → Int64) → Prop) (i : Int32) (σ : PPS) (τ : MPS) (f : Nat → Int64) : Prop := (vp_in (i + 1) N ∧ w_X_output σ (xs (i + 1).toNatClampNeg) (fun r730 => (vp_in (i + 1) N ∧ w_M_output τ (xs (i + 1).toNatClampNeg) (fun r740 τ740 => ((r730 = r740 → next (i + 6) σ τ740 f) ∧ (¬ r730 = r740 → False))))))
set_option maxHeartbeats 8000000 in
set_option maxRecDepth 100000 in
theorem law_case_14 {p : Program} {e : Env} {s : State} {m : MethodId} {below : List Frame} {meth : Method} {c : Code} (l : Launch) {b N : Nat} {xs : Nat → Int32} (hls : l.stackTraces = false) (C0 : lw_At p s m meth c b N xs) {d : LD} (hC : LCT d (fun q => s.heap.size ≤ q) s) {n : Nat} {next : Int32 → PPS → MPS → (Nat → Int64) → Prop} (ih : LK p l e s m below meth c b d n next)
    (i : Int32) (σ : PPS) (τ : MPS) (f : Nat → Int64) (H : Heap) (locs : List Loc) (kc ks : Nat) (hL : LST d (fun q => s.heap.size ≤ q) σ τ f H) (hI : inv σ) (hS : va_S (fun q => s.heap.size ≤ q) s.heap H locs) (hn : kc + (n + 1) ≤ 601024 ∧ ks + 6 * (n + 1) ≤ 7293034) (ls : Array Slot) (hl : lv_has ls 7 [(4, .int i), (3, .ref (dL d)), (2, .ref (mA (dM d) 0)), (1, .ref (wA (dW d) 0)), (0, .ref b)]) (hE : w_case_14 N xs next i σ τ f) :
      W p l e room_1 s m #[Value.ref b] below meth c H locs kc ks (lw_Z below #[Value.ref b] s) (F0 m 723 ls []) := by
  obtain ⟨hx, hb, hr, hml, hown, hts, hXs, hbl, hlocks, hgv⟩ := C0
  have hta : ∀ w ∈ aW, w.before #[Value.ref b] s = true := fun w h => hts w (aW_tbl h)
  have hbA : ¬ (s.heap.size ≤ b) := Nat.not_le.mpr hbl
  have hc0 : kc ≤ room_1.cells ∧ ks ≤ room_1.slots := ⟨by show kc ≤ 601024; omega, by show ks ≤ 7293034; omega⟩
  have hc1 : kc + 1 ≤ room_1.cells ∧ ks + 6 ≤ room_1.slots := ⟨by show kc + 1 ≤ 601024; omega, by show ks + 6 ≤ 7293034; omega⟩
  have hcw := hc1
  have hn0 : kc + n ≤ 601024 ∧ ks + 6 * n ≤ 7293034 := by omega
  have hn1 : (kc + 1) + n ≤ 601024 ∧ (ks + 6) + 6 * n ≤ 7293034 := by omega
  unfold w_case_14 at hE
  refine lv_aload_n hx hb d_law_723 rfl (lv_at hl 3 rfl) ?_
  refine lv_aload_n hx hb d_law_724 rfl (lv_at hl 4 rfl) ?_
  refine lv_iload hx hb d_law_725 (lv_at hl 0 rfl) ?_
  refine lv_iconst (v := 1) hx hb d_law_727 (by decide) ?_
  refine lv_iadd hx hb d_law_728 ?_
  obtain ⟨hi729, hE⟩ := hE
  refine va_sld hx hb hXs hbl hbA hS hi729 d_law_729 ?_
  refine lx_r (As := [.int (xs (i + 1).toNatClampNeg)]) (rest := []) ⟨hx, hb, hml, hown, hta⟩ (c_X_output l (dW d) σ (xs (i + 1).toNatClampNeg) _ hI hE) ok_L_99 ⟨Nat.le_of_ble_eq_true rfl, Nat.le_of_ble_eq_true rfl⟩ hL hC hS rfl hl.1 rfl (Nat.le_of_ble_eq_true rfl) d_law_730 hc0 (fun r730 hE => ?_)
  refine lv_aload_n hx hb d_law_733 rfl (lv_at hl 2 rfl) ?_
  refine lv_aload_n hx hb d_law_734 rfl (lv_at hl 4 rfl) ?_
  refine lv_iload hx hb d_law_735 (lv_at hl 0 rfl) ?_
  refine lv_iconst (v := 1) hx hb d_law_737 (by decide) ?_
  refine lv_iadd hx hb d_law_738 ?_
  obtain ⟨hi739, hE⟩ := hE
  refine va_sld hx hb hXs hbl hbA hS hi739 d_law_739 ?_
  refine lm_i (As := [.int (xs (i + 1).toNatClampNeg)]) (rest := [.int r730]) ⟨hx, hb, hml, hown, hta⟩ (c_M_output l (dM d) _ τ (xs (i + 1).toNatClampNeg) _ hE) ok_L_102 ⟨Nat.le_of_ble_eq_true rfl, Nat.le_of_ble_eq_true rfl⟩ hL hC hS rfl hl.1 rfl (Nat.le_of_ble_eq_true rfl) d_law_740 hc0 (fun r740 τ740 H locs hE hL hS => ?_)
  refine lv_icmp_eq (tgt := 773) hx hb d_law_743 (by decide) (fun cc743 => ?_) (fun cc743 => ?_)
  · have hE := hE.1 cc743
    refine lv_iinc (v := i + 6) (lv' := [(4, .int (i + 6)), (3, .ref (dL d)), (2, .ref (mA (dM d) 0)), (1, .ref (wA (dW d) 0)), (0, .ref b)]) hx hb d_law_773 hl (k := 0) rfl rfl (by decide) rfl (fun ls hl => ?_)
    refine lv_goto (tgt := 23) hx hb d_law_776 (by decide) ?_
    exact ih (i + 6) σ τ740 f _ _ _ _ hL hI hS hn0 ls (lv_sub hl [0, 1, 2, 3, 4] rfl) hE
  · have hE := hE.2 cc743
    exact hE.elim
def w_case_15 (N : Nat) (xs : Nat → Int32) (next : Int32 → PPS → MPS → (Nat → Int64) → Prop) (i : Int32) (σ : PPS) (τ : MPS) (f : Nat → Int64) : Prop := (vp_in (i + 1) N ∧ w_X_about σ (xs (i + 1).toNatClampNeg) (fun r755 => (vp_in (i + 1) N ∧ w_M_about τ (xs (i + 1).toNatClampNeg) (fun r765 τ765 => ((r755 = r765 → next (i + 6) σ τ765 f) ∧ (¬ r755 = r765 → False))))))
set_option maxHeartbeats 8000000 in
set_option maxRecDepth 100000 in
theorem law_case_15 {p : Program} {e : Env} {s : State} {m : MethodId} {below : List Frame} {meth : Method} {c : Code} (l : Launch) {b N : Nat} {xs : Nat → Int32} (hls : l.stackTraces = false) (C0 : lw_At p s m meth c b N xs) {d : LD} (hC : LCT d (fun q => s.heap.size ≤ q) s) {n : Nat} {next : Int32 → PPS → MPS → (Nat → Int64) → Prop} (ih : LK p l e s m below meth c b d n next)
    (i : Int32) (σ : PPS) (τ : MPS) (f : Nat → Int64) (H : Heap) (locs : List Loc) (kc ks : Nat) (hL : LST d (fun q => s.heap.size ≤ q) σ τ f H) (hI : inv σ) (hS : va_S (fun q => s.heap.size ≤ q) s.heap H locs) (hn : kc + (n + 1) ≤ 601024 ∧ ks + 6 * (n + 1) ≤ 7293034) (ls : Array Slot) (hl : lv_has ls 7 [(4, .int i), (3, .ref (dL d)), (2, .ref (mA (dM d) 0)), (1, .ref (wA (dW d) 0)), (0, .ref b)]) (hE : w_case_15 N xs next i σ τ f) :
      W p l e room_1 s m #[Value.ref b] below meth c H locs kc ks (lw_Z below #[Value.ref b] s) (F0 m 748 ls []) := by
  obtain ⟨hx, hb, hr, hml, hown, hts, hXs, hbl, hlocks, hgv⟩ := C0
  have hta : ∀ w ∈ aW, w.before #[Value.ref b] s = true := fun w h => hts w (aW_tbl h)
  have hbA : ¬ (s.heap.size ≤ b) := Nat.not_le.mpr hbl
  have hc0 : kc ≤ room_1.cells ∧ ks ≤ room_1.slots := ⟨by show kc ≤ 601024; omega, by show ks ≤ 7293034; omega⟩
  have hc1 : kc + 1 ≤ room_1.cells ∧ ks + 6 ≤ room_1.slots := ⟨by show kc + 1 ≤ 601024; omega, by show ks + 6 ≤ 7293034; omega⟩
  have hcw := hc1
  have hn0 : kc + n ≤ 601024 ∧ ks + 6 * n ≤ 7293034 := by omega
  have hn1 : (kc + 1) + n ≤ 601024 ∧ (ks + 6) + 6 * n ≤ 7293034 := by omega
  unfold w_case_15 at hE
  refine lv_aload_n hx hb d_law_748 rfl (lv_at hl 3 rfl) ?_
  refine lv_aload_n hx hb d_law_749 rfl (lv_at hl 4 rfl) ?_
  refine lv_iload hx hb d_law_750 (lv_at hl 0 rfl) ?_
  refine lv_iconst (v := 1) hx hb d_law_752 (by decide) ?_
  refine lv_iadd hx hb d_law_753 ?_
  obtain ⟨hi754, hE⟩ := hE
  refine va_sld hx hb hXs hbl hbA hS hi754 d_law_754 ?_
  refine lx_r (As := [.int (xs (i + 1).toNatClampNeg)]) (rest := []) ⟨hx, hb, hml, hown, hta⟩ (c_X_about l (dW d) σ (xs (i + 1).toNatClampNeg) _ hI hE) ok_L_103 ⟨Nat.le_of_ble_eq_true rfl, Nat.le_of_ble_eq_true rfl⟩ hL hC hS rfl hl.1 rfl (Nat.le_of_ble_eq_true rfl) d_law_755 hc0 (fun r755 hE => ?_)
  refine lv_aload_n hx hb d_law_758 rfl (lv_at hl 2 rfl) ?_
  refine lv_aload_n hx hb d_law_759 rfl (lv_at hl 4 rfl) ?_
  refine lv_iload hx hb d_law_760 (lv_at hl 0 rfl) ?_
  refine lv_iconst (v := 1) hx hb d_law_762 (by decide) ?_
  refine lv_iadd hx hb d_law_763 ?_
  obtain ⟨hi764, hE⟩ := hE
  refine va_sld hx hb hXs hbl hbA hS hi764 d_law_764 ?_
  refine lm_i (As := [.int (xs (i + 1).toNatClampNeg)]) (rest := [.int r755]) ⟨hx, hb, hml, hown, hta⟩ (c_M_about l (dM d) _ τ (xs (i + 1).toNatClampNeg) _ hE) ok_L_106 ⟨Nat.le_of_ble_eq_true rfl, Nat.le_of_ble_eq_true rfl⟩ hL hC hS rfl hl.1 rfl (Nat.le_of_ble_eq_true rfl) d_law_765 hc0 (fun r765 τ765 H locs hE hL hS => ?_)
  refine lv_icmp_eq (tgt := 773) hx hb d_law_768 (by decide) (fun cc768 => ?_) (fun cc768 => ?_)
  · have hE := hE.1 cc768
    refine lv_iinc (v := i + 6) (lv' := [(4, .int (i + 6)), (3, .ref (dL d)), (2, .ref (mA (dM d) 0)), (1, .ref (wA (dW d) 0)), (0, .ref b)]) hx hb d_law_773 hl (k := 0) rfl rfl (by decide) rfl (fun ls hl => ?_)
    refine lv_goto (tgt := 23) hx hb d_law_776 (by decide) ?_
    exact ih (i + 6) σ τ765 f _ _ _ _ hL hI hS hn0 ls (lv_sub hl [0, 1, 2, 3, 4] rfl) hE
  · have hE := hE.2 cc768
    exact hE.elim
/-- a step of the script -/
def w_step (N : Nat) (xs : Nat → Int32) (next : Int32 → PPS → MPS → (Nat → Int64) → Prop) (i : Int32) (σ : PPS) (τ : MPS) (f : Nat → Int64) : Prop := ((((Int32.ofNat N) - 6) < i → True) ∧ (¬ ((Int32.ofNat N) - 6) < i → (vp_in i N ∧ ((((xs i.toNatClampNeg) &&& 15) = 0 → w_case_0 N xs next i σ τ f) ∧ (¬ ((xs i.toNatClampNeg) &&& 15) = 0 → ((((xs i.toNatClampNeg) &&& 15) = 1 → w_case_1 N xs next i σ τ f) ∧ (¬ ((xs i.toNatClampNeg) &&& 15) = 1 → ((((xs i.toNatClampNeg) &&& 15) = 2 → w_case_2 N xs next i σ τ f) ∧ (¬ ((xs i.toNatClampNeg) &&& 15) = 2 → ((((xs i.toNatClampNeg) &&& 15) = 3 → w_case_3 N xs next i σ τ f) ∧ (¬ ((xs i.toNatClampNeg) &&& 15) = 3 → ((((xs i.toNatClampNeg) &&& 15) = 4 → w_case_4 N xs next i σ τ f) ∧ (¬ ((xs i.toNatClampNeg) &&& 15) = 4 → ((((xs i.toNatClampNeg) &&& 15) = 5 → w_case_5 N xs next i σ τ f) ∧ (¬ ((xs i.toNatClampNeg) &&& 15) = 5 → ((((xs i.toNatClampNeg) &&& 15) = 6 → w_case_6 N xs next i σ τ f) ∧ (¬ ((xs i.toNatClampNeg) &&& 15) = 6 → ((((xs i.toNatClampNeg) &&& 15) = 7 → w_case_7 N xs next i σ τ f) ∧ (¬ ((xs i.toNatClampNeg) &&& 15) = 7 → ((((xs i.toNatClampNeg) &&& 15) = 8 → w_case_8 N xs next i σ τ f) ∧ (¬ ((xs i.toNatClampNeg) &&& 15) = 8 → ((((xs i.toNatClampNeg) &&& 15) = 9 → w_case_9 N xs next i σ τ f) ∧ (¬ ((xs i.toNatClampNeg) &&& 15) = 9 → ((((xs i.toNatClampNeg) &&& 15) = 10 → w_case_10 N xs next i σ τ f) ∧ (¬ ((xs i.toNatClampNeg) &&& 15) = 10 → ((((xs i.toNatClampNeg) &&& 15) = 11 → w_case_11 N xs next i σ τ f) ∧ (¬ ((xs i.toNatClampNeg) &&& 15) = 11 → ((((xs i.toNatClampNeg) &&& 15) = 12 → w_case_12 N xs next i σ τ f) ∧ (¬ ((xs i.toNatClampNeg) &&& 15) = 12 → ((((xs i.toNatClampNeg) &&& 15) = 13 → w_case_13 N xs next i σ τ f) ∧ (¬ ((xs i.toNatClampNeg) &&& 15) = 13 → ((((xs i.toNatClampNeg) &&& 15) = 14 → w_case_14 N xs next i σ τ f) ∧ (¬ ((xs i.toNatClampNeg) &&& 15) = 14 → ((((xs i.toNatClampNeg) &&& 15) = 15 → w_case_15 N xs next i σ τ f) ∧ (¬ ((xs i.toNatClampNeg) &&& 15) = 15 → False)))))))))))))))))))))))))))))))))))
def w_law (N : Nat) (xs : Nat → Int32) : Nat → Int32 → PPS → MPS → (Nat → Int64) → Prop
  | 0 => fun _ _ _ _ => False
  | n + 1 => w_step N xs (w_law N xs n)
set_option maxHeartbeats 8000000 in
set_option maxRecDepth 100000 in
theorem law_loop {p : Program} {e : Env} {s : State} {m : MethodId} {below : List Frame} {meth : Method} {c : Code} (l : Launch) {b N : Nat} {xs : Nat → Int32} (hls : l.stackTraces = false) (C0 : lw_At p s m meth c b N xs) {d : LD} (hC : LCT d (fun q => s.heap.size ≤ q) s) : ∀ n : Nat, LK p l e s m below meth c b d n (w_law N xs n) := by
  intro n
  induction n with
  | zero => intro i σ τ f H locs kc ks hL hI hS hn ls hl hE; exact hE.elim
  | succ n ih =>
    intro i σ τ f H locs kc ks hL hI hS hn ls hl hE
    have C0' := C0
    obtain ⟨hx, hb, hr, hml, hown, hts, hXs, hbl, hlocks, hgv⟩ := C0'
    have hta : ∀ w ∈ aW, w.before #[Value.ref b] s = true := fun w h => hts w (aW_tbl h)
    have hbA : ¬ (s.heap.size ≤ b) := Nat.not_le.mpr hbl
    have hc0 : kc ≤ room_1.cells ∧ ks ≤ room_1.slots := ⟨by show kc ≤ 601024; omega, by show ks ≤ 7293034; omega⟩
    have hc1 : kc + 1 ≤ room_1.cells ∧ ks + 6 ≤ room_1.slots := ⟨by show kc + 1 ≤ 601024; omega, by show ks + 6 ≤ 7293034; omega⟩
    have hcw := hc1
    have hn0 : kc + n ≤ 601024 ∧ ks + 6 * n ≤ 7293034 := by omega
    have hn1 : (kc + 1) + n ≤ 601024 ∧ (ks + 6) + 6 * n ≤ 7293034 := by omega
    replace hE : w_step N xs (w_law N xs n) i σ τ f := hE
    unfold w_step at hE
    refine lv_iload hx hb d_law_23 (lv_at hl 0 rfl) ?_
    refine lv_aload_n hx hb d_law_25 rfl (lv_at hl 4 rfl) ?_
    refine va_slen hx hb hXs hbl hbA hS d_law_26 ?_
    refine lv_bipush (v := 6) hx hb d_law_27 (by decide) ?_
    refine lv_isub hx hb d_law_29 ?_
    refine lv_icmp_gt (tgt := 779) hx hb d_law_30 (by decide) (fun cc30 => ?_) (fun cc30 => ?_)
    · have hE := hE.1 cc30
      refine lv_iconst (v := 1) hx hb d_law_779 (by decide) ?_
      exact l_end hx hb hr hlocks hS hc0 d_law_780
    · have hE := hE.2 cc30
      refine lv_aload_n hx hb d_law_33 rfl (lv_at hl 4 rfl) ?_
      refine lv_iload hx hb d_law_34 (lv_at hl 0 rfl) ?_
      obtain ⟨hi36, hE⟩ := hE
      refine va_sld hx hb hXs hbl hbA hS hi36 d_law_36 ?_
      refine lv_bipush (v := 15) hx hb d_law_37 (by decide) ?_
      refine lv_iand hx hb d_law_39 ?_
      by_cases hs0 : ((xs i.toNatClampNeg) &&& 15) = 0
      · have hE := hE.1 hs0
        refine lv_tableIn (off := 80) (tgt := 120) hx hb d_law_40 (by rw [hs0]; decide) (by rw [hs0]; decide) (by rw [hs0]; decide) (by decide) ?_
        exact law_case_0 l hls C0 hC ih i σ τ f H locs kc ks hL hI hS hn ls hl hE
      · have hE := hE.2 hs0
        by_cases hs1 : ((xs i.toNatClampNeg) &&& 15) = 1
        · have hE := hE.1 hs1
          refine lv_tableIn (off := 151) (tgt := 191) hx hb d_law_40 (by rw [hs1]; decide) (by rw [hs1]; decide) (by rw [hs1]; decide) (by decide) ?_
          exact law_case_1 l hls C0 hC ih i σ τ f H locs kc ks hL hI hS hn ls hl hE
        · have hE := hE.2 hs1
          by_cases hs2 : ((xs i.toNatClampNeg) &&& 15) = 2
          · have hE := hE.1 hs2
            refine lv_tableIn (off := 176) (tgt := 216) hx hb d_law_40 (by rw [hs2]; decide) (by rw [hs2]; decide) (by rw [hs2]; decide) (by decide) ?_
            exact law_case_2 l hls C0 hC ih i σ τ f H locs kc ks hL hI hS hn ls hl hE
          · have hE := hE.2 hs2
            by_cases hs3 : ((xs i.toNatClampNeg) &&& 15) = 3
            · have hE := hE.1 hs3
              refine lv_tableIn (off := 187) (tgt := 227) hx hb d_law_40 (by rw [hs3]; decide) (by rw [hs3]; decide) (by rw [hs3]; decide) (by decide) ?_
              exact law_case_3 l hls C0 hC ih i σ τ f H locs kc ks hL hI hS hn ls hl hE
            · have hE := hE.2 hs3
              by_cases hs4 : ((xs i.toNatClampNeg) &&& 15) = 4
              · have hE := hE.1 hs4
                refine lv_tableIn (off := 231) (tgt := 271) hx hb d_law_40 (by rw [hs4]; decide) (by rw [hs4]; decide) (by rw [hs4]; decide) (by decide) ?_
                exact law_case_4 l hls C0 hC ih i σ τ f H locs kc ks hL hI hS hn ls hl hE
              · have hE := hE.2 hs4
                by_cases hs5 : ((xs i.toNatClampNeg) &&& 15) = 5
                · have hE := hE.1 hs5
                  refine lv_tableIn (off := 282) (tgt := 322) hx hb d_law_40 (by rw [hs5]; decide) (by rw [hs5]; decide) (by rw [hs5]; decide) (by decide) ?_
                  exact law_case_5 l hls C0 hC ih i σ τ f H locs kc ks hL hI hS hn ls hl hE
                · have hE := hE.2 hs5
                  by_cases hs6 : ((xs i.toNatClampNeg) &&& 15) = 6
                  · have hE := hE.1 hs6
                    refine lv_tableIn (off := 333) (tgt := 373) hx hb d_law_40 (by rw [hs6]; decide) (by rw [hs6]; decide) (by rw [hs6]; decide) (by decide) ?_
                    exact law_case_6 l hls C0 hC ih i σ τ f H locs kc ks hL hI hS hn ls hl hE
                  · have hE := hE.2 hs6
                    by_cases hs7 : ((xs i.toNatClampNeg) &&& 15) = 7
                    · have hE := hE.1 hs7
                      refine lv_tableIn (off := 358) (tgt := 398) hx hb d_law_40 (by rw [hs7]; decide) (by rw [hs7]; decide) (by rw [hs7]; decide) (by decide) ?_
                      exact law_case_7 l hls C0 hC ih i σ τ f H locs kc ks hL hI hS hn ls hl hE
                    · have hE := hE.2 hs7
                      by_cases hs8 : ((xs i.toNatClampNeg) &&& 15) = 8
                      · have hE := hE.1 hs8
                        refine lv_tableIn (off := 395) (tgt := 435) hx hb d_law_40 (by rw [hs8]; decide) (by rw [hs8]; decide) (by rw [hs8]; decide) (by decide) ?_
                        exact law_case_8 l hls C0 hC ih i σ τ f H locs kc ks hL hI hS hn ls hl hE
                      · have hE := hE.2 hs8
                        by_cases hs9 : ((xs i.toNatClampNeg) &&& 15) = 9
                        · have hE := hE.1 hs9
                          refine lv_tableIn (off := 432) (tgt := 472) hx hb d_law_40 (by rw [hs9]; decide) (by rw [hs9]; decide) (by rw [hs9]; decide) (by decide) ?_
                          exact law_case_9 l hls C0 hC ih i σ τ f H locs kc ks hL hI hS hn ls hl hE
                        · have hE := hE.2 hs9
                          by_cases hs10 : ((xs i.toNatClampNeg) &&& 15) = 10
                          · have hE := hE.1 hs10
                            refine lv_tableIn (off := 481) (tgt := 521) hx hb d_law_40 (by rw [hs10]; decide) (by rw [hs10]; decide) (by rw [hs10]; decide) (by decide) ?_
                            exact law_case_10 l hls C0 hC ih i σ τ f H locs kc ks hL hI hS hn ls hl hE
                          · have hE := hE.2 hs10
                            by_cases hs11 : ((xs i.toNatClampNeg) &&& 15) = 11
                            · have hE := hE.1 hs11
                              refine lv_tableIn (off := 558) (tgt := 598) hx hb d_law_40 (by rw [hs11]; decide) (by rw [hs11]; decide) (by rw [hs11]; decide) (by decide) ?_
                              exact law_case_11 l hls C0 hC ih i σ τ f H locs kc ks hL hI hS hn ls hl hE
                            · have hE := hE.2 hs11
                              by_cases hs12 : ((xs i.toNatClampNeg) &&& 15) = 12
                              · have hE := hE.1 hs12
                                refine lv_tableIn (off := 571) (tgt := 611) hx hb d_law_40 (by rw [hs12]; decide) (by rw [hs12]; decide) (by rw [hs12]; decide) (by decide) ?_
                                exact law_case_12 l hls C0 hC ih i σ τ f H locs kc ks hL hI hS hn ls hl hE
                              · have hE := hE.2 hs12
                                by_cases hs13 : ((xs i.toNatClampNeg) &&& 15) = 13
                                · have hE := hE.1 hs13
                                  refine lv_tableIn (off := 627) (tgt := 667) hx hb d_law_40 (by rw [hs13]; decide) (by rw [hs13]; decide) (by rw [hs13]; decide) (by decide) ?_
                                  exact law_case_13 l hls C0 hC ih i σ τ f H locs kc ks hL hI hS hn ls hl hE
                                · have hE := hE.2 hs13
                                  by_cases hs14 : ((xs i.toNatClampNeg) &&& 15) = 14
                                  · have hE := hE.1 hs14
                                    refine lv_tableIn (off := 683) (tgt := 723) hx hb d_law_40 (by rw [hs14]; decide) (by rw [hs14]; decide) (by rw [hs14]; decide) (by decide) ?_
                                    exact law_case_14 l hls C0 hC ih i σ τ f H locs kc ks hL hI hS hn ls hl hE
                                  · have hE := hE.2 hs14
                                    by_cases hs15 : ((xs i.toNatClampNeg) &&& 15) = 15
                                    · have hE := hE.1 hs15
                                      refine lv_tableIn (off := 708) (tgt := 748) hx hb d_law_40 (by rw [hs15]; decide) (by rw [hs15]; decide) (by rw [hs15]; decide) (by decide) ?_
                                      exact law_case_15 l hls C0 hC ih i σ τ f H locs kc ks hL hI hS hn ls hl hE
                                    · have hE := hE.2 hs15
                                      exact hE.elim
