-- printed by wip/gen: the reference
theorem fl_M_181 : Cond.fieldLink "PlainPagesModel" 181 "PlainPagesModel" "elements" "I" ∈ aW := aW_in 918 (by decide +kernel) rfl
theorem fl_M_29 : Cond.fieldLink "PlainPagesModel" 29 "PlainPagesModel" "openAt" "[I" ∈ aW := aW_in 921 (by decide +kernel) rfl
theorem fl_M_33 : Cond.fieldLink "PlainPagesModel" 33 "PlainPagesModel" "openMany" "[I" ∈ aW := aW_in 922 (by decide +kernel) rfl
theorem ok_M_184 : okV "PlainPagesModel" 184 R_M y_M_add b_M_add 6 (some .int) 3 := ⟨aW_in 1073 (by decide +kernel) rfl, aW_in 1075 (by decide +kernel) rfl, aW_in 46 (by decide +kernel) rfl, aW_in 92 (by decide +kernel) rfl, cd_M_add, rfl, by decide +kernel, by decide +kernel, by decide +kernel⟩
theorem ok_M_188 : okV "PlainPagesModel" 188 R_M y_M_skipWhite b_M_skipWhite 1 none 0 := ⟨aW_in 1049 (by decide +kernel) rfl, aW_in 1051 (by decide +kernel) rfl, aW_in 43 (by decide +kernel) rfl, aW_in 92 (by decide +kernel) rfl, cd_M_skipWhite, rfl, by decide +kernel, by decide +kernel, by decide +kernel⟩
theorem ok_M_191 : okV "PlainPagesModel" 191 R_M y_M_takeAttribute b_M_takeAttribute 4 none 1 := ⟨aW_in 1077 (by decide +kernel) rfl, aW_in 1079 (by decide +kernel) rfl, aW_in 47 (by decide +kernel) rfl, aW_in 92 (by decide +kernel) rfl, cd_M_takeAttribute, rfl, by decide +kernel, by decide +kernel, by decide +kernel⟩
theorem d_M_takeBeginning_0 : decode b_M_takeBeginning 0 = .ok (.aload_n 0, 1) := by decide +kernel
theorem d_M_takeBeginning_1 : decode b_M_takeBeginning 1 = .ok (.getfield 101, 3) := by decide +kernel
theorem d_M_takeBeginning_4 : decode b_M_takeBeginning 4 = .ok (.istore_n 1, 1) := by decide +kernel
theorem d_M_takeBeginning_5 : decode b_M_takeBeginning 5 = .ok (.aload_n 0, 1) := by decide +kernel
theorem d_M_takeBeginning_6 : decode b_M_takeBeginning 6 = .ok (.getfield 178, 3) := by decide +kernel
theorem d_M_takeBeginning_9 : decode b_M_takeBeginning 9 = .ok (.bipush 40, 2) := by decide +kernel
theorem d_M_takeBeginning_11 : decode b_M_takeBeginning 11 = .ok (.if_icmp .eq 13, 3) := by decide +kernel
theorem d_M_takeBeginning_14 : decode b_M_takeBeginning 14 = .ok (.aload_n 0, 1) := by decide +kernel
theorem d_M_takeBeginning_15 : decode b_M_takeBeginning 15 = .ok (.getfield 181, 3) := by decide +kernel
theorem d_M_takeBeginning_18 : decode b_M_takeBeginning 18 = .ok (.sipush 300, 3) := by decide +kernel
theorem d_M_takeBeginning_21 : decode b_M_takeBeginning 21 = .ok (.if_icmp .ne 9, 3) := by decide +kernel
theorem d_M_takeBeginning_24 : decode b_M_takeBeginning 24 = .ok (.aload_n 0, 1) := by decide +kernel
theorem d_M_takeBeginning_25 : decode b_M_takeBeginning 25 = .ok (.iconst 1, 1) := by decide +kernel
theorem d_M_takeBeginning_26 : decode b_M_takeBeginning 26 = .ok (.putfield 111, 3) := by decide +kernel
theorem d_M_takeBeginning_29 : decode b_M_takeBeginning 29 = .ok (.return_, 1) := by decide +kernel
theorem d_M_takeBeginning_30 : decode b_M_takeBeginning 30 = .ok (.aload_n 0, 1) := by decide +kernel
theorem d_M_takeBeginning_31 : decode b_M_takeBeginning 31 = .ok (.dup, 1) := by decide +kernel
theorem d_M_takeBeginning_32 : decode b_M_takeBeginning 32 = .ok (.getfield 101, 3) := by decide +kernel
theorem d_M_takeBeginning_35 : decode b_M_takeBeginning 35 = .ok (.iconst 1, 1) := by decide +kernel
theorem d_M_takeBeginning_36 : decode b_M_takeBeginning 36 = .ok (.iadd, 1) := by decide +kernel
theorem d_M_takeBeginning_37 : decode b_M_takeBeginning 37 = .ok (.putfield 101, 3) := by decide +kernel
theorem d_M_takeBeginning_40 : decode b_M_takeBeginning 40 = .ok (.aload_n 0, 1) := by decide +kernel
theorem d_M_takeBeginning_41 : decode b_M_takeBeginning 41 = .ok (.getfield 29, 3) := by decide +kernel
theorem d_M_takeBeginning_44 : decode b_M_takeBeginning 44 = .ok (.aload_n 0, 1) := by decide +kernel
theorem d_M_takeBeginning_45 : decode b_M_takeBeginning 45 = .ok (.getfield 178, 3) := by decide +kernel
theorem d_M_takeBeginning_48 : decode b_M_takeBeginning 48 = .ok (.aload_n 0, 1) := by decide +kernel
theorem d_M_takeBeginning_49 : decode b_M_takeBeginning 49 = .ok (.getfield 101, 3) := by decide +kernel
theorem d_M_takeBeginning_52 : decode b_M_takeBeginning 52 = .ok (.iastore, 1) := by decide +kernel
theorem d_M_takeBeginning_53 : decode b_M_takeBeginning 53 = .ok (.aload_n 0, 1) := by decide +kernel
theorem d_M_takeBeginning_54 : decode b_M_takeBeginning 54 = .ok (.getfield 33, 3) := by decide +kernel
theorem d_M_takeBeginning_57 : decode b_M_takeBeginning 57 = .ok (.aload_n 0, 1) := by decide +kernel
theorem d_M_takeBeginning_58 : decode b_M_takeBeginning 58 = .ok (.getfield 178, 3) := by decide +kernel
theorem d_M_takeBeginning_61 : decode b_M_takeBeginning 61 = .ok (.aload_n 0, 1) := by decide +kernel
theorem d_M_takeBeginning_62 : decode b_M_takeBeginning 62 = .ok (.invokevirtual 165, 3) := by decide +kernel
theorem d_M_takeBeginning_65 : decode b_M_takeBeginning 65 = .ok (.iastore, 1) := by decide +kernel
theorem d_M_takeBeginning_66 : decode b_M_takeBeginning 66 = .ok (.aload_n 0, 1) := by decide +kernel
theorem d_M_takeBeginning_67 : decode b_M_takeBeginning 67 = .ok (.dup, 1) := by decide +kernel
theorem d_M_takeBeginning_68 : decode b_M_takeBeginning 68 = .ok (.getfield 181, 3) := by decide +kernel
theorem d_M_takeBeginning_71 : decode b_M_takeBeginning 71 = .ok (.iconst 1, 1) := by decide +kernel
theorem d_M_takeBeginning_72 : decode b_M_takeBeginning 72 = .ok (.iadd, 1) := by decide +kernel
theorem d_M_takeBeginning_73 : decode b_M_takeBeginning 73 = .ok (.putfield 181, 3) := by decide +kernel
theorem d_M_takeBeginning_76 : decode b_M_takeBeginning 76 = .ok (.aload_n 0, 1) := by decide +kernel
theorem d_M_takeBeginning_77 : decode b_M_takeBeginning 77 = .ok (.getfield 111, 3) := by decide +kernel
theorem d_M_takeBeginning_80 : decode b_M_takeBeginning 80 = .ok (.ifCond .eq 7, 3) := by decide +kernel
theorem d_M_takeBeginning_83 : decode b_M_takeBeginning 83 = .ok (.iconst (-1), 1) := by decide +kernel
theorem d_M_takeBeginning_84 : decode b_M_takeBeginning 84 = .ok (.goto 10, 3) := by decide +kernel
theorem d_M_takeBeginning_87 : decode b_M_takeBeginning 87 = .ok (.aload_n 0, 1) := by decide +kernel
theorem d_M_takeBeginning_88 : decode b_M_takeBeginning 88 = .ok (.iconst 1, 1) := by decide +kernel
theorem d_M_takeBeginning_89 : decode b_M_takeBeginning 89 = .ok (.iload_n 1, 1) := by decide +kernel
theorem d_M_takeBeginning_90 : decode b_M_takeBeginning 90 = .ok (.iload_n 1, 1) := by decide +kernel
theorem d_M_takeBeginning_91 : decode b_M_takeBeginning 91 = .ok (.invokevirtual 184, 3) := by decide +kernel
theorem d_M_takeBeginning_94 : decode b_M_takeBeginning 94 = .ok (.istore_n 2, 1) := by decide +kernel
theorem d_M_takeBeginning_95 : decode b_M_takeBeginning 95 = .ok (.aload_n 0, 1) := by decide +kernel
theorem d_M_takeBeginning_96 : decode b_M_takeBeginning 96 = .ok (.getfield 111, 3) := by decide +kernel
theorem d_M_takeBeginning_99 : decode b_M_takeBeginning 99 = .ok (.ifCond .ne 7, 3) := by decide +kernel
theorem d_M_takeBeginning_102 : decode b_M_takeBeginning 102 = .ok (.iconst 1, 1) := by decide +kernel
theorem d_M_takeBeginning_103 : decode b_M_takeBeginning 103 = .ok (.goto 4, 3) := by decide +kernel
theorem d_M_takeBeginning_106 : decode b_M_takeBeginning 106 = .ok (.iconst 0, 1) := by decide +kernel
theorem d_M_takeBeginning_107 : decode b_M_takeBeginning 107 = .ok (.istore_n 3, 1) := by decide +kernel
theorem d_M_takeBeginning_108 : decode b_M_takeBeginning 108 = .ok (.iload_n 3, 1) := by decide +kernel
theorem d_M_takeBeginning_109 : decode b_M_takeBeginning 109 = .ok (.ifCond .eq 65, 3) := by decide +kernel
theorem d_M_takeBeginning_112 : decode b_M_takeBeginning 112 = .ok (.aload_n 0, 1) := by decide +kernel
theorem d_M_takeBeginning_113 : decode b_M_takeBeginning 113 = .ok (.getfield 111, 3) := by decide +kernel
theorem d_M_takeBeginning_116 : decode b_M_takeBeginning 116 = .ok (.ifCond .ne 58, 3) := by decide +kernel
theorem d_M_takeBeginning_119 : decode b_M_takeBeginning 119 = .ok (.aload_n 0, 1) := by decide +kernel
theorem d_M_takeBeginning_120 : decode b_M_takeBeginning 120 = .ok (.aload_n 0, 1) := by decide +kernel
theorem d_M_takeBeginning_121 : decode b_M_takeBeginning 121 = .ok (.getfield 101, 3) := by decide +kernel
theorem d_M_takeBeginning_124 : decode b_M_takeBeginning 124 = .ok (.invokevirtual 95, 3) := by decide +kernel
theorem d_M_takeBeginning_127 : decode b_M_takeBeginning 127 = .ok (.invokestatic 104, 3) := by decide +kernel
theorem d_M_takeBeginning_130 : decode b_M_takeBeginning 130 = .ok (.istore 4, 2) := by decide +kernel
theorem d_M_takeBeginning_132 : decode b_M_takeBeginning 132 = .ok (.aload_n 0, 1) := by decide +kernel
theorem d_M_takeBeginning_133 : decode b_M_takeBeginning 133 = .ok (.invokevirtual 188, 3) := by decide +kernel
theorem d_M_takeBeginning_136 : decode b_M_takeBeginning 136 = .ok (.iload 4, 2) := by decide +kernel
theorem d_M_takeBeginning_138 : decode b_M_takeBeginning 138 = .ok (.ifCond .eq 22, 3) := by decide +kernel
theorem d_M_takeBeginning_141 : decode b_M_takeBeginning 141 = .ok (.aload_n 0, 1) := by decide +kernel
theorem d_M_takeBeginning_142 : decode b_M_takeBeginning 142 = .ok (.aload_n 0, 1) := by decide +kernel
theorem d_M_takeBeginning_143 : decode b_M_takeBeginning 143 = .ok (.getfield 101, 3) := by decide +kernel
theorem d_M_takeBeginning_146 : decode b_M_takeBeginning 146 = .ok (.invokevirtual 95, 3) := by decide +kernel
theorem d_M_takeBeginning_149 : decode b_M_takeBeginning 149 = .ok (.iconst 1, 1) := by decide +kernel
theorem d_M_takeBeginning_150 : decode b_M_takeBeginning 150 = .ok (.invokestatic 107, 3) := by decide +kernel
theorem d_M_takeBeginning_153 : decode b_M_takeBeginning 153 = .ok (.ifCond .eq 7, 3) := by decide +kernel
theorem d_M_takeBeginning_156 : decode b_M_takeBeginning 156 = .ok (.iconst 1, 1) := by decide +kernel
theorem d_M_takeBeginning_157 : decode b_M_takeBeginning 157 = .ok (.goto 4, 3) := by decide +kernel
theorem d_M_takeBeginning_160 : decode b_M_takeBeginning 160 = .ok (.iconst 0, 1) := by decide +kernel
theorem d_M_takeBeginning_161 : decode b_M_takeBeginning 161 = .ok (.istore_n 3, 1) := by decide +kernel
theorem d_M_takeBeginning_162 : decode b_M_takeBeginning 162 = .ok (.iload_n 3, 1) := by decide +kernel
theorem d_M_takeBeginning_163 : decode b_M_takeBeginning 163 = .ok (.ifCond .eq 8, 3) := by decide +kernel
theorem d_M_takeBeginning_166 : decode b_M_takeBeginning 166 = .ok (.aload_n 0, 1) := by decide +kernel
theorem d_M_takeBeginning_167 : decode b_M_takeBeginning 167 = .ok (.iload_n 1, 1) := by decide +kernel
theorem d_M_takeBeginning_168 : decode b_M_takeBeginning 168 = .ok (.invokevirtual 191, 3) := by decide +kernel
theorem d_M_takeBeginning_171 : decode b_M_takeBeginning 171 = .ok (.goto (-63), 3) := by decide +kernel
theorem d_M_takeBeginning_174 : decode b_M_takeBeginning 174 = .ok (.aload_n 0, 1) := by decide +kernel
theorem d_M_takeBeginning_175 : decode b_M_takeBeginning 175 = .ok (.getfield 111, 3) := by decide +kernel
theorem d_M_takeBeginning_178 : decode b_M_takeBeginning 178 = .ok (.ifCond .eq 4, 3) := by decide +kernel
theorem d_M_takeBeginning_181 : decode b_M_takeBeginning 181 = .ok (.return_, 1) := by decide +kernel
theorem d_M_takeBeginning_182 : decode b_M_takeBeginning 182 = .ok (.aload_n 0, 1) := by decide +kernel
theorem d_M_takeBeginning_183 : decode b_M_takeBeginning 183 = .ok (.aload_n 0, 1) := by decide +kernel
theorem d_M_takeBeginning_184 : decode b_M_takeBeginning 184 = .ok (.getfield 101, 3) := by decide +kernel
theorem d_M_takeBeginning_187 : decode b_M_takeBeginning 187 = .ok (.invokevirtual 95, 3) := by decide +kernel
theorem d_M_takeBeginning_190 : decode b_M_takeBeginning 190 = .ok (.bipush 47, 2) := by decide +kernel
theorem d_M_takeBeginning_192 : decode b_M_takeBeginning 192 = .ok (.if_icmp .ne 45, 3) := by decide +kernel
theorem d_M_takeBeginning_195 : decode b_M_takeBeginning 195 = .ok (.aload_n 0, 1) := by decide +kernel
theorem d_M_takeBeginning_196 : decode b_M_takeBeginning 196 = .ok (.dup, 1) := by decide +kernel
theorem d_M_takeBeginning_197 : decode b_M_takeBeginning 197 = .ok (.getfield 101, 3) := by decide +kernel
theorem d_M_takeBeginning_200 : decode b_M_takeBeginning 200 = .ok (.iconst 1, 1) := by decide +kernel
theorem d_M_takeBeginning_201 : decode b_M_takeBeginning 201 = .ok (.iadd, 1) := by decide +kernel
theorem d_M_takeBeginning_202 : decode b_M_takeBeginning 202 = .ok (.putfield 101, 3) := by decide +kernel
theorem d_M_takeBeginning_205 : decode b_M_takeBeginning 205 = .ok (.aload_n 0, 1) := by decide +kernel
theorem d_M_takeBeginning_206 : decode b_M_takeBeginning 206 = .ok (.aload_n 0, 1) := by decide +kernel
theorem d_M_takeBeginning_207 : decode b_M_takeBeginning 207 = .ok (.getfield 101, 3) := by decide +kernel
theorem d_M_takeBeginning_210 : decode b_M_takeBeginning 210 = .ok (.invokevirtual 95, 3) := by decide +kernel
theorem d_M_takeBeginning_213 : decode b_M_takeBeginning 213 = .ok (.bipush 62, 2) := by decide +kernel
theorem d_M_takeBeginning_215 : decode b_M_takeBeginning 215 = .ok (.if_icmp .ne 16, 3) := by decide +kernel
theorem d_M_takeBeginning_218 : decode b_M_takeBeginning 218 = .ok (.aload_n 0, 1) := by decide +kernel
theorem d_M_takeBeginning_219 : decode b_M_takeBeginning 219 = .ok (.dup, 1) := by decide +kernel
theorem d_M_takeBeginning_220 : decode b_M_takeBeginning 220 = .ok (.getfield 101, 3) := by decide +kernel
theorem d_M_takeBeginning_223 : decode b_M_takeBeginning 223 = .ok (.iconst 1, 1) := by decide +kernel
theorem d_M_takeBeginning_224 : decode b_M_takeBeginning 224 = .ok (.iadd, 1) := by decide +kernel
theorem d_M_takeBeginning_225 : decode b_M_takeBeginning 225 = .ok (.putfield 101, 3) := by decide +kernel
theorem d_M_takeBeginning_228 : decode b_M_takeBeginning 228 = .ok (.goto 8, 3) := by decide +kernel
theorem d_M_takeBeginning_231 : decode b_M_takeBeginning 231 = .ok (.aload_n 0, 1) := by decide +kernel
theorem d_M_takeBeginning_232 : decode b_M_takeBeginning 232 = .ok (.iconst 1, 1) := by decide +kernel
theorem d_M_takeBeginning_233 : decode b_M_takeBeginning 233 = .ok (.putfield 111, 3) := by decide +kernel
theorem d_M_takeBeginning_236 : decode b_M_takeBeginning 236 = .ok (.return_, 1) := by decide +kernel
theorem d_M_takeBeginning_237 : decode b_M_takeBeginning 237 = .ok (.aload_n 0, 1) := by decide +kernel
theorem d_M_takeBeginning_238 : decode b_M_takeBeginning 238 = .ok (.aload_n 0, 1) := by decide +kernel
theorem d_M_takeBeginning_239 : decode b_M_takeBeginning 239 = .ok (.getfield 101, 3) := by decide +kernel
theorem d_M_takeBeginning_242 : decode b_M_takeBeginning 242 = .ok (.invokevirtual 95, 3) := by decide +kernel
theorem d_M_takeBeginning_245 : decode b_M_takeBeginning 245 = .ok (.bipush 62, 2) := by decide +kernel
theorem d_M_takeBeginning_247 : decode b_M_takeBeginning 247 = .ok (.if_icmp .eq 9, 3) := by decide +kernel
theorem d_M_takeBeginning_250 : decode b_M_takeBeginning 250 = .ok (.aload_n 0, 1) := by decide +kernel
theorem d_M_takeBeginning_251 : decode b_M_takeBeginning 251 = .ok (.iconst 1, 1) := by decide +kernel
theorem d_M_takeBeginning_252 : decode b_M_takeBeginning 252 = .ok (.putfield 111, 3) := by decide +kernel
theorem d_M_takeBeginning_255 : decode b_M_takeBeginning 255 = .ok (.return_, 1) := by decide +kernel
theorem d_M_takeBeginning_256 : decode b_M_takeBeginning 256 = .ok (.aload_n 0, 1) := by decide +kernel
theorem d_M_takeBeginning_257 : decode b_M_takeBeginning 257 = .ok (.dup, 1) := by decide +kernel
theorem d_M_takeBeginning_258 : decode b_M_takeBeginning 258 = .ok (.getfield 101, 3) := by decide +kernel
theorem d_M_takeBeginning_261 : decode b_M_takeBeginning 261 = .ok (.iconst 1, 1) := by decide +kernel
theorem d_M_takeBeginning_262 : decode b_M_takeBeginning 262 = .ok (.iadd, 1) := by decide +kernel
theorem d_M_takeBeginning_263 : decode b_M_takeBeginning 263 = .ok (.putfield 101, 3) := by decide +kernel
theorem d_M_takeBeginning_266 : decode b_M_takeBeginning 266 = .ok (.aload_n 0, 1) := by decide +kernel
theorem d_M_takeBeginning_267 : decode b_M_takeBeginning 267 = .ok (.getfield 61, 3) := by decide +kernel
theorem d_M_takeBeginning_270 : decode b_M_takeBeginning 270 = .ok (.aload_n 0, 1) := by decide +kernel
theorem d_M_takeBeginning_271 : decode b_M_takeBeginning 271 = .ok (.getfield 178, 3) := by decide +kernel
theorem d_M_takeBeginning_274 : decode b_M_takeBeginning 274 = .ok (.iload_n 2, 1) := by decide +kernel
theorem d_M_takeBeginning_275 : decode b_M_takeBeginning 275 = .ok (.iastore, 1) := by decide +kernel
theorem d_M_takeBeginning_276 : decode b_M_takeBeginning 276 = .ok (.aload_n 0, 1) := by decide +kernel
theorem d_M_takeBeginning_277 : decode b_M_takeBeginning 277 = .ok (.dup, 1) := by decide +kernel
theorem d_M_takeBeginning_278 : decode b_M_takeBeginning 278 = .ok (.getfield 178, 3) := by decide +kernel
theorem d_M_takeBeginning_281 : decode b_M_takeBeginning 281 = .ok (.iconst 1, 1) := by decide +kernel
theorem d_M_takeBeginning_282 : decode b_M_takeBeginning 282 = .ok (.iadd, 1) := by decide +kernel
theorem d_M_takeBeginning_283 : decode b_M_takeBeginning 283 = .ok (.putfield 178, 3) := by decide +kernel
theorem d_M_takeBeginning_286 : decode b_M_takeBeginning 286 = .ok (.return_, 1) := by decide +kernel
def w_M_takeBeginning_J174   (post : MPS → Prop) (v2 : Int32) (σ : MPS) : Prop := (((mp_bad σ) = 0 → (mXk σ (mp_at σ) ∧ (((mX σ (mp_at σ)) = 47 → (∀ σ202 : MPS, σ202 = ms_at σ ((mp_at σ) + 1) → (mXk σ202 (mp_at σ202) ∧ (((mX σ202 (mp_at σ202)) = 62 → (∀ σ225 : MPS, σ225 = ms_at σ202 ((mp_at σ202) + 1) → post σ225)) ∧ (¬ (mX σ202 (mp_at σ202)) = 62 → (∀ σ233 : MPS, σ233 = ms_bad σ202 1 → post σ233)))))) ∧ (¬ (mX σ (mp_at σ)) = 47 → (mXk σ (mp_at σ) ∧ (((mX σ (mp_at σ)) = 62 → (∀ σ263 : MPS, σ263 = ms_at σ ((mp_at σ) + 1) → (vp_in (mp_deep σ263) 42 ∧ (∀ σ275 : MPS, σ275 = ms_openNode σ263 (upd (mp_openNode σ263) (mp_deep σ263).toNatClampNeg v2) → (∀ σ283 : MPS, σ283 = ms_deep σ275 ((mp_deep σ275) + 1) → post σ283))))) ∧ (¬ (mX σ (mp_at σ)) = 62 → (∀ σ252 : MPS, σ252 = ms_bad σ 1 → post σ252)))))))) ∧ (¬ (mp_bad σ) = 0 → post σ))
def w_M_takeBeginning_J171  (v1 : Int32) (v2 : Int32) (K108 : Int32 → MPS → Prop) (post : MPS → Prop) (v3 : Int32) (σ : MPS) : Prop := K108 v3 σ
def w_M_takeBeginning_J161  (v1 : Int32) (v2 : Int32) (K108 : Int32 → MPS → Prop) (post : MPS → Prop) (t0 : Int32) (σ : MPS) : Prop := ((t0 = 0 → w_M_takeBeginning_J171 v1 v2 (K108) post t0 σ) ∧ (¬ t0 = 0 → w_M_takeAttribute σ v1 (fun σ168 => w_M_takeBeginning_J171 v1 v2 (K108) post t0 σ168)))
def w_M_takeBeginning_J160  (v1 : Int32) (v2 : Int32) (K108 : Int32 → MPS → Prop) (post : MPS → Prop) (σ : MPS) : Prop := w_M_takeBeginning_J161 v1 v2 (K108) post 0 σ
def w_M_takeBeginning_L108  (v1 : Int32) (v2 : Int32) (post : MPS → Prop) : Nat → Int32 → MPS → Prop
  | 0, _, _ => False
  | n108 + 1, v3, σ => ((v3 = 0 → w_M_takeBeginning_J174 post v2 σ) ∧ (¬ v3 = 0 → (((mp_bad σ) = 0 → (mXk σ (mp_at σ) ∧ w_M_skipWhite σ  (fun σ133 => (((b2i (cWh (mX σ (mp_at σ)))) = 0 → w_M_takeBeginning_J160 v1 v2 (w_M_takeBeginning_L108 v1 v2 post n108) post σ133) ∧ (¬ (b2i (cWh (mX σ (mp_at σ)))) = 0 → (mXk σ133 (mp_at σ133) ∧ (((b2i (cNs (mX σ133 (mp_at σ133)) 1)) = 0 → w_M_takeBeginning_J160 v1 v2 (w_M_takeBeginning_L108 v1 v2 post n108) post σ133) ∧ (¬ (b2i (cNs (mX σ133 (mp_at σ133)) 1)) = 0 → w_M_takeBeginning_J161 v1 v2 (w_M_takeBeginning_L108 v1 v2 post n108) post 1 σ133)))))))) ∧ (¬ (mp_bad σ) = 0 → w_M_takeBeginning_J174 post v2 σ))))
def w_M_takeBeginning_J107   (post : MPS → Prop) (v1 : Int32) (v2 : Int32) (t0 : Int32) (σ : MPS) : Prop := (∃ n108, w_M_takeBeginning_L108 v1 v2 post n108 t0 σ)
def w_M_takeBeginning_J94   (post : MPS → Prop) (v1 : Int32) (t0 : Int32) (σ : MPS) : Prop := (((mp_bad σ) = 0 → w_M_takeBeginning_J107 post v1 t0 1 σ) ∧ (¬ (mp_bad σ) = 0 → w_M_takeBeginning_J107 post v1 t0 0 σ))
def w_M_takeBeginning_J24   (post : MPS → Prop) (σ : MPS) : Prop := (∀ σ26 : MPS, σ26 = ms_bad σ 1 → post σ26)
def w_M_takeBeginning  (σ : MPS)  (post : MPS → Prop) : Prop := (((mp_deep σ) = 40 → w_M_takeBeginning_J24 post σ) ∧ (¬ (mp_deep σ) = 40 → (((mp_elements σ) = 300 → w_M_takeBeginning_J24 post σ) ∧ (¬ (mp_elements σ) = 300 → (∀ σ37 : MPS, σ37 = ms_at σ ((mp_at σ) + 1) → (vp_in (mp_deep σ37) 41 ∧ (∀ σ52 : MPS, σ52 = ms_openAt σ37 (upd (mp_openAt σ37) (mp_deep σ37).toNatClampNeg (mp_at σ37)) → w_M_takeName σ52  (fun r62 σ62 => (vp_in (mp_deep σ52) 41 ∧ (∀ σ65 : MPS, σ65 = ms_openMany σ62 (upd (mp_openMany σ62) (mp_deep σ52).toNatClampNeg r62) → (∀ σ73 : MPS, σ73 = ms_elements σ65 ((mp_elements σ65) + 1) → (((mp_bad σ73) = 0 → w_M_add σ73 1 (mp_at σ) (mp_at σ) (fun r91 σ91 => w_M_takeBeginning_J94 post (mp_at σ) r91 σ91)) ∧ (¬ (mp_bad σ73) = 0 → w_M_takeBeginning_J94 post (mp_at σ) (-1) σ73)))))))))))))
set_option maxHeartbeats 4000000 in
set_option maxRecDepth 100000 in
theorem c_M_takeBeginning (l : Launch) (md : MD) (sz : Nat) (σ : MPS)   (post : MPS → Prop) (hE : w_M_takeBeginning σ post) : Met l y_M_takeBeginning ws_M_takeBeginning { frames := 5, cells := 0, slots := 0, locals := 116 } (va_Pc [.ref (mA md 0)] (gM md σ sz)) (va_Qv post (eM md (va_A (MW md σ) sz)) (va_A (MW md σ) sz)) 0 0 (va_A (MW md σ) sz) := by
  refine Met.ofW (cc := b_M_takeBeginning) (maxL := 5) (ret := none) (by decide) rfl ?_
  intro p e s m args below meth c s₁ B hml hv
  obtain ⟨rfl, hsz, hP, hK, hD0⟩ := hv
  have hx := B.exec
  have hb := B.bytes
  have hr := B.returns
  have hta : ∀ w ∈ aW, w.before _ s = true := fun w h => atoms_spec (ws := ws_M_takeBeginning) B.pre w (List.mem_cons_of_mem _ h)
  have hown : s.vm.findClass R_M = some m.cls := findClass_of_methodNamed B.named
  have hlocks := B.notSynchronized
  subst hsz
  have hD := hD0.self (sz := s.heap.size)
  generalize hAe : va_A (MW md σ) s.heap.size = A at hD ⊢
  have hA : ∀ q : Nat, s.heap.size ≤ q → A q := fun q h => by rw [← hAe]; exact Or.inr h
  have hS : va_S A s.heap s.heap [] := va_S.rf
  have hP : va_P (mG md) classes (MW md σ) s.heap := hP
  have hl := lv_entry ([.ref (mA md 0)]) (n := 5) (Nat.le_of_ble_eq_true rfl)
  rw [lg_entry_eq]
  generalize (lg_sl ([.ref (mA md 0)]) ++ List.replicate (5 - (lg_sl ([.ref (mA md 0)])).length) Slot.unset).toArray = ls at hl ⊢
  have hl : lv_has ls 5 [(0, .ref (mA md 0))] := hl
  have J174 : ∀ (v2 : Int32) (σ : MPS) (H : Heap) (locs : List Loc) (hP : va_P (mG md) classes (MW md σ) H) (hD : va_D A (MW md σ)) (hS : va_S A s.heap H locs) (ls : Array Slot) (hl : lv_has ls 5 [(0, .ref (mA md 0)), (2, .int v2)]) (hE : w_M_takeBeginning_J174 post v2 σ), W p l e (headSpec ws_M_takeBeginning { frames := 5, cells := 0, slots := 0, locals := 116 }).room s m ([.ref (mA md 0)] : List Value).toArray below meth c H locs 0 0 (MQ below (va_Qv post (eM md A) A) ([.ref (mA md 0)] : List Value).toArray s 0 0 A) (F0 m 174 ls []) := by
    intro  v2 σ H locs hP hD hS ls hl hE
    unfold w_M_takeBeginning_J174 at hE
    refine lv_aload_n hx hb d_M_takeBeginning_174 rfl (lv_at hl 0 rfl) ?_
    refine va_get (D := (mG md)) (ci := 7) (v := .int (mp_bad σ)) (C := R_M) (T := F_M) (N := 37) hx hb hta i_M hown hK hP 0 rfl rfl 16 (by decide) (hta _ fl_M_111) (fun _ h9 => h9) rfl d_M_takeBeginning_175 ?_
    refine lv_if_eq (tgt := 182) hx hb d_M_takeBeginning_178 (by decide) (fun cc178 => ?_) (fun cc178 => ?_)
    · have hE := hE.1 cc178
      refine lv_aload_n hx hb d_M_takeBeginning_182 rfl (lv_at hl 0 rfl) ?_
      refine lv_aload_n hx hb d_M_takeBeginning_183 rfl (lv_at hl 0 rfl) ?_
      refine va_get (D := (mG md)) (ci := 7) (v := .int (mp_at σ)) (C := R_M) (T := F_M) (N := 37) hx hb hta i_M hown hK hP 0 rfl rfl 13 (by decide) (hta _ fl_M_101) (fun _ h9 => h9) rfl d_M_takeBeginning_184 ?_
      obtain ⟨hc187_0, hE⟩ := hE
      refine ro_V (b0 := (mA md 0)) (As := [.int (mp_at σ)]) (rest := []) ⟨hx, hb, hml, hown, hta⟩ (f_M_x l md σ (mp_at σ) hc187_0) ok_M_95 ⟨Nat.le_of_ble_eq_true rfl, Nat.le_of_ble_eq_true rfl⟩ blind_rM (va_recv hK hP (ci := 7) (q0 := 0) rfl rfl) (rM_of hP hK) rfl hl.1 rfl (Nat.le_of_ble_eq_true rfl) d_M_takeBeginning_187 ⟨Nat.zero_le _, Nat.zero_le _⟩ (fun r187 hrr => ?_)
      subst hrr
      refine lv_bipush (v := 47) hx hb d_M_takeBeginning_190 (by decide) ?_
      refine lv_icmp_ne (tgt := 237) hx hb d_M_takeBeginning_192 (by decide) (fun cc192 => ?_) (fun cc192 => ?_)
      · have hE := hE.2 cc192
        refine lv_aload_n hx hb d_M_takeBeginning_237 rfl (lv_at hl 0 rfl) ?_
        refine lv_aload_n hx hb d_M_takeBeginning_238 rfl (lv_at hl 0 rfl) ?_
        refine va_get (D := (mG md)) (ci := 7) (v := .int (mp_at σ)) (C := R_M) (T := F_M) (N := 37) hx hb hta i_M hown hK hP 0 rfl rfl 13 (by decide) (hta _ fl_M_101) (fun _ h9 => h9) rfl d_M_takeBeginning_239 ?_
        obtain ⟨hc242_0, hE⟩ := hE
        refine ro_V (b0 := (mA md 0)) (As := [.int (mp_at σ)]) (rest := []) ⟨hx, hb, hml, hown, hta⟩ (f_M_x l md σ (mp_at σ) hc242_0) ok_M_95 ⟨Nat.le_of_ble_eq_true rfl, Nat.le_of_ble_eq_true rfl⟩ blind_rM (va_recv hK hP (ci := 7) (q0 := 0) rfl rfl) (rM_of hP hK) rfl hl.1 rfl (Nat.le_of_ble_eq_true rfl) d_M_takeBeginning_242 ⟨Nat.zero_le _, Nat.zero_le _⟩ (fun r242 hrr => ?_)
        subst hrr
        refine lv_bipush (v := 62) hx hb d_M_takeBeginning_245 (by decide) ?_
        refine lv_icmp_eq (tgt := 256) hx hb d_M_takeBeginning_247 (by decide) (fun cc247 => ?_) (fun cc247 => ?_)
        · have hE := hE.1 cc247
          refine lv_aload_n hx hb d_M_takeBeginning_256 rfl (lv_at hl 0 rfl) ?_
          refine lv_dup hx hb d_M_takeBeginning_257 rfl ?_
          refine va_get (D := (mG md)) (ci := 7) (v := .int (mp_at σ)) (C := R_M) (T := F_M) (N := 37) hx hb hta i_M hown hK hP 0 rfl rfl 13 (by decide) (hta _ fl_M_101) (fun _ h9 => h9) rfl d_M_takeBeginning_258 ?_
          refine lv_iconst (v := 1) hx hb d_M_takeBeginning_261 (by decide) ?_
          refine lv_iadd hx hb d_M_takeBeginning_262 ?_
          refine va_put (D := (mG md)) (ci := 7) (v := .int ((mp_at σ) + 1)) (ty := .int) (C := R_M) (T := F_M) (N := 37) hx hb hta i_M t_M t_M_ok n_M hown hK hP hD hS 0 rfl rfl 13 (by decide) (hta _ fl_M_101) (fun _ h9 => h9) rfl (by decide +kernel) rfl rfl (Nat.le_of_ble_eq_true rfl) d_M_takeBeginning_263 (fun H locs hP hD hS => ?_)
          have hP := mwP_at hP
          have hD := mwD_at hD
          have hE := hE _ rfl
          generalize (ms_at σ ((mp_at σ) + 1) : MPS) = σ263 at hP hD hE
          refine lv_aload_n hx hb d_M_takeBeginning_266 rfl (lv_at hl 0 rfl) ?_
          refine va_get (D := (mG md)) (ci := 7) (v := .ref (mA md 16)) (C := R_M) (T := F_M) (N := 37) hx hb hta i_M hown hK hP 0 rfl rfl 31 (by decide) (hta _ fl_M_61) (fun _ h9 => h9) rfl d_M_takeBeginning_267 ?_
          refine lv_aload_n hx hb d_M_takeBeginning_270 rfl (lv_at hl 0 rfl) ?_
          refine va_get (D := (mG md)) (ci := 7) (v := .int (mp_deep σ263)) (C := R_M) (T := F_M) (N := 37) hx hb hta i_M hown hK hP 0 rfl rfl 15 (by decide) (hta _ fl_M_178) (fun _ h9 => h9) rfl d_M_takeBeginning_271 ?_
          refine lv_iload_n hx hb d_M_takeBeginning_274 rfl (lv_at hl 1 rfl) ?_
          obtain ⟨hI275, hE⟩ := hE
          refine va_iast (D := (mG md)) (f := mp_openNode σ263) hx hb hK hP hD hS 16 0 rfl rfl hI275 d_M_takeBeginning_275 (fun H locs hP hD hS => ?_)
          have hP := mwP_openNode hP
          have hD := mwD_openNode hD
          have hE := hE _ rfl
          generalize (ms_openNode σ263 (upd (mp_openNode σ263) (mp_deep σ263).toNatClampNeg v2) : MPS) = σ275 at hP hD hE
          refine lv_aload_n hx hb d_M_takeBeginning_276 rfl (lv_at hl 0 rfl) ?_
          refine lv_dup hx hb d_M_takeBeginning_277 rfl ?_
          refine va_get (D := (mG md)) (ci := 7) (v := .int (mp_deep σ275)) (C := R_M) (T := F_M) (N := 37) hx hb hta i_M hown hK hP 0 rfl rfl 15 (by decide) (hta _ fl_M_178) (fun _ h9 => h9) rfl d_M_takeBeginning_278 ?_
          refine lv_iconst (v := 1) hx hb d_M_takeBeginning_281 (by decide) ?_
          refine lv_iadd hx hb d_M_takeBeginning_282 ?_
          refine va_put (D := (mG md)) (ci := 7) (v := .int ((mp_deep σ275) + 1)) (ty := .int) (C := R_M) (T := F_M) (N := 37) hx hb hta i_M t_M t_M_ok n_M hown hK hP hD hS 0 rfl rfl 15 (by decide) (hta _ fl_M_178) (fun _ h9 => h9) rfl (by decide +kernel) rfl rfl (Nat.le_of_ble_eq_true rfl) d_M_takeBeginning_283 (fun H locs hP hD hS => ?_)
          have hP := mwP_deep hP
          have hD := mwD_deep hD
          have hE := hE _ rfl
          generalize (ms_deep σ275 ((mp_deep σ275) + 1) : MPS) = σ283 at hP hD hE
          exact W.vret hx hb hr (fun t ht hW => ⟨⟨σ283, rfl, hE, by rw [ht]; exact hP, va_K.moved hW.alike hK, hD⟩, hS.F ht⟩) hS.2.2 d_M_takeBeginning_286
        · have hE := hE.2 cc247
          refine lv_aload_n hx hb d_M_takeBeginning_250 rfl (lv_at hl 0 rfl) ?_
          refine lv_iconst (v := 1) hx hb d_M_takeBeginning_251 (by decide) ?_
          refine va_put (D := (mG md)) (ci := 7) (v := .int 1) (ty := .boolean) (C := R_M) (T := F_M) (N := 37) hx hb hta i_M t_M t_M_ok n_M hown hK hP hD hS 0 rfl rfl 16 (by decide) (hta _ fl_M_111) (fun _ h9 => h9) rfl (by decide +kernel) rfl rfl (Nat.le_of_ble_eq_true rfl) d_M_takeBeginning_252 (fun H locs hP hD hS => ?_)
          have hP := mwP_bad hP
          have hD := mwD_bad hD
          have hE := hE _ rfl
          generalize (ms_bad σ 1 : MPS) = σ252 at hP hD hE
          exact W.vret hx hb hr (fun t ht hW => ⟨⟨σ252, rfl, hE, by rw [ht]; exact hP, va_K.moved hW.alike hK, hD⟩, hS.F ht⟩) hS.2.2 d_M_takeBeginning_255
      · have hE := hE.1 cc192
        refine lv_aload_n hx hb d_M_takeBeginning_195 rfl (lv_at hl 0 rfl) ?_
        refine lv_dup hx hb d_M_takeBeginning_196 rfl ?_
        refine va_get (D := (mG md)) (ci := 7) (v := .int (mp_at σ)) (C := R_M) (T := F_M) (N := 37) hx hb hta i_M hown hK hP 0 rfl rfl 13 (by decide) (hta _ fl_M_101) (fun _ h9 => h9) rfl d_M_takeBeginning_197 ?_
        refine lv_iconst (v := 1) hx hb d_M_takeBeginning_200 (by decide) ?_
        refine lv_iadd hx hb d_M_takeBeginning_201 ?_
        refine va_put (D := (mG md)) (ci := 7) (v := .int ((mp_at σ) + 1)) (ty := .int) (C := R_M) (T := F_M) (N := 37) hx hb hta i_M t_M t_M_ok n_M hown hK hP hD hS 0 rfl rfl 13 (by decide) (hta _ fl_M_101) (fun _ h9 => h9) rfl (by decide +kernel) rfl rfl (Nat.le_of_ble_eq_true rfl) d_M_takeBeginning_202 (fun H locs hP hD hS => ?_)
        have hP := mwP_at hP
        have hD := mwD_at hD
        have hE := hE _ rfl
        generalize (ms_at σ ((mp_at σ) + 1) : MPS) = σ202 at hP hD hE
        refine lv_aload_n hx hb d_M_takeBeginning_205 rfl (lv_at hl 0 rfl) ?_
        refine lv_aload_n hx hb d_M_takeBeginning_206 rfl (lv_at hl 0 rfl) ?_
        refine va_get (D := (mG md)) (ci := 7) (v := .int (mp_at σ202)) (C := R_M) (T := F_M) (N := 37) hx hb hta i_M hown hK hP 0 rfl rfl 13 (by decide) (hta _ fl_M_101) (fun _ h9 => h9) rfl d_M_takeBeginning_207 ?_
        obtain ⟨hc210_0, hE⟩ := hE
        refine ro_V (b0 := (mA md 0)) (As := [.int (mp_at σ202)]) (rest := []) ⟨hx, hb, hml, hown, hta⟩ (f_M_x l md σ202 (mp_at σ202) hc210_0) ok_M_95 ⟨Nat.le_of_ble_eq_true rfl, Nat.le_of_ble_eq_true rfl⟩ blind_rM (va_recv hK hP (ci := 7) (q0 := 0) rfl rfl) (rM_of hP hK) rfl hl.1 rfl (Nat.le_of_ble_eq_true rfl) d_M_takeBeginning_210 ⟨Nat.zero_le _, Nat.zero_le _⟩ (fun r210 hrr => ?_)
        subst hrr
        refine lv_bipush (v := 62) hx hb d_M_takeBeginning_213 (by decide) ?_
        refine lv_icmp_ne (tgt := 231) hx hb d_M_takeBeginning_215 (by decide) (fun cc215 => ?_) (fun cc215 => ?_)
        · have hE := hE.2 cc215
          refine lv_aload_n hx hb d_M_takeBeginning_231 rfl (lv_at hl 0 rfl) ?_
          refine lv_iconst (v := 1) hx hb d_M_takeBeginning_232 (by decide) ?_
          refine va_put (D := (mG md)) (ci := 7) (v := .int 1) (ty := .boolean) (C := R_M) (T := F_M) (N := 37) hx hb hta i_M t_M t_M_ok n_M hown hK hP hD hS 0 rfl rfl 16 (by decide) (hta _ fl_M_111) (fun _ h9 => h9) rfl (by decide +kernel) rfl rfl (Nat.le_of_ble_eq_true rfl) d_M_takeBeginning_233 (fun H locs hP hD hS => ?_)
          have hP := mwP_bad hP
          have hD := mwD_bad hD
          have hE := hE _ rfl
          generalize (ms_bad σ202 1 : MPS) = σ233 at hP hD hE
          exact W.vret hx hb hr (fun t ht hW => ⟨⟨σ233, rfl, hE, by rw [ht]; exact hP, va_K.moved hW.alike hK, hD⟩, hS.F ht⟩) hS.2.2 d_M_takeBeginning_236
        · have hE := hE.1 cc215
          refine lv_aload_n hx hb d_M_takeBeginning_218 rfl (lv_at hl 0 rfl) ?_
          refine lv_dup hx hb d_M_takeBeginning_219 rfl ?_
          refine va_get (D := (mG md)) (ci := 7) (v := .int (mp_at σ202)) (C := R_M) (T := F_M) (N := 37) hx hb hta i_M hown hK hP 0 rfl rfl 13 (by decide) (hta _ fl_M_101) (fun _ h9 => h9) rfl d_M_takeBeginning_220 ?_
          refine lv_iconst (v := 1) hx hb d_M_takeBeginning_223 (by decide) ?_
          refine lv_iadd hx hb d_M_takeBeginning_224 ?_
          refine va_put (D := (mG md)) (ci := 7) (v := .int ((mp_at σ202) + 1)) (ty := .int) (C := R_M) (T := F_M) (N := 37) hx hb hta i_M t_M t_M_ok n_M hown hK hP hD hS 0 rfl rfl 13 (by decide) (hta _ fl_M_101) (fun _ h9 => h9) rfl (by decide +kernel) rfl rfl (Nat.le_of_ble_eq_true rfl) d_M_takeBeginning_225 (fun H locs hP hD hS => ?_)
          have hP := mwP_at hP
          have hD := mwD_at hD
          have hE := hE _ rfl
          generalize (ms_at σ202 ((mp_at σ202) + 1) : MPS) = σ225 at hP hD hE
          refine lv_goto (tgt := 236) hx hb d_M_takeBeginning_228 (by decide) ?_
          exact W.vret hx hb hr (fun t ht hW => ⟨⟨σ225, rfl, hE, by rw [ht]; exact hP, va_K.moved hW.alike hK, hD⟩, hS.F ht⟩) hS.2.2 d_M_takeBeginning_236
    · have hE := hE.2 cc178
      exact W.vret hx hb hr (fun t ht hW => ⟨⟨σ, rfl, hE, by rw [ht]; exact hP, va_K.moved hW.alike hK, hD⟩, hS.F ht⟩) hS.2.2 d_M_takeBeginning_181
  have L108 : ∀ (v1 : Int32) (v2 : Int32) (n108 : Nat) (v3 : Int32) (σ : MPS) (H : Heap) (locs : List Loc) (hP : va_P (mG md) classes (MW md σ) H) (hD : va_D A (MW md σ)) (hS : va_S A s.heap H locs) (ls : Array Slot) (hl : lv_has ls 5 [(0, .ref (mA md 0)), (1, .int v1), (2, .int v2), (3, .int v3)]) (hE : w_M_takeBeginning_L108 v1 v2 post n108 v3 σ), W p l e (headSpec ws_M_takeBeginning { frames := 5, cells := 0, slots := 0, locals := 116 }).room s m ([.ref (mA md 0)] : List Value).toArray below meth c H locs 0 0 (MQ below (va_Qv post (eM md A) A) ([.ref (mA md 0)] : List Value).toArray s 0 0 A) (F0 m 108 ls []) := by
    intro v1 v2 n108
    induction n108 with
    | zero => intro v3 σ H locs hP hD hS ls hl hE; exact hE.elim
    | succ n108 ih108 =>
      have J171 : ∀ (v3 : Int32) (σ : MPS) (H : Heap) (locs : List Loc) (hP : va_P (mG md) classes (MW md σ) H) (hD : va_D A (MW md σ)) (hS : va_S A s.heap H locs) (ls : Array Slot) (hl : lv_has ls 5 [(0, .ref (mA md 0)), (1, .int v1), (2, .int v2), (3, .int v3)]) (hE : w_M_takeBeginning_J171 v1 v2 (w_M_takeBeginning_L108 v1 v2 post n108) post v3 σ), W p l e (headSpec ws_M_takeBeginning { frames := 5, cells := 0, slots := 0, locals := 116 }).room s m ([.ref (mA md 0)] : List Value).toArray below meth c H locs 0 0 (MQ below (va_Qv post (eM md A) A) ([.ref (mA md 0)] : List Value).toArray s 0 0 A) (F0 m 171 ls []) := by
        intro  v3 σ H locs hP hD hS ls hl hE
        unfold w_M_takeBeginning_J171 at hE
        refine lv_goto (tgt := 108) hx hb d_M_takeBeginning_171 (by decide) ?_
        exact ih108 v3 σ _ _ hP hD hS _ (lv_sub hl [0, 1, 2, 3] rfl) hE
      have J161 : ∀ (t0 : Int32) (σ : MPS) (H : Heap) (locs : List Loc) (hP : va_P (mG md) classes (MW md σ) H) (hD : va_D A (MW md σ)) (hS : va_S A s.heap H locs) (ls : Array Slot) (hl : lv_has ls 5 [(0, .ref (mA md 0)), (1, .int v1), (2, .int v2)]) (hE : w_M_takeBeginning_J161 v1 v2 (w_M_takeBeginning_L108 v1 v2 post n108) post t0 σ), W p l e (headSpec ws_M_takeBeginning { frames := 5, cells := 0, slots := 0, locals := 116 }).room s m ([.ref (mA md 0)] : List Value).toArray below meth c H locs 0 0 (MQ below (va_Qv post (eM md A) A) ([.ref (mA md 0)] : List Value).toArray s 0 0 A) (F0 m 161 ls [.int t0]) := by
        intro  t0 σ H locs hP hD hS ls hl hE
        unfold w_M_takeBeginning_J161 at hE
        refine lv_istore_n (lv' := [(3, .int t0), (0, .ref (mA md 0)), (1, .int v1), (2, .int v2)]) hx hb d_M_takeBeginning_161 rfl hl (by decide) rfl (fun ls hl => ?_)
        refine lv_iload_n hx hb d_M_takeBeginning_162 rfl (lv_at hl 0 rfl) ?_
        refine lv_if_eq (tgt := 171) hx hb d_M_takeBeginning_163 (by decide) (fun cc163 => ?_) (fun cc163 => ?_)
        · have hE := hE.1 cc163
          exact J171  t0 σ _ _ hP hD hS _ (lv_sub hl [1, 2, 3, 0] rfl) hE
        · have hE := hE.2 cc163
          refine lv_aload_n hx hb d_M_takeBeginning_166 rfl (lv_at hl 1 rfl) ?_
          refine lv_iload_n hx hb d_M_takeBeginning_167 rfl (lv_at hl 2 rfl) ?_
          refine mm_v (b0 := (mA md 0)) (As := [.int v1]) (rest := []) ⟨hx, hb, hml, hown, hta⟩ (c_M_takeAttribute l md _ σ v1 _ hE) ok_M_191 ⟨Nat.le_of_ble_eq_true rfl, Nat.le_of_ble_eq_true rfl⟩ (va_recv hK hP (ci := 7) (q0 := 0) rfl rfl) hP hK hD hS hA rfl hl.1 rfl (Nat.le_of_ble_eq_true rfl) d_M_takeBeginning_168 ⟨Nat.zero_le _, Nat.zero_le _⟩ (fun σ168 H locs hE hP hD hS => ?_)
          exact J171  t0 σ168 _ _ hP hD hS _ (lv_sub hl [1, 2, 3, 0] rfl) hE
      have J160 : ∀ (σ : MPS) (H : Heap) (locs : List Loc) (hP : va_P (mG md) classes (MW md σ) H) (hD : va_D A (MW md σ)) (hS : va_S A s.heap H locs) (ls : Array Slot) (hl : lv_has ls 5 [(0, .ref (mA md 0)), (1, .int v1), (2, .int v2)]) (hE : w_M_takeBeginning_J160 v1 v2 (w_M_takeBeginning_L108 v1 v2 post n108) post σ), W p l e (headSpec ws_M_takeBeginning { frames := 5, cells := 0, slots := 0, locals := 116 }).room s m ([.ref (mA md 0)] : List Value).toArray below meth c H locs 0 0 (MQ below (va_Qv post (eM md A) A) ([.ref (mA md 0)] : List Value).toArray s 0 0 A) (F0 m 160 ls []) := by
        intro  σ H locs hP hD hS ls hl hE
        unfold w_M_takeBeginning_J160 at hE
        refine lv_iconst (v := 0) hx hb d_M_takeBeginning_160 (by decide) ?_
        exact J161  0 σ _ _ hP hD hS _ (lv_sub hl [0, 1, 2] rfl) hE
      intro v3 σ H locs hP hD hS ls hl hE
      unfold w_M_takeBeginning_L108 at hE
      refine lv_iload_n hx hb d_M_takeBeginning_108 rfl (lv_at hl 3 rfl) ?_
      refine lv_if_eq (tgt := 174) hx hb d_M_takeBeginning_109 (by decide) (fun cc109 => ?_) (fun cc109 => ?_)
      · have hE := hE.1 cc109
        exact J174  v2 σ _ _ hP hD hS _ (lv_sub hl [0, 2] rfl) hE
      · have hE := hE.2 cc109
        refine lv_aload_n hx hb d_M_takeBeginning_112 rfl (lv_at hl 0 rfl) ?_
        refine va_get (D := (mG md)) (ci := 7) (v := .int (mp_bad σ)) (C := R_M) (T := F_M) (N := 37) hx hb hta i_M hown hK hP 0 rfl rfl 16 (by decide) (hta _ fl_M_111) (fun _ h9 => h9) rfl d_M_takeBeginning_113 ?_
        refine lv_if_ne (tgt := 174) hx hb d_M_takeBeginning_116 (by decide) (fun cc116 => ?_) (fun cc116 => ?_)
        · have hE := hE.2 cc116
          exact J174  v2 σ _ _ hP hD hS _ (lv_sub hl [0, 2] rfl) hE
        · have hE := hE.1 cc116
          refine lv_aload_n hx hb d_M_takeBeginning_119 rfl (lv_at hl 0 rfl) ?_
          refine lv_aload_n hx hb d_M_takeBeginning_120 rfl (lv_at hl 0 rfl) ?_
          refine va_get (D := (mG md)) (ci := 7) (v := .int (mp_at σ)) (C := R_M) (T := F_M) (N := 37) hx hb hta i_M hown hK hP 0 rfl rfl 13 (by decide) (hta _ fl_M_101) (fun _ h9 => h9) rfl d_M_takeBeginning_121 ?_
          obtain ⟨hc124_0, hE⟩ := hE
          refine ro_V (b0 := (mA md 0)) (As := [.int (mp_at σ)]) (rest := []) ⟨hx, hb, hml, hown, hta⟩ (f_M_x l md σ (mp_at σ) hc124_0) ok_M_95 ⟨Nat.le_of_ble_eq_true rfl, Nat.le_of_ble_eq_true rfl⟩ blind_rM (va_recv hK hP (ci := 7) (q0 := 0) rfl rfl) (rM_of hP hK) rfl hl.1 rfl (Nat.le_of_ble_eq_true rfl) d_M_takeBeginning_124 ⟨Nat.zero_le _, Nat.zero_le _⟩ (fun r124 hrr => ?_)
          subst hrr
          refine ro_S  (As := [.int (mX σ (mp_at σ))]) (rest := []) ⟨hx, hb, hml, hown, hta⟩ (f_M_isWhite l (mX σ (mp_at σ))) ok_M_104 ⟨Nat.le_of_ble_eq_true rfl, Nat.le_of_ble_eq_true rfl⟩ blind_true  (fun _ _ _ => trivial) rfl hl.1 rfl (Nat.le_of_ble_eq_true rfl) d_M_takeBeginning_127 ⟨Nat.zero_le _, Nat.zero_le _⟩ (fun r127 hrr => ?_)
          subst hrr
          refine lv_istore (lv' := [(4, .int (b2i (cWh (mX σ (mp_at σ))))), (0, .ref (mA md 0)), (1, .int v1), (2, .int v2), (3, .int v3)]) hx hb d_M_takeBeginning_130 hl (by decide) rfl (fun ls hl => ?_)
          refine lv_aload_n hx hb d_M_takeBeginning_132 rfl (lv_at hl 1 rfl) ?_
          refine mm_v (b0 := (mA md 0)) (As := []) (rest := []) ⟨hx, hb, hml, hown, hta⟩ (c_M_skipWhite l md _ σ  _ hE) ok_M_188 ⟨Nat.le_of_ble_eq_true rfl, Nat.le_of_ble_eq_true rfl⟩ (va_recv hK hP (ci := 7) (q0 := 0) rfl rfl) hP hK hD hS hA rfl hl.1 rfl (Nat.le_of_ble_eq_true rfl) d_M_takeBeginning_133 ⟨Nat.zero_le _, Nat.zero_le _⟩ (fun σ133 H locs hE hP hD hS => ?_)
          refine lv_iload hx hb d_M_takeBeginning_136 (lv_at hl 0 rfl) ?_
          refine lv_if_eq (tgt := 160) hx hb d_M_takeBeginning_138 (by decide) (fun cc138 => ?_) (fun cc138 => ?_)
          · have hE := hE.1 cc138
            exact J160  σ133 _ _ hP hD hS _ (lv_sub hl [1, 2, 3] rfl) hE
          · have hE := hE.2 cc138
            refine lv_aload_n hx hb d_M_takeBeginning_141 rfl (lv_at hl 1 rfl) ?_
            refine lv_aload_n hx hb d_M_takeBeginning_142 rfl (lv_at hl 1 rfl) ?_
            refine va_get (D := (mG md)) (ci := 7) (v := .int (mp_at σ133)) (C := R_M) (T := F_M) (N := 37) hx hb hta i_M hown hK hP 0 rfl rfl 13 (by decide) (hta _ fl_M_101) (fun _ h9 => h9) rfl d_M_takeBeginning_143 ?_
            obtain ⟨hc146_0, hE⟩ := hE
            refine ro_V (b0 := (mA md 0)) (As := [.int (mp_at σ133)]) (rest := []) ⟨hx, hb, hml, hown, hta⟩ (f_M_x l md σ133 (mp_at σ133) hc146_0) ok_M_95 ⟨Nat.le_of_ble_eq_true rfl, Nat.le_of_ble_eq_true rfl⟩ blind_rM (va_recv hK hP (ci := 7) (q0 := 0) rfl rfl) (rM_of hP hK) rfl hl.1 rfl (Nat.le_of_ble_eq_true rfl) d_M_takeBeginning_146 ⟨Nat.zero_le _, Nat.zero_le _⟩ (fun r146 hrr => ?_)
            subst hrr
            refine lv_iconst (v := 1) hx hb d_M_takeBeginning_149 (by decide) ?_
            refine ro_S  (As := [.int (mX σ133 (mp_at σ133)), .int 1]) (rest := []) ⟨hx, hb, hml, hown, hta⟩ (f_M_isNameSign l (mX σ133 (mp_at σ133)) 1) ok_M_107 ⟨Nat.le_of_ble_eq_true rfl, Nat.le_of_ble_eq_true rfl⟩ blind_true  (fun _ _ _ => trivial) rfl hl.1 rfl (Nat.le_of_ble_eq_true rfl) d_M_takeBeginning_150 ⟨Nat.zero_le _, Nat.zero_le _⟩ (fun r150 hrr => ?_)
            subst hrr
            refine lv_if_eq (tgt := 160) hx hb d_M_takeBeginning_153 (by decide) (fun cc153 => ?_) (fun cc153 => ?_)
            · have hE := hE.1 cc153
              exact J160  σ133 _ _ hP hD hS _ (lv_sub hl [1, 2, 3] rfl) hE
            · have hE := hE.2 cc153
              refine lv_iconst (v := 1) hx hb d_M_takeBeginning_156 (by decide) ?_
              refine lv_goto (tgt := 161) hx hb d_M_takeBeginning_157 (by decide) ?_
              exact J161  1 σ133 _ _ hP hD hS _ (lv_sub hl [1, 2, 3] rfl) hE
  have J107 : ∀ (v1 : Int32) (v2 : Int32) (t0 : Int32) (σ : MPS) (H : Heap) (locs : List Loc) (hP : va_P (mG md) classes (MW md σ) H) (hD : va_D A (MW md σ)) (hS : va_S A s.heap H locs) (ls : Array Slot) (hl : lv_has ls 5 [(0, .ref (mA md 0)), (1, .int v1), (2, .int v2)]) (hE : w_M_takeBeginning_J107 post v1 v2 t0 σ), W p l e (headSpec ws_M_takeBeginning { frames := 5, cells := 0, slots := 0, locals := 116 }).room s m ([.ref (mA md 0)] : List Value).toArray below meth c H locs 0 0 (MQ below (va_Qv post (eM md A) A) ([.ref (mA md 0)] : List Value).toArray s 0 0 A) (F0 m 107 ls [.int t0]) := by
    intro  v1 v2 t0 σ H locs hP hD hS ls hl hE
    unfold w_M_takeBeginning_J107 at hE
    refine lv_istore_n (lv' := [(3, .int t0), (0, .ref (mA md 0)), (1, .int v1), (2, .int v2)]) hx hb d_M_takeBeginning_107 rfl hl (by decide) rfl (fun ls hl => ?_)
    obtain ⟨n108, hE⟩ := hE
    exact L108 v1 v2 n108 t0 σ _ _ hP hD hS _ (lv_sub hl [1, 2, 3, 0] rfl) hE
  have J94 : ∀ (v1 : Int32) (t0 : Int32) (σ : MPS) (H : Heap) (locs : List Loc) (hP : va_P (mG md) classes (MW md σ) H) (hD : va_D A (MW md σ)) (hS : va_S A s.heap H locs) (ls : Array Slot) (hl : lv_has ls 5 [(0, .ref (mA md 0)), (1, .int v1)]) (hE : w_M_takeBeginning_J94 post v1 t0 σ), W p l e (headSpec ws_M_takeBeginning { frames := 5, cells := 0, slots := 0, locals := 116 }).room s m ([.ref (mA md 0)] : List Value).toArray below meth c H locs 0 0 (MQ below (va_Qv post (eM md A) A) ([.ref (mA md 0)] : List Value).toArray s 0 0 A) (F0 m 94 ls [.int t0]) := by
    intro  v1 t0 σ H locs hP hD hS ls hl hE
    unfold w_M_takeBeginning_J94 at hE
    refine lv_istore_n (lv' := [(2, .int t0), (0, .ref (mA md 0)), (1, .int v1)]) hx hb d_M_takeBeginning_94 rfl hl (by decide) rfl (fun ls hl => ?_)
    refine lv_aload_n hx hb d_M_takeBeginning_95 rfl (lv_at hl 1 rfl) ?_
    refine va_get (D := (mG md)) (ci := 7) (v := .int (mp_bad σ)) (C := R_M) (T := F_M) (N := 37) hx hb hta i_M hown hK hP 0 rfl rfl 16 (by decide) (hta _ fl_M_111) (fun _ h9 => h9) rfl d_M_takeBeginning_96 ?_
    refine lv_if_ne (tgt := 106) hx hb d_M_takeBeginning_99 (by decide) (fun cc99 => ?_) (fun cc99 => ?_)
    · have hE := hE.2 cc99
      refine lv_iconst (v := 0) hx hb d_M_takeBeginning_106 (by decide) ?_
      exact J107  v1 t0 0 σ _ _ hP hD hS _ (lv_sub hl [1, 2, 0] rfl) hE
    · have hE := hE.1 cc99
      refine lv_iconst (v := 1) hx hb d_M_takeBeginning_102 (by decide) ?_
      refine lv_goto (tgt := 107) hx hb d_M_takeBeginning_103 (by decide) ?_
      exact J107  v1 t0 1 σ _ _ hP hD hS _ (lv_sub hl [1, 2, 0] rfl) hE
  have J24 : ∀ (σ : MPS) (H : Heap) (locs : List Loc) (hP : va_P (mG md) classes (MW md σ) H) (hD : va_D A (MW md σ)) (hS : va_S A s.heap H locs) (ls : Array Slot) (hl : lv_has ls 5 [(0, .ref (mA md 0))]) (hE : w_M_takeBeginning_J24 post σ), W p l e (headSpec ws_M_takeBeginning { frames := 5, cells := 0, slots := 0, locals := 116 }).room s m ([.ref (mA md 0)] : List Value).toArray below meth c H locs 0 0 (MQ below (va_Qv post (eM md A) A) ([.ref (mA md 0)] : List Value).toArray s 0 0 A) (F0 m 24 ls []) := by
    intro  σ H locs hP hD hS ls hl hE
    unfold w_M_takeBeginning_J24 at hE
    refine lv_aload_n hx hb d_M_takeBeginning_24 rfl (lv_at hl 0 rfl) ?_
    refine lv_iconst (v := 1) hx hb d_M_takeBeginning_25 (by decide) ?_
    refine va_put (D := (mG md)) (ci := 7) (v := .int 1) (ty := .boolean) (C := R_M) (T := F_M) (N := 37) hx hb hta i_M t_M t_M_ok n_M hown hK hP hD hS 0 rfl rfl 16 (by decide) (hta _ fl_M_111) (fun _ h9 => h9) rfl (by decide +kernel) rfl rfl (Nat.le_of_ble_eq_true rfl) d_M_takeBeginning_26 (fun H locs hP hD hS => ?_)
    have hP := mwP_bad hP
    have hD := mwD_bad hD
    have hE := hE _ rfl
    generalize (ms_bad σ 1 : MPS) = σ26 at hP hD hE
    exact W.vret hx hb hr (fun t ht hW => ⟨⟨σ26, rfl, hE, by rw [ht]; exact hP, va_K.moved hW.alike hK, hD⟩, hS.F ht⟩) hS.2.2 d_M_takeBeginning_29
  unfold w_M_takeBeginning at hE
  refine lv_aload_n hx hb d_M_takeBeginning_0 rfl (lv_at hl 0 rfl) ?_
  refine va_get (D := (mG md)) (ci := 7) (v := .int (mp_at σ)) (C := R_M) (T := F_M) (N := 37) hx hb hta i_M hown hK hP 0 rfl rfl 13 (by decide) (hta _ fl_M_101) (fun _ h9 => h9) rfl d_M_takeBeginning_1 ?_
  refine lv_istore_n (lv' := [(1, .int (mp_at σ)), (0, .ref (mA md 0))]) hx hb d_M_takeBeginning_4 rfl hl (by decide) rfl (fun ls hl => ?_)
  refine lv_aload_n hx hb d_M_takeBeginning_5 rfl (lv_at hl 1 rfl) ?_
  refine va_get (D := (mG md)) (ci := 7) (v := .int (mp_deep σ)) (C := R_M) (T := F_M) (N := 37) hx hb hta i_M hown hK hP 0 rfl rfl 15 (by decide) (hta _ fl_M_178) (fun _ h9 => h9) rfl d_M_takeBeginning_6 ?_
  refine lv_bipush (v := 40) hx hb d_M_takeBeginning_9 (by decide) ?_
  refine lv_icmp_eq (tgt := 24) hx hb d_M_takeBeginning_11 (by decide) (fun cc11 => ?_) (fun cc11 => ?_)
  · have hE := hE.1 cc11
    exact J24  σ _ _ hP hD hS _ (lv_sub hl [1] rfl) hE
  · have hE := hE.2 cc11
    refine lv_aload_n hx hb d_M_takeBeginning_14 rfl (lv_at hl 1 rfl) ?_
    refine va_get (D := (mG md)) (ci := 7) (v := .int (mp_elements σ)) (C := R_M) (T := F_M) (N := 37) hx hb hta i_M hown hK hP 0 rfl rfl 14 (by decide) (hta _ fl_M_181) (fun _ h9 => h9) rfl d_M_takeBeginning_15 ?_
    refine lv_sipush (v := 300) hx hb d_M_takeBeginning_18 (by decide) ?_
    refine lv_icmp_ne (tgt := 30) hx hb d_M_takeBeginning_21 (by decide) (fun cc21 => ?_) (fun cc21 => ?_)
    · have hE := hE.2 cc21
      refine lv_aload_n hx hb d_M_takeBeginning_30 rfl (lv_at hl 1 rfl) ?_
      refine lv_dup hx hb d_M_takeBeginning_31 rfl ?_
      refine va_get (D := (mG md)) (ci := 7) (v := .int (mp_at σ)) (C := R_M) (T := F_M) (N := 37) hx hb hta i_M hown hK hP 0 rfl rfl 13 (by decide) (hta _ fl_M_101) (fun _ h9 => h9) rfl d_M_takeBeginning_32 ?_
      refine lv_iconst (v := 1) hx hb d_M_takeBeginning_35 (by decide) ?_
      refine lv_iadd hx hb d_M_takeBeginning_36 ?_
      refine va_put (D := (mG md)) (ci := 7) (v := .int ((mp_at σ) + 1)) (ty := .int) (C := R_M) (T := F_M) (N := 37) hx hb hta i_M t_M t_M_ok n_M hown hK hP hD hS 0 rfl rfl 13 (by decide) (hta _ fl_M_101) (fun _ h9 => h9) rfl (by decide +kernel) rfl rfl (Nat.le_of_ble_eq_true rfl) d_M_takeBeginning_37 (fun H locs hP hD hS => ?_)
      have hP := mwP_at hP
      have hD := mwD_at hD
      have hE := hE _ rfl
      generalize (ms_at σ ((mp_at σ) + 1) : MPS) = σ37 at hP hD hE
      refine lv_aload_n hx hb d_M_takeBeginning_40 rfl (lv_at hl 1 rfl) ?_
      refine va_get (D := (mG md)) (ci := 7) (v := .ref (mA md 6)) (C := R_M) (T := F_M) (N := 37) hx hb hta i_M hown hK hP 0 rfl rfl 17 (by decide) (hta _ fl_M_29) (fun _ h9 => h9) rfl d_M_takeBeginning_41 ?_
      refine lv_aload_n hx hb d_M_takeBeginning_44 rfl (lv_at hl 1 rfl) ?_
      refine va_get (D := (mG md)) (ci := 7) (v := .int (mp_deep σ37)) (C := R_M) (T := F_M) (N := 37) hx hb hta i_M hown hK hP 0 rfl rfl 15 (by decide) (hta _ fl_M_178) (fun _ h9 => h9) rfl d_M_takeBeginning_45 ?_
      refine lv_aload_n hx hb d_M_takeBeginning_48 rfl (lv_at hl 1 rfl) ?_
      refine va_get (D := (mG md)) (ci := 7) (v := .int (mp_at σ37)) (C := R_M) (T := F_M) (N := 37) hx hb hta i_M hown hK hP 0 rfl rfl 13 (by decide) (hta _ fl_M_101) (fun _ h9 => h9) rfl d_M_takeBeginning_49 ?_
      obtain ⟨hI52, hE⟩ := hE
      refine va_iast (D := (mG md)) (f := mp_openAt σ37) hx hb hK hP hD hS 6 0 rfl rfl hI52 d_M_takeBeginning_52 (fun H locs hP hD hS => ?_)
      have hP := mwP_openAt hP
      have hD := mwD_openAt hD
      have hE := hE _ rfl
      generalize (ms_openAt σ37 (upd (mp_openAt σ37) (mp_deep σ37).toNatClampNeg (mp_at σ37)) : MPS) = σ52 at hP hD hE
      refine lv_aload_n hx hb d_M_takeBeginning_53 rfl (lv_at hl 1 rfl) ?_
      refine va_get (D := (mG md)) (ci := 7) (v := .ref (mA md 7)) (C := R_M) (T := F_M) (N := 37) hx hb hta i_M hown hK hP 0 rfl rfl 18 (by decide) (hta _ fl_M_33) (fun _ h9 => h9) rfl d_M_takeBeginning_54 ?_
      refine lv_aload_n hx hb d_M_takeBeginning_57 rfl (lv_at hl 1 rfl) ?_
      refine va_get (D := (mG md)) (ci := 7) (v := .int (mp_deep σ52)) (C := R_M) (T := F_M) (N := 37) hx hb hta i_M hown hK hP 0 rfl rfl 15 (by decide) (hta _ fl_M_178) (fun _ h9 => h9) rfl d_M_takeBeginning_58 ?_
      refine lv_aload_n hx hb d_M_takeBeginning_61 rfl (lv_at hl 1 rfl) ?_
      refine mm_i (b0 := (mA md 0)) (As := []) (rest := [.int (mp_deep σ52), .ref (mA md 7)]) ⟨hx, hb, hml, hown, hta⟩ (c_M_takeName l md _ σ52  _ hE) ok_M_165 ⟨Nat.le_of_ble_eq_true rfl, Nat.le_of_ble_eq_true rfl⟩ (va_recv hK hP (ci := 7) (q0 := 0) rfl rfl) hP hK hD hS hA rfl hl.1 rfl (Nat.le_of_ble_eq_true rfl) d_M_takeBeginning_62 ⟨Nat.zero_le _, Nat.zero_le _⟩ (fun r62 σ62 H locs hE hP hD hS => ?_)
      obtain ⟨hI65, hE⟩ := hE
      refine va_iast (D := (mG md)) (f := mp_openMany σ62) hx hb hK hP hD hS 7 0 rfl rfl hI65 d_M_takeBeginning_65 (fun H locs hP hD hS => ?_)
      have hP := mwP_openMany hP
      have hD := mwD_openMany hD
      have hE := hE _ rfl
      generalize (ms_openMany σ62 (upd (mp_openMany σ62) (mp_deep σ52).toNatClampNeg r62) : MPS) = σ65 at hP hD hE
      refine lv_aload_n hx hb d_M_takeBeginning_66 rfl (lv_at hl 1 rfl) ?_
      refine lv_dup hx hb d_M_takeBeginning_67 rfl ?_
      refine va_get (D := (mG md)) (ci := 7) (v := .int (mp_elements σ65)) (C := R_M) (T := F_M) (N := 37) hx hb hta i_M hown hK hP 0 rfl rfl 14 (by decide) (hta _ fl_M_181) (fun _ h9 => h9) rfl d_M_takeBeginning_68 ?_
      refine lv_iconst (v := 1) hx hb d_M_takeBeginning_71 (by decide) ?_
      refine lv_iadd hx hb d_M_takeBeginning_72 ?_
      refine va_put (D := (mG md)) (ci := 7) (v := .int ((mp_elements σ65) + 1)) (ty := .int) (C := R_M) (T := F_M) (N := 37) hx hb hta i_M t_M t_M_ok n_M hown hK hP hD hS 0 rfl rfl 14 (by decide) (hta _ fl_M_181) (fun _ h9 => h9) rfl (by decide +kernel) rfl rfl (Nat.le_of_ble_eq_true rfl) d_M_takeBeginning_73 (fun H locs hP hD hS => ?_)
      have hP := mwP_elements hP
      have hD := mwD_elements hD
      have hE := hE _ rfl
      generalize (ms_elements σ65 ((mp_elements σ65) + 1) : MPS) = σ73 at hP hD hE
      refine lv_aload_n hx hb d_M_takeBeginning_76 rfl (lv_at hl 1 rfl) ?_
      refine va_get (D := (mG md)) (ci := 7) (v := .int (mp_bad σ73)) (C := R_M) (T := F_M) (N := 37) hx hb hta i_M hown hK hP 0 rfl rfl 16 (by decide) (hta _ fl_M_111) (fun _ h9 => h9) rfl d_M_takeBeginning_77 ?_
      refine lv_if_eq (tgt := 87) hx hb d_M_takeBeginning_80 (by decide) (fun cc80 => ?_) (fun cc80 => ?_)
      · have hE := hE.1 cc80
        refine lv_aload_n hx hb d_M_takeBeginning_87 rfl (lv_at hl 1 rfl) ?_
        refine lv_iconst (v := 1) hx hb d_M_takeBeginning_88 (by decide) ?_
        refine lv_iload_n hx hb d_M_takeBeginning_89 rfl (lv_at hl 0 rfl) ?_
        refine lv_iload_n hx hb d_M_takeBeginning_90 rfl (lv_at hl 0 rfl) ?_
        refine mm_i (b0 := (mA md 0)) (As := [.int 1, .int (mp_at σ), .int (mp_at σ)]) (rest := []) ⟨hx, hb, hml, hown, hta⟩ (c_M_add l md _ σ73 1 (mp_at σ) (mp_at σ) _ hE) ok_M_184 ⟨Nat.le_of_ble_eq_true rfl, Nat.le_of_ble_eq_true rfl⟩ (va_recv hK hP (ci := 7) (q0 := 0) rfl rfl) hP hK hD hS hA rfl hl.1 rfl (Nat.le_of_ble_eq_true rfl) d_M_takeBeginning_91 ⟨Nat.zero_le _, Nat.zero_le _⟩ (fun r91 σ91 H locs hE hP hD hS => ?_)
        exact J94  (mp_at σ) r91 σ91 _ _ hP hD hS _ (lv_sub hl [1, 0] rfl) hE
      · have hE := hE.2 cc80
        refine lv_iconst (v := -1) hx hb d_M_takeBeginning_83 (by decide) ?_
        refine lv_goto (tgt := 94) hx hb d_M_takeBeginning_84 (by decide) ?_
        exact J94  (mp_at σ) (-1) σ73 _ _ hP hD hS _ (lv_sub hl [1, 0] rfl) hE
    · have hE := hE.1 cc21
      exact J24  σ _ _ hP hD hS _ (lv_sub hl [1] rfl) hE
