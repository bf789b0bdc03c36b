-- printed by wip/gen: the reference
theorem fl_M_43 : Cond.fieldLink "PlainPagesModel" 43 "PlainPagesModel" "ends" "[I" ∈ aW := aW_in 929 (by decide +kernel) rfl
theorem fl_M_178 : Cond.fieldLink "PlainPagesModel" 178 "PlainPagesModel" "deep" "I" ∈ aW := aW_in 919 (by decide +kernel) rfl
theorem fl_M_61 : Cond.fieldLink "PlainPagesModel" 61 "PlainPagesModel" "openNode" "[I" ∈ aW := aW_in 935 (by decide +kernel) rfl
theorem fl_M_58 : Cond.fieldLink "PlainPagesModel" 58 "PlainPagesModel" "last" "[I" ∈ aW := aW_in 934 (by decide +kernel) rfl
theorem d_M_add_0 : decode b_M_add 0 = .ok (.aload_n 0, 1) := by decide +kernel
theorem d_M_add_1 : decode b_M_add 1 = .ok (.getfield 175, 3) := by decide +kernel
theorem d_M_add_4 : decode b_M_add 4 = .ok (.istore 4, 2) := by decide +kernel
theorem d_M_add_6 : decode b_M_add 6 = .ok (.aload_n 0, 1) := by decide +kernel
theorem d_M_add_7 : decode b_M_add 7 = .ok (.dup, 1) := by decide +kernel
theorem d_M_add_8 : decode b_M_add 8 = .ok (.getfield 175, 3) := by decide +kernel
theorem d_M_add_11 : decode b_M_add 11 = .ok (.iconst 1, 1) := by decide +kernel
theorem d_M_add_12 : decode b_M_add 12 = .ok (.iadd, 1) := by decide +kernel
theorem d_M_add_13 : decode b_M_add 13 = .ok (.putfield 175, 3) := by decide +kernel
theorem d_M_add_16 : decode b_M_add 16 = .ok (.aload_n 0, 1) := by decide +kernel
theorem d_M_add_17 : decode b_M_add 17 = .ok (.getfield 36, 3) := by decide +kernel
theorem d_M_add_20 : decode b_M_add 20 = .ok (.iload 4, 2) := by decide +kernel
theorem d_M_add_22 : decode b_M_add 22 = .ok (.iload_n 1, 1) := by decide +kernel
theorem d_M_add_23 : decode b_M_add 23 = .ok (.bastore, 1) := by decide +kernel
theorem d_M_add_24 : decode b_M_add 24 = .ok (.aload_n 0, 1) := by decide +kernel
theorem d_M_add_25 : decode b_M_add 25 = .ok (.getfield 40, 3) := by decide +kernel
theorem d_M_add_28 : decode b_M_add 28 = .ok (.iload 4, 2) := by decide +kernel
theorem d_M_add_30 : decode b_M_add 30 = .ok (.iload_n 2, 1) := by decide +kernel
theorem d_M_add_31 : decode b_M_add 31 = .ok (.iastore, 1) := by decide +kernel
theorem d_M_add_32 : decode b_M_add 32 = .ok (.aload_n 0, 1) := by decide +kernel
theorem d_M_add_33 : decode b_M_add 33 = .ok (.getfield 43, 3) := by decide +kernel
theorem d_M_add_36 : decode b_M_add 36 = .ok (.iload 4, 2) := by decide +kernel
theorem d_M_add_38 : decode b_M_add 38 = .ok (.iload_n 3, 1) := by decide +kernel
theorem d_M_add_39 : decode b_M_add 39 = .ok (.iastore, 1) := by decide +kernel
theorem d_M_add_40 : decode b_M_add 40 = .ok (.aload_n 0, 1) := by decide +kernel
theorem d_M_add_41 : decode b_M_add 41 = .ok (.getfield 46, 3) := by decide +kernel
theorem d_M_add_44 : decode b_M_add 44 = .ok (.iload 4, 2) := by decide +kernel
theorem d_M_add_46 : decode b_M_add 46 = .ok (.aload_n 0, 1) := by decide +kernel
theorem d_M_add_47 : decode b_M_add 47 = .ok (.getfield 178, 3) := by decide +kernel
theorem d_M_add_50 : decode b_M_add 50 = .ok (.ifCond .ne 7, 3) := by decide +kernel
theorem d_M_add_53 : decode b_M_add 53 = .ok (.iconst (-1), 1) := by decide +kernel
theorem d_M_add_54 : decode b_M_add 54 = .ok (.goto 14, 3) := by decide +kernel
theorem d_M_add_57 : decode b_M_add 57 = .ok (.aload_n 0, 1) := by decide +kernel
theorem d_M_add_58 : decode b_M_add 58 = .ok (.getfield 61, 3) := by decide +kernel
theorem d_M_add_61 : decode b_M_add 61 = .ok (.aload_n 0, 1) := by decide +kernel
theorem d_M_add_62 : decode b_M_add 62 = .ok (.getfield 178, 3) := by decide +kernel
theorem d_M_add_65 : decode b_M_add 65 = .ok (.iconst 1, 1) := by decide +kernel
theorem d_M_add_66 : decode b_M_add 66 = .ok (.isub, 1) := by decide +kernel
theorem d_M_add_67 : decode b_M_add 67 = .ok (.iaload, 1) := by decide +kernel
theorem d_M_add_68 : decode b_M_add 68 = .ok (.iastore, 1) := by decide +kernel
theorem d_M_add_69 : decode b_M_add 69 = .ok (.aload_n 0, 1) := by decide +kernel
theorem d_M_add_70 : decode b_M_add 70 = .ok (.getfield 55, 3) := by decide +kernel
theorem d_M_add_73 : decode b_M_add 73 = .ok (.iload 4, 2) := by decide +kernel
theorem d_M_add_75 : decode b_M_add 75 = .ok (.aload_n 0, 1) := by decide +kernel
theorem d_M_add_76 : decode b_M_add 76 = .ok (.getfield 178, 3) := by decide +kernel
theorem d_M_add_79 : decode b_M_add 79 = .ok (.iconst 1, 1) := by decide +kernel
theorem d_M_add_80 : decode b_M_add 80 = .ok (.iadd, 1) := by decide +kernel
theorem d_M_add_81 : decode b_M_add 81 = .ok (.iastore, 1) := by decide +kernel
theorem d_M_add_82 : decode b_M_add 82 = .ok (.aload_n 0, 1) := by decide +kernel
theorem d_M_add_83 : decode b_M_add 83 = .ok (.getfield 49, 3) := by decide +kernel
theorem d_M_add_86 : decode b_M_add 86 = .ok (.iload 4, 2) := by decide +kernel
theorem d_M_add_88 : decode b_M_add 88 = .ok (.iconst (-1), 1) := by decide +kernel
theorem d_M_add_89 : decode b_M_add 89 = .ok (.iastore, 1) := by decide +kernel
theorem d_M_add_90 : decode b_M_add 90 = .ok (.aload_n 0, 1) := by decide +kernel
theorem d_M_add_91 : decode b_M_add 91 = .ok (.getfield 52, 3) := by decide +kernel
theorem d_M_add_94 : decode b_M_add 94 = .ok (.iload 4, 2) := by decide +kernel
theorem d_M_add_96 : decode b_M_add 96 = .ok (.iconst (-1), 1) := by decide +kernel
theorem d_M_add_97 : decode b_M_add 97 = .ok (.iastore, 1) := by decide +kernel
theorem d_M_add_98 : decode b_M_add 98 = .ok (.aload_n 0, 1) := by decide +kernel
theorem d_M_add_99 : decode b_M_add 99 = .ok (.getfield 58, 3) := by decide +kernel
theorem d_M_add_102 : decode b_M_add 102 = .ok (.iload 4, 2) := by decide +kernel
theorem d_M_add_104 : decode b_M_add 104 = .ok (.iconst (-1), 1) := by decide +kernel
theorem d_M_add_105 : decode b_M_add 105 = .ok (.iastore, 1) := by decide +kernel
theorem d_M_add_106 : decode b_M_add 106 = .ok (.aload_n 0, 1) := by decide +kernel
theorem d_M_add_107 : decode b_M_add 107 = .ok (.getfield 178, 3) := by decide +kernel
theorem d_M_add_110 : decode b_M_add 110 = .ok (.ifCond .ne 6, 3) := by decide +kernel
theorem d_M_add_113 : decode b_M_add 113 = .ok (.iload 4, 2) := by decide +kernel
theorem d_M_add_115 : decode b_M_add 115 = .ok (.ireturn, 1) := by decide +kernel
theorem d_M_add_116 : decode b_M_add 116 = .ok (.aload_n 0, 1) := by decide +kernel
theorem d_M_add_117 : decode b_M_add 117 = .ok (.getfield 46, 3) := by decide +kernel
theorem d_M_add_120 : decode b_M_add 120 = .ok (.iload 4, 2) := by decide +kernel
theorem d_M_add_122 : decode b_M_add 122 = .ok (.iaload, 1) := by decide +kernel
theorem d_M_add_123 : decode b_M_add 123 = .ok (.istore 5, 2) := by decide +kernel
theorem d_M_add_125 : decode b_M_add 125 = .ok (.aload_n 0, 1) := by decide +kernel
theorem d_M_add_126 : decode b_M_add 126 = .ok (.getfield 49, 3) := by decide +kernel
theorem d_M_add_129 : decode b_M_add 129 = .ok (.iload 5, 2) := by decide +kernel
theorem d_M_add_131 : decode b_M_add 131 = .ok (.iaload, 1) := by decide +kernel
theorem d_M_add_132 : decode b_M_add 132 = .ok (.iconst (-1), 1) := by decide +kernel
theorem d_M_add_133 : decode b_M_add 133 = .ok (.if_icmp .ne 15, 3) := by decide +kernel
theorem d_M_add_136 : decode b_M_add 136 = .ok (.aload_n 0, 1) := by decide +kernel
theorem d_M_add_137 : decode b_M_add 137 = .ok (.getfield 49, 3) := by decide +kernel
theorem d_M_add_140 : decode b_M_add 140 = .ok (.iload 5, 2) := by decide +kernel
theorem d_M_add_142 : decode b_M_add 142 = .ok (.iload 4, 2) := by decide +kernel
theorem d_M_add_144 : decode b_M_add 144 = .ok (.iastore, 1) := by decide +kernel
theorem d_M_add_145 : decode b_M_add 145 = .ok (.goto 17, 3) := by decide +kernel
theorem d_M_add_148 : decode b_M_add 148 = .ok (.aload_n 0, 1) := by decide +kernel
theorem d_M_add_149 : decode b_M_add 149 = .ok (.getfield 52, 3) := by decide +kernel
theorem d_M_add_152 : decode b_M_add 152 = .ok (.aload_n 0, 1) := by decide +kernel
theorem d_M_add_153 : decode b_M_add 153 = .ok (.getfield 58, 3) := by decide +kernel
theorem d_M_add_156 : decode b_M_add 156 = .ok (.iload 5, 2) := by decide +kernel
theorem d_M_add_158 : decode b_M_add 158 = .ok (.iaload, 1) := by decide +kernel
theorem d_M_add_159 : decode b_M_add 159 = .ok (.iload 4, 2) := by decide +kernel
theorem d_M_add_161 : decode b_M_add 161 = .ok (.iastore, 1) := by decide +kernel
theorem d_M_add_162 : decode b_M_add 162 = .ok (.aload_n 0, 1) := by decide +kernel
theorem d_M_add_163 : decode b_M_add 163 = .ok (.getfield 58, 3) := by decide +kernel
theorem d_M_add_166 : decode b_M_add 166 = .ok (.iload 5, 2) := by decide +kernel
theorem d_M_add_168 : decode b_M_add 168 = .ok (.iload 4, 2) := by decide +kernel
theorem d_M_add_170 : decode b_M_add 170 = .ok (.iastore, 1) := by decide +kernel
theorem d_M_add_171 : decode b_M_add 171 = .ok (.iload 4, 2) := by decide +kernel
theorem d_M_add_173 : decode b_M_add 173 = .ok (.ireturn, 1) := by decide +kernel
def w_M_add_J162   (post : Int32 → MPS → Prop) (v4 : Int32) (v5 : Int32) (σ : MPS) : Prop := (vp_in v5 1000 ∧ (∀ σ170 : MPS, σ170 = ms_last σ (upd (mp_last σ) v5.toNatClampNeg v4) → post v4 σ170))
def w_M_add_J68   (post : Int32 → MPS → Prop) (v4 : Int32) (t0 : Int32) (t1 : Int32) (σ : MPS) : Prop := (vp_in t1 1000 ∧ (∀ σ68 : MPS, σ68 = ms_up σ (upd (mp_up σ) t1.toNatClampNeg t0) → (vp_in v4 1000 ∧ (∀ σ81 : MPS, σ81 = ms_depth σ68 (upd (mp_depth σ68) v4.toNatClampNeg ((mp_deep σ68) + 1)) → (vp_in v4 1000 ∧ (∀ σ89 : MPS, σ89 = ms_first σ81 (upd (mp_first σ81) v4.toNatClampNeg (-1)) → (vp_in v4 1000 ∧ (∀ σ97 : MPS, σ97 = ms_next σ89 (upd (mp_next σ89) v4.toNatClampNeg (-1)) → (vp_in v4 1000 ∧ (∀ σ105 : MPS, σ105 = ms_last σ97 (upd (mp_last σ97) v4.toNatClampNeg (-1)) → (((mp_deep σ105) = 0 → post v4 σ105) ∧ (¬ (mp_deep σ105) = 0 → (vp_in v4 1000 ∧ (vp_in ((mp_up σ105) v4.toNatClampNeg) 1000 ∧ ((((mp_first σ105) ((mp_up σ105) v4.toNatClampNeg).toNatClampNeg) = (-1) → (vp_in ((mp_up σ105) v4.toNatClampNeg) 1000 ∧ (∀ σ144 : MPS, σ144 = ms_first σ105 (upd (mp_first σ105) ((mp_up σ105) v4.toNatClampNeg).toNatClampNeg v4) → w_M_add_J162 post v4 ((mp_up σ105) v4.toNatClampNeg) σ144))) ∧ (¬ ((mp_first σ105) ((mp_up σ105) v4.toNatClampNeg).toNatClampNeg) = (-1) → (vp_in ((mp_up σ105) v4.toNatClampNeg) 1000 ∧ (vp_in ((mp_last σ105) ((mp_up σ105) v4.toNatClampNeg).toNatClampNeg) 1000 ∧ (∀ σ161 : MPS, σ161 = ms_next σ105 (upd (mp_next σ105) ((mp_last σ105) ((mp_up σ105) v4.toNatClampNeg).toNatClampNeg).toNatClampNeg v4) → w_M_add_J162 post v4 ((mp_up σ105) v4.toNatClampNeg) σ161)))))))))))))))))))
def w_M_add  (σ : MPS) (x0 : Int32) (x1 : Int32) (x2 : Int32) (post : Int32 → MPS → Prop) : Prop := (∀ σ13 : MPS, σ13 = ms_nodes σ ((mp_nodes σ) + 1) → (vp_in (mp_nodes σ) 1000 ∧ (∀ σ23 : MPS, σ23 = ms_isElement σ13 (upd (mp_isElement σ13) (mp_nodes σ).toNatClampNeg (vp_nar .boolean x0)) → (vp_in (mp_nodes σ) 1000 ∧ (∀ σ31 : MPS, σ31 = ms_begins σ23 (upd (mp_begins σ23) (mp_nodes σ).toNatClampNeg x1) → (vp_in (mp_nodes σ) 1000 ∧ (∀ σ39 : MPS, σ39 = ms_ends σ31 (upd (mp_ends σ31) (mp_nodes σ).toNatClampNeg x2) → (((mp_deep σ39) = 0 → w_M_add_J68 post (mp_nodes σ) (-1) (mp_nodes σ) σ39) ∧ (¬ (mp_deep σ39) = 0 → (vp_in ((mp_deep σ39) - 1) 42 ∧ w_M_add_J68 post (mp_nodes σ) ((mp_openNode σ39) ((mp_deep σ39) - 1).toNatClampNeg) (mp_nodes σ) σ39))))))))))
set_option maxHeartbeats 4000000 in
set_option maxRecDepth 100000 in
theorem c_M_add (l : Launch) (md : MD) (sz : Nat) (σ : MPS) (x0 : Int32) (x1 : Int32) (x2 : Int32)  (post : Int32 → MPS → Prop) (hE : w_M_add σ x0 x1 x2 post) : Met l y_M_add ws_M_add { frames := 0, cells := 0, slots := 0, locals := 0 } (va_Pc [.ref (mA md 0), .int x0, .int x1, .int x2] (gM md σ sz)) (va_Qi post (eM md (va_A (MW md σ) sz)) (va_A (MW md σ) sz)) 0 0 (va_A (MW md σ) sz) := by
  refine Met.ofW (cc := b_M_add) (maxL := 6) (ret := (some .int)) (by decide) rfl ?_
  intro p e s m args below meth c s₁ B hml hv
  obtain ⟨rfl, hsz, hP, hK, hD0⟩ := hv
  have hx := B.exec
  have hb := B.bytes
  have hr := B.returns
  have hta : ∀ w ∈ aW, w.before _ s = true := fun w h => atoms_spec (ws := ws_M_add) B.pre w (List.mem_cons_of_mem _ h)
  have hown : s.vm.findClass R_M = some m.cls := findClass_of_methodNamed B.named
  have hlocks := B.notSynchronized
  subst hsz
  have hD := hD0.self (sz := s.heap.size)
  generalize hAe : va_A (MW md σ) s.heap.size = A at hD ⊢
  have hA : ∀ q : Nat, s.heap.size ≤ q → A q := fun q h => by rw [← hAe]; exact Or.inr h
  have hS : va_S A s.heap s.heap [] := va_S.rf
  have hP : va_P (mG md) classes (MW md σ) s.heap := hP
  have hl := lv_entry ([.ref (mA md 0), .int x0, .int x1, .int x2]) (n := 6) (Nat.le_of_ble_eq_true rfl)
  rw [lg_entry_eq]
  generalize (lg_sl ([.ref (mA md 0), .int x0, .int x1, .int x2]) ++ List.replicate (6 - (lg_sl ([.ref (mA md 0), .int x0, .int x1, .int x2])).length) Slot.unset).toArray = ls at hl ⊢
  have hl : lv_has ls 6 [(0, .ref (mA md 0)), (1, .int x0), (2, .int x1), (3, .int x2)] := hl
  have J162 : ∀ (v4 : Int32) (v5 : Int32) (σ : MPS) (H : Heap) (locs : List Loc) (hP : va_P (mG md) classes (MW md σ) H) (hD : va_D A (MW md σ)) (hS : va_S A s.heap H locs) (ls : Array Slot) (hl : lv_has ls 6 [(0, .ref (mA md 0)), (4, .int v4), (5, .int v5)]) (hE : w_M_add_J162 post v4 v5 σ), W p l e (headSpec ws_M_add { frames := 0, cells := 0, slots := 0, locals := 0 }).room s m ([.ref (mA md 0), .int x0, .int x1, .int x2] : List Value).toArray below meth c H locs 0 0 (MQ below (va_Qi post (eM md A) A) ([.ref (mA md 0), .int x0, .int x1, .int x2] : List Value).toArray s 0 0 A) (F0 m 162 ls []) := by
    intro  v4 v5 σ H locs hP hD hS ls hl hE
    unfold w_M_add_J162 at hE
    refine lv_aload_n hx hb d_M_add_162 rfl (lv_at hl 0 rfl) ?_
    refine va_get (D := (mG md)) (ci := 7) (v := .ref (mA md 15)) (C := R_M) (T := F_M) (N := 37) hx hb hta i_M hown hK hP 0 rfl rfl 30 (by decide) (hta _ fl_M_58) (fun _ h9 => h9) rfl d_M_add_163 ?_
    refine lv_iload hx hb d_M_add_166 (lv_at hl 2 rfl) ?_
    refine lv_iload hx hb d_M_add_168 (lv_at hl 1 rfl) ?_
    obtain ⟨hI170, hE⟩ := hE
    refine va_iast (D := (mG md)) (f := mp_last σ) hx hb hK hP hD hS 15 0 rfl rfl hI170 d_M_add_170 (fun H locs hP hD hS => ?_)
    have hP := mwP_last hP
    have hD := mwD_last hD
    have hE := hE _ rfl
    generalize (ms_last σ (upd (mp_last σ) v5.toNatClampNeg v4) : MPS) = σ170 at hP hD hE
    refine lv_iload hx hb d_M_add_171 (lv_at hl 1 rfl) ?_
    exact W.iret (v := v4) hx hb hr (fun t ht hW => ⟨⟨_, σ170, rfl, hE, by rw [ht]; exact hP, va_K.moved hW.alike hK, hD⟩, hS.F ht⟩) hS.2.2 d_M_add_173
  have J68 : ∀ (v4 : Int32) (t0 : Int32) (t1 : Int32) (σ : MPS) (H : Heap) (locs : List Loc) (hP : va_P (mG md) classes (MW md σ) H) (hD : va_D A (MW md σ)) (hS : va_S A s.heap H locs) (ls : Array Slot) (hl : lv_has ls 6 [(0, .ref (mA md 0)), (4, .int v4)]) (hE : w_M_add_J68 post v4 t0 t1 σ), W p l e (headSpec ws_M_add { frames := 0, cells := 0, slots := 0, locals := 0 }).room s m ([.ref (mA md 0), .int x0, .int x1, .int x2] : List Value).toArray below meth c H locs 0 0 (MQ below (va_Qi post (eM md A) A) ([.ref (mA md 0), .int x0, .int x1, .int x2] : List Value).toArray s 0 0 A) (F0 m 68 ls [.int t0, .int t1, .ref (mA md 11)]) := by
    intro  v4 t0 t1 σ H locs hP hD hS ls hl hE
    unfold w_M_add_J68 at hE
    obtain ⟨hI68, hE⟩ := hE
    refine va_iast (D := (mG md)) (f := mp_up σ) hx hb hK hP hD hS 11 0 rfl rfl hI68 d_M_add_68 (fun H locs hP hD hS => ?_)
    have hP := mwP_up hP
    have hD := mwD_up hD
    have hE := hE _ rfl
    generalize (ms_up σ (upd (mp_up σ) t1.toNatClampNeg t0) : MPS) = σ68 at hP hD hE
    refine lv_aload_n hx hb d_M_add_69 rfl (lv_at hl 0 rfl) ?_
    refine va_get (D := (mG md)) (ci := 7) (v := .ref (mA md 14)) (C := R_M) (T := F_M) (N := 37) hx hb hta i_M hown hK hP 0 rfl rfl 29 (by decide) (hta _ fl_M_55) (fun _ h9 => h9) rfl d_M_add_70 ?_
    refine lv_iload hx hb d_M_add_73 (lv_at hl 1 rfl) ?_
    refine lv_aload_n hx hb d_M_add_75 rfl (lv_at hl 0 rfl) ?_
    refine va_get (D := (mG md)) (ci := 7) (v := .int (mp_deep σ68)) (C := R_M) (T := F_M) (N := 37) hx hb hta i_M hown hK hP 0 rfl rfl 15 (by decide) (hta _ fl_M_178) (fun _ h9 => h9) rfl d_M_add_76 ?_
    refine lv_iconst (v := 1) hx hb d_M_add_79 (by decide) ?_
    refine lv_iadd hx hb d_M_add_80 ?_
    obtain ⟨hI81, hE⟩ := hE
    refine va_iast (D := (mG md)) (f := mp_depth σ68) hx hb hK hP hD hS 14 0 rfl rfl hI81 d_M_add_81 (fun H locs hP hD hS => ?_)
    have hP := mwP_depth hP
    have hD := mwD_depth hD
    have hE := hE _ rfl
    generalize (ms_depth σ68 (upd (mp_depth σ68) v4.toNatClampNeg ((mp_deep σ68) + 1)) : MPS) = σ81 at hP hD hE
    refine lv_aload_n hx hb d_M_add_82 rfl (lv_at hl 0 rfl) ?_
    refine va_get (D := (mG md)) (ci := 7) (v := .ref (mA md 12)) (C := R_M) (T := F_M) (N := 37) hx hb hta i_M hown hK hP 0 rfl rfl 27 (by decide) (hta _ fl_M_49) (fun _ h9 => h9) rfl d_M_add_83 ?_
    refine lv_iload hx hb d_M_add_86 (lv_at hl 1 rfl) ?_
    refine lv_iconst (v := -1) hx hb d_M_add_88 (by decide) ?_
    obtain ⟨hI89, hE⟩ := hE
    refine va_iast (D := (mG md)) (f := mp_first σ81) hx hb hK hP hD hS 12 0 rfl rfl hI89 d_M_add_89 (fun H locs hP hD hS => ?_)
    have hP := mwP_first hP
    have hD := mwD_first hD
    have hE := hE _ rfl
    generalize (ms_first σ81 (upd (mp_first σ81) v4.toNatClampNeg (-1)) : MPS) = σ89 at hP hD hE
    refine lv_aload_n hx hb d_M_add_90 rfl (lv_at hl 0 rfl) ?_
    refine va_get (D := (mG md)) (ci := 7) (v := .ref (mA md 13)) (C := R_M) (T := F_M) (N := 37) hx hb hta i_M hown hK hP 0 rfl rfl 28 (by decide) (hta _ fl_M_52) (fun _ h9 => h9) rfl d_M_add_91 ?_
    refine lv_iload hx hb d_M_add_94 (lv_at hl 1 rfl) ?_
    refine lv_iconst (v := -1) hx hb d_M_add_96 (by decide) ?_
    obtain ⟨hI97, hE⟩ := hE
    refine va_iast (D := (mG md)) (f := mp_next σ89) hx hb hK hP hD hS 13 0 rfl rfl hI97 d_M_add_97 (fun H locs hP hD hS => ?_)
    have hP := mwP_next hP
    have hD := mwD_next hD
    have hE := hE _ rfl
    generalize (ms_next σ89 (upd (mp_next σ89) v4.toNatClampNeg (-1)) : MPS) = σ97 at hP hD hE
    refine lv_aload_n hx hb d_M_add_98 rfl (lv_at hl 0 rfl) ?_
    refine va_get (D := (mG md)) (ci := 7) (v := .ref (mA md 15)) (C := R_M) (T := F_M) (N := 37) hx hb hta i_M hown hK hP 0 rfl rfl 30 (by decide) (hta _ fl_M_58) (fun _ h9 => h9) rfl d_M_add_99 ?_
    refine lv_iload hx hb d_M_add_102 (lv_at hl 1 rfl) ?_
    refine lv_iconst (v := -1) hx hb d_M_add_104 (by decide) ?_
    obtain ⟨hI105, hE⟩ := hE
    refine va_iast (D := (mG md)) (f := mp_last σ97) hx hb hK hP hD hS 15 0 rfl rfl hI105 d_M_add_105 (fun H locs hP hD hS => ?_)
    have hP := mwP_last hP
    have hD := mwD_last hD
    have hE := hE _ rfl
    generalize (ms_last σ97 (upd (mp_last σ97) v4.toNatClampNeg (-1)) : MPS) = σ105 at hP hD hE
    refine lv_aload_n hx hb d_M_add_106 rfl (lv_at hl 0 rfl) ?_
    refine va_get (D := (mG md)) (ci := 7) (v := .int (mp_deep σ105)) (C := R_M) (T := F_M) (N := 37) hx hb hta i_M hown hK hP 0 rfl rfl 15 (by decide) (hta _ fl_M_178) (fun _ h9 => h9) rfl d_M_add_107 ?_
    refine lv_if_ne (tgt := 116) hx hb d_M_add_110 (by decide) (fun cc110 => ?_) (fun cc110 => ?_)
    · have hE := hE.2 cc110
      refine lv_aload_n hx hb d_M_add_116 rfl (lv_at hl 0 rfl) ?_
      refine va_get (D := (mG md)) (ci := 7) (v := .ref (mA md 11)) (C := R_M) (T := F_M) (N := 37) hx hb hta i_M hown hK hP 0 rfl rfl 26 (by decide) (hta _ fl_M_46) (fun _ h9 => h9) rfl d_M_add_117 ?_
      refine lv_iload hx hb d_M_add_120 (lv_at hl 1 rfl) ?_
      obtain ⟨hI122, hE⟩ := hE
      refine va_iald (D := (mG md)) (f := mp_up σ105) hx hb hK hP 11 0 rfl rfl hI122 d_M_add_122 ?_
      refine lv_istore (lv' := [(5, .int ((mp_up σ105) v4.toNatClampNeg)), (0, .ref (mA md 0)), (4, .int v4)]) hx hb d_M_add_123 hl (by decide) rfl (fun ls hl => ?_)
      refine lv_aload_n hx hb d_M_add_125 rfl (lv_at hl 1 rfl) ?_
      refine va_get (D := (mG md)) (ci := 7) (v := .ref (mA md 12)) (C := R_M) (T := F_M) (N := 37) hx hb hta i_M hown hK hP 0 rfl rfl 27 (by decide) (hta _ fl_M_49) (fun _ h9 => h9) rfl d_M_add_126 ?_
      refine lv_iload hx hb d_M_add_129 (lv_at hl 0 rfl) ?_
      obtain ⟨hI131, hE⟩ := hE
      refine va_iald (D := (mG md)) (f := mp_first σ105) hx hb hK hP 12 0 rfl rfl hI131 d_M_add_131 ?_
      refine lv_iconst (v := -1) hx hb d_M_add_132 (by decide) ?_
      refine lv_icmp_ne (tgt := 148) hx hb d_M_add_133 (by decide) (fun cc133 => ?_) (fun cc133 => ?_)
      · have hE := hE.2 cc133
        refine lv_aload_n hx hb d_M_add_148 rfl (lv_at hl 1 rfl) ?_
        refine va_get (D := (mG md)) (ci := 7) (v := .ref (mA md 13)) (C := R_M) (T := F_M) (N := 37) hx hb hta i_M hown hK hP 0 rfl rfl 28 (by decide) (hta _ fl_M_52) (fun _ h9 => h9) rfl d_M_add_149 ?_
        refine lv_aload_n hx hb d_M_add_152 rfl (lv_at hl 1 rfl) ?_
        refine va_get (D := (mG md)) (ci := 7) (v := .ref (mA md 15)) (C := R_M) (T := F_M) (N := 37) hx hb hta i_M hown hK hP 0 rfl rfl 30 (by decide) (hta _ fl_M_58) (fun _ h9 => h9) rfl d_M_add_153 ?_
        refine lv_iload hx hb d_M_add_156 (lv_at hl 0 rfl) ?_
        obtain ⟨hI158, hE⟩ := hE
        refine va_iald (D := (mG md)) (f := mp_last σ105) hx hb hK hP 15 0 rfl rfl hI158 d_M_add_158 ?_
        refine lv_iload hx hb d_M_add_159 (lv_at hl 2 rfl) ?_
        obtain ⟨hI161, hE⟩ := hE
        refine va_iast (D := (mG md)) (f := mp_next σ105) hx hb hK hP hD hS 13 0 rfl rfl hI161 d_M_add_161 (fun H locs hP hD hS => ?_)
        have hP := mwP_next hP
        have hD := mwD_next hD
        have hE := hE _ rfl
        generalize (ms_next σ105 (upd (mp_next σ105) ((mp_last σ105) ((mp_up σ105) v4.toNatClampNeg).toNatClampNeg).toNatClampNeg v4) : MPS) = σ161 at hP hD hE
        exact J162  v4 ((mp_up σ105) v4.toNatClampNeg) σ161 _ _ hP hD hS _ (lv_sub hl [1, 2, 0] rfl) hE
      · have hE := hE.1 cc133
        refine lv_aload_n hx hb d_M_add_136 rfl (lv_at hl 1 rfl) ?_
        refine va_get (D := (mG md)) (ci := 7) (v := .ref (mA md 12)) (C := R_M) (T := F_M) (N := 37) hx hb hta i_M hown hK hP 0 rfl rfl 27 (by decide) (hta _ fl_M_49) (fun _ h9 => h9) rfl d_M_add_137 ?_
        refine lv_iload hx hb d_M_add_140 (lv_at hl 0 rfl) ?_
        refine lv_iload hx hb d_M_add_142 (lv_at hl 2 rfl) ?_
        obtain ⟨hI144, hE⟩ := hE
        refine va_iast (D := (mG md)) (f := mp_first σ105) hx hb hK hP hD hS 12 0 rfl rfl hI144 d_M_add_144 (fun H locs hP hD hS => ?_)
        have hP := mwP_first hP
        have hD := mwD_first hD
        have hE := hE _ rfl
        generalize (ms_first σ105 (upd (mp_first σ105) ((mp_up σ105) v4.toNatClampNeg).toNatClampNeg v4) : MPS) = σ144 at hP hD hE
        refine lv_goto (tgt := 162) hx hb d_M_add_145 (by decide) ?_
        exact J162  v4 ((mp_up σ105) v4.toNatClampNeg) σ144 _ _ hP hD hS _ (lv_sub hl [1, 2, 0] rfl) hE
    · have hE := hE.1 cc110
      refine lv_iload hx hb d_M_add_113 (lv_at hl 1 rfl) ?_
      exact W.iret (v := v4) hx hb hr (fun t ht hW => ⟨⟨_, σ105, rfl, hE, by rw [ht]; exact hP, va_K.moved hW.alike hK, hD⟩, hS.F ht⟩) hS.2.2 d_M_add_115
  unfold w_M_add at hE
  refine lv_aload_n hx hb d_M_add_0 rfl (lv_at hl 0 rfl) ?_
  refine va_get (D := (mG md)) (ci := 7) (v := .int (mp_nodes σ)) (C := R_M) (T := F_M) (N := 37) hx hb hta i_M hown hK hP 0 rfl rfl 32 (by decide) (hta _ fl_M_175) (fun _ h9 => h9) rfl d_M_add_1 ?_
  refine lv_istore (lv' := [(4, .int (mp_nodes σ)), (0, .ref (mA md 0)), (1, .int x0), (2, .int x1), (3, .int x2)]) hx hb d_M_add_4 hl (by decide) rfl (fun ls hl => ?_)
  refine lv_aload_n hx hb d_M_add_6 rfl (lv_at hl 1 rfl) ?_
  refine lv_dup hx hb d_M_add_7 rfl ?_
  refine va_get (D := (mG md)) (ci := 7) (v := .int (mp_nodes σ)) (C := R_M) (T := F_M) (N := 37) hx hb hta i_M hown hK hP 0 rfl rfl 32 (by decide) (hta _ fl_M_175) (fun _ h9 => h9) rfl d_M_add_8 ?_
  refine lv_iconst (v := 1) hx hb d_M_add_11 (by decide) ?_
  refine lv_iadd hx hb d_M_add_12 ?_
  refine va_put (D := (mG md)) (ci := 7) (v := .int ((mp_nodes σ) + 1)) (ty := .int) (C := R_M) (T := F_M) (N := 37) hx hb hta i_M t_M t_M_ok n_M hown hK hP hD hS 0 rfl rfl 32 (by decide) (hta _ fl_M_175) (fun _ h9 => h9) rfl (by decide +kernel) rfl rfl (Nat.le_of_ble_eq_true rfl) d_M_add_13 (fun H locs hP hD hS => ?_)
  have hP := mwP_nodes hP
  have hD := mwD_nodes hD
  have hE := hE _ rfl
  generalize (ms_nodes σ ((mp_nodes σ) + 1) : MPS) = σ13 at hP hD hE
  refine lv_aload_n hx hb d_M_add_16 rfl (lv_at hl 1 rfl) ?_
  refine va_get (D := (mG md)) (ci := 7) (v := .ref (mA md 8)) (C := R_M) (T := F_M) (N := 37) hx hb hta i_M hown hK hP 0 rfl rfl 23 (by decide) (hta _ fl_M_36) (fun _ h9 => h9) rfl d_M_add_17 ?_
  refine lv_iload hx hb d_M_add_20 (lv_at hl 0 rfl) ?_
  refine lv_iload_n hx hb d_M_add_22 rfl (lv_at hl 2 rfl) ?_
  obtain ⟨hI23, hE⟩ := hE
  refine va_zast (D := (mG md)) (f := mp_isElement σ13) hx hb hK hP hD hS 8 2 rfl rfl hI23 d_M_add_23 (fun H locs hP hD hS => ?_)
  have hP := mwP_isElement hP
  have hD := mwD_isElement hD
  have hE := hE _ rfl
  generalize (ms_isElement σ13 (upd (mp_isElement σ13) (mp_nodes σ).toNatClampNeg (vp_nar .boolean x0)) : MPS) = σ23 at hP hD hE
  refine lv_aload_n hx hb d_M_add_24 rfl (lv_at hl 1 rfl) ?_
  refine va_get (D := (mG md)) (ci := 7) (v := .ref (mA md 9)) (C := R_M) (T := F_M) (N := 37) hx hb hta i_M hown hK hP 0 rfl rfl 24 (by decide) (hta _ fl_M_40) (fun _ h9 => h9) rfl d_M_add_25 ?_
  refine lv_iload hx hb d_M_add_28 (lv_at hl 0 rfl) ?_
  refine lv_iload_n hx hb d_M_add_30 rfl (lv_at hl 3 rfl) ?_
  obtain ⟨hI31, hE⟩ := hE
  refine va_iast (D := (mG md)) (f := mp_begins σ23) hx hb hK hP hD hS 9 0 rfl rfl hI31 d_M_add_31 (fun H locs hP hD hS => ?_)
  have hP := mwP_begins hP
  have hD := mwD_begins hD
  have hE := hE _ rfl
  generalize (ms_begins σ23 (upd (mp_begins σ23) (mp_nodes σ).toNatClampNeg x1) : MPS) = σ31 at hP hD hE
  refine lv_aload_n hx hb d_M_add_32 rfl (lv_at hl 1 rfl) ?_
  refine va_get (D := (mG md)) (ci := 7) (v := .ref (mA md 10)) (C := R_M) (T := F_M) (N := 37) hx hb hta i_M hown hK hP 0 rfl rfl 25 (by decide) (hta _ fl_M_43) (fun _ h9 => h9) rfl d_M_add_33 ?_
  refine lv_iload hx hb d_M_add_36 (lv_at hl 0 rfl) ?_
  refine lv_iload_n hx hb d_M_add_38 rfl (lv_at hl 4 rfl) ?_
  obtain ⟨hI39, hE⟩ := hE
  refine va_iast (D := (mG md)) (f := mp_ends σ31) hx hb hK hP hD hS 10 0 rfl rfl hI39 d_M_add_39 (fun H locs hP hD hS => ?_)
  have hP := mwP_ends hP
  have hD := mwD_ends hD
  have hE := hE _ rfl
  generalize (ms_ends σ31 (upd (mp_ends σ31) (mp_nodes σ).toNatClampNeg x2) : MPS) = σ39 at hP hD hE
  refine lv_aload_n hx hb d_M_add_40 rfl (lv_at hl 1 rfl) ?_
  refine va_get (D := (mG md)) (ci := 7) (v := .ref (mA md 11)) (C := R_M) (T := F_M) (N := 37) hx hb hta i_M hown hK hP 0 rfl rfl 26 (by decide) (hta _ fl_M_46) (fun _ h9 => h9) rfl d_M_add_41 ?_
  refine lv_iload hx hb d_M_add_44 (lv_at hl 0 rfl) ?_
  refine lv_aload_n hx hb d_M_add_46 rfl (lv_at hl 1 rfl) ?_
  refine va_get (D := (mG md)) (ci := 7) (v := .int (mp_deep σ39)) (C := R_M) (T := F_M) (N := 37) hx hb hta i_M hown hK hP 0 rfl rfl 15 (by decide) (hta _ fl_M_178) (fun _ h9 => h9) rfl d_M_add_47 ?_
  refine lv_if_ne (tgt := 57) hx hb d_M_add_50 (by decide) (fun cc50 => ?_) (fun cc50 => ?_)
  · have hE := hE.2 cc50
    refine lv_aload_n hx hb d_M_add_57 rfl (lv_at hl 1 rfl) ?_
    refine va_get (D := (mG md)) (ci := 7) (v := .ref (mA md 16)) (C := R_M) (T := F_M) (N := 37) hx hb hta i_M hown hK hP 0 rfl rfl 31 (by decide) (hta _ fl_M_61) (fun _ h9 => h9) rfl d_M_add_58 ?_
    refine lv_aload_n hx hb d_M_add_61 rfl (lv_at hl 1 rfl) ?_
    refine va_get (D := (mG md)) (ci := 7) (v := .int (mp_deep σ39)) (C := R_M) (T := F_M) (N := 37) hx hb hta i_M hown hK hP 0 rfl rfl 15 (by decide) (hta _ fl_M_178) (fun _ h9 => h9) rfl d_M_add_62 ?_
    refine lv_iconst (v := 1) hx hb d_M_add_65 (by decide) ?_
    refine lv_isub hx hb d_M_add_66 ?_
    obtain ⟨hI67, hE⟩ := hE
    refine va_iald (D := (mG md)) (f := mp_openNode σ39) hx hb hK hP 16 0 rfl rfl hI67 d_M_add_67 ?_
    exact J68  (mp_nodes σ) ((mp_openNode σ39) ((mp_deep σ39) - 1).toNatClampNeg) (mp_nodes σ) σ39 _ _ hP hD hS _ (lv_sub hl [1, 0] rfl) hE
  · have hE := hE.1 cc50
    refine lv_iconst (v := -1) hx hb d_M_add_53 (by decide) ?_
    refine lv_goto (tgt := 68) hx hb d_M_add_54 (by decide) ?_
    exact J68  (mp_nodes σ) (-1) (mp_nodes σ) σ39 _ _ hP hD hS _ (lv_sub hl [1, 0] rfl) hE
