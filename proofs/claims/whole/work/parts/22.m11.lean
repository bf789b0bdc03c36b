-- printed by wip/gen: the reference
theorem ok_M_211 : okV "PlainPagesModel" 211 R_M y_M_lookThrough b_M_lookThrough 1 none 0 := ⟨aW_in 1037 (by decide +kernel) rfl, aW_in 1039 (by decide +kernel) rfl, aW_in 40 (by decide +kernel) rfl, aW_in 92 (by decide +kernel) rfl, cd_M_lookThrough, rfl, by decide +kernel, by decide +kernel, by decide +kernel⟩
theorem ok_M_217 : okV "PlainPagesModel" 217 R_M y_M_tell b_M_tell 3 none 2 := ⟨aW_in 1139 (by decide +kernel) rfl, aW_in 1141 (by decide +kernel) rfl, aW_in 58 (by decide +kernel) rfl, aW_in 92 (by decide +kernel) rfl, cd_M_tell, rfl, by decide +kernel, by decide +kernel, by decide +kernel⟩
theorem d_M_read_0 : decode b_M_read 0 = .ok (.iconst 0, 1) := by decide +kernel
theorem d_M_read_1 : decode b_M_read 1 = .ok (.istore_n 1, 1) := by decide +kernel
theorem d_M_read_2 : decode b_M_read 2 = .ok (.iload_n 1, 1) := by decide +kernel
theorem d_M_read_3 : decode b_M_read 3 = .ok (.aload_n 0, 1) := by decide +kernel
theorem d_M_read_4 : decode b_M_read 4 = .ok (.getfield 73, 3) := by decide +kernel
theorem d_M_read_7 : decode b_M_read 7 = .ok (.if_icmp .ge 21, 3) := by decide +kernel
theorem d_M_read_10 : decode b_M_read 10 = .ok (.aload_n 0, 1) := by decide +kernel
theorem d_M_read_11 : decode b_M_read 11 = .ok (.getfield 13, 3) := by decide +kernel
theorem d_M_read_14 : decode b_M_read 14 = .ok (.iload_n 1, 1) := by decide +kernel
theorem d_M_read_15 : decode b_M_read 15 = .ok (.aload_n 0, 1) := by decide +kernel
theorem d_M_read_16 : decode b_M_read 16 = .ok (.getfield 7, 3) := by decide +kernel
theorem d_M_read_19 : decode b_M_read 19 = .ok (.iload_n 1, 1) := by decide +kernel
theorem d_M_read_20 : decode b_M_read 20 = .ok (.baload, 1) := by decide +kernel
theorem d_M_read_21 : decode b_M_read 21 = .ok (.bastore, 1) := by decide +kernel
theorem d_M_read_22 : decode b_M_read 22 = .ok (.iinc 1 1, 3) := by decide +kernel
theorem d_M_read_25 : decode b_M_read 25 = .ok (.goto (-23), 3) := by decide +kernel
theorem d_M_read_28 : decode b_M_read 28 = .ok (.aload_n 0, 1) := by decide +kernel
theorem d_M_read_29 : decode b_M_read 29 = .ok (.aload_n 0, 1) := by decide +kernel
theorem d_M_read_30 : decode b_M_read 30 = .ok (.getfield 73, 3) := by decide +kernel
theorem d_M_read_33 : decode b_M_read 33 = .ok (.putfield 92, 3) := by decide +kernel
theorem d_M_read_36 : decode b_M_read 36 = .ok (.aload_n 0, 1) := by decide +kernel
theorem d_M_read_37 : decode b_M_read 37 = .ok (.invokevirtual 211, 3) := by decide +kernel
theorem d_M_read_40 : decode b_M_read 40 = .ok (.aload_n 0, 1) := by decide +kernel
theorem d_M_read_41 : decode b_M_read 41 = .ok (.aload_n 0, 1) := by decide +kernel
theorem d_M_read_42 : decode b_M_read 42 = .ok (.getfield 111, 3) := by decide +kernel
theorem d_M_read_45 : decode b_M_read 45 = .ok (.ifCond .ne 7, 3) := by decide +kernel
theorem d_M_read_48 : decode b_M_read 48 = .ok (.iconst 1, 1) := by decide +kernel
theorem d_M_read_49 : decode b_M_read 49 = .ok (.goto 4, 3) := by decide +kernel
theorem d_M_read_52 : decode b_M_read 52 = .ok (.iconst 0, 1) := by decide +kernel
theorem d_M_read_53 : decode b_M_read 53 = .ok (.putfield 214, 3) := by decide +kernel
theorem d_M_read_56 : decode b_M_read 56 = .ok (.aload_n 0, 1) := by decide +kernel
theorem d_M_read_57 : decode b_M_read 57 = .ok (.aload_n 0, 1) := by decide +kernel
theorem d_M_read_58 : decode b_M_read 58 = .ok (.getfield 111, 3) := by decide +kernel
theorem d_M_read_61 : decode b_M_read 61 = .ok (.ifCond .eq 7, 3) := by decide +kernel
theorem d_M_read_64 : decode b_M_read 64 = .ok (.iconst 1, 1) := by decide +kernel
theorem d_M_read_65 : decode b_M_read 65 = .ok (.goto 4, 3) := by decide +kernel
theorem d_M_read_68 : decode b_M_read 68 = .ok (.iconst 0, 1) := by decide +kernel
theorem d_M_read_69 : decode b_M_read 69 = .ok (.aload_n 0, 1) := by decide +kernel
theorem d_M_read_70 : decode b_M_read 70 = .ok (.getfield 111, 3) := by decide +kernel
theorem d_M_read_73 : decode b_M_read 73 = .ok (.ifCond .eq 10, 3) := by decide +kernel
theorem d_M_read_76 : decode b_M_read 76 = .ok (.aload_n 0, 1) := by decide +kernel
theorem d_M_read_77 : decode b_M_read 77 = .ok (.getfield 101, 3) := by decide +kernel
theorem d_M_read_80 : decode b_M_read 80 = .ok (.goto 4, 3) := by decide +kernel
theorem d_M_read_83 : decode b_M_read 83 = .ok (.iconst (-1), 1) := by decide +kernel
theorem d_M_read_84 : decode b_M_read 84 = .ok (.invokevirtual 217, 3) := by decide +kernel
theorem d_M_read_87 : decode b_M_read 87 = .ok (.aload_n 0, 1) := by decide +kernel
theorem d_M_read_88 : decode b_M_read 88 = .ok (.aload_n 0, 1) := by decide +kernel
theorem d_M_read_89 : decode b_M_read 89 = .ok (.getfield 111, 3) := by decide +kernel
theorem d_M_read_92 : decode b_M_read 92 = .ok (.ifCond .eq 7, 3) := by decide +kernel
theorem d_M_read_95 : decode b_M_read 95 = .ok (.iconst 1, 1) := by decide +kernel
theorem d_M_read_96 : decode b_M_read 96 = .ok (.goto 4, 3) := by decide +kernel
theorem d_M_read_99 : decode b_M_read 99 = .ok (.iconst 0, 1) := by decide +kernel
theorem d_M_read_100 : decode b_M_read 100 = .ok (.putfield 70, 3) := by decide +kernel
theorem d_M_read_103 : decode b_M_read 103 = .ok (.aload_n 0, 1) := by decide +kernel
theorem d_M_read_104 : decode b_M_read 104 = .ok (.getfield 111, 3) := by decide +kernel
theorem d_M_read_107 : decode b_M_read 107 = .ok (.ifCond .eq 7, 3) := by decide +kernel
theorem d_M_read_110 : decode b_M_read 110 = .ok (.iconst 0, 1) := by decide +kernel
theorem d_M_read_111 : decode b_M_read 111 = .ok (.goto 7, 3) := by decide +kernel
theorem d_M_read_114 : decode b_M_read 114 = .ok (.aload_n 0, 1) := by decide +kernel
theorem d_M_read_115 : decode b_M_read 115 = .ok (.getfield 175, 3) := by decide +kernel
theorem d_M_read_118 : decode b_M_read 118 = .ok (.ireturn, 1) := by decide +kernel
def w_M_read_J100   (post : Int32 → MPS → Prop) (t0 : Int32) (σ : MPS) : Prop := (∀ σ100 : MPS, σ100 = ms_thrown σ t0 → (((mp_bad σ100) = 0 → post (mp_nodes σ100) σ100) ∧ (¬ (mp_bad σ100) = 0 → post 0 σ100)))
def w_M_read_J84   (post : Int32 → MPS → Prop) (t0 : Int32) (t1 : Int32) (σ : MPS) : Prop := w_M_tell σ t1 t0 (fun σ84 => (((mp_bad σ84) = 0 → w_M_read_J100 post 0 σ84) ∧ (¬ (mp_bad σ84) = 0 → w_M_read_J100 post 1 σ84)))
def w_M_read_J69   (post : Int32 → MPS → Prop) (t0 : Int32) (σ : MPS) : Prop := (((mp_bad σ) = 0 → w_M_read_J84 post (-1) t0 σ) ∧ (¬ (mp_bad σ) = 0 → w_M_read_J84 post (mp_at σ) t0 σ))
def w_M_read_J53   (post : Int32 → MPS → Prop) (t0 : Int32) (σ : MPS) : Prop := (isZ t0 ∧ (∀ σ53 : MPS, σ53 = ms_known σ t0 → (((mp_bad σ53) = 0 → w_M_read_J69 post 0 σ53) ∧ (¬ (mp_bad σ53) = 0 → w_M_read_J69 post 1 σ53))))
def w_M_read_L2   (post : Int32 → MPS → Prop) : Nat → Int32 → MPS → Prop
  | 0, _, _ => False
  | n2 + 1, v1, σ => (((mp_taped σ) ≤ v1 → (∀ σ33 : MPS, σ33 = ms_size σ (mp_taped σ) → w_M_lookThrough σ33  (fun σ37 => (((mp_bad σ37) = 0 → w_M_read_J53 post 1 σ37) ∧ (¬ (mp_bad σ37) = 0 → w_M_read_J53 post 0 σ37))))) ∧ (¬ (mp_taped σ) ≤ v1 → (vp_in v1 4000 ∧ (vp_in v1 4000 ∧ (∀ σ21 : MPS, σ21 = ms_text σ (upd (mp_text σ) v1.toNatClampNeg (vp_nar .byte ((mp_tape σ) v1.toNatClampNeg))) → w_M_read_L2 post n2 (v1 + 1) σ21)))))
def w_M_read  (σ : MPS)  (post : Int32 → MPS → Prop) : Prop := (∃ n2, w_M_read_L2 post n2 0 σ)
set_option maxHeartbeats 4000000 in
set_option maxRecDepth 100000 in
theorem c_M_read (l : Launch) (md : MD) (sz : Nat) (σ : MPS)   (post : Int32 → MPS → Prop) (hE : w_M_read σ post) : Met l y_M_read ws_M_read { frames := 7, cells := 0, slots := 0, locals := 160 } (va_Pc [.ref (mA md 0)] (gM md σ sz)) (va_Qi post (eM md (va_A (MW md σ) sz)) (va_A (MW md σ) sz)) 0 0 (va_A (MW md σ) sz) := by
  refine Met.ofW (cc := b_M_read) (maxL := 2) (ret := (some .int)) (by decide) rfl ?_
  intro p e s m args below meth c s₁ B hml hv
  obtain ⟨rfl, hsz, hP, hK, hD0⟩ := hv
  have hx := B.exec
  have hb := B.bytes
  have hr := B.returns
  have hta : ∀ w ∈ aW, w.before _ s = true := fun w h => atoms_spec (ws := ws_M_read) B.pre w (List.mem_cons_of_mem _ h)
  have hown : s.vm.findClass R_M = some m.cls := findClass_of_methodNamed B.named
  have hlocks := B.notSynchronized
  subst hsz
  have hD := hD0.self (sz := s.heap.size)
  generalize hAe : va_A (MW md σ) s.heap.size = A at hD ⊢
  have hA : ∀ q : Nat, s.heap.size ≤ q → A q := fun q h => by rw [← hAe]; exact Or.inr h
  have hS : va_S A s.heap s.heap [] := va_S.rf
  have hP : va_P (mG md) classes (MW md σ) s.heap := hP
  have hl := lv_entry ([.ref (mA md 0)]) (n := 2) (Nat.le_of_ble_eq_true rfl)
  rw [lg_entry_eq]
  generalize (lg_sl ([.ref (mA md 0)]) ++ List.replicate (2 - (lg_sl ([.ref (mA md 0)])).length) Slot.unset).toArray = ls at hl ⊢
  have hl : lv_has ls 2 [(0, .ref (mA md 0))] := hl
  have J100 : ∀ (t0 : Int32) (σ : MPS) (H : Heap) (locs : List Loc) (hP : va_P (mG md) classes (MW md σ) H) (hD : va_D A (MW md σ)) (hS : va_S A s.heap H locs) (ls : Array Slot) (hl : lv_has ls 2 [(0, .ref (mA md 0))]) (hE : w_M_read_J100 post t0 σ), W p l e (headSpec ws_M_read { frames := 7, cells := 0, slots := 0, locals := 160 }).room s m ([.ref (mA md 0)] : List Value).toArray below meth c H locs 0 0 (MQ below (va_Qi post (eM md A) A) ([.ref (mA md 0)] : List Value).toArray s 0 0 A) (F0 m 100 ls [.int t0, .ref (mA md 0)]) := by
    intro  t0 σ H locs hP hD hS ls hl hE
    unfold w_M_read_J100 at hE
    refine va_put (D := (mG md)) (ci := 7) (v := .int t0) (ty := .int) (C := R_M) (T := F_M) (N := 37) hx hb hta i_M t_M t_M_ok n_M hown hK hP hD hS 0 rfl rfl 0 (by decide) (hta _ fl_M_70) (fun _ h9 => h9) rfl (by decide +kernel) rfl rfl (Nat.le_of_ble_eq_true rfl) d_M_read_100 (fun H locs hP hD hS => ?_)
    have hP := mwP_thrown hP
    have hD := mwD_thrown hD
    have hE := hE _ rfl
    generalize (ms_thrown σ t0 : MPS) = σ100 at hP hD hE
    refine lv_aload_n hx hb d_M_read_103 rfl (lv_at hl 0 rfl) ?_
    refine va_get (D := (mG md)) (ci := 7) (v := .int (mp_bad σ100)) (C := R_M) (T := F_M) (N := 37) hx hb hta i_M hown hK hP 0 rfl rfl 16 (by decide) (hta _ fl_M_111) (fun _ h9 => h9) rfl d_M_read_104 ?_
    refine lv_if_eq (tgt := 114) hx hb d_M_read_107 (by decide) (fun cc107 => ?_) (fun cc107 => ?_)
    · have hE := hE.1 cc107
      refine lv_aload_n hx hb d_M_read_114 rfl (lv_at hl 0 rfl) ?_
      refine va_get (D := (mG md)) (ci := 7) (v := .int (mp_nodes σ100)) (C := R_M) (T := F_M) (N := 37) hx hb hta i_M hown hK hP 0 rfl rfl 32 (by decide) (hta _ fl_M_175) (fun _ h9 => h9) rfl d_M_read_115 ?_
      exact W.iret (v := mp_nodes σ100) hx hb hr (fun t ht hW => ⟨⟨_, σ100, rfl, hE, by rw [ht]; exact hP, va_K.moved hW.alike hK, hD⟩, hS.F ht⟩) hS.2.2 d_M_read_118
    · have hE := hE.2 cc107
      refine lv_iconst (v := 0) hx hb d_M_read_110 (by decide) ?_
      refine lv_goto (tgt := 118) hx hb d_M_read_111 (by decide) ?_
      exact W.iret (v := 0) hx hb hr (fun t ht hW => ⟨⟨_, σ100, rfl, hE, by rw [ht]; exact hP, va_K.moved hW.alike hK, hD⟩, hS.F ht⟩) hS.2.2 d_M_read_118
  have J84 : ∀ (t0 : Int32) (t1 : Int32) (σ : MPS) (H : Heap) (locs : List Loc) (hP : va_P (mG md) classes (MW md σ) H) (hD : va_D A (MW md σ)) (hS : va_S A s.heap H locs) (ls : Array Slot) (hl : lv_has ls 2 [(0, .ref (mA md 0))]) (hE : w_M_read_J84 post t0 t1 σ), W p l e (headSpec ws_M_read { frames := 7, cells := 0, slots := 0, locals := 160 }).room s m ([.ref (mA md 0)] : List Value).toArray below meth c H locs 0 0 (MQ below (va_Qi post (eM md A) A) ([.ref (mA md 0)] : List Value).toArray s 0 0 A) (F0 m 84 ls [.int t0, .int t1, .ref (mA md 0)]) := by
    intro  t0 t1 σ H locs hP hD hS ls hl hE
    unfold w_M_read_J84 at hE
    refine mm_v (b0 := (mA md 0)) (As := [.int t1, .int t0]) (rest := []) ⟨hx, hb, hml, hown, hta⟩ (c_M_tell l md _ σ t1 t0 _ hE) ok_M_217 ⟨Nat.le_of_ble_eq_true rfl, Nat.le_of_ble_eq_true rfl⟩ (va_recv hK hP (ci := 7) (q0 := 0) rfl rfl) hP hK hD hS hA rfl hl.1 rfl (Nat.le_of_ble_eq_true rfl) d_M_read_84 ⟨Nat.zero_le _, Nat.zero_le _⟩ (fun σ84 H locs hE hP hD hS => ?_)
    refine lv_aload_n hx hb d_M_read_87 rfl (lv_at hl 0 rfl) ?_
    refine lv_aload_n hx hb d_M_read_88 rfl (lv_at hl 0 rfl) ?_
    refine va_get (D := (mG md)) (ci := 7) (v := .int (mp_bad σ84)) (C := R_M) (T := F_M) (N := 37) hx hb hta i_M hown hK hP 0 rfl rfl 16 (by decide) (hta _ fl_M_111) (fun _ h9 => h9) rfl d_M_read_89 ?_
    refine lv_if_eq (tgt := 99) hx hb d_M_read_92 (by decide) (fun cc92 => ?_) (fun cc92 => ?_)
    · have hE := hE.1 cc92
      refine lv_iconst (v := 0) hx hb d_M_read_99 (by decide) ?_
      exact J100  0 σ84 _ _ hP hD hS _ (lv_sub hl [0] rfl) hE
    · have hE := hE.2 cc92
      refine lv_iconst (v := 1) hx hb d_M_read_95 (by decide) ?_
      refine lv_goto (tgt := 100) hx hb d_M_read_96 (by decide) ?_
      exact J100  1 σ84 _ _ hP hD hS _ (lv_sub hl [0] rfl) hE
  have J69 : ∀ (t0 : Int32) (σ : MPS) (H : Heap) (locs : List Loc) (hP : va_P (mG md) classes (MW md σ) H) (hD : va_D A (MW md σ)) (hS : va_S A s.heap H locs) (ls : Array Slot) (hl : lv_has ls 2 [(0, .ref (mA md 0))]) (hE : w_M_read_J69 post t0 σ), W p l e (headSpec ws_M_read { frames := 7, cells := 0, slots := 0, locals := 160 }).room s m ([.ref (mA md 0)] : List Value).toArray below meth c H locs 0 0 (MQ below (va_Qi post (eM md A) A) ([.ref (mA md 0)] : List Value).toArray s 0 0 A) (F0 m 69 ls [.int t0, .ref (mA md 0)]) := by
    intro  t0 σ H locs hP hD hS ls hl hE
    unfold w_M_read_J69 at hE
    refine lv_aload_n hx hb d_M_read_69 rfl (lv_at hl 0 rfl) ?_
    refine va_get (D := (mG md)) (ci := 7) (v := .int (mp_bad σ)) (C := R_M) (T := F_M) (N := 37) hx hb hta i_M hown hK hP 0 rfl rfl 16 (by decide) (hta _ fl_M_111) (fun _ h9 => h9) rfl d_M_read_70 ?_
    refine lv_if_eq (tgt := 83) hx hb d_M_read_73 (by decide) (fun cc73 => ?_) (fun cc73 => ?_)
    · have hE := hE.1 cc73
      refine lv_iconst (v := -1) hx hb d_M_read_83 (by decide) ?_
      exact J84  (-1) t0 σ _ _ hP hD hS _ (lv_sub hl [0] rfl) hE
    · have hE := hE.2 cc73
      refine lv_aload_n hx hb d_M_read_76 rfl (lv_at hl 0 rfl) ?_
      refine va_get (D := (mG md)) (ci := 7) (v := .int (mp_at σ)) (C := R_M) (T := F_M) (N := 37) hx hb hta i_M hown hK hP 0 rfl rfl 13 (by decide) (hta _ fl_M_101) (fun _ h9 => h9) rfl d_M_read_77 ?_
      refine lv_goto (tgt := 84) hx hb d_M_read_80 (by decide) ?_
      exact J84  (mp_at σ) t0 σ _ _ hP hD hS _ (lv_sub hl [0] rfl) hE
  have J53 : ∀ (t0 : Int32) (σ : MPS) (H : Heap) (locs : List Loc) (hP : va_P (mG md) classes (MW md σ) H) (hD : va_D A (MW md σ)) (hS : va_S A s.heap H locs) (ls : Array Slot) (hl : lv_has ls 2 [(0, .ref (mA md 0))]) (hE : w_M_read_J53 post t0 σ), W p l e (headSpec ws_M_read { frames := 7, cells := 0, slots := 0, locals := 160 }).room s m ([.ref (mA md 0)] : List Value).toArray below meth c H locs 0 0 (MQ below (va_Qi post (eM md A) A) ([.ref (mA md 0)] : List Value).toArray s 0 0 A) (F0 m 53 ls [.int t0, .ref (mA md 0)]) := by
    intro  t0 σ H locs hP hD hS ls hl hE
    unfold w_M_read_J53 at hE
    obtain ⟨hz, hE⟩ := hE
    refine va_put (D := (mG md)) (ci := 7) (v := .int t0) (ty := .boolean) (C := R_M) (T := F_M) (N := 37) hx hb hta i_M t_M t_M_ok n_M hown hK hP hD hS 0 rfl rfl 11 (by decide) (hta _ fl_M_214) (fun _ h9 => h9) rfl (by decide +kernel) (isZ_n hz) (isZ_f hz) (Nat.le_of_ble_eq_true rfl) d_M_read_53 (fun H locs hP hD hS => ?_)
    have hP := mwP_known hP
    have hD := mwD_known hD
    have hE := hE _ rfl
    generalize (ms_known σ t0 : MPS) = σ53 at hP hD hE
    refine lv_aload_n hx hb d_M_read_56 rfl (lv_at hl 0 rfl) ?_
    refine lv_aload_n hx hb d_M_read_57 rfl (lv_at hl 0 rfl) ?_
    refine va_get (D := (mG md)) (ci := 7) (v := .int (mp_bad σ53)) (C := R_M) (T := F_M) (N := 37) hx hb hta i_M hown hK hP 0 rfl rfl 16 (by decide) (hta _ fl_M_111) (fun _ h9 => h9) rfl d_M_read_58 ?_
    refine lv_if_eq (tgt := 68) hx hb d_M_read_61 (by decide) (fun cc61 => ?_) (fun cc61 => ?_)
    · have hE := hE.1 cc61
      refine lv_iconst (v := 0) hx hb d_M_read_68 (by decide) ?_
      exact J69  0 σ53 _ _ hP hD hS _ (lv_sub hl [0] rfl) hE
    · have hE := hE.2 cc61
      refine lv_iconst (v := 1) hx hb d_M_read_64 (by decide) ?_
      refine lv_goto (tgt := 69) hx hb d_M_read_65 (by decide) ?_
      exact J69  1 σ53 _ _ hP hD hS _ (lv_sub hl [0] rfl) hE
  have L2 : ∀ (n2 : Nat) (v1 : Int32) (σ : MPS) (H : Heap) (locs : List Loc) (hP : va_P (mG md) classes (MW md σ) H) (hD : va_D A (MW md σ)) (hS : va_S A s.heap H locs) (ls : Array Slot) (hl : lv_has ls 2 [(0, .ref (mA md 0)), (1, .int v1)]) (hE : w_M_read_L2 post n2 v1 σ), W p l e (headSpec ws_M_read { frames := 7, cells := 0, slots := 0, locals := 160 }).room s m ([.ref (mA md 0)] : List Value).toArray below meth c H locs 0 0 (MQ below (va_Qi post (eM md A) A) ([.ref (mA md 0)] : List Value).toArray s 0 0 A) (F0 m 2 ls []) := by
    intro n2
    induction n2 with
    | zero => intro v1 σ H locs hP hD hS ls hl hE; exact hE.elim
    | succ n2 ih2 =>
      intro v1 σ H locs hP hD hS ls hl hE
      unfold w_M_read_L2 at hE
      refine lv_iload_n hx hb d_M_read_2 rfl (lv_at hl 1 rfl) ?_
      refine lv_aload_n hx hb d_M_read_3 rfl (lv_at hl 0 rfl) ?_
      refine va_get (D := (mG md)) (ci := 7) (v := .int (mp_taped σ)) (C := R_M) (T := F_M) (N := 37) hx hb hta i_M hown hK hP 0 rfl rfl 6 (by decide) (hta _ fl_M_73) (fun _ h9 => h9) rfl d_M_read_4 ?_
      refine lv_icmp_ge (tgt := 28) hx hb d_M_read_7 (by decide) (fun cc7 => ?_) (fun cc7 => ?_)
      · have hE := hE.1 cc7
        refine lv_aload_n hx hb d_M_read_28 rfl (lv_at hl 0 rfl) ?_
        refine lv_aload_n hx hb d_M_read_29 rfl (lv_at hl 0 rfl) ?_
        refine va_get (D := (mG md)) (ci := 7) (v := .int (mp_taped σ)) (C := R_M) (T := F_M) (N := 37) hx hb hta i_M hown hK hP 0 rfl rfl 6 (by decide) (hta _ fl_M_73) (fun _ h9 => h9) rfl d_M_read_30 ?_
        refine va_put (D := (mG md)) (ci := 7) (v := .int (mp_taped σ)) (ty := .int) (C := R_M) (T := F_M) (N := 37) hx hb hta i_M t_M t_M_ok n_M hown hK hP hD hS 0 rfl rfl 7 (by decide) (hta _ fl_M_92) (fun _ h9 => h9) rfl (by decide +kernel) rfl rfl (Nat.le_of_ble_eq_true rfl) d_M_read_33 (fun H locs hP hD hS => ?_)
        have hP := mwP_size hP
        have hD := mwD_size hD
        have hE := hE _ rfl
        generalize (ms_size σ (mp_taped σ) : MPS) = σ33 at hP hD hE
        refine lv_aload_n hx hb d_M_read_36 rfl (lv_at hl 0 rfl) ?_
        refine mm_v (b0 := (mA md 0)) (As := []) (rest := []) ⟨hx, hb, hml, hown, hta⟩ (c_M_lookThrough l md _ σ33  _ hE) ok_M_211 ⟨Nat.le_of_ble_eq_true rfl, Nat.le_of_ble_eq_true rfl⟩ (va_recv hK hP (ci := 7) (q0 := 0) rfl rfl) hP hK hD hS hA rfl hl.1 rfl (Nat.le_of_ble_eq_true rfl) d_M_read_37 ⟨Nat.zero_le _, Nat.zero_le _⟩ (fun σ37 H locs hE hP hD hS => ?_)
        refine lv_aload_n hx hb d_M_read_40 rfl (lv_at hl 0 rfl) ?_
        refine lv_aload_n hx hb d_M_read_41 rfl (lv_at hl 0 rfl) ?_
        refine va_get (D := (mG md)) (ci := 7) (v := .int (mp_bad σ37)) (C := R_M) (T := F_M) (N := 37) hx hb hta i_M hown hK hP 0 rfl rfl 16 (by decide) (hta _ fl_M_111) (fun _ h9 => h9) rfl d_M_read_42 ?_
        refine lv_if_ne (tgt := 52) hx hb d_M_read_45 (by decide) (fun cc45 => ?_) (fun cc45 => ?_)
        · have hE := hE.2 cc45
          refine lv_iconst (v := 0) hx hb d_M_read_52 (by decide) ?_
          exact J53  0 σ37 _ _ hP hD hS _ (lv_sub hl [0] rfl) hE
        · have hE := hE.1 cc45
          refine lv_iconst (v := 1) hx hb d_M_read_48 (by decide) ?_
          refine lv_goto (tgt := 53) hx hb d_M_read_49 (by decide) ?_
          exact J53  1 σ37 _ _ hP hD hS _ (lv_sub hl [0] rfl) hE
      · have hE := hE.2 cc7
        refine lv_aload_n hx hb d_M_read_10 rfl (lv_at hl 0 rfl) ?_
        refine va_get (D := (mG md)) (ci := 7) (v := .ref (mA md 2)) (C := R_M) (T := F_M) (N := 37) hx hb hta i_M hown hK hP 0 rfl rfl 2 (by decide) (hta _ fl_M_13) (fun _ h9 => h9) rfl d_M_read_11 ?_
        refine lv_iload_n hx hb d_M_read_14 rfl (lv_at hl 1 rfl) ?_
        refine lv_aload_n hx hb d_M_read_15 rfl (lv_at hl 0 rfl) ?_
        refine va_get (D := (mG md)) (ci := 7) (v := .ref (mA md 1)) (C := R_M) (T := F_M) (N := 37) hx hb hta i_M hown hK hP 0 rfl rfl 1 (by decide) (hta _ fl_M_7) (fun _ h9 => h9) rfl d_M_read_16 ?_
        refine lv_iload_n hx hb d_M_read_19 rfl (lv_at hl 1 rfl) ?_
        obtain ⟨hI20, hE⟩ := hE
        refine va_bald (D := (mG md)) (f := mp_tape σ) hx hb hK hP 1 1 rfl rfl hI20 d_M_read_20 ?_
        obtain ⟨hI21, hE⟩ := hE
        refine va_bast (D := (mG md)) (f := mp_text σ) hx hb hK hP hD hS 2 1 rfl rfl hI21 d_M_read_21 (fun H locs hP hD hS => ?_)
        have hP := mwP_text hP
        have hD := mwD_text hD
        have hE := hE _ rfl
        generalize (ms_text σ (upd (mp_text σ) v1.toNatClampNeg (vp_nar .byte ((mp_tape σ) v1.toNatClampNeg))) : MPS) = σ21 at hP hD hE
        refine lv_iinc (v := v1 + 1) (lv' := [(1, .int (v1 + 1)), (0, .ref (mA md 0))]) hx hb d_M_read_22 hl (k := 1) rfl rfl (by decide) rfl (fun ls hl => ?_)
        refine lv_goto (tgt := 2) hx hb d_M_read_25 (by decide) ?_
        exact ih2 (v1 + 1) σ21 _ _ hP hD hS _ (lv_sub hl [1, 0] rfl) hE
  unfold w_M_read at hE
  refine lv_iconst (v := 0) hx hb d_M_read_0 (by decide) ?_
  refine lv_istore_n (lv' := [(1, .int 0), (0, .ref (mA md 0))]) hx hb d_M_read_1 rfl hl (by decide) rfl (fun ls hl => ?_)
  obtain ⟨n2, hE⟩ := hE
  exact L2  n2 0 σ _ _ hP hD hS _ (lv_sub hl [1, 0] rfl) hE

theorem d_M_hasAttribute_0 : decode b_M_hasAttribute 0 = .ok (.aload_n 0, 1) := by decide +kernel
theorem d_M_hasAttribute_1 : decode b_M_hasAttribute 1 = .ok (.aload_n 0, 1) := by decide +kernel
theorem d_M_hasAttribute_2 : decode b_M_hasAttribute 2 = .ok (.getfield 40, 3) := by decide +kernel
theorem d_M_hasAttribute_5 : decode b_M_hasAttribute 5 = .ok (.iload_n 1, 1) := by decide +kernel
theorem d_M_hasAttribute_6 : decode b_M_hasAttribute 6 = .ok (.iaload, 1) := by decide +kernel
theorem d_M_hasAttribute_7 : decode b_M_hasAttribute 7 = .ok (.invokevirtual 154, 3) := by decide +kernel
theorem d_M_hasAttribute_10 : decode b_M_hasAttribute 10 = .ok (.istore 5, 2) := by decide +kernel
theorem d_M_hasAttribute_12 : decode b_M_hasAttribute 12 = .ok (.iconst 0, 1) := by decide +kernel
theorem d_M_hasAttribute_13 : decode b_M_hasAttribute 13 = .ok (.istore 6, 2) := by decide +kernel
theorem d_M_hasAttribute_15 : decode b_M_hasAttribute 15 = .ok (.iload 6, 2) := by decide +kernel
theorem d_M_hasAttribute_17 : decode b_M_hasAttribute 17 = .ok (.ifCond .ne 57, 3) := by decide +kernel
theorem d_M_hasAttribute_20 : decode b_M_hasAttribute 20 = .ok (.aload_n 0, 1) := by decide +kernel
theorem d_M_hasAttribute_21 : decode b_M_hasAttribute 21 = .ok (.iload 5, 2) := by decide +kernel
theorem d_M_hasAttribute_23 : decode b_M_hasAttribute 23 = .ok (.aload_n 0, 1) := by decide +kernel
theorem d_M_hasAttribute_24 : decode b_M_hasAttribute 24 = .ok (.getfield 92, 3) := by decide +kernel
theorem d_M_hasAttribute_27 : decode b_M_hasAttribute 27 = .ok (.invokevirtual 157, 3) := by decide +kernel
theorem d_M_hasAttribute_30 : decode b_M_hasAttribute 30 = .ok (.ifCond .eq 44, 3) := by decide +kernel
theorem d_M_hasAttribute_33 : decode b_M_hasAttribute 33 = .ok (.aload_n 0, 1) := by decide +kernel
theorem d_M_hasAttribute_34 : decode b_M_hasAttribute 34 = .ok (.getfield 145, 3) := by decide +kernel
theorem d_M_hasAttribute_37 : decode b_M_hasAttribute 37 = .ok (.iload 4, 2) := by decide +kernel
theorem d_M_hasAttribute_39 : decode b_M_hasAttribute 39 = .ok (.if_icmp .ne 21, 3) := by decide +kernel
theorem d_M_hasAttribute_42 : decode b_M_hasAttribute 42 = .ok (.aload_n 0, 1) := by decide +kernel
theorem d_M_hasAttribute_43 : decode b_M_hasAttribute 43 = .ok (.aload_n 0, 1) := by decide +kernel
theorem d_M_hasAttribute_44 : decode b_M_hasAttribute 44 = .ok (.getfield 142, 3) := by decide +kernel
theorem d_M_hasAttribute_47 : decode b_M_hasAttribute 47 = .ok (.lload_n 2, 1) := by decide +kernel
theorem d_M_hasAttribute_48 : decode b_M_hasAttribute 48 = .ok (.iload 4, 2) := by decide +kernel
theorem d_M_hasAttribute_50 : decode b_M_hasAttribute 50 = .ok (.invokevirtual 124, 3) := by decide +kernel
theorem d_M_hasAttribute_53 : decode b_M_hasAttribute 53 = .ok (.ifCond .eq 7, 3) := by decide +kernel
theorem d_M_hasAttribute_56 : decode b_M_hasAttribute 56 = .ok (.iconst 1, 1) := by decide +kernel
theorem d_M_hasAttribute_57 : decode b_M_hasAttribute 57 = .ok (.goto 4, 3) := by decide +kernel
theorem d_M_hasAttribute_60 : decode b_M_hasAttribute 60 = .ok (.iconst 0, 1) := by decide +kernel
theorem d_M_hasAttribute_61 : decode b_M_hasAttribute 61 = .ok (.istore 6, 2) := by decide +kernel
theorem d_M_hasAttribute_63 : decode b_M_hasAttribute 63 = .ok (.aload_n 0, 1) := by decide +kernel
theorem d_M_hasAttribute_64 : decode b_M_hasAttribute 64 = .ok (.getfield 151, 3) := by decide +kernel
theorem d_M_hasAttribute_67 : decode b_M_hasAttribute 67 = .ok (.iconst 1, 1) := by decide +kernel
theorem d_M_hasAttribute_68 : decode b_M_hasAttribute 68 = .ok (.iadd, 1) := by decide +kernel
theorem d_M_hasAttribute_69 : decode b_M_hasAttribute 69 = .ok (.istore 5, 2) := by decide +kernel
theorem d_M_hasAttribute_71 : decode b_M_hasAttribute 71 = .ok (.goto (-56), 3) := by decide +kernel
theorem d_M_hasAttribute_74 : decode b_M_hasAttribute 74 = .ok (.iload 6, 2) := by decide +kernel
theorem d_M_hasAttribute_76 : decode b_M_hasAttribute 76 = .ok (.ireturn, 1) := by decide +kernel
def w_M_hasAttribute_J61  (v2 : Int64) (v4 : Int32) (K15 : Int32 → Int32 → MPS → Prop) (post : Int32 → MPS → Prop) (t0 : Int32) (σ : MPS) : Prop := K15 ((mp_valueEnd σ) + 1) t0 σ
def w_M_hasAttribute_J60  (v2 : Int64) (v4 : Int32) (K15 : Int32 → Int32 → MPS → Prop) (post : Int32 → MPS → Prop) (σ : MPS) : Prop := w_M_hasAttribute_J61 v2 v4 (K15) post 0 σ
def w_M_hasAttribute_L15  (v2 : Int64) (v4 : Int32) (post : Int32 → MPS → Prop) : Nat → Int32 → Int32 → MPS → Prop
  | 0, _, _, _ => False
  | n15 + 1, v5, v6, σ => ((v6 = 0 → w_M_nextAttribute σ v5 (mp_size σ) (fun r27 σ27 => ((r27 = 0 → (narrow .boolean (.int v6) = .int v6 ∧ post v6 σ27)) ∧ (¬ r27 = 0 → (((mp_nameMany σ27) = v4 → w_M_says σ27 (mp_nameAt σ27) v2 v4 (fun r50 => ((r50 = 0 → w_M_hasAttribute_J60 v2 v4 (w_M_hasAttribute_L15 v2 v4 post n15) post σ27) ∧ (¬ r50 = 0 → w_M_hasAttribute_J61 v2 v4 (w_M_hasAttribute_L15 v2 v4 post n15) post 1 σ27)))) ∧ (¬ (mp_nameMany σ27) = v4 → w_M_hasAttribute_J60 v2 v4 (w_M_hasAttribute_L15 v2 v4 post n15) post σ27)))))) ∧ (¬ v6 = 0 → (narrow .boolean (.int v6) = .int v6 ∧ post v6 σ)))
def w_M_hasAttribute  (σ : MPS) (x0 : Int32) (x1 : Int64) (x2 : Int32) (post : Int32 → MPS → Prop) : Prop := (vp_in x0 1000 ∧ w_M_behindName σ ((mp_begins σ) x0.toNatClampNeg) (fun r7 => (∃ n15, w_M_hasAttribute_L15 x1 x2 post n15 r7 0 σ)))
set_option maxHeartbeats 4000000 in
set_option maxRecDepth 100000 in
theorem c_M_hasAttribute (l : Launch) (md : MD) (sz : Nat) (σ : MPS) (x0 : Int32) (x1 : Int64) (x2 : Int32)  (post : Int32 → MPS → Prop) (hE : w_M_hasAttribute σ x0 x1 x2 post) : Met l y_M_hasAttribute ws_M_hasAttribute { frames := 3, cells := 0, slots := 0, locals := 64 } (va_Pc [.ref (mA md 0), .int x0, .long x1, .int x2] (gM md σ sz)) (va_Qi post (eM md (va_A (MW md σ) sz)) (va_A (MW md σ) sz)) 0 0 (va_A (MW md σ) sz) := by
  refine Met.ofW (cc := b_M_hasAttribute) (maxL := 7) (ret := (some .boolean)) (by decide) rfl ?_
  intro p e s m args below meth c s₁ B hml hv
  obtain ⟨rfl, hsz, hP, hK, hD0⟩ := hv
  have hx := B.exec
  have hb := B.bytes
  have hr := B.returns
  have hta : ∀ w ∈ aW, w.before _ s = true := fun w h => atoms_spec (ws := ws_M_hasAttribute) B.pre w (List.mem_cons_of_mem _ h)
  have hown : s.vm.findClass R_M = some m.cls := findClass_of_methodNamed B.named
  have hlocks := B.notSynchronized
  subst hsz
  have hD := hD0.self (sz := s.heap.size)
  generalize hAe : va_A (MW md σ) s.heap.size = A at hD ⊢
  have hA : ∀ q : Nat, s.heap.size ≤ q → A q := fun q h => by rw [← hAe]; exact Or.inr h
  have hS : va_S A s.heap s.heap [] := va_S.rf
  have hP : va_P (mG md) classes (MW md σ) s.heap := hP
  have hl := lv_entry ([.ref (mA md 0), .int x0, .long x1, .int x2]) (n := 7) (Nat.le_of_ble_eq_true rfl)
  rw [lg_entry_eq]
  generalize (lg_sl ([.ref (mA md 0), .int x0, .long x1, .int x2]) ++ List.replicate (7 - (lg_sl ([.ref (mA md 0), .int x0, .long x1, .int x2])).length) Slot.unset).toArray = ls at hl ⊢
  have hl : lv_has ls 7 [(0, .ref (mA md 0)), (1, .int x0), (2, .long x1), (4, .int x2)] := hl
  have L15 : ∀ (v2 : Int64) (v4 : Int32) (n15 : Nat) (v5 : Int32) (v6 : Int32) (σ : MPS) (H : Heap) (locs : List Loc) (hP : va_P (mG md) classes (MW md σ) H) (hD : va_D A (MW md σ)) (hS : va_S A s.heap H locs) (ls : Array Slot) (hl : lv_has ls 7 [(0, .ref (mA md 0)), (2, .long v2), (4, .int v4), (5, .int v5), (6, .int v6)]) (hE : w_M_hasAttribute_L15 v2 v4 post n15 v5 v6 σ), W p l e (headSpec ws_M_hasAttribute { frames := 3, cells := 0, slots := 0, locals := 64 }).room s m ([.ref (mA md 0), .int x0, .long x1, .int x2] : List Value).toArray below meth c H locs 0 0 (MQ below (va_Qi post (eM md A) A) ([.ref (mA md 0), .int x0, .long x1, .int x2] : List Value).toArray s 0 0 A) (F0 m 15 ls []) := by
    intro v2 v4 n15
    induction n15 with
    | zero => intro v5 v6 σ H locs hP hD hS ls hl hE; exact hE.elim
    | succ n15 ih15 =>
      have J61 : ∀ (t0 : Int32) (σ : MPS) (H : Heap) (locs : List Loc) (hP : va_P (mG md) classes (MW md σ) H) (hD : va_D A (MW md σ)) (hS : va_S A s.heap H locs) (ls : Array Slot) (hl : lv_has ls 7 [(0, .ref (mA md 0)), (2, .long v2), (4, .int v4)]) (hE : w_M_hasAttribute_J61 v2 v4 (w_M_hasAttribute_L15 v2 v4 post n15) post t0 σ), W p l e (headSpec ws_M_hasAttribute { frames := 3, cells := 0, slots := 0, locals := 64 }).room s m ([.ref (mA md 0), .int x0, .long x1, .int x2] : List Value).toArray below meth c H locs 0 0 (MQ below (va_Qi post (eM md A) A) ([.ref (mA md 0), .int x0, .long x1, .int x2] : List Value).toArray s 0 0 A) (F0 m 61 ls [.int t0]) := by
        intro  t0 σ H locs hP hD hS ls hl hE
        unfold w_M_hasAttribute_J61 at hE
        refine lv_istore (lv' := [(6, .int t0), (0, .ref (mA md 0)), (2, .long v2), (4, .int v4)]) hx hb d_M_hasAttribute_61 hl (by decide) rfl (fun ls hl => ?_)
        refine lv_aload_n hx hb d_M_hasAttribute_63 rfl (lv_at hl 1 rfl) ?_
        refine va_get (D := (mG md)) (ci := 7) (v := .int (mp_valueEnd σ)) (C := R_M) (T := F_M) (N := 37) hx hb hta i_M hown hK hP 0 rfl rfl 22 (by decide) (hta _ fl_M_151) (fun _ h9 => h9) rfl d_M_hasAttribute_64 ?_
        refine lv_iconst (v := 1) hx hb d_M_hasAttribute_67 (by decide) ?_
        refine lv_iadd hx hb d_M_hasAttribute_68 ?_
        refine lv_istore (lv' := [(5, .int ((mp_valueEnd σ) + 1)), (6, .int t0), (0, .ref (mA md 0)), (2, .long v2), (4, .int v4)]) hx hb d_M_hasAttribute_69 hl (by decide) rfl (fun ls hl => ?_)
        refine lv_goto (tgt := 15) hx hb d_M_hasAttribute_71 (by decide) ?_
        exact ih15 ((mp_valueEnd σ) + 1) t0 σ _ _ hP hD hS _ (lv_sub hl [2, 3, 4, 0, 1] rfl) hE
      have J60 : ∀ (σ : MPS) (H : Heap) (locs : List Loc) (hP : va_P (mG md) classes (MW md σ) H) (hD : va_D A (MW md σ)) (hS : va_S A s.heap H locs) (ls : Array Slot) (hl : lv_has ls 7 [(0, .ref (mA md 0)), (2, .long v2), (4, .int v4)]) (hE : w_M_hasAttribute_J60 v2 v4 (w_M_hasAttribute_L15 v2 v4 post n15) post σ), W p l e (headSpec ws_M_hasAttribute { frames := 3, cells := 0, slots := 0, locals := 64 }).room s m ([.ref (mA md 0), .int x0, .long x1, .int x2] : List Value).toArray below meth c H locs 0 0 (MQ below (va_Qi post (eM md A) A) ([.ref (mA md 0), .int x0, .long x1, .int x2] : List Value).toArray s 0 0 A) (F0 m 60 ls []) := by
        intro  σ H locs hP hD hS ls hl hE
        unfold w_M_hasAttribute_J60 at hE
        refine lv_iconst (v := 0) hx hb d_M_hasAttribute_60 (by decide) ?_
        exact J61  0 σ _ _ hP hD hS _ (lv_sub hl [0, 1, 2] rfl) hE
      intro v5 v6 σ H locs hP hD hS ls hl hE
      unfold w_M_hasAttribute_L15 at hE
      refine lv_iload hx hb d_M_hasAttribute_15 (lv_at hl 4 rfl) ?_
      refine lv_if_ne (tgt := 74) hx hb d_M_hasAttribute_17 (by decide) (fun cc17 => ?_) (fun cc17 => ?_)
      · have hE := hE.2 cc17
        refine lv_iload hx hb d_M_hasAttribute_74 (lv_at hl 4 rfl) ?_
        obtain ⟨hN, hE⟩ := hE
        exact W.zret (v := v6) hx hb hr hN (fun t ht hW => ⟨⟨_, σ, rfl, hE, by rw [ht]; exact hP, va_K.moved hW.alike hK, hD⟩, hS.F ht⟩) hS.2.2 d_M_hasAttribute_76
      · have hE := hE.1 cc17
        refine lv_aload_n hx hb d_M_hasAttribute_20 rfl (lv_at hl 0 rfl) ?_
        refine lv_iload hx hb d_M_hasAttribute_21 (lv_at hl 3 rfl) ?_
        refine lv_aload_n hx hb d_M_hasAttribute_23 rfl (lv_at hl 0 rfl) ?_
        refine va_get (D := (mG md)) (ci := 7) (v := .int (mp_size σ)) (C := R_M) (T := F_M) (N := 37) hx hb hta i_M hown hK hP 0 rfl rfl 7 (by decide) (hta _ fl_M_92) (fun _ h9 => h9) rfl d_M_hasAttribute_24 ?_
        refine mm_i (b0 := (mA md 0)) (As := [.int v5, .int (mp_size σ)]) (rest := []) ⟨hx, hb, hml, hown, hta⟩ (c_M_nextAttribute l md _ σ v5 (mp_size σ) _ hE) ok_M_157 ⟨Nat.le_of_ble_eq_true rfl, Nat.le_of_ble_eq_true rfl⟩ (va_recv hK hP (ci := 7) (q0 := 0) rfl rfl) hP hK hD hS hA rfl hl.1 rfl (Nat.le_of_ble_eq_true rfl) d_M_hasAttribute_27 ⟨Nat.zero_le _, Nat.zero_le _⟩ (fun r27 σ27 H locs hE hP hD hS => ?_)
        refine lv_if_eq (tgt := 74) hx hb d_M_hasAttribute_30 (by decide) (fun cc30 => ?_) (fun cc30 => ?_)
        · have hE := hE.1 cc30
          refine lv_iload hx hb d_M_hasAttribute_74 (lv_at hl 4 rfl) ?_
          obtain ⟨hN, hE⟩ := hE
          exact W.zret (v := v6) hx hb hr hN (fun t ht hW => ⟨⟨_, σ27, rfl, hE, by rw [ht]; exact hP, va_K.moved hW.alike hK, hD⟩, hS.F ht⟩) hS.2.2 d_M_hasAttribute_76
        · have hE := hE.2 cc30
          refine lv_aload_n hx hb d_M_hasAttribute_33 rfl (lv_at hl 0 rfl) ?_
          refine va_get (D := (mG md)) (ci := 7) (v := .int (mp_nameMany σ27)) (C := R_M) (T := F_M) (N := 37) hx hb hta i_M hown hK hP 0 rfl rfl 20 (by decide) (hta _ fl_M_145) (fun _ h9 => h9) rfl d_M_hasAttribute_34 ?_
          refine lv_iload hx hb d_M_hasAttribute_37 (lv_at hl 2 rfl) ?_
          refine lv_icmp_ne (tgt := 60) hx hb d_M_hasAttribute_39 (by decide) (fun cc39 => ?_) (fun cc39 => ?_)
          · have hE := hE.2 cc39
            exact J60  σ27 _ _ hP hD hS _ (lv_sub hl [0, 1, 2] rfl) hE
          · have hE := hE.1 cc39
            refine lv_aload_n hx hb d_M_hasAttribute_42 rfl (lv_at hl 0 rfl) ?_
            refine lv_aload_n hx hb d_M_hasAttribute_43 rfl (lv_at hl 0 rfl) ?_
            refine va_get (D := (mG md)) (ci := 7) (v := .int (mp_nameAt σ27)) (C := R_M) (T := F_M) (N := 37) hx hb hta i_M hown hK hP 0 rfl rfl 19 (by decide) (hta _ fl_M_142) (fun _ h9 => h9) rfl d_M_hasAttribute_44 ?_
            refine lv_lload_n hx hb d_M_hasAttribute_47 rfl (lv_at hl 1 rfl) ?_
            refine lv_iload hx hb d_M_hasAttribute_48 (lv_at hl 2 rfl) ?_
            refine ro_V (b0 := (mA md 0)) (As := [.int (mp_nameAt σ27), .long v2, .int v4]) (rest := []) ⟨hx, hb, hml, hown, hta⟩ (c_M_says l md σ27 (mp_nameAt σ27) v2 v4  _ hE) ok_M_124 ⟨Nat.le_of_ble_eq_true rfl, Nat.le_of_ble_eq_true rfl⟩ blind_rM (va_recv hK hP (ci := 7) (q0 := 0) rfl rfl) (rM_of hP hK) rfl hl.1 rfl (Nat.le_of_ble_eq_true rfl) d_M_hasAttribute_50 ⟨Nat.zero_le _, Nat.zero_le _⟩ (fun r50 hE => ?_)
            refine lv_if_eq (tgt := 60) hx hb d_M_hasAttribute_53 (by decide) (fun cc53 => ?_) (fun cc53 => ?_)
            · have hE := hE.1 cc53
              exact J60  σ27 _ _ hP hD hS _ (lv_sub hl [0, 1, 2] rfl) hE
            · have hE := hE.2 cc53
              refine lv_iconst (v := 1) hx hb d_M_hasAttribute_56 (by decide) ?_
              refine lv_goto (tgt := 61) hx hb d_M_hasAttribute_57 (by decide) ?_
              exact J61  1 σ27 _ _ hP hD hS _ (lv_sub hl [0, 1, 2] rfl) hE
  unfold w_M_hasAttribute at hE
  refine lv_aload_n hx hb d_M_hasAttribute_0 rfl (lv_at hl 0 rfl) ?_
  refine lv_aload_n hx hb d_M_hasAttribute_1 rfl (lv_at hl 0 rfl) ?_
  refine va_get (D := (mG md)) (ci := 7) (v := .ref (mA md 9)) (C := R_M) (T := F_M) (N := 37) hx hb hta i_M hown hK hP 0 rfl rfl 24 (by decide) (hta _ fl_M_40) (fun _ h9 => h9) rfl d_M_hasAttribute_2 ?_
  refine lv_iload_n hx hb d_M_hasAttribute_5 rfl (lv_at hl 1 rfl) ?_
  obtain ⟨hI6, hE⟩ := hE
  refine va_iald (D := (mG md)) (f := mp_begins σ) hx hb hK hP 9 0 rfl rfl hI6 d_M_hasAttribute_6 ?_
  refine ro_V (b0 := (mA md 0)) (As := [.int ((mp_begins σ) x0.toNatClampNeg)]) (rest := []) ⟨hx, hb, hml, hown, hta⟩ (c_M_behindName l md σ ((mp_begins σ) x0.toNatClampNeg)  _ hE) ok_M_154 ⟨Nat.le_of_ble_eq_true rfl, Nat.le_of_ble_eq_true rfl⟩ blind_rM (va_recv hK hP (ci := 7) (q0 := 0) rfl rfl) (rM_of hP hK) rfl hl.1 rfl (Nat.le_of_ble_eq_true rfl) d_M_hasAttribute_7 ⟨Nat.zero_le _, Nat.zero_le _⟩ (fun r7 hE => ?_)
  refine lv_istore (lv' := [(5, .int r7), (0, .ref (mA md 0)), (1, .int x0), (2, .long x1), (4, .int x2)]) hx hb d_M_hasAttribute_10 hl (by decide) rfl (fun ls hl => ?_)
  refine lv_iconst (v := 0) hx hb d_M_hasAttribute_12 (by decide) ?_
  refine lv_istore (lv' := [(6, .int 0), (5, .int r7), (0, .ref (mA md 0)), (1, .int x0), (2, .long x1), (4, .int x2)]) hx hb d_M_hasAttribute_13 hl (by decide) rfl (fun ls hl => ?_)
  obtain ⟨n15, hE⟩ := hE
  exact L15 x1 x2 n15 r7 0 σ _ _ hP hD hS _ (lv_sub hl [2, 4, 5, 1, 0] rfl) hE

theorem d_M_attributes_0 : decode b_M_attributes 0 = .ok (.aload_n 0, 1) := by decide +kernel
theorem d_M_attributes_1 : decode b_M_attributes 1 = .ok (.aload_n 0, 1) := by decide +kernel
theorem d_M_attributes_2 : decode b_M_attributes 2 = .ok (.getfield 40, 3) := by decide +kernel
theorem d_M_attributes_5 : decode b_M_attributes 5 = .ok (.iload_n 1, 1) := by decide +kernel
theorem d_M_attributes_6 : decode b_M_attributes 6 = .ok (.iaload, 1) := by decide +kernel
theorem d_M_attributes_7 : decode b_M_attributes 7 = .ok (.invokevirtual 154, 3) := by decide +kernel
theorem d_M_attributes_10 : decode b_M_attributes 10 = .ok (.istore_n 2, 1) := by decide +kernel
theorem d_M_attributes_11 : decode b_M_attributes 11 = .ok (.iconst 0, 1) := by decide +kernel
theorem d_M_attributes_12 : decode b_M_attributes 12 = .ok (.istore_n 3, 1) := by decide +kernel
theorem d_M_attributes_13 : decode b_M_attributes 13 = .ok (.aload_n 0, 1) := by decide +kernel
theorem d_M_attributes_14 : decode b_M_attributes 14 = .ok (.iload_n 2, 1) := by decide +kernel
theorem d_M_attributes_15 : decode b_M_attributes 15 = .ok (.aload_n 0, 1) := by decide +kernel
theorem d_M_attributes_16 : decode b_M_attributes 16 = .ok (.getfield 92, 3) := by decide +kernel
theorem d_M_attributes_19 : decode b_M_attributes 19 = .ok (.invokevirtual 157, 3) := by decide +kernel
theorem d_M_attributes_22 : decode b_M_attributes 22 = .ok (.ifCond .eq 16, 3) := by decide +kernel
theorem d_M_attributes_25 : decode b_M_attributes 25 = .ok (.iinc 3 1, 3) := by decide +kernel
theorem d_M_attributes_28 : decode b_M_attributes 28 = .ok (.aload_n 0, 1) := by decide +kernel
theorem d_M_attributes_29 : decode b_M_attributes 29 = .ok (.getfield 151, 3) := by decide +kernel
theorem d_M_attributes_32 : decode b_M_attributes 32 = .ok (.iconst 1, 1) := by decide +kernel
theorem d_M_attributes_33 : decode b_M_attributes 33 = .ok (.iadd, 1) := by decide +kernel
theorem d_M_attributes_34 : decode b_M_attributes 34 = .ok (.istore_n 2, 1) := by decide +kernel
theorem d_M_attributes_35 : decode b_M_attributes 35 = .ok (.goto (-22), 3) := by decide +kernel
theorem d_M_attributes_38 : decode b_M_attributes 38 = .ok (.iload_n 3, 1) := by decide +kernel
theorem d_M_attributes_39 : decode b_M_attributes 39 = .ok (.ireturn, 1) := by decide +kernel
def w_M_attributes_L13   (post : Int32 → MPS → Prop) : Nat → Int32 → Int32 → MPS → Prop
  | 0, _, _, _ => False
  | n13 + 1, v2, v3, σ => w_M_nextAttribute σ v2 (mp_size σ) (fun r19 σ19 => ((r19 = 0 → post v3 σ19) ∧ (¬ r19 = 0 → w_M_attributes_L13 post n13 ((mp_valueEnd σ19) + 1) (v3 + 1) σ19)))
def w_M_attributes  (σ : MPS) (x0 : Int32) (post : Int32 → MPS → Prop) : Prop := (vp_in x0 1000 ∧ w_M_behindName σ ((mp_begins σ) x0.toNatClampNeg) (fun r7 => (∃ n13, w_M_attributes_L13 post n13 r7 0 σ)))
set_option maxHeartbeats 4000000 in
set_option maxRecDepth 100000 in
theorem c_M_attributes (l : Launch) (md : MD) (sz : Nat) (σ : MPS) (x0 : Int32)  (post : Int32 → MPS → Prop) (hE : w_M_attributes σ x0 post) : Met l y_M_attributes ws_M_attributes { frames := 3, cells := 0, slots := 0, locals := 64 } (va_Pc [.ref (mA md 0), .int x0] (gM md σ sz)) (va_Qi post (eM md (va_A (MW md σ) sz)) (va_A (MW md σ) sz)) 0 0 (va_A (MW md σ) sz) := by
  refine Met.ofW (cc := b_M_attributes) (maxL := 4) (ret := (some .int)) (by decide) rfl ?_
  intro p e s m args below meth c s₁ B hml hv
  obtain ⟨rfl, hsz, hP, hK, hD0⟩ := hv
  have hx := B.exec
  have hb := B.bytes
  have hr := B.returns
  have hta : ∀ w ∈ aW, w.before _ s = true := fun w h => atoms_spec (ws := ws_M_attributes) B.pre w (List.mem_cons_of_mem _ h)
  have hown : s.vm.findClass R_M = some m.cls := findClass_of_methodNamed B.named
  have hlocks := B.notSynchronized
  subst hsz
  have hD := hD0.self (sz := s.heap.size)
  generalize hAe : va_A (MW md σ) s.heap.size = A at hD ⊢
  have hA : ∀ q : Nat, s.heap.size ≤ q → A q := fun q h => by rw [← hAe]; exact Or.inr h
  have hS : va_S A s.heap s.heap [] := va_S.rf
  have hP : va_P (mG md) classes (MW md σ) s.heap := hP
  have hl := lv_entry ([.ref (mA md 0), .int x0]) (n := 4) (Nat.le_of_ble_eq_true rfl)
  rw [lg_entry_eq]
  generalize (lg_sl ([.ref (mA md 0), .int x0]) ++ List.replicate (4 - (lg_sl ([.ref (mA md 0), .int x0])).length) Slot.unset).toArray = ls at hl ⊢
  have hl : lv_has ls 4 [(0, .ref (mA md 0)), (1, .int x0)] := hl
  have L13 : ∀ (n13 : Nat) (v2 : Int32) (v3 : Int32) (σ : MPS) (H : Heap) (locs : List Loc) (hP : va_P (mG md) classes (MW md σ) H) (hD : va_D A (MW md σ)) (hS : va_S A s.heap H locs) (ls : Array Slot) (hl : lv_has ls 4 [(0, .ref (mA md 0)), (2, .int v2), (3, .int v3)]) (hE : w_M_attributes_L13 post n13 v2 v3 σ), W p l e (headSpec ws_M_attributes { frames := 3, cells := 0, slots := 0, locals := 64 }).room s m ([.ref (mA md 0), .int x0] : List Value).toArray below meth c H locs 0 0 (MQ below (va_Qi post (eM md A) A) ([.ref (mA md 0), .int x0] : List Value).toArray s 0 0 A) (F0 m 13 ls []) := by
    intro n13
    induction n13 with
    | zero => intro v2 v3 σ H locs hP hD hS ls hl hE; exact hE.elim
    | succ n13 ih13 =>
      intro v2 v3 σ H locs hP hD hS ls hl hE
      unfold w_M_attributes_L13 at hE
      refine lv_aload_n hx hb d_M_attributes_13 rfl (lv_at hl 0 rfl) ?_
      refine lv_iload_n hx hb d_M_attributes_14 rfl (lv_at hl 1 rfl) ?_
      refine lv_aload_n hx hb d_M_attributes_15 rfl (lv_at hl 0 rfl) ?_
      refine va_get (D := (mG md)) (ci := 7) (v := .int (mp_size σ)) (C := R_M) (T := F_M) (N := 37) hx hb hta i_M hown hK hP 0 rfl rfl 7 (by decide) (hta _ fl_M_92) (fun _ h9 => h9) rfl d_M_attributes_16 ?_
      refine mm_i (b0 := (mA md 0)) (As := [.int v2, .int (mp_size σ)]) (rest := []) ⟨hx, hb, hml, hown, hta⟩ (c_M_nextAttribute l md _ σ v2 (mp_size σ) _ hE) ok_M_157 ⟨Nat.le_of_ble_eq_true rfl, Nat.le_of_ble_eq_true rfl⟩ (va_recv hK hP (ci := 7) (q0 := 0) rfl rfl) hP hK hD hS hA rfl hl.1 rfl (Nat.le_of_ble_eq_true rfl) d_M_attributes_19 ⟨Nat.zero_le _, Nat.zero_le _⟩ (fun r19 σ19 H locs hE hP hD hS => ?_)
      refine lv_if_eq (tgt := 38) hx hb d_M_attributes_22 (by decide) (fun cc22 => ?_) (fun cc22 => ?_)
      · have hE := hE.1 cc22
        refine lv_iload_n hx hb d_M_attributes_38 rfl (lv_at hl 2 rfl) ?_
        exact W.iret (v := v3) hx hb hr (fun t ht hW => ⟨⟨_, σ19, rfl, hE, by rw [ht]; exact hP, va_K.moved hW.alike hK, hD⟩, hS.F ht⟩) hS.2.2 d_M_attributes_39
      · have hE := hE.2 cc22
        refine lv_iinc (v := v3 + 1) (lv' := [(3, .int (v3 + 1)), (0, .ref (mA md 0)), (2, .int v2)]) hx hb d_M_attributes_25 hl (k := 2) rfl rfl (by decide) rfl (fun ls hl => ?_)
        refine lv_aload_n hx hb d_M_attributes_28 rfl (lv_at hl 1 rfl) ?_
        refine va_get (D := (mG md)) (ci := 7) (v := .int (mp_valueEnd σ19)) (C := R_M) (T := F_M) (N := 37) hx hb hta i_M hown hK hP 0 rfl rfl 22 (by decide) (hta _ fl_M_151) (fun _ h9 => h9) rfl d_M_attributes_29 ?_
        refine lv_iconst (v := 1) hx hb d_M_attributes_32 (by decide) ?_
        refine lv_iadd hx hb d_M_attributes_33 ?_
        refine lv_istore_n (lv' := [(2, .int ((mp_valueEnd σ19) + 1)), (3, .int (v3 + 1)), (0, .ref (mA md 0))]) hx hb d_M_attributes_34 rfl hl (by decide) rfl (fun ls hl => ?_)
        refine lv_goto (tgt := 13) hx hb d_M_attributes_35 (by decide) ?_
        exact ih13 ((mp_valueEnd σ19) + 1) (v3 + 1) σ19 _ _ hP hD hS _ (lv_sub hl [2, 0, 1] rfl) hE
  unfold w_M_attributes at hE
  refine lv_aload_n hx hb d_M_attributes_0 rfl (lv_at hl 0 rfl) ?_
  refine lv_aload_n hx hb d_M_attributes_1 rfl (lv_at hl 0 rfl) ?_
  refine va_get (D := (mG md)) (ci := 7) (v := .ref (mA md 9)) (C := R_M) (T := F_M) (N := 37) hx hb hta i_M hown hK hP 0 rfl rfl 24 (by decide) (hta _ fl_M_40) (fun _ h9 => h9) rfl d_M_attributes_2 ?_
  refine lv_iload_n hx hb d_M_attributes_5 rfl (lv_at hl 1 rfl) ?_
  obtain ⟨hI6, hE⟩ := hE
  refine va_iald (D := (mG md)) (f := mp_begins σ) hx hb hK hP 9 0 rfl rfl hI6 d_M_attributes_6 ?_
  refine ro_V (b0 := (mA md 0)) (As := [.int ((mp_begins σ) x0.toNatClampNeg)]) (rest := []) ⟨hx, hb, hml, hown, hta⟩ (c_M_behindName l md σ ((mp_begins σ) x0.toNatClampNeg)  _ hE) ok_M_154 ⟨Nat.le_of_ble_eq_true rfl, Nat.le_of_ble_eq_true rfl⟩ blind_rM (va_recv hK hP (ci := 7) (q0 := 0) rfl rfl) (rM_of hP hK) rfl hl.1 rfl (Nat.le_of_ble_eq_true rfl) d_M_attributes_7 ⟨Nat.zero_le _, Nat.zero_le _⟩ (fun r7 hE => ?_)
  refine lv_istore_n (lv' := [(2, .int r7), (0, .ref (mA md 0)), (1, .int x0)]) hx hb d_M_attributes_10 rfl hl (by decide) rfl (fun ls hl => ?_)
  refine lv_iconst (v := 0) hx hb d_M_attributes_11 (by decide) ?_
  refine lv_istore_n (lv' := [(3, .int 0), (2, .int r7), (0, .ref (mA md 0)), (1, .int x0)]) hx hb d_M_attributes_12 rfl hl (by decide) rfl (fun ls hl => ?_)
  obtain ⟨n13, hE⟩ := hE
  exact L13  n13 r7 0 σ _ _ hP hD hS _ (lv_sub hl [2, 1, 0] rfl) hE
theorem fl_M_269 : Cond.fieldLink "PlainPagesModel" 269 "PlainPagesModel" "valueMany" "I" ∈ aW := aW_in 939 (by decide +kernel) rfl
theorem fl_M_64 : Cond.fieldLink "PlainPagesModel" 64 "PlainPagesModel" "value" "[I" ∈ aW := aW_in 937 (by decide +kernel) rfl
theorem d_M_takeValue_0 : decode b_M_takeValue 0 = .ok (.aload_n 0, 1) := by decide +kernel
theorem d_M_takeValue_1 : decode b_M_takeValue 1 = .ok (.iconst 0, 1) := by decide +kernel
theorem d_M_takeValue_2 : decode b_M_takeValue 2 = .ok (.putfield 269, 3) := by decide +kernel
theorem d_M_takeValue_5 : decode b_M_takeValue 5 = .ok (.aload_n 0, 1) := by decide +kernel
theorem d_M_takeValue_6 : decode b_M_takeValue 6 = .ok (.getfield 148, 3) := by decide +kernel
theorem d_M_takeValue_9 : decode b_M_takeValue 9 = .ok (.istore_n 1, 1) := by decide +kernel
theorem d_M_takeValue_10 : decode b_M_takeValue 10 = .ok (.iload_n 1, 1) := by decide +kernel
theorem d_M_takeValue_11 : decode b_M_takeValue 11 = .ok (.aload_n 0, 1) := by decide +kernel
theorem d_M_takeValue_12 : decode b_M_takeValue 12 = .ok (.getfield 151, 3) := by decide +kernel
theorem d_M_takeValue_15 : decode b_M_takeValue 15 = .ok (.if_icmp .ge 37, 3) := by decide +kernel
theorem d_M_takeValue_18 : decode b_M_takeValue 18 = .ok (.aload_n 0, 1) := by decide +kernel
theorem d_M_takeValue_19 : decode b_M_takeValue 19 = .ok (.getfield 64, 3) := by decide +kernel
theorem d_M_takeValue_22 : decode b_M_takeValue 22 = .ok (.aload_n 0, 1) := by decide +kernel
theorem d_M_takeValue_23 : decode b_M_takeValue 23 = .ok (.getfield 269, 3) := by decide +kernel
theorem d_M_takeValue_26 : decode b_M_takeValue 26 = .ok (.aload_n 0, 1) := by decide +kernel
theorem d_M_takeValue_27 : decode b_M_takeValue 27 = .ok (.iload_n 1, 1) := by decide +kernel
theorem d_M_takeValue_28 : decode b_M_takeValue 28 = .ok (.invokevirtual 139, 3) := by decide +kernel
theorem d_M_takeValue_31 : decode b_M_takeValue 31 = .ok (.iastore, 1) := by decide +kernel
theorem d_M_takeValue_32 : decode b_M_takeValue 32 = .ok (.aload_n 0, 1) := by decide +kernel
theorem d_M_takeValue_33 : decode b_M_takeValue 33 = .ok (.dup, 1) := by decide +kernel
theorem d_M_takeValue_34 : decode b_M_takeValue 34 = .ok (.getfield 269, 3) := by decide +kernel
theorem d_M_takeValue_37 : decode b_M_takeValue 37 = .ok (.iconst 1, 1) := by decide +kernel
theorem d_M_takeValue_38 : decode b_M_takeValue 38 = .ok (.iadd, 1) := by decide +kernel
theorem d_M_takeValue_39 : decode b_M_takeValue 39 = .ok (.putfield 269, 3) := by decide +kernel
theorem d_M_takeValue_42 : decode b_M_takeValue 42 = .ok (.iload_n 1, 1) := by decide +kernel
theorem d_M_takeValue_43 : decode b_M_takeValue 43 = .ok (.aload_n 0, 1) := by decide +kernel
theorem d_M_takeValue_44 : decode b_M_takeValue 44 = .ok (.getfield 76, 3) := by decide +kernel
theorem d_M_takeValue_47 : decode b_M_takeValue 47 = .ok (.iadd, 1) := by decide +kernel
theorem d_M_takeValue_48 : decode b_M_takeValue 48 = .ok (.istore_n 1, 1) := by decide +kernel
theorem d_M_takeValue_49 : decode b_M_takeValue 49 = .ok (.goto (-39), 3) := by decide +kernel
theorem d_M_takeValue_52 : decode b_M_takeValue 52 = .ok (.return_, 1) := by decide +kernel
def w_M_takeValue_L10   (post : MPS → Prop) : Nat → Int32 → MPS → Prop
  | 0, _, _ => False
  | n10 + 1, v1, σ => (((mp_valueEnd σ) ≤ v1 → post σ) ∧ (¬ (mp_valueEnd σ) ≤ v1 → w_M_characterOf σ v1 (fun r28 σ28 => (vp_in (mp_valueMany σ) 4000 ∧ (∀ σ31 : MPS, σ31 = ms_value σ28 (upd (mp_value σ28) (mp_valueMany σ).toNatClampNeg r28) → (∀ σ39 : MPS, σ39 = ms_valueMany σ31 ((mp_valueMany σ31) + 1) → w_M_takeValue_L10 post n10 (v1 + (mp_width σ39)) σ39))))))
def w_M_takeValue  (σ : MPS)  (post : MPS → Prop) : Prop := (∀ σ2 : MPS, σ2 = ms_valueMany σ 0 → (∃ n10, w_M_takeValue_L10 post n10 (mp_valueAt σ2) σ2))
set_option maxHeartbeats 4000000 in
set_option maxRecDepth 100000 in
theorem c_M_takeValue (l : Launch) (md : MD) (sz : Nat) (σ : MPS)   (post : MPS → Prop) (hE : w_M_takeValue σ post) : Met l y_M_takeValue ws_M_takeValue { frames := 3, cells := 0, slots := 0, locals := 73 } (va_Pc [.ref (mA md 0)] (gM md σ sz)) (va_Qv post (eM md (va_A (MW md σ) sz)) (va_A (MW md σ) sz)) 0 0 (va_A (MW md σ) sz) := by
  refine Met.ofW (cc := b_M_takeValue) (maxL := 2) (ret := none) (by decide) rfl ?_
  intro p e s m args below meth c s₁ B hml hv
  obtain ⟨rfl, hsz, hP, hK, hD0⟩ := hv
  have hx := B.exec
  have hb := B.bytes
  have hr := B.returns
  have hta : ∀ w ∈ aW, w.before _ s = true := fun w h => atoms_spec (ws := ws_M_takeValue) B.pre w (List.mem_cons_of_mem _ h)
  have hown : s.vm.findClass R_M = some m.cls := findClass_of_methodNamed B.named
  have hlocks := B.notSynchronized
  subst hsz
  have hD := hD0.self (sz := s.heap.size)
  generalize hAe : va_A (MW md σ) s.heap.size = A at hD ⊢
  have hA : ∀ q : Nat, s.heap.size ≤ q → A q := fun q h => by rw [← hAe]; exact Or.inr h
  have hS : va_S A s.heap s.heap [] := va_S.rf
  have hP : va_P (mG md) classes (MW md σ) s.heap := hP
  have hl := lv_entry ([.ref (mA md 0)]) (n := 2) (Nat.le_of_ble_eq_true rfl)
  rw [lg_entry_eq]
  generalize (lg_sl ([.ref (mA md 0)]) ++ List.replicate (2 - (lg_sl ([.ref (mA md 0)])).length) Slot.unset).toArray = ls at hl ⊢
  have hl : lv_has ls 2 [(0, .ref (mA md 0))] := hl
  have L10 : ∀ (n10 : Nat) (v1 : Int32) (σ : MPS) (H : Heap) (locs : List Loc) (hP : va_P (mG md) classes (MW md σ) H) (hD : va_D A (MW md σ)) (hS : va_S A s.heap H locs) (ls : Array Slot) (hl : lv_has ls 2 [(0, .ref (mA md 0)), (1, .int v1)]) (hE : w_M_takeValue_L10 post n10 v1 σ), W p l e (headSpec ws_M_takeValue { frames := 3, cells := 0, slots := 0, locals := 73 }).room s m ([.ref (mA md 0)] : List Value).toArray below meth c H locs 0 0 (MQ below (va_Qv post (eM md A) A) ([.ref (mA md 0)] : List Value).toArray s 0 0 A) (F0 m 10 ls []) := by
    intro n10
    induction n10 with
    | zero => intro v1 σ H locs hP hD hS ls hl hE; exact hE.elim
    | succ n10 ih10 =>
      intro v1 σ H locs hP hD hS ls hl hE
      unfold w_M_takeValue_L10 at hE
      refine lv_iload_n hx hb d_M_takeValue_10 rfl (lv_at hl 1 rfl) ?_
      refine lv_aload_n hx hb d_M_takeValue_11 rfl (lv_at hl 0 rfl) ?_
      refine va_get (D := (mG md)) (ci := 7) (v := .int (mp_valueEnd σ)) (C := R_M) (T := F_M) (N := 37) hx hb hta i_M hown hK hP 0 rfl rfl 22 (by decide) (hta _ fl_M_151) (fun _ h9 => h9) rfl d_M_takeValue_12 ?_
      refine lv_icmp_ge (tgt := 52) hx hb d_M_takeValue_15 (by decide) (fun cc15 => ?_) (fun cc15 => ?_)
      · have hE := hE.1 cc15
        exact W.vret hx hb hr (fun t ht hW => ⟨⟨σ, rfl, hE, by rw [ht]; exact hP, va_K.moved hW.alike hK, hD⟩, hS.F ht⟩) hS.2.2 d_M_takeValue_52
      · have hE := hE.2 cc15
        refine lv_aload_n hx hb d_M_takeValue_18 rfl (lv_at hl 0 rfl) ?_
        refine va_get (D := (mG md)) (ci := 7) (v := .ref (mA md 17)) (C := R_M) (T := F_M) (N := 37) hx hb hta i_M hown hK hP 0 rfl rfl 33 (by decide) (hta _ fl_M_64) (fun _ h9 => h9) rfl d_M_takeValue_19 ?_
        refine lv_aload_n hx hb d_M_takeValue_22 rfl (lv_at hl 0 rfl) ?_
        refine va_get (D := (mG md)) (ci := 7) (v := .int (mp_valueMany σ)) (C := R_M) (T := F_M) (N := 37) hx hb hta i_M hown hK hP 0 rfl rfl 35 (by decide) (hta _ fl_M_269) (fun _ h9 => h9) rfl d_M_takeValue_23 ?_
        refine lv_aload_n hx hb d_M_takeValue_26 rfl (lv_at hl 0 rfl) ?_
        refine lv_iload_n hx hb d_M_takeValue_27 rfl (lv_at hl 1 rfl) ?_
        refine mm_i (b0 := (mA md 0)) (As := [.int v1]) (rest := [.int (mp_valueMany σ), .ref (mA md 17)]) ⟨hx, hb, hml, hown, hta⟩ (c_M_characterOf l md _ σ v1 _ hE) ok_M_139 ⟨Nat.le_of_ble_eq_true rfl, Nat.le_of_ble_eq_true rfl⟩ (va_recv hK hP (ci := 7) (q0 := 0) rfl rfl) hP hK hD hS hA rfl hl.1 rfl (Nat.le_of_ble_eq_true rfl) d_M_takeValue_28 ⟨Nat.zero_le _, Nat.zero_le _⟩ (fun r28 σ28 H locs hE hP hD hS => ?_)
        obtain ⟨hI31, hE⟩ := hE
        refine va_iast (D := (mG md)) (f := mp_value σ28) hx hb hK hP hD hS 17 0 rfl rfl hI31 d_M_takeValue_31 (fun H locs hP hD hS => ?_)
        have hP := mwP_value hP
        have hD := mwD_value hD
        have hE := hE _ rfl
        generalize (ms_value σ28 (upd (mp_value σ28) (mp_valueMany σ).toNatClampNeg r28) : MPS) = σ31 at hP hD hE
        refine lv_aload_n hx hb d_M_takeValue_32 rfl (lv_at hl 0 rfl) ?_
        refine lv_dup hx hb d_M_takeValue_33 rfl ?_
        refine va_get (D := (mG md)) (ci := 7) (v := .int (mp_valueMany σ31)) (C := R_M) (T := F_M) (N := 37) hx hb hta i_M hown hK hP 0 rfl rfl 35 (by decide) (hta _ fl_M_269) (fun _ h9 => h9) rfl d_M_takeValue_34 ?_
        refine lv_iconst (v := 1) hx hb d_M_takeValue_37 (by decide) ?_
        refine lv_iadd hx hb d_M_takeValue_38 ?_
        refine va_put (D := (mG md)) (ci := 7) (v := .int ((mp_valueMany σ31) + 1)) (ty := .int) (C := R_M) (T := F_M) (N := 37) hx hb hta i_M t_M t_M_ok n_M hown hK hP hD hS 0 rfl rfl 35 (by decide) (hta _ fl_M_269) (fun _ h9 => h9) rfl (by decide +kernel) rfl rfl (Nat.le_of_ble_eq_true rfl) d_M_takeValue_39 (fun H locs hP hD hS => ?_)
        have hP := mwP_valueMany hP
        have hD := mwD_valueMany hD
        have hE := hE _ rfl
        generalize (ms_valueMany σ31 ((mp_valueMany σ31) + 1) : MPS) = σ39 at hP hD hE
        refine lv_iload_n hx hb d_M_takeValue_42 rfl (lv_at hl 1 rfl) ?_
        refine lv_aload_n hx hb d_M_takeValue_43 rfl (lv_at hl 0 rfl) ?_
        refine va_get (D := (mG md)) (ci := 7) (v := .int (mp_width σ39)) (C := R_M) (T := F_M) (N := 37) hx hb hta i_M hown hK hP 0 rfl rfl 12 (by decide) (hta _ fl_M_76) (fun _ h9 => h9) rfl d_M_takeValue_44 ?_
        refine lv_iadd hx hb d_M_takeValue_47 ?_
        refine lv_istore_n (lv' := [(1, .int (v1 + (mp_width σ39))), (0, .ref (mA md 0))]) hx hb d_M_takeValue_48 rfl hl (by decide) rfl (fun ls hl => ?_)
        refine lv_goto (tgt := 10) hx hb d_M_takeValue_49 (by decide) ?_
        exact ih10 (v1 + (mp_width σ39)) σ39 _ _ hP hD hS _ (lv_sub hl [1, 0] rfl) hE
  unfold w_M_takeValue at hE
  refine lv_aload_n hx hb d_M_takeValue_0 rfl (lv_at hl 0 rfl) ?_
  refine lv_iconst (v := 0) hx hb d_M_takeValue_1 (by decide) ?_
  refine va_put (D := (mG md)) (ci := 7) (v := .int 0) (ty := .int) (C := R_M) (T := F_M) (N := 37) hx hb hta i_M t_M t_M_ok n_M hown hK hP hD hS 0 rfl rfl 35 (by decide) (hta _ fl_M_269) (fun _ h9 => h9) rfl (by decide +kernel) rfl rfl (Nat.le_of_ble_eq_true rfl) d_M_takeValue_2 (fun H locs hP hD hS => ?_)
  have hP := mwP_valueMany hP
  have hD := mwD_valueMany hD
  have hE := hE _ rfl
  generalize (ms_valueMany σ 0 : MPS) = σ2 at hP hD hE
  refine lv_aload_n hx hb d_M_takeValue_5 rfl (lv_at hl 0 rfl) ?_
  refine va_get (D := (mG md)) (ci := 7) (v := .int (mp_valueAt σ2)) (C := R_M) (T := F_M) (N := 37) hx hb hta i_M hown hK hP 0 rfl rfl 21 (by decide) (hta _ fl_M_148) (fun _ h9 => h9) rfl d_M_takeValue_6 ?_
  refine lv_istore_n (lv' := [(1, .int (mp_valueAt σ2)), (0, .ref (mA md 0))]) hx hb d_M_takeValue_9 rfl hl (by decide) rfl (fun ls hl => ?_)
  obtain ⟨n10, hE⟩ := hE
  exact L10  n10 (mp_valueAt σ2) σ2 _ _ hP hD hS _ (lv_sub hl [1, 0] rfl) hE
