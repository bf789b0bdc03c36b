-- printed by wip/gen: the reference

theorem d_M_takeEnding_0 : decode b_M_takeEnding 0 = .ok (.aload_n 0, 1) := by decide +kernel
theorem d_M_takeEnding_1 : decode b_M_takeEnding 1 = .ok (.dup, 1) := by decide +kernel
theorem d_M_takeEnding_2 : decode b_M_takeEnding 2 = .ok (.getfield 101, 3) := by decide +kernel
theorem d_M_takeEnding_5 : decode b_M_takeEnding 5 = .ok (.iconst 2, 1) := by decide +kernel
theorem d_M_takeEnding_6 : decode b_M_takeEnding 6 = .ok (.iadd, 1) := by decide +kernel
theorem d_M_takeEnding_7 : decode b_M_takeEnding 7 = .ok (.putfield 101, 3) := by decide +kernel
theorem d_M_takeEnding_10 : decode b_M_takeEnding 10 = .ok (.aload_n 0, 1) := by decide +kernel
theorem d_M_takeEnding_11 : decode b_M_takeEnding 11 = .ok (.getfield 101, 3) := by decide +kernel
theorem d_M_takeEnding_14 : decode b_M_takeEnding 14 = .ok (.istore_n 1, 1) := by decide +kernel
theorem d_M_takeEnding_15 : decode b_M_takeEnding 15 = .ok (.aload_n 0, 1) := by decide +kernel
theorem d_M_takeEnding_16 : decode b_M_takeEnding 16 = .ok (.invokevirtual 165, 3) := by decide +kernel
theorem d_M_takeEnding_19 : decode b_M_takeEnding 19 = .ok (.istore_n 2, 1) := by decide +kernel
theorem d_M_takeEnding_20 : decode b_M_takeEnding 20 = .ok (.aload_n 0, 1) := by decide +kernel
theorem d_M_takeEnding_21 : decode b_M_takeEnding 21 = .ok (.getfield 111, 3) := by decide +kernel
theorem d_M_takeEnding_24 : decode b_M_takeEnding 24 = .ok (.ifCond .eq 4, 3) := by decide +kernel
theorem d_M_takeEnding_27 : decode b_M_takeEnding 27 = .ok (.return_, 1) := by decide +kernel
theorem d_M_takeEnding_28 : decode b_M_takeEnding 28 = .ok (.iload_n 2, 1) := by decide +kernel
theorem d_M_takeEnding_29 : decode b_M_takeEnding 29 = .ok (.aload_n 0, 1) := by decide +kernel
theorem d_M_takeEnding_30 : decode b_M_takeEnding 30 = .ok (.getfield 33, 3) := by decide +kernel
theorem d_M_takeEnding_33 : decode b_M_takeEnding 33 = .ok (.aload_n 0, 1) := by decide +kernel
theorem d_M_takeEnding_34 : decode b_M_takeEnding 34 = .ok (.getfield 178, 3) := by decide +kernel
theorem d_M_takeEnding_37 : decode b_M_takeEnding 37 = .ok (.iconst 1, 1) := by decide +kernel
theorem d_M_takeEnding_38 : decode b_M_takeEnding 38 = .ok (.isub, 1) := by decide +kernel
theorem d_M_takeEnding_39 : decode b_M_takeEnding 39 = .ok (.iaload, 1) := by decide +kernel
theorem d_M_takeEnding_40 : decode b_M_takeEnding 40 = .ok (.if_icmp .ne 23, 3) := by decide +kernel
theorem d_M_takeEnding_43 : decode b_M_takeEnding 43 = .ok (.aload_n 0, 1) := by decide +kernel
theorem d_M_takeEnding_44 : decode b_M_takeEnding 44 = .ok (.iload_n 1, 1) := by decide +kernel
theorem d_M_takeEnding_45 : decode b_M_takeEnding 45 = .ok (.aload_n 0, 1) := by decide +kernel
theorem d_M_takeEnding_46 : decode b_M_takeEnding 46 = .ok (.getfield 29, 3) := by decide +kernel
theorem d_M_takeEnding_49 : decode b_M_takeEnding 49 = .ok (.aload_n 0, 1) := by decide +kernel
theorem d_M_takeEnding_50 : decode b_M_takeEnding 50 = .ok (.getfield 178, 3) := by decide +kernel
theorem d_M_takeEnding_53 : decode b_M_takeEnding 53 = .ok (.iconst 1, 1) := by decide +kernel
theorem d_M_takeEnding_54 : decode b_M_takeEnding 54 = .ok (.isub, 1) := by decide +kernel
theorem d_M_takeEnding_55 : decode b_M_takeEnding 55 = .ok (.iaload, 1) := by decide +kernel
theorem d_M_takeEnding_56 : decode b_M_takeEnding 56 = .ok (.iload_n 2, 1) := by decide +kernel
theorem d_M_takeEnding_57 : decode b_M_takeEnding 57 = .ok (.invokevirtual 161, 3) := by decide +kernel
theorem d_M_takeEnding_60 : decode b_M_takeEnding 60 = .ok (.ifCond .ne 14, 3) := by decide +kernel
theorem d_M_takeEnding_63 : decode b_M_takeEnding 63 = .ok (.aload_n 0, 1) := by decide +kernel
theorem d_M_takeEnding_64 : decode b_M_takeEnding 64 = .ok (.iload_n 1, 1) := by decide +kernel
theorem d_M_takeEnding_65 : decode b_M_takeEnding 65 = .ok (.putfield 101, 3) := by decide +kernel
theorem d_M_takeEnding_68 : decode b_M_takeEnding 68 = .ok (.aload_n 0, 1) := by decide +kernel
theorem d_M_takeEnding_69 : decode b_M_takeEnding 69 = .ok (.iconst 1, 1) := by decide +kernel
theorem d_M_takeEnding_70 : decode b_M_takeEnding 70 = .ok (.putfield 111, 3) := by decide +kernel
theorem d_M_takeEnding_73 : decode b_M_takeEnding 73 = .ok (.return_, 1) := by decide +kernel
theorem d_M_takeEnding_74 : decode b_M_takeEnding 74 = .ok (.aload_n 0, 1) := by decide +kernel
theorem d_M_takeEnding_75 : decode b_M_takeEnding 75 = .ok (.invokevirtual 188, 3) := by decide +kernel
theorem d_M_takeEnding_78 : decode b_M_takeEnding 78 = .ok (.aload_n 0, 1) := by decide +kernel
theorem d_M_takeEnding_79 : decode b_M_takeEnding 79 = .ok (.aload_n 0, 1) := by decide +kernel
theorem d_M_takeEnding_80 : decode b_M_takeEnding 80 = .ok (.getfield 101, 3) := by decide +kernel
theorem d_M_takeEnding_83 : decode b_M_takeEnding 83 = .ok (.invokevirtual 95, 3) := by decide +kernel
theorem d_M_takeEnding_86 : decode b_M_takeEnding 86 = .ok (.bipush 62, 2) := by decide +kernel
theorem d_M_takeEnding_88 : decode b_M_takeEnding 88 = .ok (.if_icmp .eq 11, 3) := by decide +kernel
theorem d_M_takeEnding_91 : decode b_M_takeEnding 91 = .ok (.aload_n 0, 1) := by decide +kernel
theorem d_M_takeEnding_92 : decode b_M_takeEnding 92 = .ok (.iconst 1, 1) := by decide +kernel
theorem d_M_takeEnding_93 : decode b_M_takeEnding 93 = .ok (.putfield 111, 3) := by decide +kernel
theorem d_M_takeEnding_96 : decode b_M_takeEnding 96 = .ok (.goto 13, 3) := by decide +kernel
theorem d_M_takeEnding_99 : decode b_M_takeEnding 99 = .ok (.aload_n 0, 1) := by decide +kernel
theorem d_M_takeEnding_100 : decode b_M_takeEnding 100 = .ok (.dup, 1) := by decide +kernel
theorem d_M_takeEnding_101 : decode b_M_takeEnding 101 = .ok (.getfield 101, 3) := by decide +kernel
theorem d_M_takeEnding_104 : decode b_M_takeEnding 104 = .ok (.iconst 1, 1) := by decide +kernel
theorem d_M_takeEnding_105 : decode b_M_takeEnding 105 = .ok (.iadd, 1) := by decide +kernel
theorem d_M_takeEnding_106 : decode b_M_takeEnding 106 = .ok (.putfield 101, 3) := by decide +kernel
theorem d_M_takeEnding_109 : decode b_M_takeEnding 109 = .ok (.aload_n 0, 1) := by decide +kernel
theorem d_M_takeEnding_110 : decode b_M_takeEnding 110 = .ok (.dup, 1) := by decide +kernel
theorem d_M_takeEnding_111 : decode b_M_takeEnding 111 = .ok (.getfield 178, 3) := by decide +kernel
theorem d_M_takeEnding_114 : decode b_M_takeEnding 114 = .ok (.iconst 1, 1) := by decide +kernel
theorem d_M_takeEnding_115 : decode b_M_takeEnding 115 = .ok (.isub, 1) := by decide +kernel
theorem d_M_takeEnding_116 : decode b_M_takeEnding 116 = .ok (.putfield 178, 3) := by decide +kernel
theorem d_M_takeEnding_119 : decode b_M_takeEnding 119 = .ok (.return_, 1) := by decide +kernel
def w_M_takeEnding_J109   (post : MPS → Prop) (σ : MPS) : Prop := (∀ σ116 : MPS, σ116 = ms_deep σ ((mp_deep σ) - 1) → post σ116)
def w_M_takeEnding_J63   (post : MPS → Prop) (v1 : Int32) (σ : MPS) : Prop := (∀ σ65 : MPS, σ65 = ms_at σ v1 → (∀ σ70 : MPS, σ70 = ms_bad σ65 1 → post σ70))
def w_M_takeEnding  (σ : MPS)  (post : MPS → Prop) : Prop := (∀ σ7 : MPS, σ7 = ms_at σ ((mp_at σ) + 2) → w_M_takeName σ7  (fun r16 σ16 => (((mp_bad σ16) = 0 → (vp_in ((mp_deep σ16) - 1) 41 ∧ ((r16 = ((mp_openMany σ16) ((mp_deep σ16) - 1).toNatClampNeg) → (vp_in ((mp_deep σ16) - 1) 41 ∧ w_M_areAlike σ16 (mp_at σ7) ((mp_openAt σ16) ((mp_deep σ16) - 1).toNatClampNeg) r16 (fun r57 => ((r57 = 0 → w_M_takeEnding_J63 post (mp_at σ7) σ16) ∧ (¬ r57 = 0 → w_M_skipWhite σ16  (fun σ75 => (mXk σ75 (mp_at σ75) ∧ (((mX σ75 (mp_at σ75)) = 62 → (∀ σ106 : MPS, σ106 = ms_at σ75 ((mp_at σ75) + 1) → w_M_takeEnding_J109 post σ106)) ∧ (¬ (mX σ75 (mp_at σ75)) = 62 → (∀ σ93 : MPS, σ93 = ms_bad σ75 1 → w_M_takeEnding_J109 post σ93)))))))))) ∧ (¬ r16 = ((mp_openMany σ16) ((mp_deep σ16) - 1).toNatClampNeg) → w_M_takeEnding_J63 post (mp_at σ7) σ16)))) ∧ (¬ (mp_bad σ16) = 0 → post σ16))))
set_option maxHeartbeats 4000000 in
set_option maxRecDepth 100000 in
theorem c_M_takeEnding (l : Launch) (md : MD) (sz : Nat) (σ : MPS)   (post : MPS → Prop) (hE : w_M_takeEnding σ post) : Met l y_M_takeEnding ws_M_takeEnding { frames := 3, cells := 0, slots := 0, locals := 62 } (va_Pc [.ref (mA md 0)] (gM md σ sz)) (va_Qv post (eM md (va_A (MW md σ) sz)) (va_A (MW md σ) sz)) 0 0 (va_A (MW md σ) sz) := by
  refine Met.ofW (cc := b_M_takeEnding) (maxL := 3) (ret := none) (by decide) rfl ?_
  intro p e s m args below meth c s₁ B hml hv
  obtain ⟨rfl, hsz, hP, hK, hD0⟩ := hv
  have hx := B.exec
  have hb := B.bytes
  have hr := B.returns
  have hta : ∀ w ∈ aW, w.before _ s = true := fun w h => atoms_spec (ws := ws_M_takeEnding) B.pre w (List.mem_cons_of_mem _ h)
  have hown : s.vm.findClass R_M = some m.cls := findClass_of_methodNamed B.named
  have hlocks := B.notSynchronized
  subst hsz
  have hD := hD0.self (sz := s.heap.size)
  generalize hAe : va_A (MW md σ) s.heap.size = A at hD ⊢
  have hA : ∀ q : Nat, s.heap.size ≤ q → A q := fun q h => by rw [← hAe]; exact Or.inr h
  have hS : va_S A s.heap s.heap [] := va_S.rf
  have hP : va_P (mG md) classes (MW md σ) s.heap := hP
  have hl := lv_entry ([.ref (mA md 0)]) (n := 3) (Nat.le_of_ble_eq_true rfl)
  rw [lg_entry_eq]
  generalize (lg_sl ([.ref (mA md 0)]) ++ List.replicate (3 - (lg_sl ([.ref (mA md 0)])).length) Slot.unset).toArray = ls at hl ⊢
  have hl : lv_has ls 3 [(0, .ref (mA md 0))] := hl
  have J109 : ∀ (σ : MPS) (H : Heap) (locs : List Loc) (hP : va_P (mG md) classes (MW md σ) H) (hD : va_D A (MW md σ)) (hS : va_S A s.heap H locs) (ls : Array Slot) (hl : lv_has ls 3 [(0, .ref (mA md 0))]) (hE : w_M_takeEnding_J109 post σ), W p l e (headSpec ws_M_takeEnding { frames := 3, cells := 0, slots := 0, locals := 62 }).room s m ([.ref (mA md 0)] : List Value).toArray below meth c H locs 0 0 (MQ below (va_Qv post (eM md A) A) ([.ref (mA md 0)] : List Value).toArray s 0 0 A) (F0 m 109 ls []) := by
    intro  σ H locs hP hD hS ls hl hE
    unfold w_M_takeEnding_J109 at hE
    refine lv_aload_n hx hb d_M_takeEnding_109 rfl (lv_at hl 0 rfl) ?_
    refine lv_dup hx hb d_M_takeEnding_110 rfl ?_
    refine va_get (D := (mG md)) (ci := 7) (v := .int (mp_deep σ)) (C := R_M) (T := F_M) (N := 37) hx hb hta i_M hown hK hP 0 rfl rfl 15 (by decide) (hta _ fl_M_178) (fun _ h9 => h9) rfl d_M_takeEnding_111 ?_
    refine lv_iconst (v := 1) hx hb d_M_takeEnding_114 (by decide) ?_
    refine lv_isub hx hb d_M_takeEnding_115 ?_
    refine va_put (D := (mG md)) (ci := 7) (v := .int ((mp_deep σ) - 1)) (ty := .int) (C := R_M) (T := F_M) (N := 37) hx hb hta i_M t_M t_M_ok n_M hown hK hP hD hS 0 rfl rfl 15 (by decide) (hta _ fl_M_178) (fun _ h9 => h9) rfl (by decide +kernel) rfl rfl (Nat.le_of_ble_eq_true rfl) d_M_takeEnding_116 (fun H locs hP hD hS => ?_)
    have hP := mwP_deep hP
    have hD := mwD_deep hD
    have hE := hE _ rfl
    generalize (ms_deep σ ((mp_deep σ) - 1) : MPS) = σ116 at hP hD hE
    exact W.vret hx hb hr (fun t ht hW => ⟨⟨σ116, rfl, hE, by rw [ht]; exact hP, va_K.moved hW.alike hK, hD⟩, hS.F ht⟩) hS.2.2 d_M_takeEnding_119
  have J63 : ∀ (v1 : Int32) (σ : MPS) (H : Heap) (locs : List Loc) (hP : va_P (mG md) classes (MW md σ) H) (hD : va_D A (MW md σ)) (hS : va_S A s.heap H locs) (ls : Array Slot) (hl : lv_has ls 3 [(0, .ref (mA md 0)), (1, .int v1)]) (hE : w_M_takeEnding_J63 post v1 σ), W p l e (headSpec ws_M_takeEnding { frames := 3, cells := 0, slots := 0, locals := 62 }).room s m ([.ref (mA md 0)] : List Value).toArray below meth c H locs 0 0 (MQ below (va_Qv post (eM md A) A) ([.ref (mA md 0)] : List Value).toArray s 0 0 A) (F0 m 63 ls []) := by
    intro  v1 σ H locs hP hD hS ls hl hE
    unfold w_M_takeEnding_J63 at hE
    refine lv_aload_n hx hb d_M_takeEnding_63 rfl (lv_at hl 0 rfl) ?_
    refine lv_iload_n hx hb d_M_takeEnding_64 rfl (lv_at hl 1 rfl) ?_
    refine va_put (D := (mG md)) (ci := 7) (v := .int v1) (ty := .int) (C := R_M) (T := F_M) (N := 37) hx hb hta i_M t_M t_M_ok n_M hown hK hP hD hS 0 rfl rfl 13 (by decide) (hta _ fl_M_101) (fun _ h9 => h9) rfl (by decide +kernel) rfl rfl (Nat.le_of_ble_eq_true rfl) d_M_takeEnding_65 (fun H locs hP hD hS => ?_)
    have hP := mwP_at hP
    have hD := mwD_at hD
    have hE := hE _ rfl
    generalize (ms_at σ v1 : MPS) = σ65 at hP hD hE
    refine lv_aload_n hx hb d_M_takeEnding_68 rfl (lv_at hl 0 rfl) ?_
    refine lv_iconst (v := 1) hx hb d_M_takeEnding_69 (by decide) ?_
    refine va_put (D := (mG md)) (ci := 7) (v := .int 1) (ty := .boolean) (C := R_M) (T := F_M) (N := 37) hx hb hta i_M t_M t_M_ok n_M hown hK hP hD hS 0 rfl rfl 16 (by decide) (hta _ fl_M_111) (fun _ h9 => h9) rfl (by decide +kernel) rfl rfl (Nat.le_of_ble_eq_true rfl) d_M_takeEnding_70 (fun H locs hP hD hS => ?_)
    have hP := mwP_bad hP
    have hD := mwD_bad hD
    have hE := hE _ rfl
    generalize (ms_bad σ65 1 : MPS) = σ70 at hP hD hE
    exact W.vret hx hb hr (fun t ht hW => ⟨⟨σ70, rfl, hE, by rw [ht]; exact hP, va_K.moved hW.alike hK, hD⟩, hS.F ht⟩) hS.2.2 d_M_takeEnding_73
  unfold w_M_takeEnding at hE
  refine lv_aload_n hx hb d_M_takeEnding_0 rfl (lv_at hl 0 rfl) ?_
  refine lv_dup hx hb d_M_takeEnding_1 rfl ?_
  refine va_get (D := (mG md)) (ci := 7) (v := .int (mp_at σ)) (C := R_M) (T := F_M) (N := 37) hx hb hta i_M hown hK hP 0 rfl rfl 13 (by decide) (hta _ fl_M_101) (fun _ h9 => h9) rfl d_M_takeEnding_2 ?_
  refine lv_iconst (v := 2) hx hb d_M_takeEnding_5 (by decide) ?_
  refine lv_iadd hx hb d_M_takeEnding_6 ?_
  refine va_put (D := (mG md)) (ci := 7) (v := .int ((mp_at σ) + 2)) (ty := .int) (C := R_M) (T := F_M) (N := 37) hx hb hta i_M t_M t_M_ok n_M hown hK hP hD hS 0 rfl rfl 13 (by decide) (hta _ fl_M_101) (fun _ h9 => h9) rfl (by decide +kernel) rfl rfl (Nat.le_of_ble_eq_true rfl) d_M_takeEnding_7 (fun H locs hP hD hS => ?_)
  have hP := mwP_at hP
  have hD := mwD_at hD
  have hE := hE _ rfl
  generalize (ms_at σ ((mp_at σ) + 2) : MPS) = σ7 at hP hD hE
  refine lv_aload_n hx hb d_M_takeEnding_10 rfl (lv_at hl 0 rfl) ?_
  refine va_get (D := (mG md)) (ci := 7) (v := .int (mp_at σ7)) (C := R_M) (T := F_M) (N := 37) hx hb hta i_M hown hK hP 0 rfl rfl 13 (by decide) (hta _ fl_M_101) (fun _ h9 => h9) rfl d_M_takeEnding_11 ?_
  refine lv_istore_n (lv' := [(1, .int (mp_at σ7)), (0, .ref (mA md 0))]) hx hb d_M_takeEnding_14 rfl hl (by decide) rfl (fun ls hl => ?_)
  refine lv_aload_n hx hb d_M_takeEnding_15 rfl (lv_at hl 1 rfl) ?_
  refine mm_i (b0 := (mA md 0)) (As := []) (rest := []) ⟨hx, hb, hml, hown, hta⟩ (c_M_takeName l md _ σ7  _ hE) ok_M_165 ⟨Nat.le_of_ble_eq_true rfl, Nat.le_of_ble_eq_true rfl⟩ (va_recv hK hP (ci := 7) (q0 := 0) rfl rfl) hP hK hD hS hA rfl hl.1 rfl (Nat.le_of_ble_eq_true rfl) d_M_takeEnding_16 ⟨Nat.zero_le _, Nat.zero_le _⟩ (fun r16 σ16 H locs hE hP hD hS => ?_)
  refine lv_istore_n (lv' := [(2, .int r16), (1, .int (mp_at σ7)), (0, .ref (mA md 0))]) hx hb d_M_takeEnding_19 rfl hl (by decide) rfl (fun ls hl => ?_)
  refine lv_aload_n hx hb d_M_takeEnding_20 rfl (lv_at hl 2 rfl) ?_
  refine va_get (D := (mG md)) (ci := 7) (v := .int (mp_bad σ16)) (C := R_M) (T := F_M) (N := 37) hx hb hta i_M hown hK hP 0 rfl rfl 16 (by decide) (hta _ fl_M_111) (fun _ h9 => h9) rfl d_M_takeEnding_21 ?_
  refine lv_if_eq (tgt := 28) hx hb d_M_takeEnding_24 (by decide) (fun cc24 => ?_) (fun cc24 => ?_)
  · have hE := hE.1 cc24
    refine lv_iload_n hx hb d_M_takeEnding_28 rfl (lv_at hl 0 rfl) ?_
    refine lv_aload_n hx hb d_M_takeEnding_29 rfl (lv_at hl 2 rfl) ?_
    refine va_get (D := (mG md)) (ci := 7) (v := .ref (mA md 7)) (C := R_M) (T := F_M) (N := 37) hx hb hta i_M hown hK hP 0 rfl rfl 18 (by decide) (hta _ fl_M_33) (fun _ h9 => h9) rfl d_M_takeEnding_30 ?_
    refine lv_aload_n hx hb d_M_takeEnding_33 rfl (lv_at hl 2 rfl) ?_
    refine va_get (D := (mG md)) (ci := 7) (v := .int (mp_deep σ16)) (C := R_M) (T := F_M) (N := 37) hx hb hta i_M hown hK hP 0 rfl rfl 15 (by decide) (hta _ fl_M_178) (fun _ h9 => h9) rfl d_M_takeEnding_34 ?_
    refine lv_iconst (v := 1) hx hb d_M_takeEnding_37 (by decide) ?_
    refine lv_isub hx hb d_M_takeEnding_38 ?_
    obtain ⟨hI39, hE⟩ := hE
    refine va_iald (D := (mG md)) (f := mp_openMany σ16) hx hb hK hP 7 0 rfl rfl hI39 d_M_takeEnding_39 ?_
    refine lv_icmp_ne (tgt := 63) hx hb d_M_takeEnding_40 (by decide) (fun cc40 => ?_) (fun cc40 => ?_)
    · have hE := hE.2 cc40
      exact J63  (mp_at σ7) σ16 _ _ hP hD hS _ (lv_sub hl [2, 1] rfl) hE
    · have hE := hE.1 cc40
      refine lv_aload_n hx hb d_M_takeEnding_43 rfl (lv_at hl 2 rfl) ?_
      refine lv_iload_n hx hb d_M_takeEnding_44 rfl (lv_at hl 1 rfl) ?_
      refine lv_aload_n hx hb d_M_takeEnding_45 rfl (lv_at hl 2 rfl) ?_
      refine va_get (D := (mG md)) (ci := 7) (v := .ref (mA md 6)) (C := R_M) (T := F_M) (N := 37) hx hb hta i_M hown hK hP 0 rfl rfl 17 (by decide) (hta _ fl_M_29) (fun _ h9 => h9) rfl d_M_takeEnding_46 ?_
      refine lv_aload_n hx hb d_M_takeEnding_49 rfl (lv_at hl 2 rfl) ?_
      refine va_get (D := (mG md)) (ci := 7) (v := .int (mp_deep σ16)) (C := R_M) (T := F_M) (N := 37) hx hb hta i_M hown hK hP 0 rfl rfl 15 (by decide) (hta _ fl_M_178) (fun _ h9 => h9) rfl d_M_takeEnding_50 ?_
      refine lv_iconst (v := 1) hx hb d_M_takeEnding_53 (by decide) ?_
      refine lv_isub hx hb d_M_takeEnding_54 ?_
      obtain ⟨hI55, hE⟩ := hE
      refine va_iald (D := (mG md)) (f := mp_openAt σ16) hx hb hK hP 6 0 rfl rfl hI55 d_M_takeEnding_55 ?_
      refine lv_iload_n hx hb d_M_takeEnding_56 rfl (lv_at hl 0 rfl) ?_
      refine ro_V (b0 := (mA md 0)) (As := [.int (mp_at σ7), .int ((mp_openAt σ16) ((mp_deep σ16) - 1).toNatClampNeg), .int r16]) (rest := []) ⟨hx, hb, hml, hown, hta⟩ (c_M_areAlike l md σ16 (mp_at σ7) ((mp_openAt σ16) ((mp_deep σ16) - 1).toNatClampNeg) r16  _ hE) ok_M_161 ⟨Nat.le_of_ble_eq_true rfl, Nat.le_of_ble_eq_true rfl⟩ blind_rM (va_recv hK hP (ci := 7) (q0 := 0) rfl rfl) (rM_of hP hK) rfl hl.1 rfl (Nat.le_of_ble_eq_true rfl) d_M_takeEnding_57 ⟨Nat.zero_le _, Nat.zero_le _⟩ (fun r57 hE => ?_)
      refine lv_if_ne (tgt := 74) hx hb d_M_takeEnding_60 (by decide) (fun cc60 => ?_) (fun cc60 => ?_)
      · have hE := hE.2 cc60
        refine lv_aload_n hx hb d_M_takeEnding_74 rfl (lv_at hl 2 rfl) ?_
        refine mm_v (b0 := (mA md 0)) (As := []) (rest := []) ⟨hx, hb, hml, hown, hta⟩ (c_M_skipWhite l md _ σ16  _ hE) ok_M_188 ⟨Nat.le_of_ble_eq_true rfl, Nat.le_of_ble_eq_true rfl⟩ (va_recv hK hP (ci := 7) (q0 := 0) rfl rfl) hP hK hD hS hA rfl hl.1 rfl (Nat.le_of_ble_eq_true rfl) d_M_takeEnding_75 ⟨Nat.zero_le _, Nat.zero_le _⟩ (fun σ75 H locs hE hP hD hS => ?_)
        refine lv_aload_n hx hb d_M_takeEnding_78 rfl (lv_at hl 2 rfl) ?_
        refine lv_aload_n hx hb d_M_takeEnding_79 rfl (lv_at hl 2 rfl) ?_
        refine va_get (D := (mG md)) (ci := 7) (v := .int (mp_at σ75)) (C := R_M) (T := F_M) (N := 37) hx hb hta i_M hown hK hP 0 rfl rfl 13 (by decide) (hta _ fl_M_101) (fun _ h9 => h9) rfl d_M_takeEnding_80 ?_
        obtain ⟨hc83_0, hE⟩ := hE
        refine ro_V (b0 := (mA md 0)) (As := [.int (mp_at σ75)]) (rest := []) ⟨hx, hb, hml, hown, hta⟩ (f_M_x l md σ75 (mp_at σ75) hc83_0) ok_M_95 ⟨Nat.le_of_ble_eq_true rfl, Nat.le_of_ble_eq_true rfl⟩ blind_rM (va_recv hK hP (ci := 7) (q0 := 0) rfl rfl) (rM_of hP hK) rfl hl.1 rfl (Nat.le_of_ble_eq_true rfl) d_M_takeEnding_83 ⟨Nat.zero_le _, Nat.zero_le _⟩ (fun r83 hrr => ?_)
        subst hrr
        refine lv_bipush (v := 62) hx hb d_M_takeEnding_86 (by decide) ?_
        refine lv_icmp_eq (tgt := 99) hx hb d_M_takeEnding_88 (by decide) (fun cc88 => ?_) (fun cc88 => ?_)
        · have hE := hE.1 cc88
          refine lv_aload_n hx hb d_M_takeEnding_99 rfl (lv_at hl 2 rfl) ?_
          refine lv_dup hx hb d_M_takeEnding_100 rfl ?_
          refine va_get (D := (mG md)) (ci := 7) (v := .int (mp_at σ75)) (C := R_M) (T := F_M) (N := 37) hx hb hta i_M hown hK hP 0 rfl rfl 13 (by decide) (hta _ fl_M_101) (fun _ h9 => h9) rfl d_M_takeEnding_101 ?_
          refine lv_iconst (v := 1) hx hb d_M_takeEnding_104 (by decide) ?_
          refine lv_iadd hx hb d_M_takeEnding_105 ?_
          refine va_put (D := (mG md)) (ci := 7) (v := .int ((mp_at σ75) + 1)) (ty := .int) (C := R_M) (T := F_M) (N := 37) hx hb hta i_M t_M t_M_ok n_M hown hK hP hD hS 0 rfl rfl 13 (by decide) (hta _ fl_M_101) (fun _ h9 => h9) rfl (by decide +kernel) rfl rfl (Nat.le_of_ble_eq_true rfl) d_M_takeEnding_106 (fun H locs hP hD hS => ?_)
          have hP := mwP_at hP
          have hD := mwD_at hD
          have hE := hE _ rfl
          generalize (ms_at σ75 ((mp_at σ75) + 1) : MPS) = σ106 at hP hD hE
          exact J109  σ106 _ _ hP hD hS _ (lv_sub hl [2] rfl) hE
        · have hE := hE.2 cc88
          refine lv_aload_n hx hb d_M_takeEnding_91 rfl (lv_at hl 2 rfl) ?_
          refine lv_iconst (v := 1) hx hb d_M_takeEnding_92 (by decide) ?_
          refine va_put (D := (mG md)) (ci := 7) (v := .int 1) (ty := .boolean) (C := R_M) (T := F_M) (N := 37) hx hb hta i_M t_M t_M_ok n_M hown hK hP hD hS 0 rfl rfl 16 (by decide) (hta _ fl_M_111) (fun _ h9 => h9) rfl (by decide +kernel) rfl rfl (Nat.le_of_ble_eq_true rfl) d_M_takeEnding_93 (fun H locs hP hD hS => ?_)
          have hP := mwP_bad hP
          have hD := mwD_bad hD
          have hE := hE _ rfl
          generalize (ms_bad σ75 1 : MPS) = σ93 at hP hD hE
          refine lv_goto (tgt := 109) hx hb d_M_takeEnding_96 (by decide) ?_
          exact J109  σ93 _ _ hP hD hS _ (lv_sub hl [2] rfl) hE
      · have hE := hE.1 cc60
        exact J63  (mp_at σ7) σ16 _ _ hP hD hS _ (lv_sub hl [2, 1] rfl) hE
  · have hE := hE.2 cc24
    exact W.vret hx hb hr (fun t ht hW => ⟨⟨σ16, rfl, hE, by rw [ht]; exact hP, va_K.moved hW.alike hK, hD⟩, hS.F ht⟩) hS.2.2 d_M_takeEnding_27

theorem d_M_takeText_0 : decode b_M_takeText 0 = .ok (.aload_n 0, 1) := by decide +kernel
theorem d_M_takeText_1 : decode b_M_takeText 1 = .ok (.getfield 101, 3) := by decide +kernel
theorem d_M_takeText_4 : decode b_M_takeText 4 = .ok (.istore_n 1, 1) := by decide +kernel
theorem d_M_takeText_5 : decode b_M_takeText 5 = .ok (.aload_n 0, 1) := by decide +kernel
theorem d_M_takeText_6 : decode b_M_takeText 6 = .ok (.getfield 111, 3) := by decide +kernel
theorem d_M_takeText_9 : decode b_M_takeText 9 = .ok (.ifCond .ne 34, 3) := by decide +kernel
theorem d_M_takeText_12 : decode b_M_takeText 12 = .ok (.aload_n 0, 1) := by decide +kernel
theorem d_M_takeText_13 : decode b_M_takeText 13 = .ok (.getfield 101, 3) := by decide +kernel
theorem d_M_takeText_16 : decode b_M_takeText 16 = .ok (.aload_n 0, 1) := by decide +kernel
theorem d_M_takeText_17 : decode b_M_takeText 17 = .ok (.getfield 92, 3) := by decide +kernel
theorem d_M_takeText_20 : decode b_M_takeText 20 = .ok (.if_icmp .ge 23, 3) := by decide +kernel
theorem d_M_takeText_23 : decode b_M_takeText 23 = .ok (.aload_n 0, 1) := by decide +kernel
theorem d_M_takeText_24 : decode b_M_takeText 24 = .ok (.aload_n 0, 1) := by decide +kernel
theorem d_M_takeText_25 : decode b_M_takeText 25 = .ok (.getfield 101, 3) := by decide +kernel
theorem d_M_takeText_28 : decode b_M_takeText 28 = .ok (.invokevirtual 95, 3) := by decide +kernel
theorem d_M_takeText_31 : decode b_M_takeText 31 = .ok (.bipush 60, 2) := by decide +kernel
theorem d_M_takeText_33 : decode b_M_takeText 33 = .ok (.if_icmp .eq 10, 3) := by decide +kernel
theorem d_M_takeText_36 : decode b_M_takeText 36 = .ok (.aload_n 0, 1) := by decide +kernel
theorem d_M_takeText_37 : decode b_M_takeText 37 = .ok (.invokevirtual 172, 3) := by decide +kernel
theorem d_M_takeText_40 : decode b_M_takeText 40 = .ok (.goto (-35), 3) := by decide +kernel
theorem d_M_takeText_43 : decode b_M_takeText 43 = .ok (.aload_n 0, 1) := by decide +kernel
theorem d_M_takeText_44 : decode b_M_takeText 44 = .ok (.getfield 111, 3) := by decide +kernel
theorem d_M_takeText_47 : decode b_M_takeText 47 = .ok (.ifCond .ne 19, 3) := by decide +kernel
theorem d_M_takeText_50 : decode b_M_takeText 50 = .ok (.aload_n 0, 1) := by decide +kernel
theorem d_M_takeText_51 : decode b_M_takeText 51 = .ok (.getfield 101, 3) := by decide +kernel
theorem d_M_takeText_54 : decode b_M_takeText 54 = .ok (.aload_n 0, 1) := by decide +kernel
theorem d_M_takeText_55 : decode b_M_takeText 55 = .ok (.getfield 92, 3) := by decide +kernel
theorem d_M_takeText_58 : decode b_M_takeText 58 = .ok (.if_icmp .ne 8, 3) := by decide +kernel
theorem d_M_takeText_61 : decode b_M_takeText 61 = .ok (.aload_n 0, 1) := by decide +kernel
theorem d_M_takeText_62 : decode b_M_takeText 62 = .ok (.iconst 1, 1) := by decide +kernel
theorem d_M_takeText_63 : decode b_M_takeText 63 = .ok (.putfield 111, 3) := by decide +kernel
theorem d_M_takeText_66 : decode b_M_takeText 66 = .ok (.aload_n 0, 1) := by decide +kernel
theorem d_M_takeText_67 : decode b_M_takeText 67 = .ok (.getfield 111, 3) := by decide +kernel
theorem d_M_takeText_70 : decode b_M_takeText 70 = .ok (.ifCond .ne 14, 3) := by decide +kernel
theorem d_M_takeText_73 : decode b_M_takeText 73 = .ok (.aload_n 0, 1) := by decide +kernel
theorem d_M_takeText_74 : decode b_M_takeText 74 = .ok (.iconst 0, 1) := by decide +kernel
theorem d_M_takeText_75 : decode b_M_takeText 75 = .ok (.iload_n 1, 1) := by decide +kernel
theorem d_M_takeText_76 : decode b_M_takeText 76 = .ok (.aload_n 0, 1) := by decide +kernel
theorem d_M_takeText_77 : decode b_M_takeText 77 = .ok (.getfield 101, 3) := by decide +kernel
theorem d_M_takeText_80 : decode b_M_takeText 80 = .ok (.invokevirtual 184, 3) := by decide +kernel
theorem d_M_takeText_83 : decode b_M_takeText 83 = .ok (.istore_n 2, 1) := by decide +kernel
theorem d_M_takeText_84 : decode b_M_takeText 84 = .ok (.return_, 1) := by decide +kernel
def w_M_takeText_J66   (post : MPS → Prop) (v1 : Int32) (σ : MPS) : Prop := (((mp_bad σ) = 0 → w_M_add σ 0 v1 (mp_at σ) (fun r80 σ80 => post σ80)) ∧ (¬ (mp_bad σ) = 0 → post σ))
def w_M_takeText_J43   (post : MPS → Prop) (v1 : Int32) (σ : MPS) : Prop := (((mp_bad σ) = 0 → (((mp_at σ) = (mp_size σ) → (∀ σ63 : MPS, σ63 = ms_bad σ 1 → w_M_takeText_J66 post v1 σ63)) ∧ (¬ (mp_at σ) = (mp_size σ) → w_M_takeText_J66 post v1 σ))) ∧ (¬ (mp_bad σ) = 0 → w_M_takeText_J66 post v1 σ))
def w_M_takeText_L5  (v1 : Int32) (post : MPS → Prop) : Nat → MPS → Prop
  | 0, _ => False
  | n5 + 1, σ => (((mp_bad σ) = 0 → (((mp_size σ) ≤ (mp_at σ) → w_M_takeText_J43 post v1 σ) ∧ (¬ (mp_size σ) ≤ (mp_at σ) → (mXk σ (mp_at σ) ∧ (((mX σ (mp_at σ)) = 60 → w_M_takeText_J43 post v1 σ) ∧ (¬ (mX σ (mp_at σ)) = 60 → w_M_takeCharacter σ  (fun σ37 => w_M_takeText_L5 v1 post n5 σ37))))))) ∧ (¬ (mp_bad σ) = 0 → w_M_takeText_J43 post v1 σ))
def w_M_takeText  (σ : MPS)  (post : MPS → Prop) : Prop := (∃ n5, w_M_takeText_L5 (mp_at σ) post n5 σ)
set_option maxHeartbeats 4000000 in
set_option maxRecDepth 100000 in
theorem c_M_takeText (l : Launch) (md : MD) (sz : Nat) (σ : MPS)   (post : MPS → Prop) (hE : w_M_takeText σ post) : Met l y_M_takeText ws_M_takeText { frames := 4, cells := 0, slots := 0, locals := 93 } (va_Pc [.ref (mA md 0)] (gM md σ sz)) (va_Qv post (eM md (va_A (MW md σ) sz)) (va_A (MW md σ) sz)) 0 0 (va_A (MW md σ) sz) := by
  refine Met.ofW (cc := b_M_takeText) (maxL := 3) (ret := none) (by decide) rfl ?_
  intro p e s m args below meth c s₁ B hml hv
  obtain ⟨rfl, hsz, hP, hK, hD0⟩ := hv
  have hx := B.exec
  have hb := B.bytes
  have hr := B.returns
  have hta : ∀ w ∈ aW, w.before _ s = true := fun w h => atoms_spec (ws := ws_M_takeText) B.pre w (List.mem_cons_of_mem _ h)
  have hown : s.vm.findClass R_M = some m.cls := findClass_of_methodNamed B.named
  have hlocks := B.notSynchronized
  subst hsz
  have hD := hD0.self (sz := s.heap.size)
  generalize hAe : va_A (MW md σ) s.heap.size = A at hD ⊢
  have hA : ∀ q : Nat, s.heap.size ≤ q → A q := fun q h => by rw [← hAe]; exact Or.inr h
  have hS : va_S A s.heap s.heap [] := va_S.rf
  have hP : va_P (mG md) classes (MW md σ) s.heap := hP
  have hl := lv_entry ([.ref (mA md 0)]) (n := 3) (Nat.le_of_ble_eq_true rfl)
  rw [lg_entry_eq]
  generalize (lg_sl ([.ref (mA md 0)]) ++ List.replicate (3 - (lg_sl ([.ref (mA md 0)])).length) Slot.unset).toArray = ls at hl ⊢
  have hl : lv_has ls 3 [(0, .ref (mA md 0))] := hl
  have J66 : ∀ (v1 : Int32) (σ : MPS) (H : Heap) (locs : List Loc) (hP : va_P (mG md) classes (MW md σ) H) (hD : va_D A (MW md σ)) (hS : va_S A s.heap H locs) (ls : Array Slot) (hl : lv_has ls 3 [(0, .ref (mA md 0)), (1, .int v1)]) (hE : w_M_takeText_J66 post v1 σ), W p l e (headSpec ws_M_takeText { frames := 4, cells := 0, slots := 0, locals := 93 }).room s m ([.ref (mA md 0)] : List Value).toArray below meth c H locs 0 0 (MQ below (va_Qv post (eM md A) A) ([.ref (mA md 0)] : List Value).toArray s 0 0 A) (F0 m 66 ls []) := by
    intro  v1 σ H locs hP hD hS ls hl hE
    unfold w_M_takeText_J66 at hE
    refine lv_aload_n hx hb d_M_takeText_66 rfl (lv_at hl 0 rfl) ?_
    refine va_get (D := (mG md)) (ci := 7) (v := .int (mp_bad σ)) (C := R_M) (T := F_M) (N := 37) hx hb hta i_M hown hK hP 0 rfl rfl 16 (by decide) (hta _ fl_M_111) (fun _ h9 => h9) rfl d_M_takeText_67 ?_
    refine lv_if_ne (tgt := 84) hx hb d_M_takeText_70 (by decide) (fun cc70 => ?_) (fun cc70 => ?_)
    · have hE := hE.2 cc70
      exact W.vret hx hb hr (fun t ht hW => ⟨⟨σ, rfl, hE, by rw [ht]; exact hP, va_K.moved hW.alike hK, hD⟩, hS.F ht⟩) hS.2.2 d_M_takeText_84
    · have hE := hE.1 cc70
      refine lv_aload_n hx hb d_M_takeText_73 rfl (lv_at hl 0 rfl) ?_
      refine lv_iconst (v := 0) hx hb d_M_takeText_74 (by decide) ?_
      refine lv_iload_n hx hb d_M_takeText_75 rfl (lv_at hl 1 rfl) ?_
      refine lv_aload_n hx hb d_M_takeText_76 rfl (lv_at hl 0 rfl) ?_
      refine va_get (D := (mG md)) (ci := 7) (v := .int (mp_at σ)) (C := R_M) (T := F_M) (N := 37) hx hb hta i_M hown hK hP 0 rfl rfl 13 (by decide) (hta _ fl_M_101) (fun _ h9 => h9) rfl d_M_takeText_77 ?_
      refine mm_i (b0 := (mA md 0)) (As := [.int 0, .int v1, .int (mp_at σ)]) (rest := []) ⟨hx, hb, hml, hown, hta⟩ (c_M_add l md _ σ 0 v1 (mp_at σ) _ hE) ok_M_184 ⟨Nat.le_of_ble_eq_true rfl, Nat.le_of_ble_eq_true rfl⟩ (va_recv hK hP (ci := 7) (q0 := 0) rfl rfl) hP hK hD hS hA rfl hl.1 rfl (Nat.le_of_ble_eq_true rfl) d_M_takeText_80 ⟨Nat.zero_le _, Nat.zero_le _⟩ (fun r80 σ80 H locs hE hP hD hS => ?_)
      refine lv_istore_n (lv' := [(2, .int r80), (0, .ref (mA md 0)), (1, .int v1)]) hx hb d_M_takeText_83 rfl hl (by decide) rfl (fun ls hl => ?_)
      exact W.vret hx hb hr (fun t ht hW => ⟨⟨σ80, rfl, hE, by rw [ht]; exact hP, va_K.moved hW.alike hK, hD⟩, hS.F ht⟩) hS.2.2 d_M_takeText_84
  have J43 : ∀ (v1 : Int32) (σ : MPS) (H : Heap) (locs : List Loc) (hP : va_P (mG md) classes (MW md σ) H) (hD : va_D A (MW md σ)) (hS : va_S A s.heap H locs) (ls : Array Slot) (hl : lv_has ls 3 [(0, .ref (mA md 0)), (1, .int v1)]) (hE : w_M_takeText_J43 post v1 σ), W p l e (headSpec ws_M_takeText { frames := 4, cells := 0, slots := 0, locals := 93 }).room s m ([.ref (mA md 0)] : List Value).toArray below meth c H locs 0 0 (MQ below (va_Qv post (eM md A) A) ([.ref (mA md 0)] : List Value).toArray s 0 0 A) (F0 m 43 ls []) := by
    intro  v1 σ H locs hP hD hS ls hl hE
    unfold w_M_takeText_J43 at hE
    refine lv_aload_n hx hb d_M_takeText_43 rfl (lv_at hl 0 rfl) ?_
    refine va_get (D := (mG md)) (ci := 7) (v := .int (mp_bad σ)) (C := R_M) (T := F_M) (N := 37) hx hb hta i_M hown hK hP 0 rfl rfl 16 (by decide) (hta _ fl_M_111) (fun _ h9 => h9) rfl d_M_takeText_44 ?_
    refine lv_if_ne (tgt := 66) hx hb d_M_takeText_47 (by decide) (fun cc47 => ?_) (fun cc47 => ?_)
    · have hE := hE.2 cc47
      exact J66  v1 σ _ _ hP hD hS _ (lv_sub hl [0, 1] rfl) hE
    · have hE := hE.1 cc47
      refine lv_aload_n hx hb d_M_takeText_50 rfl (lv_at hl 0 rfl) ?_
      refine va_get (D := (mG md)) (ci := 7) (v := .int (mp_at σ)) (C := R_M) (T := F_M) (N := 37) hx hb hta i_M hown hK hP 0 rfl rfl 13 (by decide) (hta _ fl_M_101) (fun _ h9 => h9) rfl d_M_takeText_51 ?_
      refine lv_aload_n hx hb d_M_takeText_54 rfl (lv_at hl 0 rfl) ?_
      refine va_get (D := (mG md)) (ci := 7) (v := .int (mp_size σ)) (C := R_M) (T := F_M) (N := 37) hx hb hta i_M hown hK hP 0 rfl rfl 7 (by decide) (hta _ fl_M_92) (fun _ h9 => h9) rfl d_M_takeText_55 ?_
      refine lv_icmp_ne (tgt := 66) hx hb d_M_takeText_58 (by decide) (fun cc58 => ?_) (fun cc58 => ?_)
      · have hE := hE.2 cc58
        exact J66  v1 σ _ _ hP hD hS _ (lv_sub hl [0, 1] rfl) hE
      · have hE := hE.1 cc58
        refine lv_aload_n hx hb d_M_takeText_61 rfl (lv_at hl 0 rfl) ?_
        refine lv_iconst (v := 1) hx hb d_M_takeText_62 (by decide) ?_
        refine va_put (D := (mG md)) (ci := 7) (v := .int 1) (ty := .boolean) (C := R_M) (T := F_M) (N := 37) hx hb hta i_M t_M t_M_ok n_M hown hK hP hD hS 0 rfl rfl 16 (by decide) (hta _ fl_M_111) (fun _ h9 => h9) rfl (by decide +kernel) rfl rfl (Nat.le_of_ble_eq_true rfl) d_M_takeText_63 (fun H locs hP hD hS => ?_)
        have hP := mwP_bad hP
        have hD := mwD_bad hD
        have hE := hE _ rfl
        generalize (ms_bad σ 1 : MPS) = σ63 at hP hD hE
        exact J66  v1 σ63 _ _ hP hD hS _ (lv_sub hl [0, 1] rfl) hE
  have L5 : ∀ (v1 : Int32) (n5 : Nat) (σ : MPS) (H : Heap) (locs : List Loc) (hP : va_P (mG md) classes (MW md σ) H) (hD : va_D A (MW md σ)) (hS : va_S A s.heap H locs) (ls : Array Slot) (hl : lv_has ls 3 [(0, .ref (mA md 0)), (1, .int v1)]) (hE : w_M_takeText_L5 v1 post n5 σ), W p l e (headSpec ws_M_takeText { frames := 4, cells := 0, slots := 0, locals := 93 }).room s m ([.ref (mA md 0)] : List Value).toArray below meth c H locs 0 0 (MQ below (va_Qv post (eM md A) A) ([.ref (mA md 0)] : List Value).toArray s 0 0 A) (F0 m 5 ls []) := by
    intro v1 n5
    induction n5 with
    | zero => intro σ H locs hP hD hS ls hl hE; exact hE.elim
    | succ n5 ih5 =>
      intro σ H locs hP hD hS ls hl hE
      unfold w_M_takeText_L5 at hE
      refine lv_aload_n hx hb d_M_takeText_5 rfl (lv_at hl 0 rfl) ?_
      refine va_get (D := (mG md)) (ci := 7) (v := .int (mp_bad σ)) (C := R_M) (T := F_M) (N := 37) hx hb hta i_M hown hK hP 0 rfl rfl 16 (by decide) (hta _ fl_M_111) (fun _ h9 => h9) rfl d_M_takeText_6 ?_
      refine lv_if_ne (tgt := 43) hx hb d_M_takeText_9 (by decide) (fun cc9 => ?_) (fun cc9 => ?_)
      · have hE := hE.2 cc9
        exact J43  v1 σ _ _ hP hD hS _ (lv_sub hl [0, 1] rfl) hE
      · have hE := hE.1 cc9
        refine lv_aload_n hx hb d_M_takeText_12 rfl (lv_at hl 0 rfl) ?_
        refine va_get (D := (mG md)) (ci := 7) (v := .int (mp_at σ)) (C := R_M) (T := F_M) (N := 37) hx hb hta i_M hown hK hP 0 rfl rfl 13 (by decide) (hta _ fl_M_101) (fun _ h9 => h9) rfl d_M_takeText_13 ?_
        refine lv_aload_n hx hb d_M_takeText_16 rfl (lv_at hl 0 rfl) ?_
        refine va_get (D := (mG md)) (ci := 7) (v := .int (mp_size σ)) (C := R_M) (T := F_M) (N := 37) hx hb hta i_M hown hK hP 0 rfl rfl 7 (by decide) (hta _ fl_M_92) (fun _ h9 => h9) rfl d_M_takeText_17 ?_
        refine lv_icmp_ge (tgt := 43) hx hb d_M_takeText_20 (by decide) (fun cc20 => ?_) (fun cc20 => ?_)
        · have hE := hE.1 cc20
          exact J43  v1 σ _ _ hP hD hS _ (lv_sub hl [0, 1] rfl) hE
        · have hE := hE.2 cc20
          refine lv_aload_n hx hb d_M_takeText_23 rfl (lv_at hl 0 rfl) ?_
          refine lv_aload_n hx hb d_M_takeText_24 rfl (lv_at hl 0 rfl) ?_
          refine va_get (D := (mG md)) (ci := 7) (v := .int (mp_at σ)) (C := R_M) (T := F_M) (N := 37) hx hb hta i_M hown hK hP 0 rfl rfl 13 (by decide) (hta _ fl_M_101) (fun _ h9 => h9) rfl d_M_takeText_25 ?_
          obtain ⟨hc28_0, hE⟩ := hE
          refine ro_V (b0 := (mA md 0)) (As := [.int (mp_at σ)]) (rest := []) ⟨hx, hb, hml, hown, hta⟩ (f_M_x l md σ (mp_at σ) hc28_0) ok_M_95 ⟨Nat.le_of_ble_eq_true rfl, Nat.le_of_ble_eq_true rfl⟩ blind_rM (va_recv hK hP (ci := 7) (q0 := 0) rfl rfl) (rM_of hP hK) rfl hl.1 rfl (Nat.le_of_ble_eq_true rfl) d_M_takeText_28 ⟨Nat.zero_le _, Nat.zero_le _⟩ (fun r28 hrr => ?_)
          subst hrr
          refine lv_bipush (v := 60) hx hb d_M_takeText_31 (by decide) ?_
          refine lv_icmp_eq (tgt := 43) hx hb d_M_takeText_33 (by decide) (fun cc33 => ?_) (fun cc33 => ?_)
          · have hE := hE.1 cc33
            exact J43  v1 σ _ _ hP hD hS _ (lv_sub hl [0, 1] rfl) hE
          · have hE := hE.2 cc33
            refine lv_aload_n hx hb d_M_takeText_36 rfl (lv_at hl 0 rfl) ?_
            refine mm_v (b0 := (mA md 0)) (As := []) (rest := []) ⟨hx, hb, hml, hown, hta⟩ (c_M_takeCharacter l md _ σ  _ hE) ok_M_172 ⟨Nat.le_of_ble_eq_true rfl, Nat.le_of_ble_eq_true rfl⟩ (va_recv hK hP (ci := 7) (q0 := 0) rfl rfl) hP hK hD hS hA rfl hl.1 rfl (Nat.le_of_ble_eq_true rfl) d_M_takeText_37 ⟨Nat.zero_le _, Nat.zero_le _⟩ (fun σ37 H locs hE hP hD hS => ?_)
            refine lv_goto (tgt := 5) hx hb d_M_takeText_40 (by decide) ?_
            exact ih5 σ37 _ _ hP hD hS _ (lv_sub hl [0, 1] rfl) hE
  unfold w_M_takeText at hE
  refine lv_aload_n hx hb d_M_takeText_0 rfl (lv_at hl 0 rfl) ?_
  refine va_get (D := (mG md)) (ci := 7) (v := .int (mp_at σ)) (C := R_M) (T := F_M) (N := 37) hx hb hta i_M hown hK hP 0 rfl rfl 13 (by decide) (hta _ fl_M_101) (fun _ h9 => h9) rfl d_M_takeText_1 ?_
  refine lv_istore_n (lv' := [(1, .int (mp_at σ)), (0, .ref (mA md 0))]) hx hb d_M_takeText_4 rfl hl (by decide) rfl (fun ls hl => ?_)
  obtain ⟨n5, hE⟩ := hE
  exact L5 (mp_at σ) n5 σ _ _ hP hD hS _ (lv_sub hl [1, 0] rfl) hE
theorem ok_M_195 : okV "PlainPagesModel" 195 R_M y_M_isDeclared b_M_isDeclared 3 (some .boolean) 0 := ⟨aW_in 1041 (by decide +kernel) rfl, aW_in 1043 (by decide +kernel) rfl, aW_in 41 (by decide +kernel) rfl, aW_in 92 (by decide +kernel) rfl, cd_M_isDeclared, rfl, by decide +kernel, by decide +kernel, by decide +kernel⟩
theorem ok_M_199 : okV "PlainPagesModel" 199 R_M y_M_takeBeginning b_M_takeBeginning 5 none 0 := ⟨aW_in 1056 (by decide +kernel) rfl, aW_in 1058 (by decide +kernel) rfl, aW_in 44 (by decide +kernel) rfl, aW_in 92 (by decide +kernel) rfl, cd_M_takeBeginning, rfl, by decide +kernel, by decide +kernel, by decide +kernel⟩
theorem ok_M_205 : okV "PlainPagesModel" 205 R_M y_M_takeEnding b_M_takeEnding 3 none 0 := ⟨aW_in 1135 (by decide +kernel) rfl, aW_in 1137 (by decide +kernel) rfl, aW_in 57 (by decide +kernel) rfl, aW_in 92 (by decide +kernel) rfl, cd_M_takeEnding, rfl, by decide +kernel, by decide +kernel, by decide +kernel⟩
theorem ok_M_202 : okV "PlainPagesModel" 202 R_M y_M_takeText b_M_takeText 3 none 0 := ⟨aW_in 1131 (by decide +kernel) rfl, aW_in 1133 (by decide +kernel) rfl, aW_in 56 (by decide +kernel) rfl, aW_in 92 (by decide +kernel) rfl, cd_M_takeText, rfl, by decide +kernel, by decide +kernel, by decide +kernel⟩
theorem d_M_lookThrough_0 : decode b_M_lookThrough 0 = .ok (.aload_n 0, 1) := by decide +kernel
theorem d_M_lookThrough_1 : decode b_M_lookThrough 1 = .ok (.iconst 0, 1) := by decide +kernel
theorem d_M_lookThrough_2 : decode b_M_lookThrough 2 = .ok (.putfield 101, 3) := by decide +kernel
theorem d_M_lookThrough_5 : decode b_M_lookThrough 5 = .ok (.aload_n 0, 1) := by decide +kernel
theorem d_M_lookThrough_6 : decode b_M_lookThrough 6 = .ok (.iconst 0, 1) := by decide +kernel
theorem d_M_lookThrough_7 : decode b_M_lookThrough 7 = .ok (.putfield 181, 3) := by decide +kernel
theorem d_M_lookThrough_10 : decode b_M_lookThrough 10 = .ok (.aload_n 0, 1) := by decide +kernel
theorem d_M_lookThrough_11 : decode b_M_lookThrough 11 = .ok (.iconst 0, 1) := by decide +kernel
theorem d_M_lookThrough_12 : decode b_M_lookThrough 12 = .ok (.putfield 178, 3) := by decide +kernel
theorem d_M_lookThrough_15 : decode b_M_lookThrough 15 = .ok (.aload_n 0, 1) := by decide +kernel
theorem d_M_lookThrough_16 : decode b_M_lookThrough 16 = .ok (.iconst 0, 1) := by decide +kernel
theorem d_M_lookThrough_17 : decode b_M_lookThrough 17 = .ok (.putfield 175, 3) := by decide +kernel
theorem d_M_lookThrough_20 : decode b_M_lookThrough 20 = .ok (.aload_n 0, 1) := by decide +kernel
theorem d_M_lookThrough_21 : decode b_M_lookThrough 21 = .ok (.iconst 0, 1) := by decide +kernel
theorem d_M_lookThrough_22 : decode b_M_lookThrough 22 = .ok (.putfield 111, 3) := by decide +kernel
theorem d_M_lookThrough_25 : decode b_M_lookThrough 25 = .ok (.aload_n 0, 1) := by decide +kernel
theorem d_M_lookThrough_26 : decode b_M_lookThrough 26 = .ok (.invokevirtual 195, 3) := by decide +kernel
theorem d_M_lookThrough_29 : decode b_M_lookThrough 29 = .ok (.ifCond .eq 12, 3) := by decide +kernel
theorem d_M_lookThrough_32 : decode b_M_lookThrough 32 = .ok (.aload_n 0, 1) := by decide +kernel
theorem d_M_lookThrough_33 : decode b_M_lookThrough 33 = .ok (.aload_n 0, 1) := by decide +kernel
theorem d_M_lookThrough_34 : decode b_M_lookThrough 34 = .ok (.getfield 22, 3) := by decide +kernel
theorem d_M_lookThrough_37 : decode b_M_lookThrough 37 = .ok (.arraylength, 1) := by decide +kernel
theorem d_M_lookThrough_38 : decode b_M_lookThrough 38 = .ok (.putfield 101, 3) := by decide +kernel
theorem d_M_lookThrough_41 : decode b_M_lookThrough 41 = .ok (.aload_n 0, 1) := by decide +kernel
theorem d_M_lookThrough_42 : decode b_M_lookThrough 42 = .ok (.invokevirtual 188, 3) := by decide +kernel
theorem d_M_lookThrough_45 : decode b_M_lookThrough 45 = .ok (.aload_n 0, 1) := by decide +kernel
theorem d_M_lookThrough_46 : decode b_M_lookThrough 46 = .ok (.aload_n 0, 1) := by decide +kernel
theorem d_M_lookThrough_47 : decode b_M_lookThrough 47 = .ok (.getfield 101, 3) := by decide +kernel
theorem d_M_lookThrough_50 : decode b_M_lookThrough 50 = .ok (.invokevirtual 95, 3) := by decide +kernel
theorem d_M_lookThrough_53 : decode b_M_lookThrough 53 = .ok (.bipush 60, 2) := by decide +kernel
theorem d_M_lookThrough_55 : decode b_M_lookThrough 55 = .ok (.if_icmp .eq 11, 3) := by decide +kernel
theorem d_M_lookThrough_58 : decode b_M_lookThrough 58 = .ok (.aload_n 0, 1) := by decide +kernel
theorem d_M_lookThrough_59 : decode b_M_lookThrough 59 = .ok (.iconst 1, 1) := by decide +kernel
theorem d_M_lookThrough_60 : decode b_M_lookThrough 60 = .ok (.putfield 111, 3) := by decide +kernel
theorem d_M_lookThrough_63 : decode b_M_lookThrough 63 = .ok (.goto 7, 3) := by decide +kernel
theorem d_M_lookThrough_66 : decode b_M_lookThrough 66 = .ok (.aload_n 0, 1) := by decide +kernel
theorem d_M_lookThrough_67 : decode b_M_lookThrough 67 = .ok (.invokevirtual 199, 3) := by decide +kernel
theorem d_M_lookThrough_70 : decode b_M_lookThrough 70 = .ok (.aload_n 0, 1) := by decide +kernel
theorem d_M_lookThrough_71 : decode b_M_lookThrough 71 = .ok (.getfield 111, 3) := by decide +kernel
theorem d_M_lookThrough_74 : decode b_M_lookThrough 74 = .ok (.ifCond .ne 78, 3) := by decide +kernel
theorem d_M_lookThrough_77 : decode b_M_lookThrough 77 = .ok (.aload_n 0, 1) := by decide +kernel
theorem d_M_lookThrough_78 : decode b_M_lookThrough 78 = .ok (.getfield 178, 3) := by decide +kernel
theorem d_M_lookThrough_81 : decode b_M_lookThrough 81 = .ok (.ifCond .le 71, 3) := by decide +kernel
theorem d_M_lookThrough_84 : decode b_M_lookThrough 84 = .ok (.aload_n 0, 1) := by decide +kernel
theorem d_M_lookThrough_85 : decode b_M_lookThrough 85 = .ok (.getfield 101, 3) := by decide +kernel
theorem d_M_lookThrough_88 : decode b_M_lookThrough 88 = .ok (.aload_n 0, 1) := by decide +kernel
theorem d_M_lookThrough_89 : decode b_M_lookThrough 89 = .ok (.getfield 92, 3) := by decide +kernel
theorem d_M_lookThrough_92 : decode b_M_lookThrough 92 = .ok (.if_icmp .lt 11, 3) := by decide +kernel
theorem d_M_lookThrough_95 : decode b_M_lookThrough 95 = .ok (.aload_n 0, 1) := by decide +kernel
theorem d_M_lookThrough_96 : decode b_M_lookThrough 96 = .ok (.iconst 1, 1) := by decide +kernel
theorem d_M_lookThrough_97 : decode b_M_lookThrough 97 = .ok (.putfield 111, 3) := by decide +kernel
theorem d_M_lookThrough_100 : decode b_M_lookThrough 100 = .ok (.goto (-30), 3) := by decide +kernel
theorem d_M_lookThrough_103 : decode b_M_lookThrough 103 = .ok (.aload_n 0, 1) := by decide +kernel
theorem d_M_lookThrough_104 : decode b_M_lookThrough 104 = .ok (.aload_n 0, 1) := by decide +kernel
theorem d_M_lookThrough_105 : decode b_M_lookThrough 105 = .ok (.getfield 101, 3) := by decide +kernel
theorem d_M_lookThrough_108 : decode b_M_lookThrough 108 = .ok (.invokevirtual 95, 3) := by decide +kernel
theorem d_M_lookThrough_111 : decode b_M_lookThrough 111 = .ok (.bipush 60, 2) := by decide +kernel
theorem d_M_lookThrough_113 : decode b_M_lookThrough 113 = .ok (.if_icmp .eq 10, 3) := by decide +kernel
theorem d_M_lookThrough_116 : decode b_M_lookThrough 116 = .ok (.aload_n 0, 1) := by decide +kernel
theorem d_M_lookThrough_117 : decode b_M_lookThrough 117 = .ok (.invokevirtual 202, 3) := by decide +kernel
theorem d_M_lookThrough_120 : decode b_M_lookThrough 120 = .ok (.goto (-50), 3) := by decide +kernel
theorem d_M_lookThrough_123 : decode b_M_lookThrough 123 = .ok (.aload_n 0, 1) := by decide +kernel
theorem d_M_lookThrough_124 : decode b_M_lookThrough 124 = .ok (.aload_n 0, 1) := by decide +kernel
theorem d_M_lookThrough_125 : decode b_M_lookThrough 125 = .ok (.getfield 101, 3) := by decide +kernel
theorem d_M_lookThrough_128 : decode b_M_lookThrough 128 = .ok (.iconst 1, 1) := by decide +kernel
theorem d_M_lookThrough_129 : decode b_M_lookThrough 129 = .ok (.iadd, 1) := by decide +kernel
theorem d_M_lookThrough_130 : decode b_M_lookThrough 130 = .ok (.invokevirtual 95, 3) := by decide +kernel
theorem d_M_lookThrough_133 : decode b_M_lookThrough 133 = .ok (.bipush 47, 2) := by decide +kernel
theorem d_M_lookThrough_135 : decode b_M_lookThrough 135 = .ok (.if_icmp .ne 10, 3) := by decide +kernel
theorem d_M_lookThrough_138 : decode b_M_lookThrough 138 = .ok (.aload_n 0, 1) := by decide +kernel
theorem d_M_lookThrough_139 : decode b_M_lookThrough 139 = .ok (.invokevirtual 205, 3) := by decide +kernel
theorem d_M_lookThrough_142 : decode b_M_lookThrough 142 = .ok (.goto (-72), 3) := by decide +kernel
theorem d_M_lookThrough_145 : decode b_M_lookThrough 145 = .ok (.aload_n 0, 1) := by decide +kernel
theorem d_M_lookThrough_146 : decode b_M_lookThrough 146 = .ok (.invokevirtual 199, 3) := by decide +kernel
theorem d_M_lookThrough_149 : decode b_M_lookThrough 149 = .ok (.goto (-79), 3) := by decide +kernel
theorem d_M_lookThrough_152 : decode b_M_lookThrough 152 = .ok (.aload_n 0, 1) := by decide +kernel
theorem d_M_lookThrough_153 : decode b_M_lookThrough 153 = .ok (.getfield 111, 3) := by decide +kernel
theorem d_M_lookThrough_156 : decode b_M_lookThrough 156 = .ok (.ifCond .eq 4, 3) := by decide +kernel
theorem d_M_lookThrough_159 : decode b_M_lookThrough 159 = .ok (.return_, 1) := by decide +kernel
theorem d_M_lookThrough_160 : decode b_M_lookThrough 160 = .ok (.aload_n 0, 1) := by decide +kernel
theorem d_M_lookThrough_161 : decode b_M_lookThrough 161 = .ok (.invokevirtual 188, 3) := by decide +kernel
theorem d_M_lookThrough_164 : decode b_M_lookThrough 164 = .ok (.aload_n 0, 1) := by decide +kernel
theorem d_M_lookThrough_165 : decode b_M_lookThrough 165 = .ok (.aload_n 0, 1) := by decide +kernel
theorem d_M_lookThrough_166 : decode b_M_lookThrough 166 = .ok (.getfield 101, 3) := by decide +kernel
theorem d_M_lookThrough_169 : decode b_M_lookThrough 169 = .ok (.aload_n 0, 1) := by decide +kernel
theorem d_M_lookThrough_170 : decode b_M_lookThrough 170 = .ok (.getfield 92, 3) := by decide +kernel
theorem d_M_lookThrough_173 : decode b_M_lookThrough 173 = .ok (.if_icmp .ge 7, 3) := by decide +kernel
theorem d_M_lookThrough_176 : decode b_M_lookThrough 176 = .ok (.iconst 1, 1) := by decide +kernel
theorem d_M_lookThrough_177 : decode b_M_lookThrough 177 = .ok (.goto 4, 3) := by decide +kernel
theorem d_M_lookThrough_180 : decode b_M_lookThrough 180 = .ok (.iconst 0, 1) := by decide +kernel
theorem d_M_lookThrough_181 : decode b_M_lookThrough 181 = .ok (.putfield 111, 3) := by decide +kernel
theorem d_M_lookThrough_184 : decode b_M_lookThrough 184 = .ok (.return_, 1) := by decide +kernel
def w_M_lookThrough_J152   (post : MPS → Prop) (σ : MPS) : Prop := (((mp_bad σ) = 0 → w_M_skipWhite σ  (fun σ161 => (((mp_size σ161) ≤ (mp_at σ161) → (∀ σ181 : MPS, σ181 = ms_bad σ161 0 → post σ181)) ∧ (¬ (mp_size σ161) ≤ (mp_at σ161) → (∀ σ181 : MPS, σ181 = ms_bad σ161 1 → post σ181))))) ∧ (¬ (mp_bad σ) = 0 → post σ))
def w_M_lookThrough_L70   (post : MPS → Prop) : Nat → MPS → Prop
  | 0, _ => False
  | n70 + 1, σ => (((mp_bad σ) = 0 → (((mp_deep σ) ≤ 0 → w_M_lookThrough_J152 post σ) ∧ (¬ (mp_deep σ) ≤ 0 → (((mp_at σ) < (mp_size σ) → (mXk σ (mp_at σ) ∧ (((mX σ (mp_at σ)) = 60 → (mXk σ ((mp_at σ) + 1) ∧ (((mX σ ((mp_at σ) + 1)) = 47 → w_M_takeEnding σ  (fun σ139 => w_M_lookThrough_L70 post n70 σ139)) ∧ (¬ (mX σ ((mp_at σ) + 1)) = 47 → w_M_takeBeginning σ  (fun σ146 => w_M_lookThrough_L70 post n70 σ146))))) ∧ (¬ (mX σ (mp_at σ)) = 60 → w_M_takeText σ  (fun σ117 => w_M_lookThrough_L70 post n70 σ117))))) ∧ (¬ (mp_at σ) < (mp_size σ) → (∀ σ97 : MPS, σ97 = ms_bad σ 1 → w_M_lookThrough_L70 post n70 σ97)))))) ∧ (¬ (mp_bad σ) = 0 → w_M_lookThrough_J152 post σ))
def w_M_lookThrough_J41   (post : MPS → Prop) (σ : MPS) : Prop := w_M_skipWhite σ  (fun σ42 => (mXk σ42 (mp_at σ42) ∧ (((mX σ42 (mp_at σ42)) = 60 → w_M_takeBeginning σ42  (fun σ67 => (∃ n70, w_M_lookThrough_L70 post n70 σ67))) ∧ (¬ (mX σ42 (mp_at σ42)) = 60 → (∀ σ60 : MPS, σ60 = ms_bad σ42 1 → (∃ n70, w_M_lookThrough_L70 post n70 σ60))))))
def w_M_lookThrough  (σ : MPS)  (post : MPS → Prop) : Prop := (∀ σ2 : MPS, σ2 = ms_at σ 0 → (∀ σ7 : MPS, σ7 = ms_elements σ2 0 → (∀ σ12 : MPS, σ12 = ms_deep σ7 0 → (∀ σ17 : MPS, σ17 = ms_nodes σ12 0 → (∀ σ22 : MPS, σ22 = ms_bad σ17 0 → w_M_isDeclared σ22  (fun r26 => ((r26 = 0 → w_M_lookThrough_J41 post σ22) ∧ (¬ r26 = 0 → (∀ σ38 : MPS, σ38 = ms_at σ22 (nI 38) → w_M_lookThrough_J41 post σ38)))))))))
set_option maxHeartbeats 4000000 in
set_option maxRecDepth 100000 in
theorem c_M_lookThrough (l : Launch) (md : MD) (sz : Nat) (σ : MPS)   (post : MPS → Prop) (hE : w_M_lookThrough σ post) : Met l y_M_lookThrough ws_M_lookThrough { frames := 6, cells := 0, slots := 0, locals := 140 } (va_Pc [.ref (mA md 0)] (gM md σ sz)) (va_Qv post (eM md (va_A (MW md σ) sz)) (va_A (MW md σ) sz)) 0 0 (va_A (MW md σ) sz) := by
  refine Met.ofW (cc := b_M_lookThrough) (maxL := 1) (ret := none) (by decide) rfl ?_
  intro p e s m args below meth c s₁ B hml hv
  obtain ⟨rfl, hsz, hP, hK, hD0⟩ := hv
  have hx := B.exec
  have hb := B.bytes
  have hr := B.returns
  have hta : ∀ w ∈ aW, w.before _ s = true := fun w h => atoms_spec (ws := ws_M_lookThrough) B.pre w (List.mem_cons_of_mem _ h)
  have hown : s.vm.findClass R_M = some m.cls := findClass_of_methodNamed B.named
  have hlocks := B.notSynchronized
  subst hsz
  have hD := hD0.self (sz := s.heap.size)
  generalize hAe : va_A (MW md σ) s.heap.size = A at hD ⊢
  have hA : ∀ q : Nat, s.heap.size ≤ q → A q := fun q h => by rw [← hAe]; exact Or.inr h
  have hS : va_S A s.heap s.heap [] := va_S.rf
  have hP : va_P (mG md) classes (MW md σ) s.heap := hP
  have hl := lv_entry ([.ref (mA md 0)]) (n := 1) (Nat.le_of_ble_eq_true rfl)
  rw [lg_entry_eq]
  generalize (lg_sl ([.ref (mA md 0)]) ++ List.replicate (1 - (lg_sl ([.ref (mA md 0)])).length) Slot.unset).toArray = ls at hl ⊢
  have hl : lv_has ls 1 [(0, .ref (mA md 0))] := hl
  have J152 : ∀ (σ : MPS) (H : Heap) (locs : List Loc) (hP : va_P (mG md) classes (MW md σ) H) (hD : va_D A (MW md σ)) (hS : va_S A s.heap H locs) (ls : Array Slot) (hl : lv_has ls 1 [(0, .ref (mA md 0))]) (hE : w_M_lookThrough_J152 post σ), W p l e (headSpec ws_M_lookThrough { frames := 6, cells := 0, slots := 0, locals := 140 }).room s m ([.ref (mA md 0)] : List Value).toArray below meth c H locs 0 0 (MQ below (va_Qv post (eM md A) A) ([.ref (mA md 0)] : List Value).toArray s 0 0 A) (F0 m 152 ls []) := by
    intro  σ H locs hP hD hS ls hl hE
    unfold w_M_lookThrough_J152 at hE
    refine lv_aload_n hx hb d_M_lookThrough_152 rfl (lv_at hl 0 rfl) ?_
    refine va_get (D := (mG md)) (ci := 7) (v := .int (mp_bad σ)) (C := R_M) (T := F_M) (N := 37) hx hb hta i_M hown hK hP 0 rfl rfl 16 (by decide) (hta _ fl_M_111) (fun _ h9 => h9) rfl d_M_lookThrough_153 ?_
    refine lv_if_eq (tgt := 160) hx hb d_M_lookThrough_156 (by decide) (fun cc156 => ?_) (fun cc156 => ?_)
    · have hE := hE.1 cc156
      refine lv_aload_n hx hb d_M_lookThrough_160 rfl (lv_at hl 0 rfl) ?_
      refine mm_v (b0 := (mA md 0)) (As := []) (rest := []) ⟨hx, hb, hml, hown, hta⟩ (c_M_skipWhite l md _ σ  _ hE) ok_M_188 ⟨Nat.le_of_ble_eq_true rfl, Nat.le_of_ble_eq_true rfl⟩ (va_recv hK hP (ci := 7) (q0 := 0) rfl rfl) hP hK hD hS hA rfl hl.1 rfl (Nat.le_of_ble_eq_true rfl) d_M_lookThrough_161 ⟨Nat.zero_le _, Nat.zero_le _⟩ (fun σ161 H locs hE hP hD hS => ?_)
      refine lv_aload_n hx hb d_M_lookThrough_164 rfl (lv_at hl 0 rfl) ?_
      refine lv_aload_n hx hb d_M_lookThrough_165 rfl (lv_at hl 0 rfl) ?_
      refine va_get (D := (mG md)) (ci := 7) (v := .int (mp_at σ161)) (C := R_M) (T := F_M) (N := 37) hx hb hta i_M hown hK hP 0 rfl rfl 13 (by decide) (hta _ fl_M_101) (fun _ h9 => h9) rfl d_M_lookThrough_166 ?_
      refine lv_aload_n hx hb d_M_lookThrough_169 rfl (lv_at hl 0 rfl) ?_
      refine va_get (D := (mG md)) (ci := 7) (v := .int (mp_size σ161)) (C := R_M) (T := F_M) (N := 37) hx hb hta i_M hown hK hP 0 rfl rfl 7 (by decide) (hta _ fl_M_92) (fun _ h9 => h9) rfl d_M_lookThrough_170 ?_
      refine lv_icmp_ge (tgt := 180) hx hb d_M_lookThrough_173 (by decide) (fun cc173 => ?_) (fun cc173 => ?_)
      · have hE := hE.1 cc173
        refine lv_iconst (v := 0) hx hb d_M_lookThrough_180 (by decide) ?_
        refine va_put (D := (mG md)) (ci := 7) (v := .int 0) (ty := .boolean) (C := R_M) (T := F_M) (N := 37) hx hb hta i_M t_M t_M_ok n_M hown hK hP hD hS 0 rfl rfl 16 (by decide) (hta _ fl_M_111) (fun _ h9 => h9) rfl (by decide +kernel) rfl rfl (Nat.le_of_ble_eq_true rfl) d_M_lookThrough_181 (fun H locs hP hD hS => ?_)
        have hP := mwP_bad hP
        have hD := mwD_bad hD
        have hE := hE _ rfl
        generalize (ms_bad σ161 0 : MPS) = σ181 at hP hD hE
        exact W.vret hx hb hr (fun t ht hW => ⟨⟨σ181, rfl, hE, by rw [ht]; exact hP, va_K.moved hW.alike hK, hD⟩, hS.F ht⟩) hS.2.2 d_M_lookThrough_184
      · have hE := hE.2 cc173
        refine lv_iconst (v := 1) hx hb d_M_lookThrough_176 (by decide) ?_
        refine lv_goto (tgt := 181) hx hb d_M_lookThrough_177 (by decide) ?_
        refine va_put (D := (mG md)) (ci := 7) (v := .int 1) (ty := .boolean) (C := R_M) (T := F_M) (N := 37) hx hb hta i_M t_M t_M_ok n_M hown hK hP hD hS 0 rfl rfl 16 (by decide) (hta _ fl_M_111) (fun _ h9 => h9) rfl (by decide +kernel) rfl rfl (Nat.le_of_ble_eq_true rfl) d_M_lookThrough_181 (fun H locs hP hD hS => ?_)
        have hP := mwP_bad hP
        have hD := mwD_bad hD
        have hE := hE _ rfl
        generalize (ms_bad σ161 1 : MPS) = σ181 at hP hD hE
        exact W.vret hx hb hr (fun t ht hW => ⟨⟨σ181, rfl, hE, by rw [ht]; exact hP, va_K.moved hW.alike hK, hD⟩, hS.F ht⟩) hS.2.2 d_M_lookThrough_184
    · have hE := hE.2 cc156
      exact W.vret hx hb hr (fun t ht hW => ⟨⟨σ, rfl, hE, by rw [ht]; exact hP, va_K.moved hW.alike hK, hD⟩, hS.F ht⟩) hS.2.2 d_M_lookThrough_159
  have L70 : ∀ (n70 : Nat) (σ : MPS) (H : Heap) (locs : List Loc) (hP : va_P (mG md) classes (MW md σ) H) (hD : va_D A (MW md σ)) (hS : va_S A s.heap H locs) (ls : Array Slot) (hl : lv_has ls 1 [(0, .ref (mA md 0))]) (hE : w_M_lookThrough_L70 post n70 σ), W p l e (headSpec ws_M_lookThrough { frames := 6, cells := 0, slots := 0, locals := 140 }).room s m ([.ref (mA md 0)] : List Value).toArray below meth c H locs 0 0 (MQ below (va_Qv post (eM md A) A) ([.ref (mA md 0)] : List Value).toArray s 0 0 A) (F0 m 70 ls []) := by
    intro n70
    induction n70 with
    | zero => intro σ H locs hP hD hS ls hl hE; exact hE.elim
    | succ n70 ih70 =>
      intro σ H locs hP hD hS ls hl hE
      unfold w_M_lookThrough_L70 at hE
      refine lv_aload_n hx hb d_M_lookThrough_70 rfl (lv_at hl 0 rfl) ?_
      refine va_get (D := (mG md)) (ci := 7) (v := .int (mp_bad σ)) (C := R_M) (T := F_M) (N := 37) hx hb hta i_M hown hK hP 0 rfl rfl 16 (by decide) (hta _ fl_M_111) (fun _ h9 => h9) rfl d_M_lookThrough_71 ?_
      refine lv_if_ne (tgt := 152) hx hb d_M_lookThrough_74 (by decide) (fun cc74 => ?_) (fun cc74 => ?_)
      · have hE := hE.2 cc74
        exact J152  σ _ _ hP hD hS _ (lv_sub hl [0] rfl) hE
      · have hE := hE.1 cc74
        refine lv_aload_n hx hb d_M_lookThrough_77 rfl (lv_at hl 0 rfl) ?_
        refine va_get (D := (mG md)) (ci := 7) (v := .int (mp_deep σ)) (C := R_M) (T := F_M) (N := 37) hx hb hta i_M hown hK hP 0 rfl rfl 15 (by decide) (hta _ fl_M_178) (fun _ h9 => h9) rfl d_M_lookThrough_78 ?_
        refine lv_if_le (tgt := 152) hx hb d_M_lookThrough_81 (by decide) (fun cc81 => ?_) (fun cc81 => ?_)
        · have hE := hE.1 cc81
          exact J152  σ _ _ hP hD hS _ (lv_sub hl [0] rfl) hE
        · have hE := hE.2 cc81
          refine lv_aload_n hx hb d_M_lookThrough_84 rfl (lv_at hl 0 rfl) ?_
          refine va_get (D := (mG md)) (ci := 7) (v := .int (mp_at σ)) (C := R_M) (T := F_M) (N := 37) hx hb hta i_M hown hK hP 0 rfl rfl 13 (by decide) (hta _ fl_M_101) (fun _ h9 => h9) rfl d_M_lookThrough_85 ?_
          refine lv_aload_n hx hb d_M_lookThrough_88 rfl (lv_at hl 0 rfl) ?_
          refine va_get (D := (mG md)) (ci := 7) (v := .int (mp_size σ)) (C := R_M) (T := F_M) (N := 37) hx hb hta i_M hown hK hP 0 rfl rfl 7 (by decide) (hta _ fl_M_92) (fun _ h9 => h9) rfl d_M_lookThrough_89 ?_
          refine lv_icmp_lt (tgt := 103) hx hb d_M_lookThrough_92 (by decide) (fun cc92 => ?_) (fun cc92 => ?_)
          · have hE := hE.1 cc92
            refine lv_aload_n hx hb d_M_lookThrough_103 rfl (lv_at hl 0 rfl) ?_
            refine lv_aload_n hx hb d_M_lookThrough_104 rfl (lv_at hl 0 rfl) ?_
            refine va_get (D := (mG md)) (ci := 7) (v := .int (mp_at σ)) (C := R_M) (T := F_M) (N := 37) hx hb hta i_M hown hK hP 0 rfl rfl 13 (by decide) (hta _ fl_M_101) (fun _ h9 => h9) rfl d_M_lookThrough_105 ?_
            obtain ⟨hc108_0, hE⟩ := hE
            refine ro_V (b0 := (mA md 0)) (As := [.int (mp_at σ)]) (rest := []) ⟨hx, hb, hml, hown, hta⟩ (f_M_x l md σ (mp_at σ) hc108_0) ok_M_95 ⟨Nat.le_of_ble_eq_true rfl, Nat.le_of_ble_eq_true rfl⟩ blind_rM (va_recv hK hP (ci := 7) (q0 := 0) rfl rfl) (rM_of hP hK) rfl hl.1 rfl (Nat.le_of_ble_eq_true rfl) d_M_lookThrough_108 ⟨Nat.zero_le _, Nat.zero_le _⟩ (fun r108 hrr => ?_)
            subst hrr
            refine lv_bipush (v := 60) hx hb d_M_lookThrough_111 (by decide) ?_
            refine lv_icmp_eq (tgt := 123) hx hb d_M_lookThrough_113 (by decide) (fun cc113 => ?_) (fun cc113 => ?_)
            · have hE := hE.1 cc113
              refine lv_aload_n hx hb d_M_lookThrough_123 rfl (lv_at hl 0 rfl) ?_
              refine lv_aload_n hx hb d_M_lookThrough_124 rfl (lv_at hl 0 rfl) ?_
              refine va_get (D := (mG md)) (ci := 7) (v := .int (mp_at σ)) (C := R_M) (T := F_M) (N := 37) hx hb hta i_M hown hK hP 0 rfl rfl 13 (by decide) (hta _ fl_M_101) (fun _ h9 => h9) rfl d_M_lookThrough_125 ?_
              refine lv_iconst (v := 1) hx hb d_M_lookThrough_128 (by decide) ?_
              refine lv_iadd hx hb d_M_lookThrough_129 ?_
              obtain ⟨hc130_0, hE⟩ := hE
              refine ro_V (b0 := (mA md 0)) (As := [.int ((mp_at σ) + 1)]) (rest := []) ⟨hx, hb, hml, hown, hta⟩ (f_M_x l md σ ((mp_at σ) + 1) hc130_0) ok_M_95 ⟨Nat.le_of_ble_eq_true rfl, Nat.le_of_ble_eq_true rfl⟩ blind_rM (va_recv hK hP (ci := 7) (q0 := 0) rfl rfl) (rM_of hP hK) rfl hl.1 rfl (Nat.le_of_ble_eq_true rfl) d_M_lookThrough_130 ⟨Nat.zero_le _, Nat.zero_le _⟩ (fun r130 hrr => ?_)
              subst hrr
              refine lv_bipush (v := 47) hx hb d_M_lookThrough_133 (by decide) ?_
              refine lv_icmp_ne (tgt := 145) hx hb d_M_lookThrough_135 (by decide) (fun cc135 => ?_) (fun cc135 => ?_)
              · have hE := hE.2 cc135
                refine lv_aload_n hx hb d_M_lookThrough_145 rfl (lv_at hl 0 rfl) ?_
                refine mm_v (b0 := (mA md 0)) (As := []) (rest := []) ⟨hx, hb, hml, hown, hta⟩ (c_M_takeBeginning l md _ σ  _ hE) ok_M_199 ⟨Nat.le_of_ble_eq_true rfl, Nat.le_of_ble_eq_true rfl⟩ (va_recv hK hP (ci := 7) (q0 := 0) rfl rfl) hP hK hD hS hA rfl hl.1 rfl (Nat.le_of_ble_eq_true rfl) d_M_lookThrough_146 ⟨Nat.zero_le _, Nat.zero_le _⟩ (fun σ146 H locs hE hP hD hS => ?_)
                refine lv_goto (tgt := 70) hx hb d_M_lookThrough_149 (by decide) ?_
                exact ih70 σ146 _ _ hP hD hS _ (lv_sub hl [0] rfl) hE
              · have hE := hE.1 cc135
                refine lv_aload_n hx hb d_M_lookThrough_138 rfl (lv_at hl 0 rfl) ?_
                refine mm_v (b0 := (mA md 0)) (As := []) (rest := []) ⟨hx, hb, hml, hown, hta⟩ (c_M_takeEnding l md _ σ  _ hE) ok_M_205 ⟨Nat.le_of_ble_eq_true rfl, Nat.le_of_ble_eq_true rfl⟩ (va_recv hK hP (ci := 7) (q0 := 0) rfl rfl) hP hK hD hS hA rfl hl.1 rfl (Nat.le_of_ble_eq_true rfl) d_M_lookThrough_139 ⟨Nat.zero_le _, Nat.zero_le _⟩ (fun σ139 H locs hE hP hD hS => ?_)
                refine lv_goto (tgt := 70) hx hb d_M_lookThrough_142 (by decide) ?_
                exact ih70 σ139 _ _ hP hD hS _ (lv_sub hl [0] rfl) hE
            · have hE := hE.2 cc113
              refine lv_aload_n hx hb d_M_lookThrough_116 rfl (lv_at hl 0 rfl) ?_
              refine mm_v (b0 := (mA md 0)) (As := []) (rest := []) ⟨hx, hb, hml, hown, hta⟩ (c_M_takeText l md _ σ  _ hE) ok_M_202 ⟨Nat.le_of_ble_eq_true rfl, Nat.le_of_ble_eq_true rfl⟩ (va_recv hK hP (ci := 7) (q0 := 0) rfl rfl) hP hK hD hS hA rfl hl.1 rfl (Nat.le_of_ble_eq_true rfl) d_M_lookThrough_117 ⟨Nat.zero_le _, Nat.zero_le _⟩ (fun σ117 H locs hE hP hD hS => ?_)
              refine lv_goto (tgt := 70) hx hb d_M_lookThrough_120 (by decide) ?_
              exact ih70 σ117 _ _ hP hD hS _ (lv_sub hl [0] rfl) hE
          · have hE := hE.2 cc92
            refine lv_aload_n hx hb d_M_lookThrough_95 rfl (lv_at hl 0 rfl) ?_
            refine lv_iconst (v := 1) hx hb d_M_lookThrough_96 (by decide) ?_
            refine va_put (D := (mG md)) (ci := 7) (v := .int 1) (ty := .boolean) (C := R_M) (T := F_M) (N := 37) hx hb hta i_M t_M t_M_ok n_M hown hK hP hD hS 0 rfl rfl 16 (by decide) (hta _ fl_M_111) (fun _ h9 => h9) rfl (by decide +kernel) rfl rfl (Nat.le_of_ble_eq_true rfl) d_M_lookThrough_97 (fun H locs hP hD hS => ?_)
            have hP := mwP_bad hP
            have hD := mwD_bad hD
            have hE := hE _ rfl
            generalize (ms_bad σ 1 : MPS) = σ97 at hP hD hE
            refine lv_goto (tgt := 70) hx hb d_M_lookThrough_100 (by decide) ?_
            exact ih70 σ97 _ _ hP hD hS _ (lv_sub hl [0] rfl) hE
  have J41 : ∀ (σ : MPS) (H : Heap) (locs : List Loc) (hP : va_P (mG md) classes (MW md σ) H) (hD : va_D A (MW md σ)) (hS : va_S A s.heap H locs) (ls : Array Slot) (hl : lv_has ls 1 [(0, .ref (mA md 0))]) (hE : w_M_lookThrough_J41 post σ), W p l e (headSpec ws_M_lookThrough { frames := 6, cells := 0, slots := 0, locals := 140 }).room s m ([.ref (mA md 0)] : List Value).toArray below meth c H locs 0 0 (MQ below (va_Qv post (eM md A) A) ([.ref (mA md 0)] : List Value).toArray s 0 0 A) (F0 m 41 ls []) := by
    intro  σ H locs hP hD hS ls hl hE
    unfold w_M_lookThrough_J41 at hE
    refine lv_aload_n hx hb d_M_lookThrough_41 rfl (lv_at hl 0 rfl) ?_
    refine mm_v (b0 := (mA md 0)) (As := []) (rest := []) ⟨hx, hb, hml, hown, hta⟩ (c_M_skipWhite l md _ σ  _ hE) ok_M_188 ⟨Nat.le_of_ble_eq_true rfl, Nat.le_of_ble_eq_true rfl⟩ (va_recv hK hP (ci := 7) (q0 := 0) rfl rfl) hP hK hD hS hA rfl hl.1 rfl (Nat.le_of_ble_eq_true rfl) d_M_lookThrough_42 ⟨Nat.zero_le _, Nat.zero_le _⟩ (fun σ42 H locs hE hP hD hS => ?_)
    refine lv_aload_n hx hb d_M_lookThrough_45 rfl (lv_at hl 0 rfl) ?_
    refine lv_aload_n hx hb d_M_lookThrough_46 rfl (lv_at hl 0 rfl) ?_
    refine va_get (D := (mG md)) (ci := 7) (v := .int (mp_at σ42)) (C := R_M) (T := F_M) (N := 37) hx hb hta i_M hown hK hP 0 rfl rfl 13 (by decide) (hta _ fl_M_101) (fun _ h9 => h9) rfl d_M_lookThrough_47 ?_
    obtain ⟨hc50_0, hE⟩ := hE
    refine ro_V (b0 := (mA md 0)) (As := [.int (mp_at σ42)]) (rest := []) ⟨hx, hb, hml, hown, hta⟩ (f_M_x l md σ42 (mp_at σ42) hc50_0) ok_M_95 ⟨Nat.le_of_ble_eq_true rfl, Nat.le_of_ble_eq_true rfl⟩ blind_rM (va_recv hK hP (ci := 7) (q0 := 0) rfl rfl) (rM_of hP hK) rfl hl.1 rfl (Nat.le_of_ble_eq_true rfl) d_M_lookThrough_50 ⟨Nat.zero_le _, Nat.zero_le _⟩ (fun r50 hrr => ?_)
    subst hrr
    refine lv_bipush (v := 60) hx hb d_M_lookThrough_53 (by decide) ?_
    refine lv_icmp_eq (tgt := 66) hx hb d_M_lookThrough_55 (by decide) (fun cc55 => ?_) (fun cc55 => ?_)
    · have hE := hE.1 cc55
      refine lv_aload_n hx hb d_M_lookThrough_66 rfl (lv_at hl 0 rfl) ?_
      refine mm_v (b0 := (mA md 0)) (As := []) (rest := []) ⟨hx, hb, hml, hown, hta⟩ (c_M_takeBeginning l md _ σ42  _ hE) ok_M_199 ⟨Nat.le_of_ble_eq_true rfl, Nat.le_of_ble_eq_true rfl⟩ (va_recv hK hP (ci := 7) (q0 := 0) rfl rfl) hP hK hD hS hA rfl hl.1 rfl (Nat.le_of_ble_eq_true rfl) d_M_lookThrough_67 ⟨Nat.zero_le _, Nat.zero_le _⟩ (fun σ67 H locs hE hP hD hS => ?_)
      obtain ⟨n70, hE⟩ := hE
      exact L70  n70 σ67 _ _ hP hD hS _ (lv_sub hl [0] rfl) hE
    · have hE := hE.2 cc55
      refine lv_aload_n hx hb d_M_lookThrough_58 rfl (lv_at hl 0 rfl) ?_
      refine lv_iconst (v := 1) hx hb d_M_lookThrough_59 (by decide) ?_
      refine va_put (D := (mG md)) (ci := 7) (v := .int 1) (ty := .boolean) (C := R_M) (T := F_M) (N := 37) hx hb hta i_M t_M t_M_ok n_M hown hK hP hD hS 0 rfl rfl 16 (by decide) (hta _ fl_M_111) (fun _ h9 => h9) rfl (by decide +kernel) rfl rfl (Nat.le_of_ble_eq_true rfl) d_M_lookThrough_60 (fun H locs hP hD hS => ?_)
      have hP := mwP_bad hP
      have hD := mwD_bad hD
      have hE := hE _ rfl
      generalize (ms_bad σ42 1 : MPS) = σ60 at hP hD hE
      refine lv_goto (tgt := 70) hx hb d_M_lookThrough_63 (by decide) ?_
      obtain ⟨n70, hE⟩ := hE
      exact L70  n70 σ60 _ _ hP hD hS _ (lv_sub hl [0] rfl) hE
  unfold w_M_lookThrough at hE
  refine lv_aload_n hx hb d_M_lookThrough_0 rfl (lv_at hl 0 rfl) ?_
  refine lv_iconst (v := 0) hx hb d_M_lookThrough_1 (by decide) ?_
  refine va_put (D := (mG md)) (ci := 7) (v := .int 0) (ty := .int) (C := R_M) (T := F_M) (N := 37) hx hb hta i_M t_M t_M_ok n_M hown hK hP hD hS 0 rfl rfl 13 (by decide) (hta _ fl_M_101) (fun _ h9 => h9) rfl (by decide +kernel) rfl rfl (Nat.le_of_ble_eq_true rfl) d_M_lookThrough_2 (fun H locs hP hD hS => ?_)
  have hP := mwP_at hP
  have hD := mwD_at hD
  have hE := hE _ rfl
  generalize (ms_at σ 0 : MPS) = σ2 at hP hD hE
  refine lv_aload_n hx hb d_M_lookThrough_5 rfl (lv_at hl 0 rfl) ?_
  refine lv_iconst (v := 0) hx hb d_M_lookThrough_6 (by decide) ?_
  refine va_put (D := (mG md)) (ci := 7) (v := .int 0) (ty := .int) (C := R_M) (T := F_M) (N := 37) hx hb hta i_M t_M t_M_ok n_M hown hK hP hD hS 0 rfl rfl 14 (by decide) (hta _ fl_M_181) (fun _ h9 => h9) rfl (by decide +kernel) rfl rfl (Nat.le_of_ble_eq_true rfl) d_M_lookThrough_7 (fun H locs hP hD hS => ?_)
  have hP := mwP_elements hP
  have hD := mwD_elements hD
  have hE := hE _ rfl
  generalize (ms_elements σ2 0 : MPS) = σ7 at hP hD hE
  refine lv_aload_n hx hb d_M_lookThrough_10 rfl (lv_at hl 0 rfl) ?_
  refine lv_iconst (v := 0) hx hb d_M_lookThrough_11 (by decide) ?_
  refine va_put (D := (mG md)) (ci := 7) (v := .int 0) (ty := .int) (C := R_M) (T := F_M) (N := 37) hx hb hta i_M t_M t_M_ok n_M hown hK hP hD hS 0 rfl rfl 15 (by decide) (hta _ fl_M_178) (fun _ h9 => h9) rfl (by decide +kernel) rfl rfl (Nat.le_of_ble_eq_true rfl) d_M_lookThrough_12 (fun H locs hP hD hS => ?_)
  have hP := mwP_deep hP
  have hD := mwD_deep hD
  have hE := hE _ rfl
  generalize (ms_deep σ7 0 : MPS) = σ12 at hP hD hE
  refine lv_aload_n hx hb d_M_lookThrough_15 rfl (lv_at hl 0 rfl) ?_
  refine lv_iconst (v := 0) hx hb d_M_lookThrough_16 (by decide) ?_
  refine va_put (D := (mG md)) (ci := 7) (v := .int 0) (ty := .int) (C := R_M) (T := F_M) (N := 37) hx hb hta i_M t_M t_M_ok n_M hown hK hP hD hS 0 rfl rfl 32 (by decide) (hta _ fl_M_175) (fun _ h9 => h9) rfl (by decide +kernel) rfl rfl (Nat.le_of_ble_eq_true rfl) d_M_lookThrough_17 (fun H locs hP hD hS => ?_)
  have hP := mwP_nodes hP
  have hD := mwD_nodes hD
  have hE := hE _ rfl
  generalize (ms_nodes σ12 0 : MPS) = σ17 at hP hD hE
  refine lv_aload_n hx hb d_M_lookThrough_20 rfl (lv_at hl 0 rfl) ?_
  refine lv_iconst (v := 0) hx hb d_M_lookThrough_21 (by decide) ?_
  refine va_put (D := (mG md)) (ci := 7) (v := .int 0) (ty := .boolean) (C := R_M) (T := F_M) (N := 37) hx hb hta i_M t_M t_M_ok n_M hown hK hP hD hS 0 rfl rfl 16 (by decide) (hta _ fl_M_111) (fun _ h9 => h9) rfl (by decide +kernel) rfl rfl (Nat.le_of_ble_eq_true rfl) d_M_lookThrough_22 (fun H locs hP hD hS => ?_)
  have hP := mwP_bad hP
  have hD := mwD_bad hD
  have hE := hE _ rfl
  generalize (ms_bad σ17 0 : MPS) = σ22 at hP hD hE
  refine lv_aload_n hx hb d_M_lookThrough_25 rfl (lv_at hl 0 rfl) ?_
  refine ro_V (b0 := (mA md 0)) (As := []) (rest := []) ⟨hx, hb, hml, hown, hta⟩ (c_M_isDeclared l md σ22   _ hE) ok_M_195 ⟨Nat.le_of_ble_eq_true rfl, Nat.le_of_ble_eq_true rfl⟩ blind_rM (va_recv hK hP (ci := 7) (q0 := 0) rfl rfl) (rM_of hP hK) rfl hl.1 rfl (Nat.le_of_ble_eq_true rfl) d_M_lookThrough_26 ⟨Nat.zero_le _, Nat.zero_le _⟩ (fun r26 hE => ?_)
  refine lv_if_eq (tgt := 41) hx hb d_M_lookThrough_29 (by decide) (fun cc29 => ?_) (fun cc29 => ?_)
  · have hE := hE.1 cc29
    exact J41  σ22 _ _ hP hD hS _ (lv_sub hl [0] rfl) hE
  · have hE := hE.2 cc29
    refine lv_aload_n hx hb d_M_lookThrough_32 rfl (lv_at hl 0 rfl) ?_
    refine lv_aload_n hx hb d_M_lookThrough_33 rfl (lv_at hl 0 rfl) ?_
    refine va_get (D := (mG md)) (ci := 7) (v := .ref (mA md 5)) (C := R_M) (T := F_M) (N := 37) hx hb hta i_M hown hK hP 0 rfl rfl 5 (by decide) (hta _ fl_M_22) (fun _ h9 => h9) rfl d_M_lookThrough_34 ?_
    refine va_alen (D := (mG md)) (v := nI 38) hx hb hK hP 5 1 rfl rfl rfl d_M_lookThrough_37 ?_
    refine va_put (D := (mG md)) (ci := 7) (v := .int (nI 38)) (ty := .int) (C := R_M) (T := F_M) (N := 37) hx hb hta i_M t_M t_M_ok n_M hown hK hP hD hS 0 rfl rfl 13 (by decide) (hta _ fl_M_101) (fun _ h9 => h9) rfl (by decide +kernel) rfl rfl (Nat.le_of_ble_eq_true rfl) d_M_lookThrough_38 (fun H locs hP hD hS => ?_)
    have hP := mwP_at hP
    have hD := mwD_at hD
    have hE := hE _ rfl
    generalize (ms_at σ22 (nI 38) : MPS) = σ38 at hP hD hE
    exact J41  σ38 _ _ hP hD hS _ (lv_sub hl [0] rfl) hE
theorem fl_M_208 : Cond.fieldLink "PlainPagesModel" 208 "PlainPagesModel" "fault" "I" ∈ aW := aW_in 913 (by decide +kernel) rfl
theorem fl_M_25 : Cond.fieldLink "PlainPagesModel" 25 "PlainPagesModel" "faultAt" "I" ∈ aW := aW_in 914 (by decide +kernel) rfl
theorem d_M_tell_0 : decode b_M_tell 0 = .ok (.aload_n 0, 1) := by decide +kernel
theorem d_M_tell_1 : decode b_M_tell 1 = .ok (.iload_n 1, 1) := by decide +kernel
theorem d_M_tell_2 : decode b_M_tell 2 = .ok (.putfield 208, 3) := by decide +kernel
theorem d_M_tell_5 : decode b_M_tell 5 = .ok (.aload_n 0, 1) := by decide +kernel
theorem d_M_tell_6 : decode b_M_tell 6 = .ok (.iload_n 2, 1) := by decide +kernel
theorem d_M_tell_7 : decode b_M_tell 7 = .ok (.putfield 25, 3) := by decide +kernel
theorem d_M_tell_10 : decode b_M_tell 10 = .ok (.return_, 1) := by decide +kernel
def w_M_tell  (σ : MPS) (x0 : Int32) (x1 : Int32) (post : MPS → Prop) : Prop := (∀ σ2 : MPS, σ2 = ms_fault σ x0 → (∀ σ7 : MPS, σ7 = ms_faultAt σ2 x1 → post σ7))
set_option maxHeartbeats 4000000 in
set_option maxRecDepth 100000 in
theorem c_M_tell (l : Launch) (md : MD) (sz : Nat) (σ : MPS) (x0 : Int32) (x1 : Int32)  (post : MPS → Prop) (hE : w_M_tell σ x0 x1 post) : Met l y_M_tell ws_M_tell { frames := 0, cells := 0, slots := 0, locals := 0 } (va_Pc [.ref (mA md 0), .int x0, .int x1] (gM md σ sz)) (va_Qv post (eM md (va_A (MW md σ) sz)) (va_A (MW md σ) sz)) 0 0 (va_A (MW md σ) sz) := by
  refine Met.ofW (cc := b_M_tell) (maxL := 3) (ret := none) (by decide) rfl ?_
  intro p e s m args below meth c s₁ B hml hv
  obtain ⟨rfl, hsz, hP, hK, hD0⟩ := hv
  have hx := B.exec
  have hb := B.bytes
  have hr := B.returns
  have hta : ∀ w ∈ aW, w.before _ s = true := fun w h => atoms_spec (ws := ws_M_tell) B.pre w (List.mem_cons_of_mem _ h)
  have hown : s.vm.findClass R_M = some m.cls := findClass_of_methodNamed B.named
  have hlocks := B.notSynchronized
  subst hsz
  have hD := hD0.self (sz := s.heap.size)
  generalize hAe : va_A (MW md σ) s.heap.size = A at hD ⊢
  have hA : ∀ q : Nat, s.heap.size ≤ q → A q := fun q h => by rw [← hAe]; exact Or.inr h
  have hS : va_S A s.heap s.heap [] := va_S.rf
  have hP : va_P (mG md) classes (MW md σ) s.heap := hP
  have hl := lv_entry ([.ref (mA md 0), .int x0, .int x1]) (n := 3) (Nat.le_of_ble_eq_true rfl)
  rw [lg_entry_eq]
  generalize (lg_sl ([.ref (mA md 0), .int x0, .int x1]) ++ List.replicate (3 - (lg_sl ([.ref (mA md 0), .int x0, .int x1])).length) Slot.unset).toArray = ls at hl ⊢
  have hl : lv_has ls 3 [(0, .ref (mA md 0)), (1, .int x0), (2, .int x1)] := hl
  unfold w_M_tell at hE
  refine lv_aload_n hx hb d_M_tell_0 rfl (lv_at hl 0 rfl) ?_
  refine lv_iload_n hx hb d_M_tell_1 rfl (lv_at hl 1 rfl) ?_
  refine va_put (D := (mG md)) (ci := 7) (v := .int x0) (ty := .int) (C := R_M) (T := F_M) (N := 37) hx hb hta i_M t_M t_M_ok n_M hown hK hP hD hS 0 rfl rfl 9 (by decide) (hta _ fl_M_208) (fun _ h9 => h9) rfl (by decide +kernel) rfl rfl (Nat.le_of_ble_eq_true rfl) d_M_tell_2 (fun H locs hP hD hS => ?_)
  have hP := mwP_fault hP
  have hD := mwD_fault hD
  have hE := hE _ rfl
  generalize (ms_fault σ x0 : MPS) = σ2 at hP hD hE
  refine lv_aload_n hx hb d_M_tell_5 rfl (lv_at hl 0 rfl) ?_
  refine lv_iload_n hx hb d_M_tell_6 rfl (lv_at hl 2 rfl) ?_
  refine va_put (D := (mG md)) (ci := 7) (v := .int x1) (ty := .int) (C := R_M) (T := F_M) (N := 37) hx hb hta i_M t_M t_M_ok n_M hown hK hP hD hS 0 rfl rfl 10 (by decide) (hta _ fl_M_25) (fun _ h9 => h9) rfl (by decide +kernel) rfl rfl (Nat.le_of_ble_eq_true rfl) d_M_tell_7 (fun H locs hP hD hS => ?_)
  have hP := mwP_faultAt hP
  have hD := mwD_faultAt hD
  have hE := hE _ rfl
  generalize (ms_faultAt σ2 x1 : MPS) = σ7 at hP hD hE
  exact W.vret hx hb hr (fun t ht hW => ⟨⟨σ7, rfl, hE, by rw [ht]; exact hP, va_K.moved hW.alike hK, hD⟩, hS.F ht⟩) hS.2.2 d_M_tell_10
