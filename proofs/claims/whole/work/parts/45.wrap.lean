/-- the world at the entry of one of the law's wrappers -/
def lW (w : WD) (aL : Nat) (cL : ClassId) (f : Nat → Int64) (σ : PPS) (sz : Nat) (U : State) : Prop := U.heap.size = sz ∧ va_P (wG w) classes (LW w aL cL f σ) U.heap ∧ va_K (wG w) classes (lTy w cL) U ∧ va_D (fun _ => True) (LW w aL cL f σ) ∧ CST w (va_A (LW w aL cL f σ) sz) U U.heap ∧ EX (va_A (LW w aL cL f σ) sz) U U.heap
def lB (w : WD) (aL : Nat) (cL : ClassId) (A : Nat → Prop) (u : PPS × (Nat → Int64)) (t : State) : Prop := va_P (wG w) classes (LW w aL cL u.2 u.1) t.heap ∧ va_K (wG w) classes (lTy w cL) t ∧ va_D A (LW w aL cL u.2 u.1)
theorem blind_lW {w : WD} {aL : Nat} {cL : ClassId} {f : Nat → Int64} {σ : PPS} {sz : Nat} : Blind (lW w aL cL f σ sz) := fun a U g mk q => ⟨q.1, q.2.1, va_K.moved (u := U) (U := U.calling g mk a) (Vm.Alike.refl U.vm) q.2.2.1, q.2.2.2.1, q.2.2.2.2.1.blind, q.2.2.2.2.2.blind⟩
theorem l_tab {p : Program} {l : Launch} {y : MethodName} {S : Spec} {cc : ByteArray} {maxL : Nat} {ret : Option FieldType} {e : Env} {s : State} {m : MethodId} {args : Array Value} {below : List Frame} {meth : Method} {c : Code} {s₁ : State} {hh : List (Nat × Nat × Nat × Nat)} {b : ByteArray} {n : Nat} {r : Option FieldType}
    (B : BodyLoose p l y S cc maxL ret e s m args below meth c s₁) (h : (Cond.codeWith y b n r hh).before args s = true) : c.exceptionTable.toList = tableOf hh := by
  have X := Stand.of_body B
  obtain ⟨m', meth', c', g0, g1, g2, -, -, g5, -⟩ := Cond.codeWith_spec h
  cases B.named.symm.trans g0
  cases X.method.symm.trans g1
  cases X.code.symm.trans g2
  rw [← table_eq c.exceptionTable.toList, g5]
theorem ok_L_7 : okV "PlainPagesLaw" 7 R_X y_X_read b_X_read 2 (some .int) 0 := ⟨aW_in 369 (by decide +kernel) rfl, aW_in 370 (by decide +kernel) rfl, aW_in 371 (by decide +kernel) rfl, aW_in 84 (by decide +kernel) rfl, cd_X_read, rfl, by decide +kernel, by decide +kernel, by decide +kernel⟩
theorem cl_L_13 : Cond.classLink "PlainPagesLaw" 13 "java/lang/IllegalArgumentException" ∈ aW := aW_in 368 (by decide +kernel) rfl
def z_L_read : Cond := .codeWith y_L_read method_3_code 3 (some .int) [(0, 8, 11, 13)]
theorem d_L_read_0 : decode method_3_code 0 = .ok (.aload_n 1, 1) := by decide +kernel
theorem d_L_read_1 : decode method_3_code 1 = .ok (.iconst 0, 1) := by decide +kernel
theorem d_L_read_2 : decode method_3_code 2 = .ok (.aload_n 0, 1) := by decide +kernel
theorem d_L_read_3 : decode method_3_code 3 = .ok (.invokevirtual 7, 3) := by decide +kernel
theorem d_L_read_6 : decode method_3_code 6 = .ok (.i2l, 1) := by decide +kernel
theorem d_L_read_7 : decode method_3_code 7 = .ok (.lastore, 1) := by decide +kernel
theorem d_L_read_8 : decode method_3_code 8 = .ok (.goto 6, 3) := by decide +kernel
theorem d_L_read_11 : decode method_3_code 11 = .ok (.astore_n 2, 1) := by decide +kernel
theorem d_L_read_12 : decode method_3_code 12 = .ok (.iconst 1, 1) := by decide +kernel
theorem d_L_read_13 : decode method_3_code 13 = .ok (.ireturn, 1) := by decide +kernel
theorem d_L_read_14 : decode method_3_code 14 = .ok (.iconst 0, 1) := by decide +kernel
theorem d_L_read_15 : decode method_3_code 15 = .ok (.ireturn, 1) := by decide +kernel
def w_L_read (σ : PPS) (f : Nat → Int64) (post : Int32 → PPS → (Nat → Int64) → Prop) : Prop := w_X_read σ (fun r u => post 0 u (vp_updL f (0 : Int32).toNatClampNeg r.toInt64), fun u => post 1 u f)
set_option maxHeartbeats 4000000 in
set_option maxRecDepth 100000 in
theorem c_L_read (l : Launch) (w : WD) (aL : Nat) (cL : ClassId) (sz : Nat) (σ : PPS) (f : Nat → Int64) (post : Int32 → PPS → (Nat → Int64) → Prop) (hI : inv σ) (hls : l.stackTraces = false) (hE : w_L_read σ f post) : Met l y_L_read (z_L_read :: aW) { frames := 10, cells := 1, slots := 6, locals := 219 } (va_Pc [.ref (wA w 0), .ref aL] (lW w aL cL f σ sz)) (va_Qi (fun r u => post r u.1 u.2 ∧ inv u.1) (lB w aL cL (va_A (LW w aL cL f σ) sz)) (va_A (LW w aL cL f σ) sz)) 1 6 (va_A (LW w aL cL f σ) sz) := by
  refine va_MetW (cc := method_3_code) (maxL := 3) (ret := some .int) (hh := [(0, 8, 11, 13)]) (by decide) rfl ?_
  intro p e s m args below meth c s₁ B hml hv
  obtain ⟨rfl, hsz, hP, hK, hD0, hC, hX⟩ := hv
  have hx := B.exec
  have hb := B.bytes
  have hr := B.returns
  have hta : ∀ w ∈ aW, w.before _ s = true := fun w h => atoms_spec (ws := z_L_read :: aW) B.pre w (List.mem_cons_of_mem _ h)
  have hown : s.vm.findClass R_L = some m.cls := findClass_of_methodNamed B.named
  have hlocks := B.notSynchronized
  have htab : c.exceptionTable.toList = [⟨0, 8, 11, 13⟩] := l_tab B (atoms_spec (ws := z_L_read :: aW) B.pre _ List.mem_cons_self)
  subst hsz
  have hD := hD0.self (sz := s.heap.size)
  generalize hAe : va_A (LW w aL cL f σ) s.heap.size = A at hD hC hX ⊢
  have hA : ∀ q : Nat, s.heap.size ≤ q → A q := fun q h => by rw [← hAe]; exact Or.inr h
  have hS : va_S A s.heap s.heap [] := va_S.rf
  have hl := lv_entry ([.ref (wA w 0), .ref aL]) (n := 3) (Nat.le_of_ble_eq_true rfl)
  rw [lg_entry_eq]
  generalize (lg_sl ([.ref (wA w 0), .ref aL]) ++ List.replicate (3 - (lg_sl ([.ref (wA w 0), .ref aL])).length) Slot.unset).toArray = ls at hl ⊢
  have hl : lv_has ls 3 [(0, .ref (wA w 0)), (1, .ref aL)] := hl
  unfold w_L_read at hE
  refine lv_aload_n hx hb d_L_read_0 rfl (lv_at hl 1 rfl) ?_
  refine lv_iconst (v := 0) hx hb d_L_read_1 (by decide) ?_
  refine lv_aload_n hx hb d_L_read_2 rfl (lv_at hl 0 rfl) ?_
  refine x_call (b0 := wA w 0) (As := []) (rest := [.int 0, .ref aL]) (x0 := ⟨0, 8, 11, 13⟩) ⟨hx, hb, hml, hown, hta⟩ (c_X_read l w _ σ _ hI hls hE) ok_L_7 ⟨Nat.le_of_ble_eq_true rfl, Nat.le_of_ble_eq_true rfl⟩ (va_recv (LW.K hK) (LW.P hP) (ci := 0) (q0 := 0) rfl rfl) hP hK hD hS hA hC hX rfl hl.1 rfl (Nat.le_of_ble_eq_true rfl) d_L_read_3 ⟨Nat.le_of_ble_eq_true rfl, Nat.le_of_ble_eq_true rfl⟩ htab (by decide) (by decide) (hta _ cl_L_13) (hX.1 _ (by decide)) (fun r σ1 H locs hE hP hD hS => ?_) (fun x σ1 H locs hE hP hD hS => ?_)
  · obtain ⟨hE, hI⟩ := hE
    refine lv_i2l (v := r.toInt64) hx hb d_L_read_6 rfl ?_
    refine va_last (x := r.toInt64) hx hb hK hP hD hS 0 1 rfl rfl (i := 0) (by unfold vp_in; decide) d_L_read_7 (fun H locs hP hD hS => ?_)
    have hP : va_P (wG w) classes (LW w aL cL (vp_updL f (0 : Int32).toNatClampNeg r.toInt64) σ1) H := hP
    have hD : va_D A (LW w aL cL (vp_updL f (0 : Int32).toNatClampNeg r.toInt64) σ1) := hD
    refine lv_goto (tgt := 14) hx hb d_L_read_8 (by decide) ?_
    refine lv_iconst (v := 0) hx hb d_L_read_14 (by decide) ?_
    exact W.iret (v := 0) hx hb hr (fun t ht hW => ⟨⟨_, (σ1, (vp_updL f (0 : Int32).toNatClampNeg r.toInt64)), rfl, ⟨hE, hI⟩, by rw [ht]; exact hP, va_K.moved hW.alike hK, hD⟩, hS.F ht⟩) hS.2.2 d_L_read_15
  · obtain ⟨hE, hI⟩ := hE
    refine lv_astore_n (lv' := [(2, .ref x), (0, .ref (wA w 0)), (1, .ref aL)]) hx hb d_L_read_11 rfl hl (by decide) rfl (fun ls hl => ?_)
    refine lv_iconst (v := 1) hx hb d_L_read_12 (by decide) ?_
    exact W.iret (v := 1) hx hb hr (fun t ht hW => ⟨⟨_, (σ1, f), rfl, ⟨hE, hI⟩, by rw [ht]; exact hP, va_K.moved hW.alike hK, hD⟩, hS.F ht⟩) hS.2.2 d_L_read_13
theorem ok_L_15 : okV "PlainPagesLaw" 15 R_X y_X_isPage b_X_isPage 1 (some .boolean) 0 := ⟨aW_in 688 (by decide +kernel) rfl, aW_in 689 (by decide +kernel) rfl, aW_in 690 (by decide +kernel) rfl, aW_in 84 (by decide +kernel) rfl, cd_X_isPage, rfl, by decide +kernel, by decide +kernel, by decide +kernel⟩
theorem cl_L_19 : Cond.classLink "PlainPagesLaw" 19 "java/lang/IllegalStateException" ∈ aW := aW_in 687 (by decide +kernel) rfl
def z_L_isPage : Cond := .codeWith y_L_isPage method_4_code 3 (some .int) [(0, 15, 18, 19)]
theorem d_L_isPage_0 : decode method_4_code 0 = .ok (.aload_n 1, 1) := by decide +kernel
theorem d_L_isPage_1 : decode method_4_code 1 = .ok (.iconst 0, 1) := by decide +kernel
theorem d_L_isPage_2 : decode method_4_code 2 = .ok (.aload_n 0, 1) := by decide +kernel
theorem d_L_isPage_3 : decode method_4_code 3 = .ok (.invokevirtual 15, 3) := by decide +kernel
theorem d_L_isPage_6 : decode method_4_code 6 = .ok (.ifCond .eq 7, 3) := by decide +kernel
theorem d_L_isPage_9 : decode method_4_code 9 = .ok (.lconst 1, 1) := by decide +kernel
theorem d_L_isPage_10 : decode method_4_code 10 = .ok (.goto 4, 3) := by decide +kernel
theorem d_L_isPage_13 : decode method_4_code 13 = .ok (.lconst 0, 1) := by decide +kernel
theorem d_L_isPage_14 : decode method_4_code 14 = .ok (.lastore, 1) := by decide +kernel
theorem d_L_isPage_15 : decode method_4_code 15 = .ok (.goto 6, 3) := by decide +kernel
theorem d_L_isPage_18 : decode method_4_code 18 = .ok (.astore_n 2, 1) := by decide +kernel
theorem d_L_isPage_19 : decode method_4_code 19 = .ok (.iconst 1, 1) := by decide +kernel
theorem d_L_isPage_20 : decode method_4_code 20 = .ok (.ireturn, 1) := by decide +kernel
theorem d_L_isPage_21 : decode method_4_code 21 = .ok (.iconst 0, 1) := by decide +kernel
theorem d_L_isPage_22 : decode method_4_code 22 = .ok (.ireturn, 1) := by decide +kernel
def w_L_isPage (σ : PPS) (f : Nat → Int64) (post : Int32 → PPS → (Nat → Int64) → Prop) : Prop := w_X_isPage σ (fun r u => (r = 0 → post 0 u (vp_updL f (0 : Int32).toNatClampNeg 0)) ∧ (¬ r = 0 → post 0 u (vp_updL f (0 : Int32).toNatClampNeg 1)), fun u => post 1 u f)
set_option maxHeartbeats 4000000 in
set_option maxRecDepth 100000 in
theorem c_L_isPage (l : Launch) (w : WD) (aL : Nat) (cL : ClassId) (sz : Nat) (σ : PPS) (f : Nat → Int64) (post : Int32 → PPS → (Nat → Int64) → Prop) (hI : inv σ) (hls : l.stackTraces = false) (hE : w_L_isPage σ f post) : Met l y_L_isPage (z_L_isPage :: aW) { frames := 10, cells := 1, slots := 6, locals := 221 } (va_Pc [.ref (wA w 0), .ref aL] (lW w aL cL f σ sz)) (va_Qi (fun r u => post r u.1 u.2 ∧ inv u.1) (lB w aL cL (va_A (LW w aL cL f σ) sz)) (va_A (LW w aL cL f σ) sz)) 1 6 (va_A (LW w aL cL f σ) sz) := by
  refine va_MetW (cc := method_4_code) (maxL := 3) (ret := some .int) (hh := [(0, 15, 18, 19)]) (by decide) rfl ?_
  intro p e s m args below meth c s₁ B hml hv
  obtain ⟨rfl, hsz, hP, hK, hD0, hC, hX⟩ := hv
  have hx := B.exec
  have hb := B.bytes
  have hr := B.returns
  have hta : ∀ w ∈ aW, w.before _ s = true := fun w h => atoms_spec (ws := z_L_isPage :: aW) B.pre w (List.mem_cons_of_mem _ h)
  have hown : s.vm.findClass R_L = some m.cls := findClass_of_methodNamed B.named
  have hlocks := B.notSynchronized
  have htab : c.exceptionTable.toList = [⟨0, 15, 18, 19⟩] := l_tab B (atoms_spec (ws := z_L_isPage :: aW) B.pre _ List.mem_cons_self)
  subst hsz
  have hD := hD0.self (sz := s.heap.size)
  generalize hAe : va_A (LW w aL cL f σ) s.heap.size = A at hD hC hX ⊢
  have hA : ∀ q : Nat, s.heap.size ≤ q → A q := fun q h => by rw [← hAe]; exact Or.inr h
  have hS : va_S A s.heap s.heap [] := va_S.rf
  have hl := lv_entry ([.ref (wA w 0), .ref aL]) (n := 3) (Nat.le_of_ble_eq_true rfl)
  rw [lg_entry_eq]
  generalize (lg_sl ([.ref (wA w 0), .ref aL]) ++ List.replicate (3 - (lg_sl ([.ref (wA w 0), .ref aL])).length) Slot.unset).toArray = ls at hl ⊢
  have hl : lv_has ls 3 [(0, .ref (wA w 0)), (1, .ref aL)] := hl
  unfold w_L_isPage at hE
  refine lv_aload_n hx hb d_L_isPage_0 rfl (lv_at hl 1 rfl) ?_
  refine lv_iconst (v := 0) hx hb d_L_isPage_1 (by decide) ?_
  refine lv_aload_n hx hb d_L_isPage_2 rfl (lv_at hl 0 rfl) ?_
  refine x_call (b0 := wA w 0) (As := []) (rest := [.int 0, .ref aL]) (x0 := ⟨0, 15, 18, 19⟩) ⟨hx, hb, hml, hown, hta⟩ (c_X_isPage l w _ σ _ hI hls hE) ok_L_15 ⟨Nat.le_of_ble_eq_true rfl, Nat.le_of_ble_eq_true rfl⟩ (va_recv (LW.K hK) (LW.P hP) (ci := 0) (q0 := 0) rfl rfl) hP hK hD hS hA hC hX rfl hl.1 rfl (Nat.le_of_ble_eq_true rfl) d_L_isPage_3 ⟨Nat.le_of_ble_eq_true rfl, Nat.le_of_ble_eq_true rfl⟩ htab (by decide) (by decide) (hta _ cl_L_19) (hX.1 _ (by decide)) (fun r σ1 H locs hE hP hD hS => ?_) (fun x σ1 H locs hE hP hD hS => ?_)
  · obtain ⟨hE, hI⟩ := hE
    obtain ⟨hE1, hE2⟩ := hE
    refine lv_if_eq (tgt := 13) hx hb d_L_isPage_6 (by decide) (fun h => ?_) (fun h => ?_)
    · have hE := hE1 h
      refine lv_lconst (v := 0) hx hb d_L_isPage_13 (by decide) ?_
      refine va_last (x := 0) hx hb hK hP hD hS 0 1 rfl rfl (i := 0) (by unfold vp_in; decide) d_L_isPage_14 (fun H locs hP hD hS => ?_)
      have hP : va_P (wG w) classes (LW w aL cL (vp_updL f (0 : Int32).toNatClampNeg 0) σ1) H := hP
      have hD : va_D A (LW w aL cL (vp_updL f (0 : Int32).toNatClampNeg 0) σ1) := hD
      refine lv_goto (tgt := 21) hx hb d_L_isPage_15 (by decide) ?_
      refine lv_iconst (v := 0) hx hb d_L_isPage_21 (by decide) ?_
      exact W.iret (v := 0) hx hb hr (fun t ht hW => ⟨⟨_, (σ1, (vp_updL f (0 : Int32).toNatClampNeg 0)), rfl, ⟨hE, hI⟩, by rw [ht]; exact hP, va_K.moved hW.alike hK, hD⟩, hS.F ht⟩) hS.2.2 d_L_isPage_22
    · have hE := hE2 h
      refine lv_lconst (v := 1) hx hb d_L_isPage_9 (by decide) ?_
      refine lv_goto (tgt := 14) hx hb d_L_isPage_10 (by decide) ?_
      refine va_last (x := 1) hx hb hK hP hD hS 0 1 rfl rfl (i := 0) (by unfold vp_in; decide) d_L_isPage_14 (fun H locs hP hD hS => ?_)
      have hP : va_P (wG w) classes (LW w aL cL (vp_updL f (0 : Int32).toNatClampNeg 1) σ1) H := hP
      have hD : va_D A (LW w aL cL (vp_updL f (0 : Int32).toNatClampNeg 1) σ1) := hD
      refine lv_goto (tgt := 21) hx hb d_L_isPage_15 (by decide) ?_
      refine lv_iconst (v := 0) hx hb d_L_isPage_21 (by decide) ?_
      exact W.iret (v := 0) hx hb hr (fun t ht hW => ⟨⟨_, (σ1, (vp_updL f (0 : Int32).toNatClampNeg 1)), rfl, ⟨hE, hI⟩, by rw [ht]; exact hP, va_K.moved hW.alike hK, hD⟩, hS.F ht⟩) hS.2.2 d_L_isPage_22
  · obtain ⟨hE, hI⟩ := hE
    refine lv_astore_n (lv' := [(2, .ref x), (0, .ref (wA w 0)), (1, .ref aL)]) hx hb d_L_isPage_18 rfl hl (by decide) rfl (fun ls hl => ?_)
    refine lv_iconst (v := 1) hx hb d_L_isPage_19 (by decide) ?_
    exact W.iret (v := 1) hx hb hr (fun t ht hW => ⟨⟨_, (σ1, f), rfl, ⟨hE, hI⟩, by rw [ht]; exact hP, va_K.moved hW.alike hK, hD⟩, hS.F ht⟩) hS.2.2 d_L_isPage_20
theorem ok_L_21 : okV "PlainPagesLaw" 21 R_X y_X_isLinked b_X_isLinked 1 (some .boolean) 0 := ⟨aW_in 788 (by decide +kernel) rfl, aW_in 789 (by decide +kernel) rfl, aW_in 790 (by decide +kernel) rfl, aW_in 84 (by decide +kernel) rfl, cd_X_isLinked, rfl, by decide +kernel, by decide +kernel, by decide +kernel⟩
def z_L_isLinked : Cond := .codeWith y_L_isLinked method_5_code 3 (some .int) [(0, 15, 18, 19)]
theorem d_L_isLinked_0 : decode method_5_code 0 = .ok (.aload_n 1, 1) := by decide +kernel
theorem d_L_isLinked_1 : decode method_5_code 1 = .ok (.iconst 0, 1) := by decide +kernel
theorem d_L_isLinked_2 : decode method_5_code 2 = .ok (.aload_n 0, 1) := by decide +kernel
theorem d_L_isLinked_3 : decode method_5_code 3 = .ok (.invokevirtual 21, 3) := by decide +kernel
theorem d_L_isLinked_6 : decode method_5_code 6 = .ok (.ifCond .eq 7, 3) := by decide +kernel
theorem d_L_isLinked_9 : decode method_5_code 9 = .ok (.lconst 1, 1) := by decide +kernel
theorem d_L_isLinked_10 : decode method_5_code 10 = .ok (.goto 4, 3) := by decide +kernel
theorem d_L_isLinked_13 : decode method_5_code 13 = .ok (.lconst 0, 1) := by decide +kernel
theorem d_L_isLinked_14 : decode method_5_code 14 = .ok (.lastore, 1) := by decide +kernel
theorem d_L_isLinked_15 : decode method_5_code 15 = .ok (.goto 6, 3) := by decide +kernel
theorem d_L_isLinked_18 : decode method_5_code 18 = .ok (.astore_n 2, 1) := by decide +kernel
theorem d_L_isLinked_19 : decode method_5_code 19 = .ok (.iconst 1, 1) := by decide +kernel
theorem d_L_isLinked_20 : decode method_5_code 20 = .ok (.ireturn, 1) := by decide +kernel
theorem d_L_isLinked_21 : decode method_5_code 21 = .ok (.iconst 0, 1) := by decide +kernel
theorem d_L_isLinked_22 : decode method_5_code 22 = .ok (.ireturn, 1) := by decide +kernel
def w_L_isLinked (σ : PPS) (f : Nat → Int64) (post : Int32 → PPS → (Nat → Int64) → Prop) : Prop := w_X_isLinked σ (fun r u => (r = 0 → post 0 u (vp_updL f (0 : Int32).toNatClampNeg 0)) ∧ (¬ r = 0 → post 0 u (vp_updL f (0 : Int32).toNatClampNeg 1)), fun u => post 1 u f)
set_option maxHeartbeats 4000000 in
set_option maxRecDepth 100000 in
theorem c_L_isLinked (l : Launch) (w : WD) (aL : Nat) (cL : ClassId) (sz : Nat) (σ : PPS) (f : Nat → Int64) (post : Int32 → PPS → (Nat → Int64) → Prop) (hI : inv σ) (hls : l.stackTraces = false) (hE : w_L_isLinked σ f post) : Met l y_L_isLinked (z_L_isLinked :: aW) { frames := 10, cells := 1, slots := 6, locals := 220 } (va_Pc [.ref (wA w 0), .ref aL] (lW w aL cL f σ sz)) (va_Qi (fun r u => post r u.1 u.2 ∧ inv u.1) (lB w aL cL (va_A (LW w aL cL f σ) sz)) (va_A (LW w aL cL f σ) sz)) 1 6 (va_A (LW w aL cL f σ) sz) := by
  refine va_MetW (cc := method_5_code) (maxL := 3) (ret := some .int) (hh := [(0, 15, 18, 19)]) (by decide) rfl ?_
  intro p e s m args below meth c s₁ B hml hv
  obtain ⟨rfl, hsz, hP, hK, hD0, hC, hX⟩ := hv
  have hx := B.exec
  have hb := B.bytes
  have hr := B.returns
  have hta : ∀ w ∈ aW, w.before _ s = true := fun w h => atoms_spec (ws := z_L_isLinked :: aW) B.pre w (List.mem_cons_of_mem _ h)
  have hown : s.vm.findClass R_L = some m.cls := findClass_of_methodNamed B.named
  have hlocks := B.notSynchronized
  have htab : c.exceptionTable.toList = [⟨0, 15, 18, 19⟩] := l_tab B (atoms_spec (ws := z_L_isLinked :: aW) B.pre _ List.mem_cons_self)
  subst hsz
  have hD := hD0.self (sz := s.heap.size)
  generalize hAe : va_A (LW w aL cL f σ) s.heap.size = A at hD hC hX ⊢
  have hA : ∀ q : Nat, s.heap.size ≤ q → A q := fun q h => by rw [← hAe]; exact Or.inr h
  have hS : va_S A s.heap s.heap [] := va_S.rf
  have hl := lv_entry ([.ref (wA w 0), .ref aL]) (n := 3) (Nat.le_of_ble_eq_true rfl)
  rw [lg_entry_eq]
  generalize (lg_sl ([.ref (wA w 0), .ref aL]) ++ List.replicate (3 - (lg_sl ([.ref (wA w 0), .ref aL])).length) Slot.unset).toArray = ls at hl ⊢
  have hl : lv_has ls 3 [(0, .ref (wA w 0)), (1, .ref aL)] := hl
  unfold w_L_isLinked at hE
  refine lv_aload_n hx hb d_L_isLinked_0 rfl (lv_at hl 1 rfl) ?_
  refine lv_iconst (v := 0) hx hb d_L_isLinked_1 (by decide) ?_
  refine lv_aload_n hx hb d_L_isLinked_2 rfl (lv_at hl 0 rfl) ?_
  refine x_call (b0 := wA w 0) (As := []) (rest := [.int 0, .ref aL]) (x0 := ⟨0, 15, 18, 19⟩) ⟨hx, hb, hml, hown, hta⟩ (c_X_isLinked l w _ σ _ hI hls hE) ok_L_21 ⟨Nat.le_of_ble_eq_true rfl, Nat.le_of_ble_eq_true rfl⟩ (va_recv (LW.K hK) (LW.P hP) (ci := 0) (q0 := 0) rfl rfl) hP hK hD hS hA hC hX rfl hl.1 rfl (Nat.le_of_ble_eq_true rfl) d_L_isLinked_3 ⟨Nat.le_of_ble_eq_true rfl, Nat.le_of_ble_eq_true rfl⟩ htab (by decide) (by decide) (hta _ cl_L_19) (hX.1 _ (by decide)) (fun r σ1 H locs hE hP hD hS => ?_) (fun x σ1 H locs hE hP hD hS => ?_)
  · obtain ⟨hE, hI⟩ := hE
    obtain ⟨hE1, hE2⟩ := hE
    refine lv_if_eq (tgt := 13) hx hb d_L_isLinked_6 (by decide) (fun h => ?_) (fun h => ?_)
    · have hE := hE1 h
      refine lv_lconst (v := 0) hx hb d_L_isLinked_13 (by decide) ?_
      refine va_last (x := 0) hx hb hK hP hD hS 0 1 rfl rfl (i := 0) (by unfold vp_in; decide) d_L_isLinked_14 (fun H locs hP hD hS => ?_)
      have hP : va_P (wG w) classes (LW w aL cL (vp_updL f (0 : Int32).toNatClampNeg 0) σ1) H := hP
      have hD : va_D A (LW w aL cL (vp_updL f (0 : Int32).toNatClampNeg 0) σ1) := hD
      refine lv_goto (tgt := 21) hx hb d_L_isLinked_15 (by decide) ?_
      refine lv_iconst (v := 0) hx hb d_L_isLinked_21 (by decide) ?_
      exact W.iret (v := 0) hx hb hr (fun t ht hW => ⟨⟨_, (σ1, (vp_updL f (0 : Int32).toNatClampNeg 0)), rfl, ⟨hE, hI⟩, by rw [ht]; exact hP, va_K.moved hW.alike hK, hD⟩, hS.F ht⟩) hS.2.2 d_L_isLinked_22
    · have hE := hE2 h
      refine lv_lconst (v := 1) hx hb d_L_isLinked_9 (by decide) ?_
      refine lv_goto (tgt := 14) hx hb d_L_isLinked_10 (by decide) ?_
      refine va_last (x := 1) hx hb hK hP hD hS 0 1 rfl rfl (i := 0) (by unfold vp_in; decide) d_L_isLinked_14 (fun H locs hP hD hS => ?_)
      have hP : va_P (wG w) classes (LW w aL cL (vp_updL f (0 : Int32).toNatClampNeg 1) σ1) H := hP
      have hD : va_D A (LW w aL cL (vp_updL f (0 : Int32).toNatClampNeg 1) σ1) := hD
      refine lv_goto (tgt := 21) hx hb d_L_isLinked_15 (by decide) ?_
      refine lv_iconst (v := 0) hx hb d_L_isLinked_21 (by decide) ?_
      exact W.iret (v := 0) hx hb hr (fun t ht hW => ⟨⟨_, (σ1, (vp_updL f (0 : Int32).toNatClampNeg 1)), rfl, ⟨hE, hI⟩, by rw [ht]; exact hP, va_K.moved hW.alike hK, hD⟩, hS.F ht⟩) hS.2.2 d_L_isLinked_22
  · obtain ⟨hE, hI⟩ := hE
    refine lv_astore_n (lv' := [(2, .ref x), (0, .ref (wA w 0)), (1, .ref aL)]) hx hb d_L_isLinked_18 rfl hl (by decide) rfl (fun ls hl => ?_)
    refine lv_iconst (v := 1) hx hb d_L_isLinked_19 (by decide) ?_
    exact W.iret (v := 1) hx hb hr (fun t ht hW => ⟨⟨_, (σ1, f), rfl, ⟨hE, hI⟩, by rw [ht]; exact hP, va_K.moved hW.alike hK, hD⟩, hS.F ht⟩) hS.2.2 d_L_isLinked_20
theorem ok_L_24 : okV "PlainPagesLaw" 24 R_X y_X_plain b_X_plain 2 (some .int) 1 := ⟨aW_in 810 (by decide +kernel) rfl, aW_in 811 (by decide +kernel) rfl, aW_in 812 (by decide +kernel) rfl, aW_in 84 (by decide +kernel) rfl, cd_X_plain, rfl, by decide +kernel, by decide +kernel, by decide +kernel⟩
theorem cl_L_28 : Cond.classLink "PlainPagesLaw" 28 "java/lang/IndexOutOfBoundsException" ∈ aW := aW_in 809 (by decide +kernel) rfl
def z_L_plain : Cond := .codeWith y_L_plain method_6_code 4 (some .int) [(0, 9, 12, 28)]
theorem d_L_plain_0 : decode method_6_code 0 = .ok (.aload_n 2, 1) := by decide +kernel
theorem d_L_plain_1 : decode method_6_code 1 = .ok (.iconst 0, 1) := by decide +kernel
theorem d_L_plain_2 : decode method_6_code 2 = .ok (.aload_n 0, 1) := by decide +kernel
theorem d_L_plain_3 : decode method_6_code 3 = .ok (.iload_n 1, 1) := by decide +kernel
theorem d_L_plain_4 : decode method_6_code 4 = .ok (.invokevirtual 24, 3) := by decide +kernel
theorem d_L_plain_7 : decode method_6_code 7 = .ok (.i2l, 1) := by decide +kernel
theorem d_L_plain_8 : decode method_6_code 8 = .ok (.lastore, 1) := by decide +kernel
theorem d_L_plain_9 : decode method_6_code 9 = .ok (.goto 6, 3) := by decide +kernel
theorem d_L_plain_12 : decode method_6_code 12 = .ok (.astore_n 3, 1) := by decide +kernel
theorem d_L_plain_13 : decode method_6_code 13 = .ok (.iconst 1, 1) := by decide +kernel
theorem d_L_plain_14 : decode method_6_code 14 = .ok (.ireturn, 1) := by decide +kernel
theorem d_L_plain_15 : decode method_6_code 15 = .ok (.iconst 0, 1) := by decide +kernel
theorem d_L_plain_16 : decode method_6_code 16 = .ok (.ireturn, 1) := by decide +kernel
def w_L_plain (σ : PPS) (f : Nat → Int64) (x0 : Int32) (post : Int32 → PPS → (Nat → Int64) → Prop) : Prop := w_X_plain σ x0 (fun r u => post 0 u (vp_updL f (0 : Int32).toNatClampNeg r.toInt64), fun u => post 1 u f)
set_option maxHeartbeats 4000000 in
set_option maxRecDepth 100000 in
theorem c_L_plain (l : Launch) (w : WD) (aL : Nat) (cL : ClassId) (sz : Nat) (σ : PPS) (f : Nat → Int64) (x0 : Int32) (post : Int32 → PPS → (Nat → Int64) → Prop) (hI : inv σ) (hls : l.stackTraces = false) (hE : w_L_plain σ f x0 post) : Met l y_L_plain (z_L_plain :: aW) { frames := 10, cells := 1, slots := 6, locals := 225 } (va_Pc [.ref (wA w 0), .int x0, .ref aL] (lW w aL cL f σ sz)) (va_Qi (fun r u => post r u.1 u.2 ∧ inv u.1) (lB w aL cL (va_A (LW w aL cL f σ) sz)) (va_A (LW w aL cL f σ) sz)) 1 6 (va_A (LW w aL cL f σ) sz) := by
  refine va_MetW (cc := method_6_code) (maxL := 4) (ret := some .int) (hh := [(0, 9, 12, 28)]) (by decide) rfl ?_
  intro p e s m args below meth c s₁ B hml hv
  obtain ⟨rfl, hsz, hP, hK, hD0, hC, hX⟩ := hv
  have hx := B.exec
  have hb := B.bytes
  have hr := B.returns
  have hta : ∀ w ∈ aW, w.before _ s = true := fun w h => atoms_spec (ws := z_L_plain :: aW) B.pre w (List.mem_cons_of_mem _ h)
  have hown : s.vm.findClass R_L = some m.cls := findClass_of_methodNamed B.named
  have hlocks := B.notSynchronized
  have htab : c.exceptionTable.toList = [⟨0, 9, 12, 28⟩] := l_tab B (atoms_spec (ws := z_L_plain :: aW) B.pre _ List.mem_cons_self)
  subst hsz
  have hD := hD0.self (sz := s.heap.size)
  generalize hAe : va_A (LW w aL cL f σ) s.heap.size = A at hD hC hX ⊢
  have hA : ∀ q : Nat, s.heap.size ≤ q → A q := fun q h => by rw [← hAe]; exact Or.inr h
  have hS : va_S A s.heap s.heap [] := va_S.rf
  have hl := lv_entry ([.ref (wA w 0), .int x0, .ref aL]) (n := 4) (Nat.le_of_ble_eq_true rfl)
  rw [lg_entry_eq]
  generalize (lg_sl ([.ref (wA w 0), .int x0, .ref aL]) ++ List.replicate (4 - (lg_sl ([.ref (wA w 0), .int x0, .ref aL])).length) Slot.unset).toArray = ls at hl ⊢
  have hl : lv_has ls 4 [(0, .ref (wA w 0)), (1, .int x0), (2, .ref aL)] := hl
  unfold w_L_plain at hE
  refine lv_aload_n hx hb d_L_plain_0 rfl (lv_at hl 2 rfl) ?_
  refine lv_iconst (v := 0) hx hb d_L_plain_1 (by decide) ?_
  refine lv_aload_n hx hb d_L_plain_2 rfl (lv_at hl 0 rfl) ?_
  refine lv_iload_n hx hb d_L_plain_3 rfl (lv_at hl 1 rfl) ?_
  refine x_call (b0 := wA w 0) (As := [.int x0]) (rest := [.int 0, .ref aL]) (x0 := ⟨0, 9, 12, 28⟩) ⟨hx, hb, hml, hown, hta⟩ (c_X_plain l w _ σ x0 _ hI hls hE) ok_L_24 ⟨Nat.le_of_ble_eq_true rfl, Nat.le_of_ble_eq_true rfl⟩ (va_recv (LW.K hK) (LW.P hP) (ci := 0) (q0 := 0) rfl rfl) hP hK hD hS hA hC hX rfl hl.1 rfl (Nat.le_of_ble_eq_true rfl) d_L_plain_4 ⟨Nat.le_of_ble_eq_true rfl, Nat.le_of_ble_eq_true rfl⟩ htab (by decide) (by decide) (hta _ cl_L_28) (hX.1 _ (by decide)) (fun r σ1 H locs hE hP hD hS => ?_) (fun x σ1 H locs hE hP hD hS => ?_)
  · obtain ⟨hE, hI⟩ := hE
    refine lv_i2l (v := r.toInt64) hx hb d_L_plain_7 rfl ?_
    refine va_last (x := r.toInt64) hx hb hK hP hD hS 0 1 rfl rfl (i := 0) (by unfold vp_in; decide) d_L_plain_8 (fun H locs hP hD hS => ?_)
    have hP : va_P (wG w) classes (LW w aL cL (vp_updL f (0 : Int32).toNatClampNeg r.toInt64) σ1) H := hP
    have hD : va_D A (LW w aL cL (vp_updL f (0 : Int32).toNatClampNeg r.toInt64) σ1) := hD
    refine lv_goto (tgt := 15) hx hb d_L_plain_9 (by decide) ?_
    refine lv_iconst (v := 0) hx hb d_L_plain_15 (by decide) ?_
    exact W.iret (v := 0) hx hb hr (fun t ht hW => ⟨⟨_, (σ1, (vp_updL f (0 : Int32).toNatClampNeg r.toInt64)), rfl, ⟨hE, hI⟩, by rw [ht]; exact hP, va_K.moved hW.alike hK, hD⟩, hS.F ht⟩) hS.2.2 d_L_plain_16
  · obtain ⟨hE, hI⟩ := hE
    refine lv_astore_n (lv' := [(3, .ref x), (0, .ref (wA w 0)), (1, .int x0), (2, .ref aL)]) hx hb d_L_plain_12 rfl hl (by decide) rfl (fun ls hl => ?_)
    refine lv_iconst (v := 1) hx hb d_L_plain_13 (by decide) ?_
    exact W.iret (v := 1) hx hb hr (fun t ht hW => ⟨⟨_, (σ1, f), rfl, ⟨hE, hI⟩, by rw [ht]; exact hP, va_K.moved hW.alike hK, hD⟩, hS.F ht⟩) hS.2.2 d_L_plain_14
theorem ok_L_30 : okV "PlainPagesLaw" 30 R_X y_X_write b_X_write 2 (some .int) 1 := ⟨aW_in 863 (by decide +kernel) rfl, aW_in 864 (by decide +kernel) rfl, aW_in 865 (by decide +kernel) rfl, aW_in 84 (by decide +kernel) rfl, cd_X_write, rfl, by decide +kernel, by decide +kernel, by decide +kernel⟩
def z_L_write : Cond := .codeWith y_L_write method_7_code 4 (some .int) [(0, 9, 12, 28)]
theorem d_L_write_0 : decode method_7_code 0 = .ok (.aload_n 2, 1) := by decide +kernel
theorem d_L_write_1 : decode method_7_code 1 = .ok (.iconst 0, 1) := by decide +kernel
theorem d_L_write_2 : decode method_7_code 2 = .ok (.aload_n 0, 1) := by decide +kernel
theorem d_L_write_3 : decode method_7_code 3 = .ok (.iload_n 1, 1) := by decide +kernel
theorem d_L_write_4 : decode method_7_code 4 = .ok (.invokevirtual 30, 3) := by decide +kernel
theorem d_L_write_7 : decode method_7_code 7 = .ok (.i2l, 1) := by decide +kernel
theorem d_L_write_8 : decode method_7_code 8 = .ok (.lastore, 1) := by decide +kernel
theorem d_L_write_9 : decode method_7_code 9 = .ok (.goto 6, 3) := by decide +kernel
theorem d_L_write_12 : decode method_7_code 12 = .ok (.astore_n 3, 1) := by decide +kernel
theorem d_L_write_13 : decode method_7_code 13 = .ok (.iconst 1, 1) := by decide +kernel
theorem d_L_write_14 : decode method_7_code 14 = .ok (.ireturn, 1) := by decide +kernel
theorem d_L_write_15 : decode method_7_code 15 = .ok (.iconst 0, 1) := by decide +kernel
theorem d_L_write_16 : decode method_7_code 16 = .ok (.ireturn, 1) := by decide +kernel
def w_L_write (σ : PPS) (f : Nat → Int64) (x0 : Int32) (post : Int32 → PPS → (Nat → Int64) → Prop) : Prop := w_X_write σ x0 (fun r u => post 0 u (vp_updL f (0 : Int32).toNatClampNeg r.toInt64), fun u => post 1 u f)
set_option maxHeartbeats 4000000 in
set_option maxRecDepth 100000 in
theorem c_L_write (l : Launch) (w : WD) (aL : Nat) (cL : ClassId) (sz : Nat) (σ : PPS) (f : Nat → Int64) (x0 : Int32) (post : Int32 → PPS → (Nat → Int64) → Prop) (hI : inv σ) (hls : l.stackTraces = false) (hE : w_L_write σ f x0 post) : Met l y_L_write (z_L_write :: aW) { frames := 9, cells := 1, slots := 6, locals := 199 } (va_Pc [.ref (wA w 0), .int x0, .ref aL] (lW w aL cL f σ sz)) (va_Qi (fun r u => post r u.1 u.2 ∧ inv u.1) (lB w aL cL (va_A (LW w aL cL f σ) sz)) (va_A (LW w aL cL f σ) sz)) 1 6 (va_A (LW w aL cL f σ) sz) := by
  refine va_MetW (cc := method_7_code) (maxL := 4) (ret := some .int) (hh := [(0, 9, 12, 28)]) (by decide) rfl ?_
  intro p e s m args below meth c s₁ B hml hv
  obtain ⟨rfl, hsz, hP, hK, hD0, hC, hX⟩ := hv
  have hx := B.exec
  have hb := B.bytes
  have hr := B.returns
  have hta : ∀ w ∈ aW, w.before _ s = true := fun w h => atoms_spec (ws := z_L_write :: aW) B.pre w (List.mem_cons_of_mem _ h)
  have hown : s.vm.findClass R_L = some m.cls := findClass_of_methodNamed B.named
  have hlocks := B.notSynchronized
  have htab : c.exceptionTable.toList = [⟨0, 9, 12, 28⟩] := l_tab B (atoms_spec (ws := z_L_write :: aW) B.pre _ List.mem_cons_self)
  subst hsz
  have hD := hD0.self (sz := s.heap.size)
  generalize hAe : va_A (LW w aL cL f σ) s.heap.size = A at hD hC hX ⊢
  have hA : ∀ q : Nat, s.heap.size ≤ q → A q := fun q h => by rw [← hAe]; exact Or.inr h
  have hS : va_S A s.heap s.heap [] := va_S.rf
  have hl := lv_entry ([.ref (wA w 0), .int x0, .ref aL]) (n := 4) (Nat.le_of_ble_eq_true rfl)
  rw [lg_entry_eq]
  generalize (lg_sl ([.ref (wA w 0), .int x0, .ref aL]) ++ List.replicate (4 - (lg_sl ([.ref (wA w 0), .int x0, .ref aL])).length) Slot.unset).toArray = ls at hl ⊢
  have hl : lv_has ls 4 [(0, .ref (wA w 0)), (1, .int x0), (2, .ref aL)] := hl
  unfold w_L_write at hE
  refine lv_aload_n hx hb d_L_write_0 rfl (lv_at hl 2 rfl) ?_
  refine lv_iconst (v := 0) hx hb d_L_write_1 (by decide) ?_
  refine lv_aload_n hx hb d_L_write_2 rfl (lv_at hl 0 rfl) ?_
  refine lv_iload_n hx hb d_L_write_3 rfl (lv_at hl 1 rfl) ?_
  refine x_call (b0 := wA w 0) (As := [.int x0]) (rest := [.int 0, .ref aL]) (x0 := ⟨0, 9, 12, 28⟩) ⟨hx, hb, hml, hown, hta⟩ (c_X_write l w _ σ x0 _ hI hls hE) ok_L_30 ⟨Nat.le_of_ble_eq_true rfl, Nat.le_of_ble_eq_true rfl⟩ (va_recv (LW.K hK) (LW.P hP) (ci := 0) (q0 := 0) rfl rfl) hP hK hD hS hA hC hX rfl hl.1 rfl (Nat.le_of_ble_eq_true rfl) d_L_write_4 ⟨Nat.le_of_ble_eq_true rfl, Nat.le_of_ble_eq_true rfl⟩ htab (by decide) (by decide) (hta _ cl_L_28) (hX.1 _ (by decide)) (fun r σ1 H locs hE hP hD hS => ?_) (fun x σ1 H locs hE hP hD hS => ?_)
  · obtain ⟨hE, hI⟩ := hE
    refine lv_i2l (v := r.toInt64) hx hb d_L_write_7 rfl ?_
    refine va_last (x := r.toInt64) hx hb hK hP hD hS 0 1 rfl rfl (i := 0) (by unfold vp_in; decide) d_L_write_8 (fun H locs hP hD hS => ?_)
    have hP : va_P (wG w) classes (LW w aL cL (vp_updL f (0 : Int32).toNatClampNeg r.toInt64) σ1) H := hP
    have hD : va_D A (LW w aL cL (vp_updL f (0 : Int32).toNatClampNeg r.toInt64) σ1) := hD
    refine lv_goto (tgt := 15) hx hb d_L_write_9 (by decide) ?_
    refine lv_iconst (v := 0) hx hb d_L_write_15 (by decide) ?_
    exact W.iret (v := 0) hx hb hr (fun t ht hW => ⟨⟨_, (σ1, (vp_updL f (0 : Int32).toNatClampNeg r.toInt64)), rfl, ⟨hE, hI⟩, by rw [ht]; exact hP, va_K.moved hW.alike hK, hD⟩, hS.F ht⟩) hS.2.2 d_L_write_16
  · obtain ⟨hE, hI⟩ := hE
    refine lv_astore_n (lv' := [(3, .ref x), (0, .ref (wA w 0)), (1, .int x0), (2, .ref aL)]) hx hb d_L_write_12 rfl hl (by decide) rfl (fun ls hl => ?_)
    refine lv_iconst (v := 1) hx hb d_L_write_13 (by decide) ?_
    exact W.iret (v := 1) hx hb hr (fun t ht hW => ⟨⟨_, (σ1, f), rfl, ⟨hE, hI⟩, by rw [ht]; exact hP, va_K.moved hW.alike hK, hD⟩, hS.F ht⟩) hS.2.2 d_L_write_14
