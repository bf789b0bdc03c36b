-- the leaves: Strip, Table, Signs (printed by wip/gen)
theorem fl_Strip_21 : Cond.fieldLink "PlainPages$Strip" 21 "PlainPages$Strip" "count" "I" ∈ aW := aW_in 124 (by decide +kernel) rfl
theorem fl_Strip_15 : Cond.fieldLink "PlainPages$Strip" 15 "PlainPages$Strip" "items" "[I" ∈ aW := aW_in 123 (by decide +kernel) rfl
theorem fl_Table_28 : Cond.fieldLink "PlainPages$Table" 28 "PlainPages$Table" "rows" "I" ∈ aW := aW_in 147 (by decide +kernel) rfl
theorem fl_Table_15 : Cond.fieldLink "PlainPages$Table" 15 "PlainPages$Table" "width" "I" ∈ aW := aW_in 145 (by decide +kernel) rfl
theorem fl_Table_24 : Cond.fieldLink "PlainPages$Table" 24 "PlainPages$Table" "cells" "[I" ∈ aW := aW_in 146 (by decide +kernel) rfl
theorem fl_Table_9 : Cond.fieldLink "PlainPages$Table" 9 "PlainPages$Table" "most" "I" ∈ aW := aW_in 144 (by decide +kernel) rfl
theorem ct_Signs_18 : Cond.constant "PlainPages$Signs" 18 (1114111) ∈ aW := aW_in 343 (by decide +kernel) rfl
theorem ct_Signs_19 : Cond.constant "PlainPages$Signs" 19 (55296) ∈ aW := aW_in 344 (by decide +kernel) rfl
theorem ct_Signs_20 : Cond.constant "PlainPages$Signs" 20 (57343) ∈ aW := aW_in 345 (by decide +kernel) rfl
theorem ct_Signs_26 : Cond.constant "PlainPages$Signs" 26 (65536) ∈ aW := aW_in 349 (by decide +kernel) rfl
theorem d_Strip_size_0 : decode b_Strip_size 0 = .ok (.aload_n 0, 1) := by decide +kernel
theorem d_Strip_size_1 : decode b_Strip_size 1 = .ok (.getfield 21, 3) := by decide +kernel
theorem d_Strip_size_4 : decode b_Strip_size 4 = .ok (.ireturn, 1) := by decide +kernel
def w_Strip_size  (σ : StS)  (post : Int32 → Prop) : Prop := post σ.1
set_option maxHeartbeats 4000000 in
set_option maxRecDepth 100000 in
theorem c_Strip_size (l : Launch) (D : va_G) (a b : Nat) (cI : ClassId) (N : Nat) (σ : StS)  (post : Int32 → Prop) (hE : w_Strip_size σ post) : Met l y_Strip_size ws_Strip_size { frames := 0, cells := 0, slots := 0, locals := 0 } (va_Pc [.ref a] (rW D (SW a b cI N σ) cI)) (vp_Si post) 0 0 (fun _ => False) := by
  refine Met.ofW (cc := b_Strip_size) (maxL := 1) (ret := (some .int)) (by decide) rfl ?_
  intro p e s m args below meth c s₁ B hml hv
  obtain ⟨rfl, hP, hK⟩ := hv
  have hS : va_S (fun _ : Nat => False) s.heap s.heap [] := va_S.rf
  have hx := B.exec
  have hb := B.bytes
  have hr := B.returns
  have hta : ∀ w ∈ aW, w.before _ s = true := fun w h => atoms_spec (ws := ws_Strip_size) B.pre w (List.mem_cons_of_mem _ h)
  have hown : s.vm.findClass R_Strip = some m.cls := findClass_of_methodNamed B.named
  have hlocks := B.notSynchronized
  have hl := lv_entry ([.ref a]) (n := 1) (Nat.le_of_ble_eq_true rfl)
  rw [lg_entry_eq]
  generalize (lg_sl ([.ref a]) ++ List.replicate (1 - (lg_sl ([.ref a])).length) Slot.unset).toArray = ls at hl ⊢
  have hl : lv_has ls 1 [(0, .ref a)] := hl
  unfold w_Strip_size at hE
  refine lv_aload_n hx hb d_Strip_size_0 rfl (lv_at hl 0 rfl) ?_
  refine va_get (D := D) (ci := 1) (v := .int σ.1) (C := R_Strip) (T := F_Strip) (N := 2) hx hb hta i_Strip hown hK hP 0 rfl rfl 1 (by decide) (hta _ fl_Strip_21) (fun _ h9 => h9) rfl d_Strip_size_1 ?_
  exact W.iret (v := σ.1) hx hb hr (fun t ht hW => ⟨_, rfl, hE, ht⟩) (fun q h => by cases h) d_Strip_size_4

theorem d_Strip_get_0 : decode b_Strip_get 0 = .ok (.iload_n 1, 1) := by decide +kernel
theorem d_Strip_get_1 : decode b_Strip_get 1 = .ok (.ifCond .lt 29, 3) := by decide +kernel
theorem d_Strip_get_4 : decode b_Strip_get 4 = .ok (.iload_n 1, 1) := by decide +kernel
theorem d_Strip_get_5 : decode b_Strip_get 5 = .ok (.aload_n 0, 1) := by decide +kernel
theorem d_Strip_get_6 : decode b_Strip_get 6 = .ok (.getfield 21, 3) := by decide +kernel
theorem d_Strip_get_9 : decode b_Strip_get 9 = .ok (.if_icmp .ge 21, 3) := by decide +kernel
theorem d_Strip_get_12 : decode b_Strip_get 12 = .ok (.iload_n 1, 1) := by decide +kernel
theorem d_Strip_get_13 : decode b_Strip_get 13 = .ok (.aload_n 0, 1) := by decide +kernel
theorem d_Strip_get_14 : decode b_Strip_get 14 = .ok (.getfield 15, 3) := by decide +kernel
theorem d_Strip_get_17 : decode b_Strip_get 17 = .ok (.arraylength, 1) := by decide +kernel
theorem d_Strip_get_18 : decode b_Strip_get 18 = .ok (.if_icmp .ge 12, 3) := by decide +kernel
theorem d_Strip_get_21 : decode b_Strip_get 21 = .ok (.aload_n 0, 1) := by decide +kernel
theorem d_Strip_get_22 : decode b_Strip_get 22 = .ok (.getfield 15, 3) := by decide +kernel
theorem d_Strip_get_25 : decode b_Strip_get 25 = .ok (.iload_n 1, 1) := by decide +kernel
theorem d_Strip_get_26 : decode b_Strip_get 26 = .ok (.iaload, 1) := by decide +kernel
theorem d_Strip_get_27 : decode b_Strip_get 27 = .ok (.goto 4, 3) := by decide +kernel
theorem d_Strip_get_30 : decode b_Strip_get 30 = .ok (.iconst (-1), 1) := by decide +kernel
theorem d_Strip_get_31 : decode b_Strip_get 31 = .ok (.ireturn, 1) := by decide +kernel
def w_Strip_get (N : Nat) (σ : StS) (x0 : Int32) (post : Int32 → Prop) : Prop := ((x0 < 0 → post (-1)) ∧ (¬ x0 < 0 → ((σ.1 ≤ x0 → post (-1)) ∧ (¬ σ.1 ≤ x0 → (((nI N) ≤ x0 → post (-1)) ∧ (¬ (nI N) ≤ x0 → (vp_in x0 N ∧ post (σ.2 x0.toNatClampNeg))))))))
set_option maxHeartbeats 4000000 in
set_option maxRecDepth 100000 in
theorem c_Strip_get (l : Launch) (D : va_G) (a b : Nat) (cI : ClassId) (N : Nat) (σ : StS) (x0 : Int32) (post : Int32 → Prop) (hE : w_Strip_get N σ x0 post) : Met l y_Strip_get ws_Strip_get { frames := 0, cells := 0, slots := 0, locals := 0 } (va_Pc [.ref a, .int x0] (rW D (SW a b cI N σ) cI)) (vp_Si post) 0 0 (fun _ => False) := by
  refine Met.ofW (cc := b_Strip_get) (maxL := 2) (ret := (some .int)) (by decide) rfl ?_
  intro p e s m args below meth c s₁ B hml hv
  obtain ⟨rfl, hP, hK⟩ := hv
  have hS : va_S (fun _ : Nat => False) s.heap s.heap [] := va_S.rf
  have hx := B.exec
  have hb := B.bytes
  have hr := B.returns
  have hta : ∀ w ∈ aW, w.before _ s = true := fun w h => atoms_spec (ws := ws_Strip_get) B.pre w (List.mem_cons_of_mem _ h)
  have hown : s.vm.findClass R_Strip = some m.cls := findClass_of_methodNamed B.named
  have hlocks := B.notSynchronized
  have hl := lv_entry ([.ref a, .int x0]) (n := 2) (Nat.le_of_ble_eq_true rfl)
  rw [lg_entry_eq]
  generalize (lg_sl ([.ref a, .int x0]) ++ List.replicate (2 - (lg_sl ([.ref a, .int x0])).length) Slot.unset).toArray = ls at hl ⊢
  have hl : lv_has ls 2 [(0, .ref a), (1, .int x0)] := hl
  unfold w_Strip_get at hE
  refine lv_iload_n hx hb d_Strip_get_0 rfl (lv_at hl 1 rfl) ?_
  refine lv_if_lt (tgt := 30) hx hb d_Strip_get_1 (by decide) (fun cc1 => ?_) (fun cc1 => ?_)
  · have hE := hE.1 cc1
    refine lv_iconst (v := -1) hx hb d_Strip_get_30 (by decide) ?_
    exact W.iret (v := (-1)) hx hb hr (fun t ht hW => ⟨_, rfl, hE, ht⟩) (fun q h => by cases h) d_Strip_get_31
  · have hE := hE.2 cc1
    refine lv_iload_n hx hb d_Strip_get_4 rfl (lv_at hl 1 rfl) ?_
    refine lv_aload_n hx hb d_Strip_get_5 rfl (lv_at hl 0 rfl) ?_
    refine va_get (D := D) (ci := 1) (v := .int σ.1) (C := R_Strip) (T := F_Strip) (N := 2) hx hb hta i_Strip hown hK hP 0 rfl rfl 1 (by decide) (hta _ fl_Strip_21) (fun _ h9 => h9) rfl d_Strip_get_6 ?_
    refine lv_icmp_ge (tgt := 30) hx hb d_Strip_get_9 (by decide) (fun cc9 => ?_) (fun cc9 => ?_)
    · have hE := hE.1 cc9
      refine lv_iconst (v := -1) hx hb d_Strip_get_30 (by decide) ?_
      exact W.iret (v := (-1)) hx hb hr (fun t ht hW => ⟨_, rfl, hE, ht⟩) (fun q h => by cases h) d_Strip_get_31
    · have hE := hE.2 cc9
      refine lv_iload_n hx hb d_Strip_get_12 rfl (lv_at hl 1 rfl) ?_
      refine lv_aload_n hx hb d_Strip_get_13 rfl (lv_at hl 0 rfl) ?_
      refine va_get (D := D) (ci := 1) (v := .ref b) (C := R_Strip) (T := F_Strip) (N := 2) hx hb hta i_Strip hown hK hP 0 rfl rfl 0 (by decide) (hta _ fl_Strip_15) (fun _ h9 => h9) rfl d_Strip_get_14 ?_
      refine va_alen (D := D) (v := nI N) hx hb hK hP 1 0 rfl rfl rfl d_Strip_get_17 ?_
      refine lv_icmp_ge (tgt := 30) hx hb d_Strip_get_18 (by decide) (fun cc18 => ?_) (fun cc18 => ?_)
      · have hE := hE.1 cc18
        refine lv_iconst (v := -1) hx hb d_Strip_get_30 (by decide) ?_
        exact W.iret (v := (-1)) hx hb hr (fun t ht hW => ⟨_, rfl, hE, ht⟩) (fun q h => by cases h) d_Strip_get_31
      · have hE := hE.2 cc18
        refine lv_aload_n hx hb d_Strip_get_21 rfl (lv_at hl 0 rfl) ?_
        refine va_get (D := D) (ci := 1) (v := .ref b) (C := R_Strip) (T := F_Strip) (N := 2) hx hb hta i_Strip hown hK hP 0 rfl rfl 0 (by decide) (hta _ fl_Strip_15) (fun _ h9 => h9) rfl d_Strip_get_22 ?_
        refine lv_iload_n hx hb d_Strip_get_25 rfl (lv_at hl 1 rfl) ?_
        obtain ⟨hI26, hE⟩ := hE
        refine va_iald (D := D) (f := σ.2) hx hb hK hP 1 0 rfl rfl hI26 d_Strip_get_26 ?_
        refine lv_goto (tgt := 31) hx hb d_Strip_get_27 (by decide) ?_
        exact W.iret (v := σ.2 x0.toNatClampNeg) hx hb hr (fun t ht hW => ⟨_, rfl, hE, ht⟩) (fun q h => by cases h) d_Strip_get_31

theorem d_Strip_add_0 : decode b_Strip_add 0 = .ok (.aload_n 0, 1) := by decide +kernel
theorem d_Strip_add_1 : decode b_Strip_add 1 = .ok (.getfield 21, 3) := by decide +kernel
theorem d_Strip_add_4 : decode b_Strip_add 4 = .ok (.ifCond .lt 35, 3) := by decide +kernel
theorem d_Strip_add_7 : decode b_Strip_add 7 = .ok (.aload_n 0, 1) := by decide +kernel
theorem d_Strip_add_8 : decode b_Strip_add 8 = .ok (.getfield 21, 3) := by decide +kernel
theorem d_Strip_add_11 : decode b_Strip_add 11 = .ok (.aload_n 0, 1) := by decide +kernel
theorem d_Strip_add_12 : decode b_Strip_add 12 = .ok (.getfield 15, 3) := by decide +kernel
theorem d_Strip_add_15 : decode b_Strip_add 15 = .ok (.arraylength, 1) := by decide +kernel
theorem d_Strip_add_16 : decode b_Strip_add 16 = .ok (.if_icmp .ge 23, 3) := by decide +kernel
theorem d_Strip_add_19 : decode b_Strip_add 19 = .ok (.aload_n 0, 1) := by decide +kernel
theorem d_Strip_add_20 : decode b_Strip_add 20 = .ok (.getfield 15, 3) := by decide +kernel
theorem d_Strip_add_23 : decode b_Strip_add 23 = .ok (.aload_n 0, 1) := by decide +kernel
theorem d_Strip_add_24 : decode b_Strip_add 24 = .ok (.getfield 21, 3) := by decide +kernel
theorem d_Strip_add_27 : decode b_Strip_add 27 = .ok (.iload_n 1, 1) := by decide +kernel
theorem d_Strip_add_28 : decode b_Strip_add 28 = .ok (.iastore, 1) := by decide +kernel
theorem d_Strip_add_29 : decode b_Strip_add 29 = .ok (.aload_n 0, 1) := by decide +kernel
theorem d_Strip_add_30 : decode b_Strip_add 30 = .ok (.dup, 1) := by decide +kernel
theorem d_Strip_add_31 : decode b_Strip_add 31 = .ok (.getfield 21, 3) := by decide +kernel
theorem d_Strip_add_34 : decode b_Strip_add 34 = .ok (.iconst 1, 1) := by decide +kernel
theorem d_Strip_add_35 : decode b_Strip_add 35 = .ok (.iadd, 1) := by decide +kernel
theorem d_Strip_add_36 : decode b_Strip_add 36 = .ok (.putfield 21, 3) := by decide +kernel
theorem d_Strip_add_39 : decode b_Strip_add 39 = .ok (.return_, 1) := by decide +kernel
def w_Strip_add (N : Nat) (σ : StS) (x0 : Int32) (post : StS → Prop) : Prop := ((σ.1 < 0 → post σ) ∧ (¬ σ.1 < 0 → (((nI N) ≤ σ.1 → post σ) ∧ (¬ (nI N) ≤ σ.1 → (vp_in σ.1 N ∧ (∀ σ28 : StS, σ28 = (σ.1, upd σ.2 σ.1.toNatClampNeg x0) → (∀ σ36 : StS, σ36 = (σ28.1 + 1, σ28.2) → post σ36)))))))
set_option maxHeartbeats 4000000 in
set_option maxRecDepth 100000 in
theorem c_Strip_add (l : Launch) (D : va_G) (a b : Nat) (cI : ClassId) (N : Nat) (sz : Nat) (σ : StS) (x0 : Int32) (post : StS → Prop) (hE : w_Strip_add N σ x0 post) : Met l y_Strip_add ws_Strip_add { frames := 0, cells := 0, slots := 0, locals := 0 } (va_Pc [.ref a, .int x0] (mW D (SW a b cI N σ) cI sz)) (va_Qv post (mB D (fun u => SW a b cI N u) cI (va_A (SW a b cI N σ) sz)) (va_A (SW a b cI N σ) sz)) 0 0 (va_A (SW a b cI N σ) sz) := by
  refine Met.ofW (cc := b_Strip_add) (maxL := 2) (ret := none) (by decide) rfl ?_
  intro p e s m args below meth c s₁ B hml hv
  obtain ⟨rfl, hsz, hP, hK, hD0⟩ := hv
  have hx := B.exec
  have hb := B.bytes
  have hr := B.returns
  have hta : ∀ w ∈ aW, w.before _ s = true := fun w h => atoms_spec (ws := ws_Strip_add) B.pre w (List.mem_cons_of_mem _ h)
  have hown : s.vm.findClass R_Strip = some m.cls := findClass_of_methodNamed B.named
  have hlocks := B.notSynchronized
  subst hsz
  have hD := hD0.self (sz := s.heap.size)
  generalize hAe : va_A (SW a b cI N σ) s.heap.size = A at hD ⊢
  have hA : ∀ q : Nat, s.heap.size ≤ q → A q := fun q h => by rw [← hAe]; exact Or.inr h
  have hS : va_S A s.heap s.heap [] := va_S.rf
  have hP : va_P D classes (SW a b cI N σ) s.heap := hP
  have hl := lv_entry ([.ref a, .int x0]) (n := 2) (Nat.le_of_ble_eq_true rfl)
  rw [lg_entry_eq]
  generalize (lg_sl ([.ref a, .int x0]) ++ List.replicate (2 - (lg_sl ([.ref a, .int x0])).length) Slot.unset).toArray = ls at hl ⊢
  have hl : lv_has ls 2 [(0, .ref a), (1, .int x0)] := hl
  unfold w_Strip_add at hE
  refine lv_aload_n hx hb d_Strip_add_0 rfl (lv_at hl 0 rfl) ?_
  refine va_get (D := D) (ci := 1) (v := .int σ.1) (C := R_Strip) (T := F_Strip) (N := 2) hx hb hta i_Strip hown hK hP 0 rfl rfl 1 (by decide) (hta _ fl_Strip_21) (fun _ h9 => h9) rfl d_Strip_add_1 ?_
  refine lv_if_lt (tgt := 39) hx hb d_Strip_add_4 (by decide) (fun cc4 => ?_) (fun cc4 => ?_)
  · have hE := hE.1 cc4
    exact W.vret hx hb hr (fun t ht hW => ⟨⟨σ, rfl, hE, by rw [ht]; exact hP, va_K.moved hW.alike hK, hD⟩, hS.F ht⟩) hS.2.2 d_Strip_add_39
  · have hE := hE.2 cc4
    refine lv_aload_n hx hb d_Strip_add_7 rfl (lv_at hl 0 rfl) ?_
    refine va_get (D := D) (ci := 1) (v := .int σ.1) (C := R_Strip) (T := F_Strip) (N := 2) hx hb hta i_Strip hown hK hP 0 rfl rfl 1 (by decide) (hta _ fl_Strip_21) (fun _ h9 => h9) rfl d_Strip_add_8 ?_
    refine lv_aload_n hx hb d_Strip_add_11 rfl (lv_at hl 0 rfl) ?_
    refine va_get (D := D) (ci := 1) (v := .ref b) (C := R_Strip) (T := F_Strip) (N := 2) hx hb hta i_Strip hown hK hP 0 rfl rfl 0 (by decide) (hta _ fl_Strip_15) (fun _ h9 => h9) rfl d_Strip_add_12 ?_
    refine va_alen (D := D) (v := nI N) hx hb hK hP 1 0 rfl rfl rfl d_Strip_add_15 ?_
    refine lv_icmp_ge (tgt := 39) hx hb d_Strip_add_16 (by decide) (fun cc16 => ?_) (fun cc16 => ?_)
    · have hE := hE.1 cc16
      exact W.vret hx hb hr (fun t ht hW => ⟨⟨σ, rfl, hE, by rw [ht]; exact hP, va_K.moved hW.alike hK, hD⟩, hS.F ht⟩) hS.2.2 d_Strip_add_39
    · have hE := hE.2 cc16
      refine lv_aload_n hx hb d_Strip_add_19 rfl (lv_at hl 0 rfl) ?_
      refine va_get (D := D) (ci := 1) (v := .ref b) (C := R_Strip) (T := F_Strip) (N := 2) hx hb hta i_Strip hown hK hP 0 rfl rfl 0 (by decide) (hta _ fl_Strip_15) (fun _ h9 => h9) rfl d_Strip_add_20 ?_
      refine lv_aload_n hx hb d_Strip_add_23 rfl (lv_at hl 0 rfl) ?_
      refine va_get (D := D) (ci := 1) (v := .int σ.1) (C := R_Strip) (T := F_Strip) (N := 2) hx hb hta i_Strip hown hK hP 0 rfl rfl 1 (by decide) (hta _ fl_Strip_21) (fun _ h9 => h9) rfl d_Strip_add_24 ?_
      refine lv_iload_n hx hb d_Strip_add_27 rfl (lv_at hl 1 rfl) ?_
      obtain ⟨hI28, hE⟩ := hE
      refine va_iast (D := D) (f := σ.2) hx hb hK hP hD hS 1 0 rfl rfl hI28 d_Strip_add_28 (fun H locs hP hD hS => ?_)
      have hP : va_P D classes (SW a b cI N (σ.1, upd σ.2 σ.1.toNatClampNeg x0)) H := hP
      have hD : va_D A (SW a b cI N (σ.1, upd σ.2 σ.1.toNatClampNeg x0)) := hD
      have hE := hE _ rfl
      generalize ((σ.1, upd σ.2 σ.1.toNatClampNeg x0) : StS) = σ28 at hP hD hE
      refine lv_aload_n hx hb d_Strip_add_29 rfl (lv_at hl 0 rfl) ?_
      refine lv_dup hx hb d_Strip_add_30 rfl ?_
      refine va_get (D := D) (ci := 1) (v := .int σ28.1) (C := R_Strip) (T := F_Strip) (N := 2) hx hb hta i_Strip hown hK hP 0 rfl rfl 1 (by decide) (hta _ fl_Strip_21) (fun _ h9 => h9) rfl d_Strip_add_31 ?_
      refine lv_iconst (v := 1) hx hb d_Strip_add_34 (by decide) ?_
      refine lv_iadd hx hb d_Strip_add_35 ?_
      refine va_put (D := D) (ci := 1) (v := .int (σ28.1 + 1)) (ty := .int) (C := R_Strip) (T := F_Strip) (N := 2) hx hb hta i_Strip t_Strip t_Strip_ok n_Strip hown hK hP hD hS 0 rfl rfl 1 (by decide) (hta _ fl_Strip_21) (fun _ h9 => h9) rfl (by decide +kernel) rfl rfl (Nat.le_of_ble_eq_true rfl) d_Strip_add_36 (fun H locs hP hD hS => ?_)
      have hP : va_P D classes (SW a b cI N (σ28.1 + 1, σ28.2)) H := hP
      have hD : va_D A (SW a b cI N (σ28.1 + 1, σ28.2)) := hD
      have hE := hE _ rfl
      generalize ((σ28.1 + 1, σ28.2) : StS) = σ36 at hP hD hE
      exact W.vret hx hb hr (fun t ht hW => ⟨⟨σ36, rfl, hE, by rw [ht]; exact hP, va_K.moved hW.alike hK, hD⟩, hS.F ht⟩) hS.2.2 d_Strip_add_39

theorem d_Strip_clear_0 : decode b_Strip_clear 0 = .ok (.aload_n 0, 1) := by decide +kernel
theorem d_Strip_clear_1 : decode b_Strip_clear 1 = .ok (.iconst 0, 1) := by decide +kernel
theorem d_Strip_clear_2 : decode b_Strip_clear 2 = .ok (.putfield 21, 3) := by decide +kernel
theorem d_Strip_clear_5 : decode b_Strip_clear 5 = .ok (.return_, 1) := by decide +kernel
def w_Strip_clear  (σ : StS)  (post : StS → Prop) : Prop := (∀ σ2 : StS, σ2 = (0, σ.2) → post σ2)
set_option maxHeartbeats 4000000 in
set_option maxRecDepth 100000 in
theorem c_Strip_clear (l : Launch) (D : va_G) (a b : Nat) (cI : ClassId) (N : Nat) (sz : Nat) (σ : StS)  (post : StS → Prop) (hE : w_Strip_clear σ post) : Met l y_Strip_clear ws_Strip_clear { frames := 0, cells := 0, slots := 0, locals := 0 } (va_Pc [.ref a] (mW D (SW a b cI N σ) cI sz)) (va_Qv post (mB D (fun u => SW a b cI N u) cI (va_A (SW a b cI N σ) sz)) (va_A (SW a b cI N σ) sz)) 0 0 (va_A (SW a b cI N σ) sz) := by
  refine Met.ofW (cc := b_Strip_clear) (maxL := 1) (ret := none) (by decide) rfl ?_
  intro p e s m args below meth c s₁ B hml hv
  obtain ⟨rfl, hsz, hP, hK, hD0⟩ := hv
  have hx := B.exec
  have hb := B.bytes
  have hr := B.returns
  have hta : ∀ w ∈ aW, w.before _ s = true := fun w h => atoms_spec (ws := ws_Strip_clear) B.pre w (List.mem_cons_of_mem _ h)
  have hown : s.vm.findClass R_Strip = some m.cls := findClass_of_methodNamed B.named
  have hlocks := B.notSynchronized
  subst hsz
  have hD := hD0.self (sz := s.heap.size)
  generalize hAe : va_A (SW a b cI N σ) s.heap.size = A at hD ⊢
  have hA : ∀ q : Nat, s.heap.size ≤ q → A q := fun q h => by rw [← hAe]; exact Or.inr h
  have hS : va_S A s.heap s.heap [] := va_S.rf
  have hP : va_P D classes (SW a b cI N σ) s.heap := hP
  have hl := lv_entry ([.ref a]) (n := 1) (Nat.le_of_ble_eq_true rfl)
  rw [lg_entry_eq]
  generalize (lg_sl ([.ref a]) ++ List.replicate (1 - (lg_sl ([.ref a])).length) Slot.unset).toArray = ls at hl ⊢
  have hl : lv_has ls 1 [(0, .ref a)] := hl
  unfold w_Strip_clear at hE
  refine lv_aload_n hx hb d_Strip_clear_0 rfl (lv_at hl 0 rfl) ?_
  refine lv_iconst (v := 0) hx hb d_Strip_clear_1 (by decide) ?_
  refine va_put (D := D) (ci := 1) (v := .int 0) (ty := .int) (C := R_Strip) (T := F_Strip) (N := 2) hx hb hta i_Strip t_Strip t_Strip_ok n_Strip hown hK hP hD hS 0 rfl rfl 1 (by decide) (hta _ fl_Strip_21) (fun _ h9 => h9) rfl (by decide +kernel) rfl rfl (Nat.le_of_ble_eq_true rfl) d_Strip_clear_2 (fun H locs hP hD hS => ?_)
  have hP : va_P D classes (SW a b cI N (0, σ.2)) H := hP
  have hD : va_D A (SW a b cI N (0, σ.2)) := hD
  have hE := hE _ rfl
  generalize ((0, σ.2) : StS) = σ2 at hP hD hE
  exact W.vret hx hb hr (fun t ht hW => ⟨⟨σ2, rfl, hE, by rw [ht]; exact hP, va_K.moved hW.alike hK, hD⟩, hS.F ht⟩) hS.2.2 d_Strip_clear_5

theorem d_Table_size_0 : decode b_Table_size 0 = .ok (.aload_n 0, 1) := by decide +kernel
theorem d_Table_size_1 : decode b_Table_size 1 = .ok (.getfield 28, 3) := by decide +kernel
theorem d_Table_size_4 : decode b_Table_size 4 = .ok (.ireturn, 1) := by decide +kernel
def w_Table_size  (σ : StS)  (post : Int32 → Prop) : Prop := post σ.1
set_option maxHeartbeats 4000000 in
set_option maxRecDepth 100000 in
theorem c_Table_size (l : Launch) (D : va_G) (a b : Nat) (cI : ClassId) (most width : Int32) (N : Nat) (σ : StS)  (post : Int32 → Prop) (hE : w_Table_size σ post) : Met l y_Table_size ws_Table_size { frames := 0, cells := 0, slots := 0, locals := 0 } (va_Pc [.ref a] (rW D (TW a b cI most width N σ) cI)) (vp_Si post) 0 0 (fun _ => False) := by
  refine Met.ofW (cc := b_Table_size) (maxL := 1) (ret := (some .int)) (by decide) rfl ?_
  intro p e s m args below meth c s₁ B hml hv
  obtain ⟨rfl, hP, hK⟩ := hv
  have hS : va_S (fun _ : Nat => False) s.heap s.heap [] := va_S.rf
  have hx := B.exec
  have hb := B.bytes
  have hr := B.returns
  have hta : ∀ w ∈ aW, w.before _ s = true := fun w h => atoms_spec (ws := ws_Table_size) B.pre w (List.mem_cons_of_mem _ h)
  have hown : s.vm.findClass R_Table = some m.cls := findClass_of_methodNamed B.named
  have hlocks := B.notSynchronized
  have hl := lv_entry ([.ref a]) (n := 1) (Nat.le_of_ble_eq_true rfl)
  rw [lg_entry_eq]
  generalize (lg_sl ([.ref a]) ++ List.replicate (1 - (lg_sl ([.ref a])).length) Slot.unset).toArray = ls at hl ⊢
  have hl : lv_has ls 1 [(0, .ref a)] := hl
  unfold w_Table_size at hE
  refine lv_aload_n hx hb d_Table_size_0 rfl (lv_at hl 0 rfl) ?_
  refine va_get (D := D) (ci := 2) (v := .int σ.1) (C := R_Table) (T := F_Table) (N := 4) hx hb hta i_Table hown hK hP 0 rfl rfl 3 (by decide) (hta _ fl_Table_28) (fun _ h9 => h9) rfl d_Table_size_1 ?_
  exact W.iret (v := σ.1) hx hb hr (fun t ht hW => ⟨_, rfl, hE, ht⟩) (fun q h => by cases h) d_Table_size_4

theorem d_Table_get_0 : decode b_Table_get 0 = .ok (.iload_n 1, 1) := by decide +kernel
theorem d_Table_get_1 : decode b_Table_get 1 = .ok (.ifCond .lt 23, 3) := by decide +kernel
theorem d_Table_get_4 : decode b_Table_get 4 = .ok (.iload_n 1, 1) := by decide +kernel
theorem d_Table_get_5 : decode b_Table_get 5 = .ok (.aload_n 0, 1) := by decide +kernel
theorem d_Table_get_6 : decode b_Table_get 6 = .ok (.getfield 28, 3) := by decide +kernel
theorem d_Table_get_9 : decode b_Table_get 9 = .ok (.if_icmp .ge 15, 3) := by decide +kernel
theorem d_Table_get_12 : decode b_Table_get 12 = .ok (.iload_n 2, 1) := by decide +kernel
theorem d_Table_get_13 : decode b_Table_get 13 = .ok (.ifCond .lt 11, 3) := by decide +kernel
theorem d_Table_get_16 : decode b_Table_get 16 = .ok (.iload_n 2, 1) := by decide +kernel
theorem d_Table_get_17 : decode b_Table_get 17 = .ok (.aload_n 0, 1) := by decide +kernel
theorem d_Table_get_18 : decode b_Table_get 18 = .ok (.getfield 15, 3) := by decide +kernel
theorem d_Table_get_21 : decode b_Table_get 21 = .ok (.if_icmp .lt 5, 3) := by decide +kernel
theorem d_Table_get_24 : decode b_Table_get 24 = .ok (.iconst (-1), 1) := by decide +kernel
theorem d_Table_get_25 : decode b_Table_get 25 = .ok (.ireturn, 1) := by decide +kernel
theorem d_Table_get_26 : decode b_Table_get 26 = .ok (.iload_n 1, 1) := by decide +kernel
theorem d_Table_get_27 : decode b_Table_get 27 = .ok (.aload_n 0, 1) := by decide +kernel
theorem d_Table_get_28 : decode b_Table_get 28 = .ok (.getfield 15, 3) := by decide +kernel
theorem d_Table_get_31 : decode b_Table_get 31 = .ok (.imul, 1) := by decide +kernel
theorem d_Table_get_32 : decode b_Table_get 32 = .ok (.iload_n 2, 1) := by decide +kernel
theorem d_Table_get_33 : decode b_Table_get 33 = .ok (.iadd, 1) := by decide +kernel
theorem d_Table_get_34 : decode b_Table_get 34 = .ok (.istore_n 3, 1) := by decide +kernel
theorem d_Table_get_35 : decode b_Table_get 35 = .ok (.iload_n 3, 1) := by decide +kernel
theorem d_Table_get_36 : decode b_Table_get 36 = .ok (.aload_n 0, 1) := by decide +kernel
theorem d_Table_get_37 : decode b_Table_get 37 = .ok (.getfield 24, 3) := by decide +kernel
theorem d_Table_get_40 : decode b_Table_get 40 = .ok (.arraylength, 1) := by decide +kernel
theorem d_Table_get_41 : decode b_Table_get 41 = .ok (.if_icmp .ge 12, 3) := by decide +kernel
theorem d_Table_get_44 : decode b_Table_get 44 = .ok (.aload_n 0, 1) := by decide +kernel
theorem d_Table_get_45 : decode b_Table_get 45 = .ok (.getfield 24, 3) := by decide +kernel
theorem d_Table_get_48 : decode b_Table_get 48 = .ok (.iload_n 3, 1) := by decide +kernel
theorem d_Table_get_49 : decode b_Table_get 49 = .ok (.iaload, 1) := by decide +kernel
theorem d_Table_get_50 : decode b_Table_get 50 = .ok (.goto 4, 3) := by decide +kernel
theorem d_Table_get_53 : decode b_Table_get 53 = .ok (.iconst (-1), 1) := by decide +kernel
theorem d_Table_get_54 : decode b_Table_get 54 = .ok (.ireturn, 1) := by decide +kernel
def w_Table_get (width : Int32) (N : Nat) (σ : StS) (x0 : Int32) (x1 : Int32) (post : Int32 → Prop) : Prop := ((x0 < 0 → post (-1)) ∧ (¬ x0 < 0 → ((σ.1 ≤ x0 → post (-1)) ∧ (¬ σ.1 ≤ x0 → ((x1 < 0 → post (-1)) ∧ (¬ x1 < 0 → ((x1 < width → (((nI N) ≤ ((x0 * width) + x1) → post (-1)) ∧ (¬ (nI N) ≤ ((x0 * width) + x1) → (vp_in ((x0 * width) + x1) N ∧ post (σ.2 ((x0 * width) + x1).toNatClampNeg))))) ∧ (¬ x1 < width → post (-1)))))))))
set_option maxHeartbeats 4000000 in
set_option maxRecDepth 100000 in
theorem c_Table_get (l : Launch) (D : va_G) (a b : Nat) (cI : ClassId) (most width : Int32) (N : Nat) (σ : StS) (x0 : Int32) (x1 : Int32) (post : Int32 → Prop) (hE : w_Table_get width N σ x0 x1 post) : Met l y_Table_get ws_Table_get { frames := 0, cells := 0, slots := 0, locals := 0 } (va_Pc [.ref a, .int x0, .int x1] (rW D (TW a b cI most width N σ) cI)) (vp_Si post) 0 0 (fun _ => False) := by
  refine Met.ofW (cc := b_Table_get) (maxL := 4) (ret := (some .int)) (by decide) rfl ?_
  intro p e s m args below meth c s₁ B hml hv
  obtain ⟨rfl, hP, hK⟩ := hv
  have hS : va_S (fun _ : Nat => False) s.heap s.heap [] := va_S.rf
  have hx := B.exec
  have hb := B.bytes
  have hr := B.returns
  have hta : ∀ w ∈ aW, w.before _ s = true := fun w h => atoms_spec (ws := ws_Table_get) B.pre w (List.mem_cons_of_mem _ h)
  have hown : s.vm.findClass R_Table = some m.cls := findClass_of_methodNamed B.named
  have hlocks := B.notSynchronized
  have hl := lv_entry ([.ref a, .int x0, .int x1]) (n := 4) (Nat.le_of_ble_eq_true rfl)
  rw [lg_entry_eq]
  generalize (lg_sl ([.ref a, .int x0, .int x1]) ++ List.replicate (4 - (lg_sl ([.ref a, .int x0, .int x1])).length) Slot.unset).toArray = ls at hl ⊢
  have hl : lv_has ls 4 [(0, .ref a), (1, .int x0), (2, .int x1)] := hl
  unfold w_Table_get at hE
  refine lv_iload_n hx hb d_Table_get_0 rfl (lv_at hl 1 rfl) ?_
  refine lv_if_lt (tgt := 24) hx hb d_Table_get_1 (by decide) (fun cc1 => ?_) (fun cc1 => ?_)
  · have hE := hE.1 cc1
    refine lv_iconst (v := -1) hx hb d_Table_get_24 (by decide) ?_
    exact W.iret (v := (-1)) hx hb hr (fun t ht hW => ⟨_, rfl, hE, ht⟩) (fun q h => by cases h) d_Table_get_25
  · have hE := hE.2 cc1
    refine lv_iload_n hx hb d_Table_get_4 rfl (lv_at hl 1 rfl) ?_
    refine lv_aload_n hx hb d_Table_get_5 rfl (lv_at hl 0 rfl) ?_
    refine va_get (D := D) (ci := 2) (v := .int σ.1) (C := R_Table) (T := F_Table) (N := 4) hx hb hta i_Table hown hK hP 0 rfl rfl 3 (by decide) (hta _ fl_Table_28) (fun _ h9 => h9) rfl d_Table_get_6 ?_
    refine lv_icmp_ge (tgt := 24) hx hb d_Table_get_9 (by decide) (fun cc9 => ?_) (fun cc9 => ?_)
    · have hE := hE.1 cc9
      refine lv_iconst (v := -1) hx hb d_Table_get_24 (by decide) ?_
      exact W.iret (v := (-1)) hx hb hr (fun t ht hW => ⟨_, rfl, hE, ht⟩) (fun q h => by cases h) d_Table_get_25
    · have hE := hE.2 cc9
      refine lv_iload_n hx hb d_Table_get_12 rfl (lv_at hl 2 rfl) ?_
      refine lv_if_lt (tgt := 24) hx hb d_Table_get_13 (by decide) (fun cc13 => ?_) (fun cc13 => ?_)
      · have hE := hE.1 cc13
        refine lv_iconst (v := -1) hx hb d_Table_get_24 (by decide) ?_
        exact W.iret (v := (-1)) hx hb hr (fun t ht hW => ⟨_, rfl, hE, ht⟩) (fun q h => by cases h) d_Table_get_25
      · have hE := hE.2 cc13
        refine lv_iload_n hx hb d_Table_get_16 rfl (lv_at hl 2 rfl) ?_
        refine lv_aload_n hx hb d_Table_get_17 rfl (lv_at hl 0 rfl) ?_
        refine va_get (D := D) (ci := 2) (v := .int width) (C := R_Table) (T := F_Table) (N := 4) hx hb hta i_Table hown hK hP 0 rfl rfl 1 (by decide) (hta _ fl_Table_15) (fun _ h9 => h9) rfl d_Table_get_18 ?_
        refine lv_icmp_lt (tgt := 26) hx hb d_Table_get_21 (by decide) (fun cc21 => ?_) (fun cc21 => ?_)
        · have hE := hE.1 cc21
          refine lv_iload_n hx hb d_Table_get_26 rfl (lv_at hl 1 rfl) ?_
          refine lv_aload_n hx hb d_Table_get_27 rfl (lv_at hl 0 rfl) ?_
          refine va_get (D := D) (ci := 2) (v := .int width) (C := R_Table) (T := F_Table) (N := 4) hx hb hta i_Table hown hK hP 0 rfl rfl 1 (by decide) (hta _ fl_Table_15) (fun _ h9 => h9) rfl d_Table_get_28 ?_
          refine lv_imul hx hb d_Table_get_31 ?_
          refine lv_iload_n hx hb d_Table_get_32 rfl (lv_at hl 2 rfl) ?_
          refine lv_iadd hx hb d_Table_get_33 ?_
          refine lv_istore_n (lv' := [(3, .int ((x0 * width) + x1)), (0, .ref a), (1, .int x0), (2, .int x1)]) hx hb d_Table_get_34 rfl hl (by decide) rfl (fun ls hl => ?_)
          refine lv_iload_n hx hb d_Table_get_35 rfl (lv_at hl 0 rfl) ?_
          refine lv_aload_n hx hb d_Table_get_36 rfl (lv_at hl 1 rfl) ?_
          refine va_get (D := D) (ci := 2) (v := .ref b) (C := R_Table) (T := F_Table) (N := 4) hx hb hta i_Table hown hK hP 0 rfl rfl 2 (by decide) (hta _ fl_Table_24) (fun _ h9 => h9) rfl d_Table_get_37 ?_
          refine va_alen (D := D) (v := nI N) hx hb hK hP 1 0 rfl rfl rfl d_Table_get_40 ?_
          refine lv_icmp_ge (tgt := 53) hx hb d_Table_get_41 (by decide) (fun cc41 => ?_) (fun cc41 => ?_)
          · have hE := hE.1 cc41
            refine lv_iconst (v := -1) hx hb d_Table_get_53 (by decide) ?_
            exact W.iret (v := (-1)) hx hb hr (fun t ht hW => ⟨_, rfl, hE, ht⟩) (fun q h => by cases h) d_Table_get_54
          · have hE := hE.2 cc41
            refine lv_aload_n hx hb d_Table_get_44 rfl (lv_at hl 1 rfl) ?_
            refine va_get (D := D) (ci := 2) (v := .ref b) (C := R_Table) (T := F_Table) (N := 4) hx hb hta i_Table hown hK hP 0 rfl rfl 2 (by decide) (hta _ fl_Table_24) (fun _ h9 => h9) rfl d_Table_get_45 ?_
            refine lv_iload_n hx hb d_Table_get_48 rfl (lv_at hl 0 rfl) ?_
            obtain ⟨hI49, hE⟩ := hE
            refine va_iald (D := D) (f := σ.2) hx hb hK hP 1 0 rfl rfl hI49 d_Table_get_49 ?_
            refine lv_goto (tgt := 54) hx hb d_Table_get_50 (by decide) ?_
            exact W.iret (v := σ.2 ((x0 * width) + x1).toNatClampNeg) hx hb hr (fun t ht hW => ⟨_, rfl, hE, ht⟩) (fun q h => by cases h) d_Table_get_54
        · have hE := hE.2 cc21
          refine lv_iconst (v := -1) hx hb d_Table_get_24 (by decide) ?_
          exact W.iret (v := (-1)) hx hb hr (fun t ht hW => ⟨_, rfl, hE, ht⟩) (fun q h => by cases h) d_Table_get_25

theorem d_Table_set_0 : decode b_Table_set 0 = .ok (.iload_n 1, 1) := by decide +kernel
theorem d_Table_set_1 : decode b_Table_set 1 = .ok (.ifCond .lt 23, 3) := by decide +kernel
theorem d_Table_set_4 : decode b_Table_set 4 = .ok (.iload_n 1, 1) := by decide +kernel
theorem d_Table_set_5 : decode b_Table_set 5 = .ok (.aload_n 0, 1) := by decide +kernel
theorem d_Table_set_6 : decode b_Table_set 6 = .ok (.getfield 28, 3) := by decide +kernel
theorem d_Table_set_9 : decode b_Table_set 9 = .ok (.if_icmp .ge 15, 3) := by decide +kernel
theorem d_Table_set_12 : decode b_Table_set 12 = .ok (.iload_n 2, 1) := by decide +kernel
theorem d_Table_set_13 : decode b_Table_set 13 = .ok (.ifCond .lt 11, 3) := by decide +kernel
theorem d_Table_set_16 : decode b_Table_set 16 = .ok (.iload_n 2, 1) := by decide +kernel
theorem d_Table_set_17 : decode b_Table_set 17 = .ok (.aload_n 0, 1) := by decide +kernel
theorem d_Table_set_18 : decode b_Table_set 18 = .ok (.getfield 15, 3) := by decide +kernel
theorem d_Table_set_21 : decode b_Table_set 21 = .ok (.if_icmp .lt 4, 3) := by decide +kernel
theorem d_Table_set_24 : decode b_Table_set 24 = .ok (.return_, 1) := by decide +kernel
theorem d_Table_set_25 : decode b_Table_set 25 = .ok (.iload_n 1, 1) := by decide +kernel
theorem d_Table_set_26 : decode b_Table_set 26 = .ok (.aload_n 0, 1) := by decide +kernel
theorem d_Table_set_27 : decode b_Table_set 27 = .ok (.getfield 15, 3) := by decide +kernel
theorem d_Table_set_30 : decode b_Table_set 30 = .ok (.imul, 1) := by decide +kernel
theorem d_Table_set_31 : decode b_Table_set 31 = .ok (.iload_n 2, 1) := by decide +kernel
theorem d_Table_set_32 : decode b_Table_set 32 = .ok (.iadd, 1) := by decide +kernel
theorem d_Table_set_33 : decode b_Table_set 33 = .ok (.istore 4, 2) := by decide +kernel
theorem d_Table_set_35 : decode b_Table_set 35 = .ok (.iload 4, 2) := by decide +kernel
theorem d_Table_set_37 : decode b_Table_set 37 = .ok (.aload_n 0, 1) := by decide +kernel
theorem d_Table_set_38 : decode b_Table_set 38 = .ok (.getfield 24, 3) := by decide +kernel
theorem d_Table_set_41 : decode b_Table_set 41 = .ok (.arraylength, 1) := by decide +kernel
theorem d_Table_set_42 : decode b_Table_set 42 = .ok (.if_icmp .ge 11, 3) := by decide +kernel
theorem d_Table_set_45 : decode b_Table_set 45 = .ok (.aload_n 0, 1) := by decide +kernel
theorem d_Table_set_46 : decode b_Table_set 46 = .ok (.getfield 24, 3) := by decide +kernel
theorem d_Table_set_49 : decode b_Table_set 49 = .ok (.iload 4, 2) := by decide +kernel
theorem d_Table_set_51 : decode b_Table_set 51 = .ok (.iload_n 3, 1) := by decide +kernel
theorem d_Table_set_52 : decode b_Table_set 52 = .ok (.iastore, 1) := by decide +kernel
theorem d_Table_set_53 : decode b_Table_set 53 = .ok (.return_, 1) := by decide +kernel
def w_Table_set (width : Int32) (N : Nat) (σ : StS) (x0 : Int32) (x1 : Int32) (x2 : Int32) (post : StS → Prop) : Prop := ((x0 < 0 → post σ) ∧ (¬ x0 < 0 → ((σ.1 ≤ x0 → post σ) ∧ (¬ σ.1 ≤ x0 → ((x1 < 0 → post σ) ∧ (¬ x1 < 0 → ((x1 < width → (((nI N) ≤ ((x0 * width) + x1) → post σ) ∧ (¬ (nI N) ≤ ((x0 * width) + x1) → (vp_in ((x0 * width) + x1) N ∧ (∀ σ52 : StS, σ52 = (σ.1, upd σ.2 ((x0 * width) + x1).toNatClampNeg x2) → post σ52))))) ∧ (¬ x1 < width → post σ))))))))
set_option maxHeartbeats 4000000 in
set_option maxRecDepth 100000 in
theorem c_Table_set (l : Launch) (D : va_G) (a b : Nat) (cI : ClassId) (most width : Int32) (N : Nat) (sz : Nat) (σ : StS) (x0 : Int32) (x1 : Int32) (x2 : Int32) (post : StS → Prop) (hE : w_Table_set width N σ x0 x1 x2 post) : Met l y_Table_set ws_Table_set { frames := 0, cells := 0, slots := 0, locals := 0 } (va_Pc [.ref a, .int x0, .int x1, .int x2] (mW D (TW a b cI most width N σ) cI sz)) (va_Qv post (mB D (fun u => TW a b cI most width N u) cI (va_A (TW a b cI most width N σ) sz)) (va_A (TW a b cI most width N σ) sz)) 0 0 (va_A (TW a b cI most width N σ) sz) := by
  refine Met.ofW (cc := b_Table_set) (maxL := 5) (ret := none) (by decide) rfl ?_
  intro p e s m args below meth c s₁ B hml hv
  obtain ⟨rfl, hsz, hP, hK, hD0⟩ := hv
  have hx := B.exec
  have hb := B.bytes
  have hr := B.returns
  have hta : ∀ w ∈ aW, w.before _ s = true := fun w h => atoms_spec (ws := ws_Table_set) B.pre w (List.mem_cons_of_mem _ h)
  have hown : s.vm.findClass R_Table = some m.cls := findClass_of_methodNamed B.named
  have hlocks := B.notSynchronized
  subst hsz
  have hD := hD0.self (sz := s.heap.size)
  generalize hAe : va_A (TW a b cI most width N σ) s.heap.size = A at hD ⊢
  have hA : ∀ q : Nat, s.heap.size ≤ q → A q := fun q h => by rw [← hAe]; exact Or.inr h
  have hS : va_S A s.heap s.heap [] := va_S.rf
  have hP : va_P D classes (TW a b cI most width N σ) s.heap := hP
  have hl := lv_entry ([.ref a, .int x0, .int x1, .int x2]) (n := 5) (Nat.le_of_ble_eq_true rfl)
  rw [lg_entry_eq]
  generalize (lg_sl ([.ref a, .int x0, .int x1, .int x2]) ++ List.replicate (5 - (lg_sl ([.ref a, .int x0, .int x1, .int x2])).length) Slot.unset).toArray = ls at hl ⊢
  have hl : lv_has ls 5 [(0, .ref a), (1, .int x0), (2, .int x1), (3, .int x2)] := hl
  unfold w_Table_set at hE
  refine lv_iload_n hx hb d_Table_set_0 rfl (lv_at hl 1 rfl) ?_
  refine lv_if_lt (tgt := 24) hx hb d_Table_set_1 (by decide) (fun cc1 => ?_) (fun cc1 => ?_)
  · have hE := hE.1 cc1
    exact W.vret hx hb hr (fun t ht hW => ⟨⟨σ, rfl, hE, by rw [ht]; exact hP, va_K.moved hW.alike hK, hD⟩, hS.F ht⟩) hS.2.2 d_Table_set_24
  · have hE := hE.2 cc1
    refine lv_iload_n hx hb d_Table_set_4 rfl (lv_at hl 1 rfl) ?_
    refine lv_aload_n hx hb d_Table_set_5 rfl (lv_at hl 0 rfl) ?_
    refine va_get (D := D) (ci := 2) (v := .int σ.1) (C := R_Table) (T := F_Table) (N := 4) hx hb hta i_Table hown hK hP 0 rfl rfl 3 (by decide) (hta _ fl_Table_28) (fun _ h9 => h9) rfl d_Table_set_6 ?_
    refine lv_icmp_ge (tgt := 24) hx hb d_Table_set_9 (by decide) (fun cc9 => ?_) (fun cc9 => ?_)
    · have hE := hE.1 cc9
      exact W.vret hx hb hr (fun t ht hW => ⟨⟨σ, rfl, hE, by rw [ht]; exact hP, va_K.moved hW.alike hK, hD⟩, hS.F ht⟩) hS.2.2 d_Table_set_24
    · have hE := hE.2 cc9
      refine lv_iload_n hx hb d_Table_set_12 rfl (lv_at hl 2 rfl) ?_
      refine lv_if_lt (tgt := 24) hx hb d_Table_set_13 (by decide) (fun cc13 => ?_) (fun cc13 => ?_)
      · have hE := hE.1 cc13
        exact W.vret hx hb hr (fun t ht hW => ⟨⟨σ, rfl, hE, by rw [ht]; exact hP, va_K.moved hW.alike hK, hD⟩, hS.F ht⟩) hS.2.2 d_Table_set_24
      · have hE := hE.2 cc13
        refine lv_iload_n hx hb d_Table_set_16 rfl (lv_at hl 2 rfl) ?_
        refine lv_aload_n hx hb d_Table_set_17 rfl (lv_at hl 0 rfl) ?_
        refine va_get (D := D) (ci := 2) (v := .int width) (C := R_Table) (T := F_Table) (N := 4) hx hb hta i_Table hown hK hP 0 rfl rfl 1 (by decide) (hta _ fl_Table_15) (fun _ h9 => h9) rfl d_Table_set_18 ?_
        refine lv_icmp_lt (tgt := 25) hx hb d_Table_set_21 (by decide) (fun cc21 => ?_) (fun cc21 => ?_)
        · have hE := hE.1 cc21
          refine lv_iload_n hx hb d_Table_set_25 rfl (lv_at hl 1 rfl) ?_
          refine lv_aload_n hx hb d_Table_set_26 rfl (lv_at hl 0 rfl) ?_
          refine va_get (D := D) (ci := 2) (v := .int width) (C := R_Table) (T := F_Table) (N := 4) hx hb hta i_Table hown hK hP 0 rfl rfl 1 (by decide) (hta _ fl_Table_15) (fun _ h9 => h9) rfl d_Table_set_27 ?_
          refine lv_imul hx hb d_Table_set_30 ?_
          refine lv_iload_n hx hb d_Table_set_31 rfl (lv_at hl 2 rfl) ?_
          refine lv_iadd hx hb d_Table_set_32 ?_
          refine lv_istore (lv' := [(4, .int ((x0 * width) + x1)), (0, .ref a), (1, .int x0), (2, .int x1), (3, .int x2)]) hx hb d_Table_set_33 hl (by decide) rfl (fun ls hl => ?_)
          refine lv_iload hx hb d_Table_set_35 (lv_at hl 0 rfl) ?_
          refine lv_aload_n hx hb d_Table_set_37 rfl (lv_at hl 1 rfl) ?_
          refine va_get (D := D) (ci := 2) (v := .ref b) (C := R_Table) (T := F_Table) (N := 4) hx hb hta i_Table hown hK hP 0 rfl rfl 2 (by decide) (hta _ fl_Table_24) (fun _ h9 => h9) rfl d_Table_set_38 ?_
          refine va_alen (D := D) (v := nI N) hx hb hK hP 1 0 rfl rfl rfl d_Table_set_41 ?_
          refine lv_icmp_ge (tgt := 53) hx hb d_Table_set_42 (by decide) (fun cc42 => ?_) (fun cc42 => ?_)
          · have hE := hE.1 cc42
            exact W.vret hx hb hr (fun t ht hW => ⟨⟨σ, rfl, hE, by rw [ht]; exact hP, va_K.moved hW.alike hK, hD⟩, hS.F ht⟩) hS.2.2 d_Table_set_53
          · have hE := hE.2 cc42
            refine lv_aload_n hx hb d_Table_set_45 rfl (lv_at hl 1 rfl) ?_
            refine va_get (D := D) (ci := 2) (v := .ref b) (C := R_Table) (T := F_Table) (N := 4) hx hb hta i_Table hown hK hP 0 rfl rfl 2 (by decide) (hta _ fl_Table_24) (fun _ h9 => h9) rfl d_Table_set_46 ?_
            refine lv_iload hx hb d_Table_set_49 (lv_at hl 0 rfl) ?_
            refine lv_iload_n hx hb d_Table_set_51 rfl (lv_at hl 4 rfl) ?_
            obtain ⟨hI52, hE⟩ := hE
            refine va_iast (D := D) (f := σ.2) hx hb hK hP hD hS 1 0 rfl rfl hI52 d_Table_set_52 (fun H locs hP hD hS => ?_)
            have hP : va_P D classes (TW a b cI most width N (σ.1, upd σ.2 ((x0 * width) + x1).toNatClampNeg x2)) H := hP
            have hD : va_D A (TW a b cI most width N (σ.1, upd σ.2 ((x0 * width) + x1).toNatClampNeg x2)) := hD
            have hE := hE _ rfl
            generalize ((σ.1, upd σ.2 ((x0 * width) + x1).toNatClampNeg x2) : StS) = σ52 at hP hD hE
            exact W.vret hx hb hr (fun t ht hW => ⟨⟨σ52, rfl, hE, by rw [ht]; exact hP, va_K.moved hW.alike hK, hD⟩, hS.F ht⟩) hS.2.2 d_Table_set_53
        · have hE := hE.2 cc21
          exact W.vret hx hb hr (fun t ht hW => ⟨⟨σ, rfl, hE, by rw [ht]; exact hP, va_K.moved hW.alike hK, hD⟩, hS.F ht⟩) hS.2.2 d_Table_set_24

theorem d_Table_addRow_0 : decode b_Table_addRow 0 = .ok (.aload_n 0, 1) := by decide +kernel
theorem d_Table_addRow_1 : decode b_Table_addRow 1 = .ok (.getfield 28, 3) := by decide +kernel
theorem d_Table_addRow_4 : decode b_Table_addRow 4 = .ok (.aload_n 0, 1) := by decide +kernel
theorem d_Table_addRow_5 : decode b_Table_addRow 5 = .ok (.getfield 9, 3) := by decide +kernel
theorem d_Table_addRow_8 : decode b_Table_addRow 8 = .ok (.if_icmp .lt 5, 3) := by decide +kernel
theorem d_Table_addRow_11 : decode b_Table_addRow 11 = .ok (.iconst (-1), 1) := by decide +kernel
theorem d_Table_addRow_12 : decode b_Table_addRow 12 = .ok (.ireturn, 1) := by decide +kernel
theorem d_Table_addRow_13 : decode b_Table_addRow 13 = .ok (.aload_n 0, 1) := by decide +kernel
theorem d_Table_addRow_14 : decode b_Table_addRow 14 = .ok (.getfield 28, 3) := by decide +kernel
theorem d_Table_addRow_17 : decode b_Table_addRow 17 = .ok (.iconst 1, 1) := by decide +kernel
theorem d_Table_addRow_18 : decode b_Table_addRow 18 = .ok (.iadd, 1) := by decide +kernel
theorem d_Table_addRow_19 : decode b_Table_addRow 19 = .ok (.aload_n 0, 1) := by decide +kernel
theorem d_Table_addRow_20 : decode b_Table_addRow 20 = .ok (.getfield 15, 3) := by decide +kernel
theorem d_Table_addRow_23 : decode b_Table_addRow 23 = .ok (.imul, 1) := by decide +kernel
theorem d_Table_addRow_24 : decode b_Table_addRow 24 = .ok (.istore_n 1, 1) := by decide +kernel
theorem d_Table_addRow_25 : decode b_Table_addRow 25 = .ok (.aload_n 0, 1) := by decide +kernel
theorem d_Table_addRow_26 : decode b_Table_addRow 26 = .ok (.getfield 28, 3) := by decide +kernel
theorem d_Table_addRow_29 : decode b_Table_addRow 29 = .ok (.aload_n 0, 1) := by decide +kernel
theorem d_Table_addRow_30 : decode b_Table_addRow 30 = .ok (.getfield 15, 3) := by decide +kernel
theorem d_Table_addRow_33 : decode b_Table_addRow 33 = .ok (.imul, 1) := by decide +kernel
theorem d_Table_addRow_34 : decode b_Table_addRow 34 = .ok (.istore_n 2, 1) := by decide +kernel
theorem d_Table_addRow_35 : decode b_Table_addRow 35 = .ok (.iload_n 2, 1) := by decide +kernel
theorem d_Table_addRow_36 : decode b_Table_addRow 36 = .ok (.ifCond .lt 30, 3) := by decide +kernel
theorem d_Table_addRow_39 : decode b_Table_addRow 39 = .ok (.iload_n 2, 1) := by decide +kernel
theorem d_Table_addRow_40 : decode b_Table_addRow 40 = .ok (.iload_n 1, 1) := by decide +kernel
theorem d_Table_addRow_41 : decode b_Table_addRow 41 = .ok (.if_icmp .ge 25, 3) := by decide +kernel
theorem d_Table_addRow_44 : decode b_Table_addRow 44 = .ok (.iload_n 2, 1) := by decide +kernel
theorem d_Table_addRow_45 : decode b_Table_addRow 45 = .ok (.aload_n 0, 1) := by decide +kernel
theorem d_Table_addRow_46 : decode b_Table_addRow 46 = .ok (.getfield 24, 3) := by decide +kernel
theorem d_Table_addRow_49 : decode b_Table_addRow 49 = .ok (.arraylength, 1) := by decide +kernel
theorem d_Table_addRow_50 : decode b_Table_addRow 50 = .ok (.if_icmp .ge 16, 3) := by decide +kernel
theorem d_Table_addRow_53 : decode b_Table_addRow 53 = .ok (.aload_n 0, 1) := by decide +kernel
theorem d_Table_addRow_54 : decode b_Table_addRow 54 = .ok (.getfield 24, 3) := by decide +kernel
theorem d_Table_addRow_57 : decode b_Table_addRow 57 = .ok (.iload_n 2, 1) := by decide +kernel
theorem d_Table_addRow_58 : decode b_Table_addRow 58 = .ok (.iconst (-1), 1) := by decide +kernel
theorem d_Table_addRow_59 : decode b_Table_addRow 59 = .ok (.iastore, 1) := by decide +kernel
theorem d_Table_addRow_60 : decode b_Table_addRow 60 = .ok (.iinc 2 1, 3) := by decide +kernel
theorem d_Table_addRow_63 : decode b_Table_addRow 63 = .ok (.goto (-28), 3) := by decide +kernel
theorem d_Table_addRow_66 : decode b_Table_addRow 66 = .ok (.aload_n 0, 1) := by decide +kernel
theorem d_Table_addRow_67 : decode b_Table_addRow 67 = .ok (.dup, 1) := by decide +kernel
theorem d_Table_addRow_68 : decode b_Table_addRow 68 = .ok (.getfield 28, 3) := by decide +kernel
theorem d_Table_addRow_71 : decode b_Table_addRow 71 = .ok (.iconst 1, 1) := by decide +kernel
theorem d_Table_addRow_72 : decode b_Table_addRow 72 = .ok (.iadd, 1) := by decide +kernel
theorem d_Table_addRow_73 : decode b_Table_addRow 73 = .ok (.putfield 28, 3) := by decide +kernel
theorem d_Table_addRow_76 : decode b_Table_addRow 76 = .ok (.aload_n 0, 1) := by decide +kernel
theorem d_Table_addRow_77 : decode b_Table_addRow 77 = .ok (.getfield 28, 3) := by decide +kernel
theorem d_Table_addRow_80 : decode b_Table_addRow 80 = .ok (.iconst 1, 1) := by decide +kernel
theorem d_Table_addRow_81 : decode b_Table_addRow 81 = .ok (.isub, 1) := by decide +kernel
theorem d_Table_addRow_82 : decode b_Table_addRow 82 = .ok (.ireturn, 1) := by decide +kernel
def w_Table_addRow_J66 (most width : Int32) (N : Nat)  (post : Int32 → StS → Prop) (σ : StS) : Prop := (∀ σ73 : StS, σ73 = (σ.1 + 1, σ.2) → post (σ73.1 - 1) σ73)
def w_Table_addRow_L35 (most width : Int32) (N : Nat) (v1 : Int32) (post : Int32 → StS → Prop) : Nat → Int32 → StS → Prop
  | 0, _, _ => False
  | n + 1, v2, σ => ((v2 < 0 → w_Table_addRow_J66 most width N post σ) ∧ (¬ v2 < 0 → ((v1 ≤ v2 → w_Table_addRow_J66 most width N post σ) ∧ (¬ v1 ≤ v2 → (((nI N) ≤ v2 → w_Table_addRow_J66 most width N post σ) ∧ (¬ (nI N) ≤ v2 → (vp_in v2 N ∧ (∀ σ59 : StS, σ59 = (σ.1, upd σ.2 v2.toNatClampNeg (-1)) → w_Table_addRow_L35 most width N v1 post n (v2 + 1) σ59))))))))
def w_Table_addRow (most width : Int32) (N : Nat) (σ : StS)  (post : Int32 → StS → Prop) : Prop := ((σ.1 < most → (∃ n, w_Table_addRow_L35 most width N ((σ.1 + 1) * width) post n (σ.1 * width) σ)) ∧ (¬ σ.1 < most → post (-1) σ))
set_option maxHeartbeats 4000000 in
set_option maxRecDepth 100000 in
theorem c_Table_addRow (l : Launch) (D : va_G) (a b : Nat) (cI : ClassId) (most width : Int32) (N : Nat) (sz : Nat) (σ : StS)  (post : Int32 → StS → Prop) (hE : w_Table_addRow most width N σ post) : Met l y_Table_addRow ws_Table_addRow { frames := 0, cells := 0, slots := 0, locals := 0 } (va_Pc [.ref a] (mW D (TW a b cI most width N σ) cI sz)) (va_Qi post (mB D (fun u => TW a b cI most width N u) cI (va_A (TW a b cI most width N σ) sz)) (va_A (TW a b cI most width N σ) sz)) 0 0 (va_A (TW a b cI most width N σ) sz) := by
  refine Met.ofW (cc := b_Table_addRow) (maxL := 3) (ret := (some .int)) (by decide) rfl ?_
  intro p e s m args below meth c s₁ B hml hv
  obtain ⟨rfl, hsz, hP, hK, hD0⟩ := hv
  have hx := B.exec
  have hb := B.bytes
  have hr := B.returns
  have hta : ∀ w ∈ aW, w.before _ s = true := fun w h => atoms_spec (ws := ws_Table_addRow) B.pre w (List.mem_cons_of_mem _ h)
  have hown : s.vm.findClass R_Table = some m.cls := findClass_of_methodNamed B.named
  have hlocks := B.notSynchronized
  subst hsz
  have hD := hD0.self (sz := s.heap.size)
  generalize hAe : va_A (TW a b cI most width N σ) s.heap.size = A at hD ⊢
  have hA : ∀ q : Nat, s.heap.size ≤ q → A q := fun q h => by rw [← hAe]; exact Or.inr h
  have hS : va_S A s.heap s.heap [] := va_S.rf
  have hP : va_P D classes (TW a b cI most width N σ) s.heap := hP
  have hl := lv_entry ([.ref a]) (n := 3) (Nat.le_of_ble_eq_true rfl)
  rw [lg_entry_eq]
  generalize (lg_sl ([.ref a]) ++ List.replicate (3 - (lg_sl ([.ref a])).length) Slot.unset).toArray = ls at hl ⊢
  have hl : lv_has ls 3 [(0, .ref a)] := hl
  have J66 : ∀ (σ : StS) (H : Heap) (locs : List Loc) (hP : va_P D classes (TW a b cI most width N σ) H) (hD : va_D A (TW a b cI most width N σ)) (hS : va_S A s.heap H locs) (ls : Array Slot) (hl : lv_has ls 3 [(0, .ref a)]) (hE : w_Table_addRow_J66 most width N post σ), W p l e (headSpec ws_Table_addRow { frames := 0, cells := 0, slots := 0, locals := 0 }).room s m ([.ref a] : List Value).toArray below meth c H locs 0 0 (MQ below (va_Qi post (mB D (fun u => TW a b cI most width N u) cI A) A) ([.ref a] : List Value).toArray s 0 0 A) (F0 m 66 ls []) := by
    intro  σ H locs hP hD hS ls hl hE
    unfold w_Table_addRow_J66 at hE
    refine lv_aload_n hx hb d_Table_addRow_66 rfl (lv_at hl 0 rfl) ?_
    refine lv_dup hx hb d_Table_addRow_67 rfl ?_
    refine va_get (D := D) (ci := 2) (v := .int σ.1) (C := R_Table) (T := F_Table) (N := 4) hx hb hta i_Table hown hK hP 0 rfl rfl 3 (by decide) (hta _ fl_Table_28) (fun _ h9 => h9) rfl d_Table_addRow_68 ?_
    refine lv_iconst (v := 1) hx hb d_Table_addRow_71 (by decide) ?_
    refine lv_iadd hx hb d_Table_addRow_72 ?_
    refine va_put (D := D) (ci := 2) (v := .int (σ.1 + 1)) (ty := .int) (C := R_Table) (T := F_Table) (N := 4) hx hb hta i_Table t_Table t_Table_ok n_Table hown hK hP hD hS 0 rfl rfl 3 (by decide) (hta _ fl_Table_28) (fun _ h9 => h9) rfl (by decide +kernel) rfl rfl (Nat.le_of_ble_eq_true rfl) d_Table_addRow_73 (fun H locs hP hD hS => ?_)
    have hP : va_P D classes (TW a b cI most width N (σ.1 + 1, σ.2)) H := hP
    have hD : va_D A (TW a b cI most width N (σ.1 + 1, σ.2)) := hD
    have hE := hE _ rfl
    generalize ((σ.1 + 1, σ.2) : StS) = σ73 at hP hD hE
    refine lv_aload_n hx hb d_Table_addRow_76 rfl (lv_at hl 0 rfl) ?_
    refine va_get (D := D) (ci := 2) (v := .int σ73.1) (C := R_Table) (T := F_Table) (N := 4) hx hb hta i_Table hown hK hP 0 rfl rfl 3 (by decide) (hta _ fl_Table_28) (fun _ h9 => h9) rfl d_Table_addRow_77 ?_
    refine lv_iconst (v := 1) hx hb d_Table_addRow_80 (by decide) ?_
    refine lv_isub hx hb d_Table_addRow_81 ?_
    exact W.iret (v := σ73.1 - 1) hx hb hr (fun t ht hW => ⟨⟨_, σ73, rfl, hE, by rw [ht]; exact hP, va_K.moved hW.alike hK, hD⟩, hS.F ht⟩) hS.2.2 d_Table_addRow_82
  have L35 : ∀ (v1 : Int32) (n : Nat) (v2 : Int32) (σ : StS) (H : Heap) (locs : List Loc) (hP : va_P D classes (TW a b cI most width N σ) H) (hD : va_D A (TW a b cI most width N σ)) (hS : va_S A s.heap H locs) (ls : Array Slot) (hl : lv_has ls 3 [(0, .ref a), (1, .int v1), (2, .int v2)]) (hE : w_Table_addRow_L35 most width N v1 post n v2 σ), W p l e (headSpec ws_Table_addRow { frames := 0, cells := 0, slots := 0, locals := 0 }).room s m ([.ref a] : List Value).toArray below meth c H locs 0 0 (MQ below (va_Qi post (mB D (fun u => TW a b cI most width N u) cI A) A) ([.ref a] : List Value).toArray s 0 0 A) (F0 m 35 ls []) := by
    intro v1 n
    induction n with
    | zero => intro v2 σ H locs hP hD hS ls hl hE; exact hE.elim
    | succ n ih35 =>
      intro v2 σ H locs hP hD hS ls hl hE
      unfold w_Table_addRow_L35 at hE
      refine lv_iload_n hx hb d_Table_addRow_35 rfl (lv_at hl 2 rfl) ?_
      refine lv_if_lt (tgt := 66) hx hb d_Table_addRow_36 (by decide) (fun cc36 => ?_) (fun cc36 => ?_)
      · have hE := hE.1 cc36
        exact J66  σ _ _ hP hD hS _ (lv_sub hl [0] rfl) hE
      · have hE := hE.2 cc36
        refine lv_iload_n hx hb d_Table_addRow_39 rfl (lv_at hl 2 rfl) ?_
        refine lv_iload_n hx hb d_Table_addRow_40 rfl (lv_at hl 1 rfl) ?_
        refine lv_icmp_ge (tgt := 66) hx hb d_Table_addRow_41 (by decide) (fun cc41 => ?_) (fun cc41 => ?_)
        · have hE := hE.1 cc41
          exact J66  σ _ _ hP hD hS _ (lv_sub hl [0] rfl) hE
        · have hE := hE.2 cc41
          refine lv_iload_n hx hb d_Table_addRow_44 rfl (lv_at hl 2 rfl) ?_
          refine lv_aload_n hx hb d_Table_addRow_45 rfl (lv_at hl 0 rfl) ?_
          refine va_get (D := D) (ci := 2) (v := .ref b) (C := R_Table) (T := F_Table) (N := 4) hx hb hta i_Table hown hK hP 0 rfl rfl 2 (by decide) (hta _ fl_Table_24) (fun _ h9 => h9) rfl d_Table_addRow_46 ?_
          refine va_alen (D := D) (v := nI N) hx hb hK hP 1 0 rfl rfl rfl d_Table_addRow_49 ?_
          refine lv_icmp_ge (tgt := 66) hx hb d_Table_addRow_50 (by decide) (fun cc50 => ?_) (fun cc50 => ?_)
          · have hE := hE.1 cc50
            exact J66  σ _ _ hP hD hS _ (lv_sub hl [0] rfl) hE
          · have hE := hE.2 cc50
            refine lv_aload_n hx hb d_Table_addRow_53 rfl (lv_at hl 0 rfl) ?_
            refine va_get (D := D) (ci := 2) (v := .ref b) (C := R_Table) (T := F_Table) (N := 4) hx hb hta i_Table hown hK hP 0 rfl rfl 2 (by decide) (hta _ fl_Table_24) (fun _ h9 => h9) rfl d_Table_addRow_54 ?_
            refine lv_iload_n hx hb d_Table_addRow_57 rfl (lv_at hl 2 rfl) ?_
            refine lv_iconst (v := -1) hx hb d_Table_addRow_58 (by decide) ?_
            obtain ⟨hI59, hE⟩ := hE
            refine va_iast (D := D) (f := σ.2) hx hb hK hP hD hS 1 0 rfl rfl hI59 d_Table_addRow_59 (fun H locs hP hD hS => ?_)
            have hP : va_P D classes (TW a b cI most width N (σ.1, upd σ.2 v2.toNatClampNeg (-1))) H := hP
            have hD : va_D A (TW a b cI most width N (σ.1, upd σ.2 v2.toNatClampNeg (-1))) := hD
            have hE := hE _ rfl
            generalize ((σ.1, upd σ.2 v2.toNatClampNeg (-1)) : StS) = σ59 at hP hD hE
            refine lv_iinc (v := v2 + 1) (lv' := [(2, .int (v2 + 1)), (0, .ref a), (1, .int v1)]) hx hb d_Table_addRow_60 hl (k := 2) rfl rfl (by decide) rfl (fun ls hl => ?_)
            refine lv_goto (tgt := 35) hx hb d_Table_addRow_63 (by decide) ?_
            exact ih35 (v2 + 1) σ59 _ _ hP hD hS _ (lv_sub hl [1, 2, 0] rfl) hE
  unfold w_Table_addRow at hE
  refine lv_aload_n hx hb d_Table_addRow_0 rfl (lv_at hl 0 rfl) ?_
  refine va_get (D := D) (ci := 2) (v := .int σ.1) (C := R_Table) (T := F_Table) (N := 4) hx hb hta i_Table hown hK hP 0 rfl rfl 3 (by decide) (hta _ fl_Table_28) (fun _ h9 => h9) rfl d_Table_addRow_1 ?_
  refine lv_aload_n hx hb d_Table_addRow_4 rfl (lv_at hl 0 rfl) ?_
  refine va_get (D := D) (ci := 2) (v := .int most) (C := R_Table) (T := F_Table) (N := 4) hx hb hta i_Table hown hK hP 0 rfl rfl 0 (by decide) (hta _ fl_Table_9) (fun _ h9 => h9) rfl d_Table_addRow_5 ?_
  refine lv_icmp_lt (tgt := 13) hx hb d_Table_addRow_8 (by decide) (fun cc8 => ?_) (fun cc8 => ?_)
  · have hE := hE.1 cc8
    refine lv_aload_n hx hb d_Table_addRow_13 rfl (lv_at hl 0 rfl) ?_
    refine va_get (D := D) (ci := 2) (v := .int σ.1) (C := R_Table) (T := F_Table) (N := 4) hx hb hta i_Table hown hK hP 0 rfl rfl 3 (by decide) (hta _ fl_Table_28) (fun _ h9 => h9) rfl d_Table_addRow_14 ?_
    refine lv_iconst (v := 1) hx hb d_Table_addRow_17 (by decide) ?_
    refine lv_iadd hx hb d_Table_addRow_18 ?_
    refine lv_aload_n hx hb d_Table_addRow_19 rfl (lv_at hl 0 rfl) ?_
    refine va_get (D := D) (ci := 2) (v := .int width) (C := R_Table) (T := F_Table) (N := 4) hx hb hta i_Table hown hK hP 0 rfl rfl 1 (by decide) (hta _ fl_Table_15) (fun _ h9 => h9) rfl d_Table_addRow_20 ?_
    refine lv_imul hx hb d_Table_addRow_23 ?_
    refine lv_istore_n (lv' := [(1, .int ((σ.1 + 1) * width)), (0, .ref a)]) hx hb d_Table_addRow_24 rfl hl (by decide) rfl (fun ls hl => ?_)
    refine lv_aload_n hx hb d_Table_addRow_25 rfl (lv_at hl 1 rfl) ?_
    refine va_get (D := D) (ci := 2) (v := .int σ.1) (C := R_Table) (T := F_Table) (N := 4) hx hb hta i_Table hown hK hP 0 rfl rfl 3 (by decide) (hta _ fl_Table_28) (fun _ h9 => h9) rfl d_Table_addRow_26 ?_
    refine lv_aload_n hx hb d_Table_addRow_29 rfl (lv_at hl 1 rfl) ?_
    refine va_get (D := D) (ci := 2) (v := .int width) (C := R_Table) (T := F_Table) (N := 4) hx hb hta i_Table hown hK hP 0 rfl rfl 1 (by decide) (hta _ fl_Table_15) (fun _ h9 => h9) rfl d_Table_addRow_30 ?_
    refine lv_imul hx hb d_Table_addRow_33 ?_
    refine lv_istore_n (lv' := [(2, .int (σ.1 * width)), (1, .int ((σ.1 + 1) * width)), (0, .ref a)]) hx hb d_Table_addRow_34 rfl hl (by decide) rfl (fun ls hl => ?_)
    obtain ⟨n, hE⟩ := hE
    exact L35 ((σ.1 + 1) * width) n (σ.1 * width) σ _ _ hP hD hS _ (lv_sub hl [2, 1, 0] rfl) hE
  · have hE := hE.2 cc8
    refine lv_iconst (v := -1) hx hb d_Table_addRow_11 (by decide) ?_
    exact W.iret (v := (-1)) hx hb hr (fun t ht hW => ⟨⟨_, σ, rfl, hE, by rw [ht]; exact hP, va_K.moved hW.alike hK, hD⟩, hS.F ht⟩) hS.2.2 d_Table_addRow_12

theorem d_Table_clear_0 : decode b_Table_clear 0 = .ok (.aload_n 0, 1) := by decide +kernel
theorem d_Table_clear_1 : decode b_Table_clear 1 = .ok (.iconst 0, 1) := by decide +kernel
theorem d_Table_clear_2 : decode b_Table_clear 2 = .ok (.putfield 28, 3) := by decide +kernel
theorem d_Table_clear_5 : decode b_Table_clear 5 = .ok (.return_, 1) := by decide +kernel
def w_Table_clear  (σ : StS)  (post : StS → Prop) : Prop := (∀ σ2 : StS, σ2 = (0, σ.2) → post σ2)
set_option maxHeartbeats 4000000 in
set_option maxRecDepth 100000 in
theorem c_Table_clear (l : Launch) (D : va_G) (a b : Nat) (cI : ClassId) (most width : Int32) (N : Nat) (sz : Nat) (σ : StS)  (post : StS → Prop) (hE : w_Table_clear σ post) : Met l y_Table_clear ws_Table_clear { frames := 0, cells := 0, slots := 0, locals := 0 } (va_Pc [.ref a] (mW D (TW a b cI most width N σ) cI sz)) (va_Qv post (mB D (fun u => TW a b cI most width N u) cI (va_A (TW a b cI most width N σ) sz)) (va_A (TW a b cI most width N σ) sz)) 0 0 (va_A (TW a b cI most width N σ) sz) := by
  refine Met.ofW (cc := b_Table_clear) (maxL := 1) (ret := none) (by decide) rfl ?_
  intro p e s m args below meth c s₁ B hml hv
  obtain ⟨rfl, hsz, hP, hK, hD0⟩ := hv
  have hx := B.exec
  have hb := B.bytes
  have hr := B.returns
  have hta : ∀ w ∈ aW, w.before _ s = true := fun w h => atoms_spec (ws := ws_Table_clear) B.pre w (List.mem_cons_of_mem _ h)
  have hown : s.vm.findClass R_Table = some m.cls := findClass_of_methodNamed B.named
  have hlocks := B.notSynchronized
  subst hsz
  have hD := hD0.self (sz := s.heap.size)
  generalize hAe : va_A (TW a b cI most width N σ) s.heap.size = A at hD ⊢
  have hA : ∀ q : Nat, s.heap.size ≤ q → A q := fun q h => by rw [← hAe]; exact Or.inr h
  have hS : va_S A s.heap s.heap [] := va_S.rf
  have hP : va_P D classes (TW a b cI most width N σ) s.heap := hP
  have hl := lv_entry ([.ref a]) (n := 1) (Nat.le_of_ble_eq_true rfl)
  rw [lg_entry_eq]
  generalize (lg_sl ([.ref a]) ++ List.replicate (1 - (lg_sl ([.ref a])).length) Slot.unset).toArray = ls at hl ⊢
  have hl : lv_has ls 1 [(0, .ref a)] := hl
  unfold w_Table_clear at hE
  refine lv_aload_n hx hb d_Table_clear_0 rfl (lv_at hl 0 rfl) ?_
  refine lv_iconst (v := 0) hx hb d_Table_clear_1 (by decide) ?_
  refine va_put (D := D) (ci := 2) (v := .int 0) (ty := .int) (C := R_Table) (T := F_Table) (N := 4) hx hb hta i_Table t_Table t_Table_ok n_Table hown hK hP hD hS 0 rfl rfl 3 (by decide) (hta _ fl_Table_28) (fun _ h9 => h9) rfl (by decide +kernel) rfl rfl (Nat.le_of_ble_eq_true rfl) d_Table_clear_2 (fun H locs hP hD hS => ?_)
  have hP : va_P D classes (TW a b cI most width N (0, σ.2)) H := hP
  have hD : va_D A (TW a b cI most width N (0, σ.2)) := hD
  have hE := hE _ rfl
  generalize ((0, σ.2) : StS) = σ2 at hP hD hE
  exact W.vret hx hb hr (fun t ht hW => ⟨⟨σ2, rfl, hE, by rw [ht]; exact hP, va_K.moved hW.alike hK, hD⟩, hS.F ht⟩) hS.2.2 d_Table_clear_5

theorem d_Signs_isWhite_0 : decode b_Signs_isWhite 0 = .ok (.iload_n 0, 1) := by decide +kernel
theorem d_Signs_isWhite_1 : decode b_Signs_isWhite 1 = .ok (.bipush 9, 2) := by decide +kernel
theorem d_Signs_isWhite_3 : decode b_Signs_isWhite 3 = .ok (.if_icmp .eq 21, 3) := by decide +kernel
theorem d_Signs_isWhite_6 : decode b_Signs_isWhite 6 = .ok (.iload_n 0, 1) := by decide +kernel
theorem d_Signs_isWhite_7 : decode b_Signs_isWhite 7 = .ok (.bipush 10, 2) := by decide +kernel
theorem d_Signs_isWhite_9 : decode b_Signs_isWhite 9 = .ok (.if_icmp .eq 15, 3) := by decide +kernel
theorem d_Signs_isWhite_12 : decode b_Signs_isWhite 12 = .ok (.iload_n 0, 1) := by decide +kernel
theorem d_Signs_isWhite_13 : decode b_Signs_isWhite 13 = .ok (.bipush 13, 2) := by decide +kernel
theorem d_Signs_isWhite_15 : decode b_Signs_isWhite 15 = .ok (.if_icmp .eq 9, 3) := by decide +kernel
theorem d_Signs_isWhite_18 : decode b_Signs_isWhite 18 = .ok (.iload_n 0, 1) := by decide +kernel
theorem d_Signs_isWhite_19 : decode b_Signs_isWhite 19 = .ok (.bipush 32, 2) := by decide +kernel
theorem d_Signs_isWhite_21 : decode b_Signs_isWhite 21 = .ok (.if_icmp .ne 7, 3) := by decide +kernel
theorem d_Signs_isWhite_24 : decode b_Signs_isWhite 24 = .ok (.iconst 1, 1) := by decide +kernel
theorem d_Signs_isWhite_25 : decode b_Signs_isWhite 25 = .ok (.goto 4, 3) := by decide +kernel
theorem d_Signs_isWhite_28 : decode b_Signs_isWhite 28 = .ok (.iconst 0, 1) := by decide +kernel
theorem d_Signs_isWhite_29 : decode b_Signs_isWhite 29 = .ok (.ireturn, 1) := by decide +kernel
def w_Signs_isWhite_J24   (post : Int32 → Prop)  : Prop := post 1
def w_Signs_isWhite   (x0 : Int32) (post : Int32 → Prop) : Prop := ((x0 = 9 → w_Signs_isWhite_J24 post ) ∧ (¬ x0 = 9 → ((x0 = 10 → w_Signs_isWhite_J24 post ) ∧ (¬ x0 = 10 → ((x0 = 13 → w_Signs_isWhite_J24 post ) ∧ (¬ x0 = 13 → ((x0 = 32 → w_Signs_isWhite_J24 post ) ∧ (¬ x0 = 32 → post 0))))))))
set_option maxHeartbeats 4000000 in
set_option maxRecDepth 100000 in
theorem c_Signs_isWhite (l : Launch)   (x0 : Int32) (post : Int32 → Prop) (hE : w_Signs_isWhite x0 post) : Met l y_Signs_isWhite ws_Signs_isWhite { frames := 0, cells := 0, slots := 0, locals := 0 } (va_Pc [.int x0] (fun _ => True)) (vp_Si post) 0 0 (fun _ => False) := by
  refine Met.ofW (cc := b_Signs_isWhite) (maxL := 1) (ret := (some .boolean)) (by decide) rfl ?_
  intro p e s m args below meth c s₁ B hml hv
  obtain ⟨rfl, -⟩ := hv
  have hS : va_S (fun _ : Nat => False) s.heap s.heap [] := va_S.rf
  have hx := B.exec
  have hb := B.bytes
  have hr := B.returns
  have hta : ∀ w ∈ aW, w.before _ s = true := fun w h => atoms_spec (ws := ws_Signs_isWhite) B.pre w (List.mem_cons_of_mem _ h)
  have hown : s.vm.findClass R_Signs = some m.cls := findClass_of_methodNamed B.named
  have hlocks := B.notSynchronized
  have hl := lv_entry ([.int x0]) (n := 1) (Nat.le_of_ble_eq_true rfl)
  rw [lg_entry_eq]
  generalize (lg_sl ([.int x0]) ++ List.replicate (1 - (lg_sl ([.int x0])).length) Slot.unset).toArray = ls at hl ⊢
  have hl : lv_has ls 1 [(0, .int x0)] := hl
  have J24 : ∀ (ls : Array Slot) (hl : lv_has ls 1 []) (hE : w_Signs_isWhite_J24 post ), W p l e (headSpec ws_Signs_isWhite { frames := 0, cells := 0, slots := 0, locals := 0 }).room s m ([.int x0] : List Value).toArray below meth c s.heap [] 0 0 (MQ below (vp_Si post) ([.int x0] : List Value).toArray s 0 0 (fun _ => False)) (F0 m 24 ls []) := by
    intro  ls hl hE
    unfold w_Signs_isWhite_J24 at hE
    refine lv_iconst (v := 1) hx hb d_Signs_isWhite_24 (by decide) ?_
    refine lv_goto (tgt := 29) hx hb d_Signs_isWhite_25 (by decide) ?_
    exact W.zret (v := 1) hx hb hr rfl (fun t ht hW => ⟨_, rfl, hE, ht⟩) (fun q h => by cases h) d_Signs_isWhite_29
  unfold w_Signs_isWhite at hE
  refine lv_iload_n hx hb d_Signs_isWhite_0 rfl (lv_at hl 0 rfl) ?_
  refine lv_bipush (v := 9) hx hb d_Signs_isWhite_1 (by decide) ?_
  refine lv_icmp_eq (tgt := 24) hx hb d_Signs_isWhite_3 (by decide) (fun cc3 => ?_) (fun cc3 => ?_)
  · have hE := hE.1 cc3
    exact J24   _ (lv_sub hl [] rfl) hE
  · have hE := hE.2 cc3
    refine lv_iload_n hx hb d_Signs_isWhite_6 rfl (lv_at hl 0 rfl) ?_
    refine lv_bipush (v := 10) hx hb d_Signs_isWhite_7 (by decide) ?_
    refine lv_icmp_eq (tgt := 24) hx hb d_Signs_isWhite_9 (by decide) (fun cc9 => ?_) (fun cc9 => ?_)
    · have hE := hE.1 cc9
      exact J24   _ (lv_sub hl [] rfl) hE
    · have hE := hE.2 cc9
      refine lv_iload_n hx hb d_Signs_isWhite_12 rfl (lv_at hl 0 rfl) ?_
      refine lv_bipush (v := 13) hx hb d_Signs_isWhite_13 (by decide) ?_
      refine lv_icmp_eq (tgt := 24) hx hb d_Signs_isWhite_15 (by decide) (fun cc15 => ?_) (fun cc15 => ?_)
      · have hE := hE.1 cc15
        exact J24   _ (lv_sub hl [] rfl) hE
      · have hE := hE.2 cc15
        refine lv_iload_n hx hb d_Signs_isWhite_18 rfl (lv_at hl 0 rfl) ?_
        refine lv_bipush (v := 32) hx hb d_Signs_isWhite_19 (by decide) ?_
        refine lv_icmp_ne (tgt := 28) hx hb d_Signs_isWhite_21 (by decide) (fun cc21 => ?_) (fun cc21 => ?_)
        · have hE := hE.2 cc21
          refine lv_iconst (v := 0) hx hb d_Signs_isWhite_28 (by decide) ?_
          exact W.zret (v := 0) hx hb hr rfl (fun t ht hW => ⟨_, rfl, hE, ht⟩) (fun q h => by cases h) d_Signs_isWhite_29
        · have hE := hE.1 cc21
          exact J24   _ (lv_sub hl [] rfl) hE

theorem d_Signs_isDigit_0 : decode b_Signs_isDigit 0 = .ok (.iload_n 0, 1) := by decide +kernel
theorem d_Signs_isDigit_1 : decode b_Signs_isDigit 1 = .ok (.bipush 48, 2) := by decide +kernel
theorem d_Signs_isDigit_3 : decode b_Signs_isDigit 3 = .ok (.if_icmp .lt 13, 3) := by decide +kernel
theorem d_Signs_isDigit_6 : decode b_Signs_isDigit 6 = .ok (.iload_n 0, 1) := by decide +kernel
theorem d_Signs_isDigit_7 : decode b_Signs_isDigit 7 = .ok (.bipush 57, 2) := by decide +kernel
theorem d_Signs_isDigit_9 : decode b_Signs_isDigit 9 = .ok (.if_icmp .gt 7, 3) := by decide +kernel
theorem d_Signs_isDigit_12 : decode b_Signs_isDigit 12 = .ok (.iconst 1, 1) := by decide +kernel
theorem d_Signs_isDigit_13 : decode b_Signs_isDigit 13 = .ok (.goto 4, 3) := by decide +kernel
theorem d_Signs_isDigit_16 : decode b_Signs_isDigit 16 = .ok (.iconst 0, 1) := by decide +kernel
theorem d_Signs_isDigit_17 : decode b_Signs_isDigit 17 = .ok (.ireturn, 1) := by decide +kernel
def w_Signs_isDigit   (x0 : Int32) (post : Int32 → Prop) : Prop := ((x0 < 48 → post 0) ∧ (¬ x0 < 48 → ((57 < x0 → post 0) ∧ (¬ 57 < x0 → post 1))))
set_option maxHeartbeats 4000000 in
set_option maxRecDepth 100000 in
theorem c_Signs_isDigit (l : Launch)   (x0 : Int32) (post : Int32 → Prop) (hE : w_Signs_isDigit x0 post) : Met l y_Signs_isDigit ws_Signs_isDigit { frames := 0, cells := 0, slots := 0, locals := 0 } (va_Pc [.int x0] (fun _ => True)) (vp_Si post) 0 0 (fun _ => False) := by
  refine Met.ofW (cc := b_Signs_isDigit) (maxL := 1) (ret := (some .boolean)) (by decide) rfl ?_
  intro p e s m args below meth c s₁ B hml hv
  obtain ⟨rfl, -⟩ := hv
  have hS : va_S (fun _ : Nat => False) s.heap s.heap [] := va_S.rf
  have hx := B.exec
  have hb := B.bytes
  have hr := B.returns
  have hta : ∀ w ∈ aW, w.before _ s = true := fun w h => atoms_spec (ws := ws_Signs_isDigit) B.pre w (List.mem_cons_of_mem _ h)
  have hown : s.vm.findClass R_Signs = some m.cls := findClass_of_methodNamed B.named
  have hlocks := B.notSynchronized
  have hl := lv_entry ([.int x0]) (n := 1) (Nat.le_of_ble_eq_true rfl)
  rw [lg_entry_eq]
  generalize (lg_sl ([.int x0]) ++ List.replicate (1 - (lg_sl ([.int x0])).length) Slot.unset).toArray = ls at hl ⊢
  have hl : lv_has ls 1 [(0, .int x0)] := hl
  unfold w_Signs_isDigit at hE
  refine lv_iload_n hx hb d_Signs_isDigit_0 rfl (lv_at hl 0 rfl) ?_
  refine lv_bipush (v := 48) hx hb d_Signs_isDigit_1 (by decide) ?_
  refine lv_icmp_lt (tgt := 16) hx hb d_Signs_isDigit_3 (by decide) (fun cc3 => ?_) (fun cc3 => ?_)
  · have hE := hE.1 cc3
    refine lv_iconst (v := 0) hx hb d_Signs_isDigit_16 (by decide) ?_
    exact W.zret (v := 0) hx hb hr rfl (fun t ht hW => ⟨_, rfl, hE, ht⟩) (fun q h => by cases h) d_Signs_isDigit_17
  · have hE := hE.2 cc3
    refine lv_iload_n hx hb d_Signs_isDigit_6 rfl (lv_at hl 0 rfl) ?_
    refine lv_bipush (v := 57) hx hb d_Signs_isDigit_7 (by decide) ?_
    refine lv_icmp_gt (tgt := 16) hx hb d_Signs_isDigit_9 (by decide) (fun cc9 => ?_) (fun cc9 => ?_)
    · have hE := hE.1 cc9
      refine lv_iconst (v := 0) hx hb d_Signs_isDigit_16 (by decide) ?_
      exact W.zret (v := 0) hx hb hr rfl (fun t ht hW => ⟨_, rfl, hE, ht⟩) (fun q h => by cases h) d_Signs_isDigit_17
    · have hE := hE.2 cc9
      refine lv_iconst (v := 1) hx hb d_Signs_isDigit_12 (by decide) ?_
      refine lv_goto (tgt := 17) hx hb d_Signs_isDigit_13 (by decide) ?_
      exact W.zret (v := 1) hx hb hr rfl (fun t ht hW => ⟨_, rfl, hE, ht⟩) (fun q h => by cases h) d_Signs_isDigit_17

theorem d_Signs_beginsName_0 : decode b_Signs_beginsName 0 = .ok (.iload_n 0, 1) := by decide +kernel
theorem d_Signs_beginsName_1 : decode b_Signs_beginsName 1 = .ok (.bipush 65, 2) := by decide +kernel
theorem d_Signs_beginsName_3 : decode b_Signs_beginsName 3 = .ok (.if_icmp .lt 9, 3) := by decide +kernel
theorem d_Signs_beginsName_6 : decode b_Signs_beginsName 6 = .ok (.iload_n 0, 1) := by decide +kernel
theorem d_Signs_beginsName_7 : decode b_Signs_beginsName 7 = .ok (.bipush 90, 2) := by decide +kernel
theorem d_Signs_beginsName_9 : decode b_Signs_beginsName 9 = .ok (.if_icmp .le 21, 3) := by decide +kernel
theorem d_Signs_beginsName_12 : decode b_Signs_beginsName 12 = .ok (.iload_n 0, 1) := by decide +kernel
theorem d_Signs_beginsName_13 : decode b_Signs_beginsName 13 = .ok (.bipush 97, 2) := by decide +kernel
theorem d_Signs_beginsName_15 : decode b_Signs_beginsName 15 = .ok (.if_icmp .lt 9, 3) := by decide +kernel
theorem d_Signs_beginsName_18 : decode b_Signs_beginsName 18 = .ok (.iload_n 0, 1) := by decide +kernel
theorem d_Signs_beginsName_19 : decode b_Signs_beginsName 19 = .ok (.bipush 122, 2) := by decide +kernel
theorem d_Signs_beginsName_21 : decode b_Signs_beginsName 21 = .ok (.if_icmp .le 9, 3) := by decide +kernel
theorem d_Signs_beginsName_24 : decode b_Signs_beginsName 24 = .ok (.iload_n 0, 1) := by decide +kernel
theorem d_Signs_beginsName_25 : decode b_Signs_beginsName 25 = .ok (.bipush 95, 2) := by decide +kernel
theorem d_Signs_beginsName_27 : decode b_Signs_beginsName 27 = .ok (.if_icmp .ne 7, 3) := by decide +kernel
theorem d_Signs_beginsName_30 : decode b_Signs_beginsName 30 = .ok (.iconst 1, 1) := by decide +kernel
theorem d_Signs_beginsName_31 : decode b_Signs_beginsName 31 = .ok (.goto 4, 3) := by decide +kernel
theorem d_Signs_beginsName_34 : decode b_Signs_beginsName 34 = .ok (.iconst 0, 1) := by decide +kernel
theorem d_Signs_beginsName_35 : decode b_Signs_beginsName 35 = .ok (.ireturn, 1) := by decide +kernel
def w_Signs_beginsName_J30   (post : Int32 → Prop)  : Prop := post 1
def w_Signs_beginsName_J24   (post : Int32 → Prop) (v0 : Int32) : Prop := ((v0 = 95 → w_Signs_beginsName_J30 post ) ∧ (¬ v0 = 95 → post 0))
def w_Signs_beginsName_J12   (post : Int32 → Prop) (v0 : Int32) : Prop := ((v0 < 97 → w_Signs_beginsName_J24 post v0) ∧ (¬ v0 < 97 → ((v0 ≤ 122 → w_Signs_beginsName_J30 post ) ∧ (¬ v0 ≤ 122 → w_Signs_beginsName_J24 post v0))))
def w_Signs_beginsName   (x0 : Int32) (post : Int32 → Prop) : Prop := ((x0 < 65 → w_Signs_beginsName_J12 post x0) ∧ (¬ x0 < 65 → ((x0 ≤ 90 → w_Signs_beginsName_J30 post ) ∧ (¬ x0 ≤ 90 → w_Signs_beginsName_J12 post x0))))
set_option maxHeartbeats 4000000 in
set_option maxRecDepth 100000 in
theorem c_Signs_beginsName (l : Launch)   (x0 : Int32) (post : Int32 → Prop) (hE : w_Signs_beginsName x0 post) : Met l y_Signs_beginsName ws_Signs_beginsName { frames := 0, cells := 0, slots := 0, locals := 0 } (va_Pc [.int x0] (fun _ => True)) (vp_Si post) 0 0 (fun _ => False) := by
  refine Met.ofW (cc := b_Signs_beginsName) (maxL := 1) (ret := (some .boolean)) (by decide) rfl ?_
  intro p e s m args below meth c s₁ B hml hv
  obtain ⟨rfl, -⟩ := hv
  have hS : va_S (fun _ : Nat => False) s.heap s.heap [] := va_S.rf
  have hx := B.exec
  have hb := B.bytes
  have hr := B.returns
  have hta : ∀ w ∈ aW, w.before _ s = true := fun w h => atoms_spec (ws := ws_Signs_beginsName) B.pre w (List.mem_cons_of_mem _ h)
  have hown : s.vm.findClass R_Signs = some m.cls := findClass_of_methodNamed B.named
  have hlocks := B.notSynchronized
  have hl := lv_entry ([.int x0]) (n := 1) (Nat.le_of_ble_eq_true rfl)
  rw [lg_entry_eq]
  generalize (lg_sl ([.int x0]) ++ List.replicate (1 - (lg_sl ([.int x0])).length) Slot.unset).toArray = ls at hl ⊢
  have hl : lv_has ls 1 [(0, .int x0)] := hl
  have J30 : ∀ (ls : Array Slot) (hl : lv_has ls 1 []) (hE : w_Signs_beginsName_J30 post ), W p l e (headSpec ws_Signs_beginsName { frames := 0, cells := 0, slots := 0, locals := 0 }).room s m ([.int x0] : List Value).toArray below meth c s.heap [] 0 0 (MQ below (vp_Si post) ([.int x0] : List Value).toArray s 0 0 (fun _ => False)) (F0 m 30 ls []) := by
    intro  ls hl hE
    unfold w_Signs_beginsName_J30 at hE
    refine lv_iconst (v := 1) hx hb d_Signs_beginsName_30 (by decide) ?_
    refine lv_goto (tgt := 35) hx hb d_Signs_beginsName_31 (by decide) ?_
    exact W.zret (v := 1) hx hb hr rfl (fun t ht hW => ⟨_, rfl, hE, ht⟩) (fun q h => by cases h) d_Signs_beginsName_35
  have J24 : ∀ (v0 : Int32) (ls : Array Slot) (hl : lv_has ls 1 [(0, .int v0)]) (hE : w_Signs_beginsName_J24 post v0), W p l e (headSpec ws_Signs_beginsName { frames := 0, cells := 0, slots := 0, locals := 0 }).room s m ([.int x0] : List Value).toArray below meth c s.heap [] 0 0 (MQ below (vp_Si post) ([.int x0] : List Value).toArray s 0 0 (fun _ => False)) (F0 m 24 ls []) := by
    intro  v0 ls hl hE
    unfold w_Signs_beginsName_J24 at hE
    refine lv_iload_n hx hb d_Signs_beginsName_24 rfl (lv_at hl 0 rfl) ?_
    refine lv_bipush (v := 95) hx hb d_Signs_beginsName_25 (by decide) ?_
    refine lv_icmp_ne (tgt := 34) hx hb d_Signs_beginsName_27 (by decide) (fun cc27 => ?_) (fun cc27 => ?_)
    · have hE := hE.2 cc27
      refine lv_iconst (v := 0) hx hb d_Signs_beginsName_34 (by decide) ?_
      exact W.zret (v := 0) hx hb hr rfl (fun t ht hW => ⟨_, rfl, hE, ht⟩) (fun q h => by cases h) d_Signs_beginsName_35
    · have hE := hE.1 cc27
      exact J30   _ (lv_sub hl [] rfl) hE
  have J12 : ∀ (v0 : Int32) (ls : Array Slot) (hl : lv_has ls 1 [(0, .int v0)]) (hE : w_Signs_beginsName_J12 post v0), W p l e (headSpec ws_Signs_beginsName { frames := 0, cells := 0, slots := 0, locals := 0 }).room s m ([.int x0] : List Value).toArray below meth c s.heap [] 0 0 (MQ below (vp_Si post) ([.int x0] : List Value).toArray s 0 0 (fun _ => False)) (F0 m 12 ls []) := by
    intro  v0 ls hl hE
    unfold w_Signs_beginsName_J12 at hE
    refine lv_iload_n hx hb d_Signs_beginsName_12 rfl (lv_at hl 0 rfl) ?_
    refine lv_bipush (v := 97) hx hb d_Signs_beginsName_13 (by decide) ?_
    refine lv_icmp_lt (tgt := 24) hx hb d_Signs_beginsName_15 (by decide) (fun cc15 => ?_) (fun cc15 => ?_)
    · have hE := hE.1 cc15
      exact J24  v0 _ (lv_sub hl [0] rfl) hE
    · have hE := hE.2 cc15
      refine lv_iload_n hx hb d_Signs_beginsName_18 rfl (lv_at hl 0 rfl) ?_
      refine lv_bipush (v := 122) hx hb d_Signs_beginsName_19 (by decide) ?_
      refine lv_icmp_le (tgt := 30) hx hb d_Signs_beginsName_21 (by decide) (fun cc21 => ?_) (fun cc21 => ?_)
      · have hE := hE.1 cc21
        exact J30   _ (lv_sub hl [] rfl) hE
      · have hE := hE.2 cc21
        exact J24  v0 _ (lv_sub hl [0] rfl) hE
  unfold w_Signs_beginsName at hE
  refine lv_iload_n hx hb d_Signs_beginsName_0 rfl (lv_at hl 0 rfl) ?_
  refine lv_bipush (v := 65) hx hb d_Signs_beginsName_1 (by decide) ?_
  refine lv_icmp_lt (tgt := 12) hx hb d_Signs_beginsName_3 (by decide) (fun cc3 => ?_) (fun cc3 => ?_)
  · have hE := hE.1 cc3
    exact J12  x0 _ (lv_sub hl [0] rfl) hE
  · have hE := hE.2 cc3
    refine lv_iload_n hx hb d_Signs_beginsName_6 rfl (lv_at hl 0 rfl) ?_
    refine lv_bipush (v := 90) hx hb d_Signs_beginsName_7 (by decide) ?_
    refine lv_icmp_le (tgt := 30) hx hb d_Signs_beginsName_9 (by decide) (fun cc9 => ?_) (fun cc9 => ?_)
    · have hE := hE.1 cc9
      exact J30   _ (lv_sub hl [] rfl) hE
    · have hE := hE.2 cc9
      exact J12  x0 _ (lv_sub hl [0] rfl) hE

theorem d_Signs_isCharacter_0 : decode b_Signs_isCharacter 0 = .ok (.iload_n 0, 1) := by decide +kernel
theorem d_Signs_isCharacter_1 : decode b_Signs_isCharacter 1 = .ok (.ifCond .lt 25, 3) := by decide +kernel
theorem d_Signs_isCharacter_4 : decode b_Signs_isCharacter 4 = .ok (.iload_n 0, 1) := by decide +kernel
theorem d_Signs_isCharacter_5 : decode b_Signs_isCharacter 5 = .ok (.ldc 18, 2) := by decide +kernel
theorem d_Signs_isCharacter_7 : decode b_Signs_isCharacter 7 = .ok (.if_icmp .gt 19, 3) := by decide +kernel
theorem d_Signs_isCharacter_10 : decode b_Signs_isCharacter 10 = .ok (.iload_n 0, 1) := by decide +kernel
theorem d_Signs_isCharacter_11 : decode b_Signs_isCharacter 11 = .ok (.ldc 19, 2) := by decide +kernel
theorem d_Signs_isCharacter_13 : decode b_Signs_isCharacter 13 = .ok (.if_icmp .lt 9, 3) := by decide +kernel
theorem d_Signs_isCharacter_16 : decode b_Signs_isCharacter 16 = .ok (.iload_n 0, 1) := by decide +kernel
theorem d_Signs_isCharacter_17 : decode b_Signs_isCharacter 17 = .ok (.ldc 20, 2) := by decide +kernel
theorem d_Signs_isCharacter_19 : decode b_Signs_isCharacter 19 = .ok (.if_icmp .le 7, 3) := by decide +kernel
theorem d_Signs_isCharacter_22 : decode b_Signs_isCharacter 22 = .ok (.iconst 1, 1) := by decide +kernel
theorem d_Signs_isCharacter_23 : decode b_Signs_isCharacter 23 = .ok (.goto 4, 3) := by decide +kernel
theorem d_Signs_isCharacter_26 : decode b_Signs_isCharacter 26 = .ok (.iconst 0, 1) := by decide +kernel
theorem d_Signs_isCharacter_27 : decode b_Signs_isCharacter 27 = .ok (.ireturn, 1) := by decide +kernel
def w_Signs_isCharacter_J22   (post : Int32 → Prop)  : Prop := post 1
def w_Signs_isCharacter   (x0 : Int32) (post : Int32 → Prop) : Prop := ((x0 < 0 → post 0) ∧ (¬ x0 < 0 → ((1114111 < x0 → post 0) ∧ (¬ 1114111 < x0 → ((x0 < 55296 → w_Signs_isCharacter_J22 post ) ∧ (¬ x0 < 55296 → ((x0 ≤ 57343 → post 0) ∧ (¬ x0 ≤ 57343 → w_Signs_isCharacter_J22 post ))))))))
set_option maxHeartbeats 4000000 in
set_option maxRecDepth 100000 in
theorem c_Signs_isCharacter (l : Launch)   (x0 : Int32) (post : Int32 → Prop) (hE : w_Signs_isCharacter x0 post) : Met l y_Signs_isCharacter ws_Signs_isCharacter { frames := 0, cells := 0, slots := 0, locals := 0 } (va_Pc [.int x0] (fun _ => True)) (vp_Si post) 0 0 (fun _ => False) := by
  refine Met.ofW (cc := b_Signs_isCharacter) (maxL := 1) (ret := (some .boolean)) (by decide) rfl ?_
  intro p e s m args below meth c s₁ B hml hv
  obtain ⟨rfl, -⟩ := hv
  have hS : va_S (fun _ : Nat => False) s.heap s.heap [] := va_S.rf
  have hx := B.exec
  have hb := B.bytes
  have hr := B.returns
  have hta : ∀ w ∈ aW, w.before _ s = true := fun w h => atoms_spec (ws := ws_Signs_isCharacter) B.pre w (List.mem_cons_of_mem _ h)
  have hown : s.vm.findClass R_Signs = some m.cls := findClass_of_methodNamed B.named
  have hlocks := B.notSynchronized
  have hl := lv_entry ([.int x0]) (n := 1) (Nat.le_of_ble_eq_true rfl)
  rw [lg_entry_eq]
  generalize (lg_sl ([.int x0]) ++ List.replicate (1 - (lg_sl ([.int x0])).length) Slot.unset).toArray = ls at hl ⊢
  have hl : lv_has ls 1 [(0, .int x0)] := hl
  have J22 : ∀ (ls : Array Slot) (hl : lv_has ls 1 []) (hE : w_Signs_isCharacter_J22 post ), W p l e (headSpec ws_Signs_isCharacter { frames := 0, cells := 0, slots := 0, locals := 0 }).room s m ([.int x0] : List Value).toArray below meth c s.heap [] 0 0 (MQ below (vp_Si post) ([.int x0] : List Value).toArray s 0 0 (fun _ => False)) (F0 m 22 ls []) := by
    intro  ls hl hE
    unfold w_Signs_isCharacter_J22 at hE
    refine lv_iconst (v := 1) hx hb d_Signs_isCharacter_22 (by decide) ?_
    refine lv_goto (tgt := 27) hx hb d_Signs_isCharacter_23 (by decide) ?_
    exact W.zret (v := 1) hx hb hr rfl (fun t ht hW => ⟨_, rfl, hE, ht⟩) (fun q h => by cases h) d_Signs_isCharacter_27
  unfold w_Signs_isCharacter at hE
  refine lv_iload_n hx hb d_Signs_isCharacter_0 rfl (lv_at hl 0 rfl) ?_
  refine lv_if_lt (tgt := 26) hx hb d_Signs_isCharacter_1 (by decide) (fun cc1 => ?_) (fun cc1 => ?_)
  · have hE := hE.1 cc1
    refine lv_iconst (v := 0) hx hb d_Signs_isCharacter_26 (by decide) ?_
    exact W.zret (v := 0) hx hb hr rfl (fun t ht hW => ⟨_, rfl, hE, ht⟩) (fun q h => by cases h) d_Signs_isCharacter_27
  · have hE := hE.2 cc1
    refine lv_iload_n hx hb d_Signs_isCharacter_4 rfl (lv_at hl 0 rfl) ?_
    refine lv_ldc hx hb hown (hta _ ct_Signs_18) d_Signs_isCharacter_5 ?_
    refine lv_icmp_gt (tgt := 26) hx hb d_Signs_isCharacter_7 (by decide) (fun cc7 => ?_) (fun cc7 => ?_)
    · have hE := hE.1 cc7
      refine lv_iconst (v := 0) hx hb d_Signs_isCharacter_26 (by decide) ?_
      exact W.zret (v := 0) hx hb hr rfl (fun t ht hW => ⟨_, rfl, hE, ht⟩) (fun q h => by cases h) d_Signs_isCharacter_27
    · have hE := hE.2 cc7
      refine lv_iload_n hx hb d_Signs_isCharacter_10 rfl (lv_at hl 0 rfl) ?_
      refine lv_ldc hx hb hown (hta _ ct_Signs_19) d_Signs_isCharacter_11 ?_
      refine lv_icmp_lt (tgt := 22) hx hb d_Signs_isCharacter_13 (by decide) (fun cc13 => ?_) (fun cc13 => ?_)
      · have hE := hE.1 cc13
        exact J22   _ (lv_sub hl [] rfl) hE
      · have hE := hE.2 cc13
        refine lv_iload_n hx hb d_Signs_isCharacter_16 rfl (lv_at hl 0 rfl) ?_
        refine lv_ldc hx hb hown (hta _ ct_Signs_20) d_Signs_isCharacter_17 ?_
        refine lv_icmp_le (tgt := 26) hx hb d_Signs_isCharacter_19 (by decide) (fun cc19 => ?_) (fun cc19 => ?_)
        · have hE := hE.1 cc19
          refine lv_iconst (v := 0) hx hb d_Signs_isCharacter_26 (by decide) ?_
          exact W.zret (v := 0) hx hb hr rfl (fun t ht hW => ⟨_, rfl, hE, ht⟩) (fun q h => by cases h) d_Signs_isCharacter_27
        · have hE := hE.2 cc19
          exact J22   _ (lv_sub hl [] rfl) hE

theorem d_Signs_bytesOf_0 : decode b_Signs_bytesOf 0 = .ok (.iload_n 0, 1) := by decide +kernel
theorem d_Signs_bytesOf_1 : decode b_Signs_bytesOf 1 = .ok (.sipush 128, 3) := by decide +kernel
theorem d_Signs_bytesOf_4 : decode b_Signs_bytesOf 4 = .ok (.if_icmp .ge 5, 3) := by decide +kernel
theorem d_Signs_bytesOf_7 : decode b_Signs_bytesOf 7 = .ok (.iconst 1, 1) := by decide +kernel
theorem d_Signs_bytesOf_8 : decode b_Signs_bytesOf 8 = .ok (.ireturn, 1) := by decide +kernel
theorem d_Signs_bytesOf_9 : decode b_Signs_bytesOf 9 = .ok (.iload_n 0, 1) := by decide +kernel
theorem d_Signs_bytesOf_10 : decode b_Signs_bytesOf 10 = .ok (.sipush 2048, 3) := by decide +kernel
theorem d_Signs_bytesOf_13 : decode b_Signs_bytesOf 13 = .ok (.if_icmp .ge 5, 3) := by decide +kernel
theorem d_Signs_bytesOf_16 : decode b_Signs_bytesOf 16 = .ok (.iconst 2, 1) := by decide +kernel
theorem d_Signs_bytesOf_17 : decode b_Signs_bytesOf 17 = .ok (.ireturn, 1) := by decide +kernel
theorem d_Signs_bytesOf_18 : decode b_Signs_bytesOf 18 = .ok (.iload_n 0, 1) := by decide +kernel
theorem d_Signs_bytesOf_19 : decode b_Signs_bytesOf 19 = .ok (.ldc 26, 2) := by decide +kernel
theorem d_Signs_bytesOf_21 : decode b_Signs_bytesOf 21 = .ok (.if_icmp .ge 7, 3) := by decide +kernel
theorem d_Signs_bytesOf_24 : decode b_Signs_bytesOf 24 = .ok (.iconst 3, 1) := by decide +kernel
theorem d_Signs_bytesOf_25 : decode b_Signs_bytesOf 25 = .ok (.goto 4, 3) := by decide +kernel
theorem d_Signs_bytesOf_28 : decode b_Signs_bytesOf 28 = .ok (.iconst 4, 1) := by decide +kernel
theorem d_Signs_bytesOf_29 : decode b_Signs_bytesOf 29 = .ok (.ireturn, 1) := by decide +kernel
def w_Signs_bytesOf   (x0 : Int32) (post : Int32 → Prop) : Prop := ((128 ≤ x0 → ((2048 ≤ x0 → ((65536 ≤ x0 → post 4) ∧ (¬ 65536 ≤ x0 → post 3))) ∧ (¬ 2048 ≤ x0 → post 2))) ∧ (¬ 128 ≤ x0 → post 1))
set_option maxHeartbeats 4000000 in
set_option maxRecDepth 100000 in
theorem c_Signs_bytesOf (l : Launch)   (x0 : Int32) (post : Int32 → Prop) (hE : w_Signs_bytesOf x0 post) : Met l y_Signs_bytesOf ws_Signs_bytesOf { frames := 0, cells := 0, slots := 0, locals := 0 } (va_Pc [.int x0] (fun _ => True)) (vp_Si post) 0 0 (fun _ => False) := by
  refine Met.ofW (cc := b_Signs_bytesOf) (maxL := 1) (ret := (some .int)) (by decide) rfl ?_
  intro p e s m args below meth c s₁ B hml hv
  obtain ⟨rfl, -⟩ := hv
  have hS : va_S (fun _ : Nat => False) s.heap s.heap [] := va_S.rf
  have hx := B.exec
  have hb := B.bytes
  have hr := B.returns
  have hta : ∀ w ∈ aW, w.before _ s = true := fun w h => atoms_spec (ws := ws_Signs_bytesOf) B.pre w (List.mem_cons_of_mem _ h)
  have hown : s.vm.findClass R_Signs = some m.cls := findClass_of_methodNamed B.named
  have hlocks := B.notSynchronized
  have hl := lv_entry ([.int x0]) (n := 1) (Nat.le_of_ble_eq_true rfl)
  rw [lg_entry_eq]
  generalize (lg_sl ([.int x0]) ++ List.replicate (1 - (lg_sl ([.int x0])).length) Slot.unset).toArray = ls at hl ⊢
  have hl : lv_has ls 1 [(0, .int x0)] := hl
  unfold w_Signs_bytesOf at hE
  refine lv_iload_n hx hb d_Signs_bytesOf_0 rfl (lv_at hl 0 rfl) ?_
  refine lv_sipush (v := 128) hx hb d_Signs_bytesOf_1 (by decide) ?_
  refine lv_icmp_ge (tgt := 9) hx hb d_Signs_bytesOf_4 (by decide) (fun cc4 => ?_) (fun cc4 => ?_)
  · have hE := hE.1 cc4
    refine lv_iload_n hx hb d_Signs_bytesOf_9 rfl (lv_at hl 0 rfl) ?_
    refine lv_sipush (v := 2048) hx hb d_Signs_bytesOf_10 (by decide) ?_
    refine lv_icmp_ge (tgt := 18) hx hb d_Signs_bytesOf_13 (by decide) (fun cc13 => ?_) (fun cc13 => ?_)
    · have hE := hE.1 cc13
      refine lv_iload_n hx hb d_Signs_bytesOf_18 rfl (lv_at hl 0 rfl) ?_
      refine lv_ldc hx hb hown (hta _ ct_Signs_26) d_Signs_bytesOf_19 ?_
      refine lv_icmp_ge (tgt := 28) hx hb d_Signs_bytesOf_21 (by decide) (fun cc21 => ?_) (fun cc21 => ?_)
      · have hE := hE.1 cc21
        refine lv_iconst (v := 4) hx hb d_Signs_bytesOf_28 (by decide) ?_
        exact W.iret (v := 4) hx hb hr (fun t ht hW => ⟨_, rfl, hE, ht⟩) (fun q h => by cases h) d_Signs_bytesOf_29
      · have hE := hE.2 cc21
        refine lv_iconst (v := 3) hx hb d_Signs_bytesOf_24 (by decide) ?_
        refine lv_goto (tgt := 29) hx hb d_Signs_bytesOf_25 (by decide) ?_
        exact W.iret (v := 3) hx hb hr (fun t ht hW => ⟨_, rfl, hE, ht⟩) (fun q h => by cases h) d_Signs_bytesOf_29
    · have hE := hE.2 cc13
      refine lv_iconst (v := 2) hx hb d_Signs_bytesOf_16 (by decide) ?_
      exact W.iret (v := 2) hx hb hr (fun t ht hW => ⟨_, rfl, hE, ht⟩) (fun q h => by cases h) d_Signs_bytesOf_17
  · have hE := hE.2 cc4
    refine lv_iconst (v := 1) hx hb d_Signs_bytesOf_7 (by decide) ?_
    exact W.iret (v := 1) hx hb hr (fun t ht hW => ⟨_, rfl, hE, ht⟩) (fun q h => by cases h) d_Signs_bytesOf_8
