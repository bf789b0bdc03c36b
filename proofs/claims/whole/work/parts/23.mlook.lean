-- printed by wip/gen: the reference

theorem d_M_attributes_0 : decode b_M_attributes 0 = .ok (.aload_n 0, 1) := by decide +kernel
theorem d_M_attributes_1 : decode b_M_attributes 1 = .ok (.aload_n 0, 1) := by decide +kernel
theorem d_M_attributes_2 : decode b_M_attributes 2 = .ok (.getfield 40, 3) := by decide +kernel
theorem d_M_attributes_5 : decode b_M_attributes 5 = .ok (.iload_n 1, 1) := by decide +kernel
theorem d_M_attributes_6 : decode b_M_attributes 6 = .ok (.iaload, 1) := by decide +kernel
theorem d_M_attributes_7 : decode b_M_attributes 7 = .ok (.invokevirtual 154, 3) := by decide +kernel
theorem d_M_attributes_10 : decode b_M_attributes 10 = .ok (.istore_n 2, 1) := by decide +kernel
theorem d_M_attributes_11 : decode b_M_attributes 11 = .ok (.iconst 0, 1) := by decide +kernel
theorem d_M_attributes_12 : decode b_M_attributes 12 = .ok (.istore_n 3, 1) := by decide +kernel
theorem d_M_attributes_13 : decode b_M_attributes 13 = .ok (.aload_n 0, 1) := by decide +kernel
theorem d_M_attributes_14 : decode b_M_attributes 14 = .ok (.iload_n 2, 1) := by decide +kernel
theorem d_M_attributes_15 : decode b_M_attributes 15 = .ok (.aload_n 0, 1) := by decide +kernel
theorem d_M_attributes_16 : decode b_M_attributes 16 = .ok (.getfield 92, 3) := by decide +kernel
theorem d_M_attributes_19 : decode b_M_attributes 19 = .ok (.invokevirtual 157, 3) := by decide +kernel
theorem d_M_attributes_22 : decode b_M_attributes 22 = .ok (.ifCond .eq 16, 3) := by decide +kernel
theorem d_M_attributes_25 : decode b_M_attributes 25 = .ok (.iinc 3 1, 3) := by decide +kernel
theorem d_M_attributes_28 : decode b_M_attributes 28 = .ok (.aload_n 0, 1) := by decide +kernel
theorem d_M_attributes_29 : decode b_M_attributes 29 = .ok (.getfield 151, 3) := by decide +kernel
theorem d_M_attributes_32 : decode b_M_attributes 32 = .ok (.iconst 1, 1) := by decide +kernel
theorem d_M_attributes_33 : decode b_M_attributes 33 = .ok (.iadd, 1) := by decide +kernel
theorem d_M_attributes_34 : decode b_M_attributes 34 = .ok (.istore_n 2, 1) := by decide +kernel
theorem d_M_attributes_35 : decode b_M_attributes 35 = .ok (.goto (-22), 3) := by decide +kernel
theorem d_M_attributes_38 : decode b_M_attributes 38 = .ok (.iload_n 3, 1) := by decide +kernel
theorem d_M_attributes_39 : decode b_M_attributes 39 = .ok (.ireturn, 1) := by decide +kernel
def w_M_attributes_L13   (post : Int32 → MPS → Prop) : Nat → Int32 → Int32 → MPS → Prop
  | 0, _, _, _ => False
  | n + 1, v2, v3, σ => w_M_nextAttribute σ v2 (mp_size σ) (fun r19 σ19 => ((r19 = 0 → post v3 σ19) ∧ (¬ r19 = 0 → w_M_attributes_L13 post n ((mp_valueEnd σ19) + 1) (v3 + 1) σ19)))
def w_M_attributes  (σ : MPS) (x0 : Int32) (post : Int32 → MPS → Prop) : Prop := (vp_in x0 1000 ∧ w_M_behindName σ ((mp_begins σ) x0.toNatClampNeg) (fun r7 => (∃ n, w_M_attributes_L13 post n r7 0 σ)))
set_option maxHeartbeats 4000000 in
set_option maxRecDepth 100000 in
theorem c_M_attributes (l : Launch) (md : MD) (sz : Nat) (σ : MPS) (x0 : Int32)  (post : Int32 → MPS → Prop) (hE : w_M_attributes σ x0 post) : Met l y_M_attributes ws_M_attributes { frames := 3, cells := 0, slots := 0, locals := 64 } (va_Pc [.ref (mA md 0), .int x0] (gM md σ sz)) (va_Qi post (eM md (va_A (MW md σ) sz)) (va_A (MW md σ) sz)) 0 0 (va_A (MW md σ) sz) := by
  refine Met.ofW (cc := b_M_attributes) (maxL := 4) (ret := (some .int)) (by decide) rfl ?_
  intro p e s m args below meth c s₁ B hml hv
  obtain ⟨rfl, hsz, hP, hK, hD0⟩ := hv
  have hx := B.exec
  have hb := B.bytes
  have hr := B.returns
  have hta : ∀ w ∈ aW, w.before _ s = true := fun w h => atoms_spec (ws := ws_M_attributes) B.pre w (List.mem_cons_of_mem _ h)
  have hown : s.vm.findClass R_M = some m.cls := findClass_of_methodNamed B.named
  have hlocks := B.notSynchronized
  subst hsz
  have hD := hD0.self (sz := s.heap.size)
  generalize hAe : va_A (MW md σ) s.heap.size = A at hD ⊢
  have hA : ∀ q : Nat, s.heap.size ≤ q → A q := fun q h => by rw [← hAe]; exact Or.inr h
  have hS : va_S A s.heap s.heap [] := va_S.rf
  have hP : va_P (mG md) classes (MW md σ) s.heap := hP
  have hl := lv_entry ([.ref (mA md 0), .int x0]) (n := 4) (Nat.le_of_ble_eq_true rfl)
  rw [lg_entry_eq]
  generalize (lg_sl ([.ref (mA md 0), .int x0]) ++ List.replicate (4 - (lg_sl ([.ref (mA md 0), .int x0])).length) Slot.unset).toArray = ls at hl ⊢
  have hl : lv_has ls 4 [(0, .ref (mA md 0)), (1, .int x0)] := hl
  have L13 : ∀ (n : Nat) (v2 : Int32) (v3 : Int32) (σ : MPS) (H : Heap) (locs : List Loc) (hP : va_P (mG md) classes (MW md σ) H) (hD : va_D A (MW md σ)) (hS : va_S A s.heap H locs) (ls : Array Slot) (hl : lv_has ls 4 [(0, .ref (mA md 0)), (2, .int v2), (3, .int v3)]) (hE : w_M_attributes_L13 post n v2 v3 σ), W p l e (headSpec ws_M_attributes { frames := 3, cells := 0, slots := 0, locals := 64 }).room s m ([.ref (mA md 0), .int x0] : List Value).toArray below meth c H locs 0 0 (MQ below (va_Qi post (eM md A) A) ([.ref (mA md 0), .int x0] : List Value).toArray s 0 0 A) (F0 m 13 ls []) := by
    intro n
    induction n with
    | zero => intro v2 v3 σ H locs hP hD hS ls hl hE; exact hE.elim
    | succ n ih13 =>
      intro v2 v3 σ H locs hP hD hS ls hl hE
      unfold w_M_attributes_L13 at hE
      refine lv_aload_n hx hb d_M_attributes_13 rfl (lv_at hl 0 rfl) ?_
      refine lv_iload_n hx hb d_M_attributes_14 rfl (lv_at hl 1 rfl) ?_
      refine lv_aload_n hx hb d_M_attributes_15 rfl (lv_at hl 0 rfl) ?_
      refine va_get (D := (mG md)) (ci := 7) (v := .int (mp_size σ)) (C := R_M) (T := F_M) (N := 37) hx hb hta i_M hown hK hP 0 rfl rfl 7 (by decide) (hta _ fl_M_92) (fun _ h9 => h9) rfl d_M_attributes_16 ?_
      refine mm_i (b0 := (mA md 0)) (As := [.int v2, .int (mp_size σ)]) (rest := []) ⟨hx, hb, hml, hown, hta⟩ (c_M_nextAttribute l md _ σ v2 (mp_size σ) _ hE) ok_M_157 ⟨Nat.le_of_ble_eq_true rfl, Nat.le_of_ble_eq_true rfl⟩ (va_recv hK hP (ci := 7) (q0 := 0) rfl rfl) hP hK hD hS hA rfl hl.1 rfl (Nat.le_of_ble_eq_true rfl) d_M_attributes_19 ⟨Nat.zero_le _, Nat.zero_le _⟩ (fun r19 σ19 H locs hE hP hD hS => ?_)
      refine lv_if_eq (tgt := 38) hx hb d_M_attributes_22 (by decide) (fun cc22 => ?_) (fun cc22 => ?_)
      · have hE := hE.1 cc22
        refine lv_iload_n hx hb d_M_attributes_38 rfl (lv_at hl 2 rfl) ?_
        exact W.iret (v := v3) hx hb hr (fun t ht hW => ⟨⟨_, σ19, rfl, hE, by rw [ht]; exact hP, va_K.moved hW.alike hK, hD⟩, hS.F ht⟩) hS.2.2 d_M_attributes_39
      · have hE := hE.2 cc22
        refine lv_iinc (v := v3 + 1) (lv' := [(3, .int (v3 + 1)), (0, .ref (mA md 0)), (2, .int v2)]) hx hb d_M_attributes_25 hl (k := 2) rfl rfl (by decide) rfl (fun ls hl => ?_)
        refine lv_aload_n hx hb d_M_attributes_28 rfl (lv_at hl 1 rfl) ?_
        refine va_get (D := (mG md)) (ci := 7) (v := .int (mp_valueEnd σ19)) (C := R_M) (T := F_M) (N := 37) hx hb hta i_M hown hK hP 0 rfl rfl 22 (by decide) (hta _ fl_M_151) (fun _ h9 => h9) rfl d_M_attributes_29 ?_
        refine lv_iconst (v := 1) hx hb d_M_attributes_32 (by decide) ?_
        refine lv_iadd hx hb d_M_attributes_33 ?_
        refine lv_istore_n (lv' := [(2, .int ((mp_valueEnd σ19) + 1)), (3, .int (v3 + 1)), (0, .ref (mA md 0))]) hx hb d_M_attributes_34 rfl hl (by decide) rfl (fun ls hl => ?_)
        refine lv_goto (tgt := 13) hx hb d_M_attributes_35 (by decide) ?_
        exact ih13 ((mp_valueEnd σ19) + 1) (v3 + 1) σ19 _ _ hP hD hS _ (lv_sub hl [2, 0, 1] rfl) hE
  unfold w_M_attributes at hE
  refine lv_aload_n hx hb d_M_attributes_0 rfl (lv_at hl 0 rfl) ?_
  refine lv_aload_n hx hb d_M_attributes_1 rfl (lv_at hl 0 rfl) ?_
  refine va_get (D := (mG md)) (ci := 7) (v := .ref (mA md 9)) (C := R_M) (T := F_M) (N := 37) hx hb hta i_M hown hK hP 0 rfl rfl 24 (by decide) (hta _ fl_M_40) (fun _ h9 => h9) rfl d_M_attributes_2 ?_
  refine lv_iload_n hx hb d_M_attributes_5 rfl (lv_at hl 1 rfl) ?_
  obtain ⟨hI6, hE⟩ := hE
  refine va_iald (D := (mG md)) (f := mp_begins σ) hx hb hK hP 9 0 rfl rfl hI6 d_M_attributes_6 ?_
  refine ro_V (b0 := (mA md 0)) (As := [.int ((mp_begins σ) x0.toNatClampNeg)]) (rest := []) ⟨hx, hb, hml, hown, hta⟩ (c_M_behindName l md σ ((mp_begins σ) x0.toNatClampNeg)  _ hE) ok_M_154 ⟨Nat.le_of_ble_eq_true rfl, Nat.le_of_ble_eq_true rfl⟩ blind_rM (va_recv hK hP (ci := 7) (q0 := 0) rfl rfl) (rM_of hP hK) rfl hl.1 rfl (Nat.le_of_ble_eq_true rfl) d_M_attributes_7 ⟨Nat.zero_le _, Nat.zero_le _⟩ (fun r7 hE => ?_)
  refine lv_istore_n (lv' := [(2, .int r7), (0, .ref (mA md 0)), (1, .int x0)]) hx hb d_M_attributes_10 rfl hl (by decide) rfl (fun ls hl => ?_)
  refine lv_iconst (v := 0) hx hb d_M_attributes_11 (by decide) ?_
  refine lv_istore_n (lv' := [(3, .int 0), (2, .int r7), (0, .ref (mA md 0)), (1, .int x0)]) hx hb d_M_attributes_12 rfl hl (by decide) rfl (fun ls hl => ?_)
  obtain ⟨n, hE⟩ := hE
  exact L13  n r7 0 σ _ _ hP hD hS _ (lv_sub hl [2, 1, 0] rfl) hE
theorem fl_M_269 : Cond.fieldLink "PlainPagesModel" 269 "PlainPagesModel" "valueMany" "I" ∈ aW := aW_in 939 (by decide +kernel) rfl
theorem fl_M_64 : Cond.fieldLink "PlainPagesModel" 64 "PlainPagesModel" "value" "[I" ∈ aW := aW_in 937 (by decide +kernel) rfl
theorem d_M_takeValue_0 : decode b_M_takeValue 0 = .ok (.aload_n 0, 1) := by decide +kernel
theorem d_M_takeValue_1 : decode b_M_takeValue 1 = .ok (.iconst 0, 1) := by decide +kernel
theorem d_M_takeValue_2 : decode b_M_takeValue 2 = .ok (.putfield 269, 3) := by decide +kernel
theorem d_M_takeValue_5 : decode b_M_takeValue 5 = .ok (.aload_n 0, 1) := by decide +kernel
theorem d_M_takeValue_6 : decode b_M_takeValue 6 = .ok (.getfield 148, 3) := by decide +kernel
theorem d_M_takeValue_9 : decode b_M_takeValue 9 = .ok (.istore_n 1, 1) := by decide +kernel
theorem d_M_takeValue_10 : decode b_M_takeValue 10 = .ok (.iload_n 1, 1) := by decide +kernel
theorem d_M_takeValue_11 : decode b_M_takeValue 11 = .ok (.aload_n 0, 1) := by decide +kernel
theorem d_M_takeValue_12 : decode b_M_takeValue 12 = .ok (.getfield 151, 3) := by decide +kernel
theorem d_M_takeValue_15 : decode b_M_takeValue 15 = .ok (.if_icmp .ge 37, 3) := by decide +kernel
theorem d_M_takeValue_18 : decode b_M_takeValue 18 = .ok (.aload_n 0, 1) := by decide +kernel
theorem d_M_takeValue_19 : decode b_M_takeValue 19 = .ok (.getfield 64, 3) := by decide +kernel
theorem d_M_takeValue_22 : decode b_M_takeValue 22 = .ok (.aload_n 0, 1) := by decide +kernel
theorem d_M_takeValue_23 : decode b_M_takeValue 23 = .ok (.getfield 269, 3) := by decide +kernel
theorem d_M_takeValue_26 : decode b_M_takeValue 26 = .ok (.aload_n 0, 1) := by decide +kernel
theorem d_M_takeValue_27 : decode b_M_takeValue 27 = .ok (.iload_n 1, 1) := by decide +kernel
theorem d_M_takeValue_28 : decode b_M_takeValue 28 = .ok (.invokevirtual 139, 3) := by decide +kernel
theorem d_M_takeValue_31 : decode b_M_takeValue 31 = .ok (.iastore, 1) := by decide +kernel
theorem d_M_takeValue_32 : decode b_M_takeValue 32 = .ok (.aload_n 0, 1) := by decide +kernel
theorem d_M_takeValue_33 : decode b_M_takeValue 33 = .ok (.dup, 1) := by decide +kernel
theorem d_M_takeValue_34 : decode b_M_takeValue 34 = .ok (.getfield 269, 3) := by decide +kernel
theorem d_M_takeValue_37 : decode b_M_takeValue 37 = .ok (.iconst 1, 1) := by decide +kernel
theorem d_M_takeValue_38 : decode b_M_takeValue 38 = .ok (.iadd, 1) := by decide +kernel
theorem d_M_takeValue_39 : decode b_M_takeValue 39 = .ok (.putfield 269, 3) := by decide +kernel
theorem d_M_takeValue_42 : decode b_M_takeValue 42 = .ok (.iload_n 1, 1) := by decide +kernel
theorem d_M_takeValue_43 : decode b_M_takeValue 43 = .ok (.aload_n 0, 1) := by decide +kernel
theorem d_M_takeValue_44 : decode b_M_takeValue 44 = .ok (.getfield 76, 3) := by decide +kernel
theorem d_M_takeValue_47 : decode b_M_takeValue 47 = .ok (.iadd, 1) := by decide +kernel
theorem d_M_takeValue_48 : decode b_M_takeValue 48 = .ok (.istore_n 1, 1) := by decide +kernel
theorem d_M_takeValue_49 : decode b_M_takeValue 49 = .ok (.goto (-39), 3) := by decide +kernel
theorem d_M_takeValue_52 : decode b_M_takeValue 52 = .ok (.return_, 1) := by decide +kernel
def w_M_takeValue_L10   (post : MPS → Prop) : Nat → Int32 → MPS → Prop
  | 0, _, _ => False
  | n + 1, v1, σ => (((mp_valueEnd σ) ≤ v1 → post σ) ∧ (¬ (mp_valueEnd σ) ≤ v1 → w_M_characterOf σ v1 (fun r28 σ28 => (vp_in (mp_valueMany σ) 4000 ∧ (∀ σ31 : MPS, σ31 = ms_value σ28 (upd (mp_value σ28) (mp_valueMany σ).toNatClampNeg r28) → (∀ σ39 : MPS, σ39 = ms_valueMany σ31 ((mp_valueMany σ31) + 1) → w_M_takeValue_L10 post n (v1 + (mp_width σ39)) σ39))))))
def w_M_takeValue  (σ : MPS)  (post : MPS → Prop) : Prop := (∀ σ2 : MPS, σ2 = ms_valueMany σ 0 → (∃ n, w_M_takeValue_L10 post n (mp_valueAt σ2) σ2))
set_option maxHeartbeats 4000000 in
set_option maxRecDepth 100000 in
theorem c_M_takeValue (l : Launch) (md : MD) (sz : Nat) (σ : MPS)   (post : MPS → Prop) (hE : w_M_takeValue σ post) : Met l y_M_takeValue ws_M_takeValue { frames := 3, cells := 0, slots := 0, locals := 73 } (va_Pc [.ref (mA md 0)] (gM md σ sz)) (va_Qv post (eM md (va_A (MW md σ) sz)) (va_A (MW md σ) sz)) 0 0 (va_A (MW md σ) sz) := by
  refine Met.ofW (cc := b_M_takeValue) (maxL := 2) (ret := none) (by decide) rfl ?_
  intro p e s m args below meth c s₁ B hml hv
  obtain ⟨rfl, hsz, hP, hK, hD0⟩ := hv
  have hx := B.exec
  have hb := B.bytes
  have hr := B.returns
  have hta : ∀ w ∈ aW, w.before _ s = true := fun w h => atoms_spec (ws := ws_M_takeValue) B.pre w (List.mem_cons_of_mem _ h)
  have hown : s.vm.findClass R_M = some m.cls := findClass_of_methodNamed B.named
  have hlocks := B.notSynchronized
  subst hsz
  have hD := hD0.self (sz := s.heap.size)
  generalize hAe : va_A (MW md σ) s.heap.size = A at hD ⊢
  have hA : ∀ q : Nat, s.heap.size ≤ q → A q := fun q h => by rw [← hAe]; exact Or.inr h
  have hS : va_S A s.heap s.heap [] := va_S.rf
  have hP : va_P (mG md) classes (MW md σ) s.heap := hP
  have hl := lv_entry ([.ref (mA md 0)]) (n := 2) (Nat.le_of_ble_eq_true rfl)
  rw [lg_entry_eq]
  generalize (lg_sl ([.ref (mA md 0)]) ++ List.replicate (2 - (lg_sl ([.ref (mA md 0)])).length) Slot.unset).toArray = ls at hl ⊢
  have hl : lv_has ls 2 [(0, .ref (mA md 0))] := hl
  have L10 : ∀ (n : Nat) (v1 : Int32) (σ : MPS) (H : Heap) (locs : List Loc) (hP : va_P (mG md) classes (MW md σ) H) (hD : va_D A (MW md σ)) (hS : va_S A s.heap H locs) (ls : Array Slot) (hl : lv_has ls 2 [(0, .ref (mA md 0)), (1, .int v1)]) (hE : w_M_takeValue_L10 post n v1 σ), W p l e (headSpec ws_M_takeValue { frames := 3, cells := 0, slots := 0, locals := 73 }).room s m ([.ref (mA md 0)] : List Value).toArray below meth c H locs 0 0 (MQ below (va_Qv post (eM md A) A) ([.ref (mA md 0)] : List Value).toArray s 0 0 A) (F0 m 10 ls []) := by
    intro n
    induction n with
    | zero => intro v1 σ H locs hP hD hS ls hl hE; exact hE.elim
    | succ n ih10 =>
      intro v1 σ H locs hP hD hS ls hl hE
      unfold w_M_takeValue_L10 at hE
      refine lv_iload_n hx hb d_M_takeValue_10 rfl (lv_at hl 1 rfl) ?_
      refine lv_aload_n hx hb d_M_takeValue_11 rfl (lv_at hl 0 rfl) ?_
      refine va_get (D := (mG md)) (ci := 7) (v := .int (mp_valueEnd σ)) (C := R_M) (T := F_M) (N := 37) hx hb hta i_M hown hK hP 0 rfl rfl 22 (by decide) (hta _ fl_M_151) (fun _ h9 => h9) rfl d_M_takeValue_12 ?_
      refine lv_icmp_ge (tgt := 52) hx hb d_M_takeValue_15 (by decide) (fun cc15 => ?_) (fun cc15 => ?_)
      · have hE := hE.1 cc15
        exact W.vret hx hb hr (fun t ht hW => ⟨⟨σ, rfl, hE, by rw [ht]; exact hP, va_K.moved hW.alike hK, hD⟩, hS.F ht⟩) hS.2.2 d_M_takeValue_52
      · have hE := hE.2 cc15
        refine lv_aload_n hx hb d_M_takeValue_18 rfl (lv_at hl 0 rfl) ?_
        refine va_get (D := (mG md)) (ci := 7) (v := .ref (mA md 17)) (C := R_M) (T := F_M) (N := 37) hx hb hta i_M hown hK hP 0 rfl rfl 33 (by decide) (hta _ fl_M_64) (fun _ h9 => h9) rfl d_M_takeValue_19 ?_
        refine lv_aload_n hx hb d_M_takeValue_22 rfl (lv_at hl 0 rfl) ?_
        refine va_get (D := (mG md)) (ci := 7) (v := .int (mp_valueMany σ)) (C := R_M) (T := F_M) (N := 37) hx hb hta i_M hown hK hP 0 rfl rfl 35 (by decide) (hta _ fl_M_269) (fun _ h9 => h9) rfl d_M_takeValue_23 ?_
        refine lv_aload_n hx hb d_M_takeValue_26 rfl (lv_at hl 0 rfl) ?_
        refine lv_iload_n hx hb d_M_takeValue_27 rfl (lv_at hl 1 rfl) ?_
        refine mm_i (b0 := (mA md 0)) (As := [.int v1]) (rest := [.int (mp_valueMany σ), .ref (mA md 17)]) ⟨hx, hb, hml, hown, hta⟩ (c_M_characterOf l md _ σ v1 _ hE) ok_M_139 ⟨Nat.le_of_ble_eq_true rfl, Nat.le_of_ble_eq_true rfl⟩ (va_recv hK hP (ci := 7) (q0 := 0) rfl rfl) hP hK hD hS hA rfl hl.1 rfl (Nat.le_of_ble_eq_true rfl) d_M_takeValue_28 ⟨Nat.zero_le _, Nat.zero_le _⟩ (fun r28 σ28 H locs hE hP hD hS => ?_)
        obtain ⟨hI31, hE⟩ := hE
        refine va_iast (D := (mG md)) (f := mp_value σ28) hx hb hK hP hD hS 17 0 rfl rfl hI31 d_M_takeValue_31 (fun H locs hP hD hS => ?_)
        have hP : va_P (mG md) classes (MW md (ms_value σ28 (upd (mp_value σ28) (mp_valueMany σ).toNatClampNeg r28))) H := hP
        have hD : va_D A (MW md (ms_value σ28 (upd (mp_value σ28) (mp_valueMany σ).toNatClampNeg r28))) := hD
        have hE := hE _ rfl
        generalize (ms_value σ28 (upd (mp_value σ28) (mp_valueMany σ).toNatClampNeg r28) : MPS) = σ31 at hP hD hE
        refine lv_aload_n hx hb d_M_takeValue_32 rfl (lv_at hl 0 rfl) ?_
        refine lv_dup hx hb d_M_takeValue_33 rfl ?_
        refine va_get (D := (mG md)) (ci := 7) (v := .int (mp_valueMany σ31)) (C := R_M) (T := F_M) (N := 37) hx hb hta i_M hown hK hP 0 rfl rfl 35 (by decide) (hta _ fl_M_269) (fun _ h9 => h9) rfl d_M_takeValue_34 ?_
        refine lv_iconst (v := 1) hx hb d_M_takeValue_37 (by decide) ?_
        refine lv_iadd hx hb d_M_takeValue_38 ?_
        refine va_put (D := (mG md)) (ci := 7) (v := .int ((mp_valueMany σ31) + 1)) (ty := .int) (C := R_M) (T := F_M) (N := 37) hx hb hta i_M t_M t_M_ok n_M hown hK hP hD hS 0 rfl rfl 35 (by decide) (hta _ fl_M_269) (fun _ h9 => h9) rfl (by decide +kernel) rfl rfl (Nat.le_of_ble_eq_true rfl) d_M_takeValue_39 (fun H locs hP hD hS => ?_)
        have hP : va_P (mG md) classes (MW md (ms_valueMany σ31 ((mp_valueMany σ31) + 1))) H := hP
        have hD : va_D A (MW md (ms_valueMany σ31 ((mp_valueMany σ31) + 1))) := hD
        have hE := hE _ rfl
        generalize (ms_valueMany σ31 ((mp_valueMany σ31) + 1) : MPS) = σ39 at hP hD hE
        refine lv_iload_n hx hb d_M_takeValue_42 rfl (lv_at hl 1 rfl) ?_
        refine lv_aload_n hx hb d_M_takeValue_43 rfl (lv_at hl 0 rfl) ?_
        refine va_get (D := (mG md)) (ci := 7) (v := .int (mp_width σ39)) (C := R_M) (T := F_M) (N := 37) hx hb hta i_M hown hK hP 0 rfl rfl 12 (by decide) (hta _ fl_M_76) (fun _ h9 => h9) rfl d_M_takeValue_44 ?_
        refine lv_iadd hx hb d_M_takeValue_47 ?_
        refine lv_istore_n (lv' := [(1, .int (v1 + (mp_width σ39))), (0, .ref (mA md 0))]) hx hb d_M_takeValue_48 rfl hl (by decide) rfl (fun ls hl => ?_)
        refine lv_goto (tgt := 10) hx hb d_M_takeValue_49 (by decide) ?_
        exact ih10 (v1 + (mp_width σ39)) σ39 _ _ hP hD hS _ (lv_sub hl [1, 0] rfl) hE
  unfold w_M_takeValue at hE
  refine lv_aload_n hx hb d_M_takeValue_0 rfl (lv_at hl 0 rfl) ?_
  refine lv_iconst (v := 0) hx hb d_M_takeValue_1 (by decide) ?_
  refine va_put (D := (mG md)) (ci := 7) (v := .int 0) (ty := .int) (C := R_M) (T := F_M) (N := 37) hx hb hta i_M t_M t_M_ok n_M hown hK hP hD hS 0 rfl rfl 35 (by decide) (hta _ fl_M_269) (fun _ h9 => h9) rfl (by decide +kernel) rfl rfl (Nat.le_of_ble_eq_true rfl) d_M_takeValue_2 (fun H locs hP hD hS => ?_)
  have hP : va_P (mG md) classes (MW md (ms_valueMany σ 0)) H := hP
  have hD : va_D A (MW md (ms_valueMany σ 0)) := hD
  have hE := hE _ rfl
  generalize (ms_valueMany σ 0 : MPS) = σ2 at hP hD hE
  refine lv_aload_n hx hb d_M_takeValue_5 rfl (lv_at hl 0 rfl) ?_
  refine va_get (D := (mG md)) (ci := 7) (v := .int (mp_valueAt σ2)) (C := R_M) (T := F_M) (N := 37) hx hb hta i_M hown hK hP 0 rfl rfl 21 (by decide) (hta _ fl_M_148) (fun _ h9 => h9) rfl d_M_takeValue_6 ?_
  refine lv_istore_n (lv' := [(1, .int (mp_valueAt σ2)), (0, .ref (mA md 0))]) hx hb d_M_takeValue_9 rfl hl (by decide) rfl (fun ls hl => ?_)
  obtain ⟨n, hE⟩ := hE
  exact L10  n (mp_valueAt σ2) σ2 _ _ hP hD hS _ (lv_sub hl [1, 0] rfl) hE
theorem fl_M_280 : Cond.fieldLink "PlainPagesModel" 280 "PlainPagesModel" "wantedMany" "I" ∈ aW := aW_in 940 (by decide +kernel) rfl
theorem fl_M_67 : Cond.fieldLink "PlainPagesModel" 67 "PlainPagesModel" "wanted" "[I" ∈ aW := aW_in 938 (by decide +kernel) rfl
theorem d_M_want_0 : decode b_M_want 0 = .ok (.aload_n 0, 1) := by decide +kernel
theorem d_M_want_1 : decode b_M_want 1 = .ok (.iconst 0, 1) := by decide +kernel
theorem d_M_want_2 : decode b_M_want 2 = .ok (.putfield 280, 3) := by decide +kernel
theorem d_M_want_5 : decode b_M_want 5 = .ok (.iload_n 1, 1) := by decide +kernel
theorem d_M_want_6 : decode b_M_want 6 = .ok (.istore_n 2, 1) := by decide +kernel
theorem d_M_want_7 : decode b_M_want 7 = .ok (.iload_n 2, 1) := by decide +kernel
theorem d_M_want_8 : decode b_M_want 8 = .ok (.aload_n 0, 1) := by decide +kernel
theorem d_M_want_9 : decode b_M_want 9 = .ok (.getfield 269, 3) := by decide +kernel
theorem d_M_want_12 : decode b_M_want 12 = .ok (.if_icmp .ge 34, 3) := by decide +kernel
theorem d_M_want_15 : decode b_M_want 15 = .ok (.aload_n 0, 1) := by decide +kernel
theorem d_M_want_16 : decode b_M_want 16 = .ok (.getfield 67, 3) := by decide +kernel
theorem d_M_want_19 : decode b_M_want 19 = .ok (.aload_n 0, 1) := by decide +kernel
theorem d_M_want_20 : decode b_M_want 20 = .ok (.getfield 280, 3) := by decide +kernel
theorem d_M_want_23 : decode b_M_want 23 = .ok (.aload_n 0, 1) := by decide +kernel
theorem d_M_want_24 : decode b_M_want 24 = .ok (.getfield 64, 3) := by decide +kernel
theorem d_M_want_27 : decode b_M_want 27 = .ok (.iload_n 2, 1) := by decide +kernel
theorem d_M_want_28 : decode b_M_want 28 = .ok (.iaload, 1) := by decide +kernel
theorem d_M_want_29 : decode b_M_want 29 = .ok (.iastore, 1) := by decide +kernel
theorem d_M_want_30 : decode b_M_want 30 = .ok (.aload_n 0, 1) := by decide +kernel
theorem d_M_want_31 : decode b_M_want 31 = .ok (.dup, 1) := by decide +kernel
theorem d_M_want_32 : decode b_M_want 32 = .ok (.getfield 280, 3) := by decide +kernel
theorem d_M_want_35 : decode b_M_want 35 = .ok (.iconst 1, 1) := by decide +kernel
theorem d_M_want_36 : decode b_M_want 36 = .ok (.iadd, 1) := by decide +kernel
theorem d_M_want_37 : decode b_M_want 37 = .ok (.putfield 280, 3) := by decide +kernel
theorem d_M_want_40 : decode b_M_want 40 = .ok (.iinc 2 1, 3) := by decide +kernel
theorem d_M_want_43 : decode b_M_want 43 = .ok (.goto (-36), 3) := by decide +kernel
theorem d_M_want_46 : decode b_M_want 46 = .ok (.return_, 1) := by decide +kernel
def w_M_want_L7   (post : MPS → Prop) : Nat → Int32 → MPS → Prop
  | 0, _, _ => False
  | n + 1, v2, σ => (((mp_valueMany σ) ≤ v2 → post σ) ∧ (¬ (mp_valueMany σ) ≤ v2 → (vp_in v2 4000 ∧ (vp_in (mp_wantedMany σ) 4000 ∧ (∀ σ29 : MPS, σ29 = ms_wanted σ (upd (mp_wanted σ) (mp_wantedMany σ).toNatClampNeg ((mp_value σ) v2.toNatClampNeg)) → (∀ σ37 : MPS, σ37 = ms_wantedMany σ29 ((mp_wantedMany σ29) + 1) → w_M_want_L7 post n (v2 + 1) σ37))))))
def w_M_want  (σ : MPS) (x0 : Int32) (post : MPS → Prop) : Prop := (∀ σ2 : MPS, σ2 = ms_wantedMany σ 0 → (∃ n, w_M_want_L7 post n x0 σ2))
set_option maxHeartbeats 4000000 in
set_option maxRecDepth 100000 in
theorem c_M_want (l : Launch) (md : MD) (sz : Nat) (σ : MPS) (x0 : Int32)  (post : MPS → Prop) (hE : w_M_want σ x0 post) : Met l y_M_want ws_M_want { frames := 0, cells := 0, slots := 0, locals := 0 } (va_Pc [.ref (mA md 0), .int x0] (gM md σ sz)) (va_Qv post (eM md (va_A (MW md σ) sz)) (va_A (MW md σ) sz)) 0 0 (va_A (MW md σ) sz) := by
  refine Met.ofW (cc := b_M_want) (maxL := 3) (ret := none) (by decide) rfl ?_
  intro p e s m args below meth c s₁ B hml hv
  obtain ⟨rfl, hsz, hP, hK, hD0⟩ := hv
  have hx := B.exec
  have hb := B.bytes
  have hr := B.returns
  have hta : ∀ w ∈ aW, w.before _ s = true := fun w h => atoms_spec (ws := ws_M_want) B.pre w (List.mem_cons_of_mem _ h)
  have hown : s.vm.findClass R_M = some m.cls := findClass_of_methodNamed B.named
  have hlocks := B.notSynchronized
  subst hsz
  have hD := hD0.self (sz := s.heap.size)
  generalize hAe : va_A (MW md σ) s.heap.size = A at hD ⊢
  have hA : ∀ q : Nat, s.heap.size ≤ q → A q := fun q h => by rw [← hAe]; exact Or.inr h
  have hS : va_S A s.heap s.heap [] := va_S.rf
  have hP : va_P (mG md) classes (MW md σ) s.heap := hP
  have hl := lv_entry ([.ref (mA md 0), .int x0]) (n := 3) (Nat.le_of_ble_eq_true rfl)
  rw [lg_entry_eq]
  generalize (lg_sl ([.ref (mA md 0), .int x0]) ++ List.replicate (3 - (lg_sl ([.ref (mA md 0), .int x0])).length) Slot.unset).toArray = ls at hl ⊢
  have hl : lv_has ls 3 [(0, .ref (mA md 0)), (1, .int x0)] := hl
  have L7 : ∀ (n : Nat) (v2 : Int32) (σ : MPS) (H : Heap) (locs : List Loc) (hP : va_P (mG md) classes (MW md σ) H) (hD : va_D A (MW md σ)) (hS : va_S A s.heap H locs) (ls : Array Slot) (hl : lv_has ls 3 [(0, .ref (mA md 0)), (2, .int v2)]) (hE : w_M_want_L7 post n v2 σ), W p l e (headSpec ws_M_want { frames := 0, cells := 0, slots := 0, locals := 0 }).room s m ([.ref (mA md 0), .int x0] : List Value).toArray below meth c H locs 0 0 (MQ below (va_Qv post (eM md A) A) ([.ref (mA md 0), .int x0] : List Value).toArray s 0 0 A) (F0 m 7 ls []) := by
    intro n
    induction n with
    | zero => intro v2 σ H locs hP hD hS ls hl hE; exact hE.elim
    | succ n ih7 =>
      intro v2 σ H locs hP hD hS ls hl hE
      unfold w_M_want_L7 at hE
      refine lv_iload_n hx hb d_M_want_7 rfl (lv_at hl 1 rfl) ?_
      refine lv_aload_n hx hb d_M_want_8 rfl (lv_at hl 0 rfl) ?_
      refine va_get (D := (mG md)) (ci := 7) (v := .int (mp_valueMany σ)) (C := R_M) (T := F_M) (N := 37) hx hb hta i_M hown hK hP 0 rfl rfl 35 (by decide) (hta _ fl_M_269) (fun _ h9 => h9) rfl d_M_want_9 ?_
      refine lv_icmp_ge (tgt := 46) hx hb d_M_want_12 (by decide) (fun cc12 => ?_) (fun cc12 => ?_)
      · have hE := hE.1 cc12
        exact W.vret hx hb hr (fun t ht hW => ⟨⟨σ, rfl, hE, by rw [ht]; exact hP, va_K.moved hW.alike hK, hD⟩, hS.F ht⟩) hS.2.2 d_M_want_46
      · have hE := hE.2 cc12
        refine lv_aload_n hx hb d_M_want_15 rfl (lv_at hl 0 rfl) ?_
        refine va_get (D := (mG md)) (ci := 7) (v := .ref (mA md 18)) (C := R_M) (T := F_M) (N := 37) hx hb hta i_M hown hK hP 0 rfl rfl 34 (by decide) (hta _ fl_M_67) (fun _ h9 => h9) rfl d_M_want_16 ?_
        refine lv_aload_n hx hb d_M_want_19 rfl (lv_at hl 0 rfl) ?_
        refine va_get (D := (mG md)) (ci := 7) (v := .int (mp_wantedMany σ)) (C := R_M) (T := F_M) (N := 37) hx hb hta i_M hown hK hP 0 rfl rfl 36 (by decide) (hta _ fl_M_280) (fun _ h9 => h9) rfl d_M_want_20 ?_
        refine lv_aload_n hx hb d_M_want_23 rfl (lv_at hl 0 rfl) ?_
        refine va_get (D := (mG md)) (ci := 7) (v := .ref (mA md 17)) (C := R_M) (T := F_M) (N := 37) hx hb hta i_M hown hK hP 0 rfl rfl 33 (by decide) (hta _ fl_M_64) (fun _ h9 => h9) rfl d_M_want_24 ?_
        refine lv_iload_n hx hb d_M_want_27 rfl (lv_at hl 1 rfl) ?_
        obtain ⟨hI28, hE⟩ := hE
        refine va_iald (D := (mG md)) (f := mp_value σ) hx hb hK hP 17 0 rfl rfl hI28 d_M_want_28 ?_
        obtain ⟨hI29, hE⟩ := hE
        refine va_iast (D := (mG md)) (f := mp_wanted σ) hx hb hK hP hD hS 18 0 rfl rfl hI29 d_M_want_29 (fun H locs hP hD hS => ?_)
        have hP : va_P (mG md) classes (MW md (ms_wanted σ (upd (mp_wanted σ) (mp_wantedMany σ).toNatClampNeg ((mp_value σ) v2.toNatClampNeg)))) H := hP
        have hD : va_D A (MW md (ms_wanted σ (upd (mp_wanted σ) (mp_wantedMany σ).toNatClampNeg ((mp_value σ) v2.toNatClampNeg)))) := hD
        have hE := hE _ rfl
        generalize (ms_wanted σ (upd (mp_wanted σ) (mp_wantedMany σ).toNatClampNeg ((mp_value σ) v2.toNatClampNeg)) : MPS) = σ29 at hP hD hE
        refine lv_aload_n hx hb d_M_want_30 rfl (lv_at hl 0 rfl) ?_
        refine lv_dup hx hb d_M_want_31 rfl ?_
        refine va_get (D := (mG md)) (ci := 7) (v := .int (mp_wantedMany σ29)) (C := R_M) (T := F_M) (N := 37) hx hb hta i_M hown hK hP 0 rfl rfl 36 (by decide) (hta _ fl_M_280) (fun _ h9 => h9) rfl d_M_want_32 ?_
        refine lv_iconst (v := 1) hx hb d_M_want_35 (by decide) ?_
        refine lv_iadd hx hb d_M_want_36 ?_
        refine va_put (D := (mG md)) (ci := 7) (v := .int ((mp_wantedMany σ29) + 1)) (ty := .int) (C := R_M) (T := F_M) (N := 37) hx hb hta i_M t_M t_M_ok n_M hown hK hP hD hS 0 rfl rfl 36 (by decide) (hta _ fl_M_280) (fun _ h9 => h9) rfl (by decide +kernel) rfl rfl (Nat.le_of_ble_eq_true rfl) d_M_want_37 (fun H locs hP hD hS => ?_)
        have hP : va_P (mG md) classes (MW md (ms_wantedMany σ29 ((mp_wantedMany σ29) + 1))) H := hP
        have hD : va_D A (MW md (ms_wantedMany σ29 ((mp_wantedMany σ29) + 1))) := hD
        have hE := hE _ rfl
        generalize (ms_wantedMany σ29 ((mp_wantedMany σ29) + 1) : MPS) = σ37 at hP hD hE
        refine lv_iinc (v := v2 + 1) (lv' := [(2, .int (v2 + 1)), (0, .ref (mA md 0))]) hx hb d_M_want_40 hl (k := 1) rfl rfl (by decide) rfl (fun ls hl => ?_)
        refine lv_goto (tgt := 7) hx hb d_M_want_43 (by decide) ?_
        exact ih7 (v2 + 1) σ37 _ _ hP hD hS _ (lv_sub hl [1, 0] rfl) hE
  unfold w_M_want at hE
  refine lv_aload_n hx hb d_M_want_0 rfl (lv_at hl 0 rfl) ?_
  refine lv_iconst (v := 0) hx hb d_M_want_1 (by decide) ?_
  refine va_put (D := (mG md)) (ci := 7) (v := .int 0) (ty := .int) (C := R_M) (T := F_M) (N := 37) hx hb hta i_M t_M t_M_ok n_M hown hK hP hD hS 0 rfl rfl 36 (by decide) (hta _ fl_M_280) (fun _ h9 => h9) rfl (by decide +kernel) rfl rfl (Nat.le_of_ble_eq_true rfl) d_M_want_2 (fun H locs hP hD hS => ?_)
  have hP : va_P (mG md) classes (MW md (ms_wantedMany σ 0)) H := hP
  have hD : va_D A (MW md (ms_wantedMany σ 0)) := hD
  have hE := hE _ rfl
  generalize (ms_wantedMany σ 0 : MPS) = σ2 at hP hD hE
  refine lv_iload_n hx hb d_M_want_5 rfl (lv_at hl 1 rfl) ?_
  refine lv_istore_n (lv' := [(2, .int x0), (0, .ref (mA md 0)), (1, .int x0)]) hx hb d_M_want_6 rfl hl (by decide) rfl (fun ls hl => ?_)
  obtain ⟨n, hE⟩ := hE
  exact L7  n x0 σ2 _ _ hP hD hS _ (lv_sub hl [1, 0] rfl) hE
theorem cl_M_272 : Cond.constantLong "PlainPagesModel" 272 (26980) ∈ aW := aW_in 1194 (by decide +kernel) rfl
theorem ok_M_274 : okV "PlainPagesModel" 274 R_M y_M_hasAttribute b_M_hasAttribute 7 (some .boolean) 3 := ⟨aW_in 1195 (by decide +kernel) rfl, aW_in 1197 (by decide +kernel) rfl, aW_in 64 (by decide +kernel) rfl, aW_in 92 (by decide +kernel) rfl, cd_M_hasAttribute, rfl, by decide +kernel, by decide +kernel, by decide +kernel⟩
theorem ok_M_277 : okV "PlainPagesModel" 277 R_M y_M_takeValue b_M_takeValue 2 none 0 := ⟨aW_in 1199 (by decide +kernel) rfl, aW_in 1201 (by decide +kernel) rfl, aW_in 65 (by decide +kernel) rfl, aW_in 92 (by decide +kernel) rfl, cd_M_takeValue, rfl, by decide +kernel, by decide +kernel, by decide +kernel⟩
theorem ok_M_283 : okV "PlainPagesModel" 283 R_M y_M_want b_M_want 3 none 1 := ⟨aW_in 1203 (by decide +kernel) rfl, aW_in 1205 (by decide +kernel) rfl, aW_in 66 (by decide +kernel) rfl, aW_in 92 (by decide +kernel) rfl, cd_M_want, rfl, by decide +kernel, by decide +kernel, by decide +kernel⟩
theorem ok_M_286 : okV "PlainPagesModel" 286 R_M y_M_withId b_M_withId 6 (some .int) 1 := ⟨aW_in 1207 (by decide +kernel) rfl, aW_in 1209 (by decide +kernel) rfl, aW_in 67 (by decide +kernel) rfl, aW_in 92 (by decide +kernel) rfl, cd_M_withId, rfl, by decide +kernel, by decide +kernel, by decide +kernel⟩
theorem cl_M_297 : Cond.constantLong "PlainPagesModel" 297 (495873782388) ∈ aW := aW_in 1215 (by decide +kernel) rfl
theorem cl_M_295 : Cond.constantLong "PlainPagesModel" 295 (427020088179) ∈ aW := aW_in 1214 (by decide +kernel) rfl
theorem cl_M_291 : Cond.constantLong "PlainPagesModel" 291 (7565923) ∈ aW := aW_in 1212 (by decide +kernel) rfl
theorem cl_M_293 : Cond.constantLong "PlainPagesModel" 293 (6384756) ∈ aW := aW_in 1213 (by decide +kernel) rfl
theorem cl_M_289 : Cond.constantLong "PlainPagesModel" 289 (1752327526) ∈ aW := aW_in 1211 (by decide +kernel) rfl
theorem ok_M_299 : okV "PlainPagesModel" 299 R_M y_M_attributes b_M_attributes 4 (some .int) 1 := ⟨aW_in 1216 (by decide +kernel) rfl, aW_in 1218 (by decide +kernel) rfl, aW_in 68 (by decide +kernel) rfl, aW_in 92 (by decide +kernel) rfl, cd_M_attributes, rfl, by decide +kernel, by decide +kernel, by decide +kernel⟩
theorem ok_M_305 : okS "PlainPagesModel" 305 y_M_mayHaveText b_M_mayHaveText 1 (some .boolean) 1 := ⟨aW_in 1228 (by decide +kernel) rfl, aW_in 1229 (by decide +kernel) rfl, aW_in 92 (by decide +kernel) rfl, cd_M_mayHaveText, by decide +kernel, by decide +kernel, by decide +kernel⟩
theorem d_M_hasGoodText_0 : decode b_M_hasGoodText 0 = .ok (.iconst 1, 1) := by decide +kernel
theorem d_M_hasGoodText_1 : decode b_M_hasGoodText 1 = .ok (.istore_n 3, 1) := by decide +kernel
theorem d_M_hasGoodText_2 : decode b_M_hasGoodText 2 = .ok (.aload_n 0, 1) := by decide +kernel
theorem d_M_hasGoodText_3 : decode b_M_hasGoodText 3 = .ok (.getfield 49, 3) := by decide +kernel
theorem d_M_hasGoodText_6 : decode b_M_hasGoodText 6 = .ok (.iload_n 1, 1) := by decide +kernel
theorem d_M_hasGoodText_7 : decode b_M_hasGoodText 7 = .ok (.iaload, 1) := by decide +kernel
theorem d_M_hasGoodText_8 : decode b_M_hasGoodText 8 = .ok (.istore 4, 2) := by decide +kernel
theorem d_M_hasGoodText_10 : decode b_M_hasGoodText 10 = .ok (.iload 4, 2) := by decide +kernel
theorem d_M_hasGoodText_12 : decode b_M_hasGoodText 12 = .ok (.ifCond .lt 98, 3) := by decide +kernel
theorem d_M_hasGoodText_15 : decode b_M_hasGoodText 15 = .ok (.iload_n 3, 1) := by decide +kernel
theorem d_M_hasGoodText_16 : decode b_M_hasGoodText 16 = .ok (.ifCond .eq 94, 3) := by decide +kernel
theorem d_M_hasGoodText_19 : decode b_M_hasGoodText 19 = .ok (.iload_n 2, 1) := by decide +kernel
theorem d_M_hasGoodText_20 : decode b_M_hasGoodText 20 = .ok (.invokestatic 305, 3) := by decide +kernel
theorem d_M_hasGoodText_23 : decode b_M_hasGoodText 23 = .ok (.ifCond .ne 87, 3) := by decide +kernel
theorem d_M_hasGoodText_26 : decode b_M_hasGoodText 26 = .ok (.aload_n 0, 1) := by decide +kernel
theorem d_M_hasGoodText_27 : decode b_M_hasGoodText 27 = .ok (.getfield 36, 3) := by decide +kernel
theorem d_M_hasGoodText_30 : decode b_M_hasGoodText 30 = .ok (.iload 4, 2) := by decide +kernel
theorem d_M_hasGoodText_32 : decode b_M_hasGoodText 32 = .ok (.baload, 1) := by decide +kernel
theorem d_M_hasGoodText_33 : decode b_M_hasGoodText 33 = .ok (.ifCond .eq 6, 3) := by decide +kernel
theorem d_M_hasGoodText_36 : decode b_M_hasGoodText 36 = .ok (.goto 62, 3) := by decide +kernel
theorem d_M_hasGoodText_39 : decode b_M_hasGoodText 39 = .ok (.iload_n 2, 1) := by decide +kernel
theorem d_M_hasGoodText_40 : decode b_M_hasGoodText 40 = .ok (.bipush 21, 2) := by decide +kernel
theorem d_M_hasGoodText_42 : decode b_M_hasGoodText 42 = .ok (.if_icmp .ge 7, 3) := by decide +kernel
theorem d_M_hasGoodText_45 : decode b_M_hasGoodText 45 = .ok (.iconst 1, 1) := by decide +kernel
theorem d_M_hasGoodText_46 : decode b_M_hasGoodText 46 = .ok (.goto 4, 3) := by decide +kernel
theorem d_M_hasGoodText_49 : decode b_M_hasGoodText 49 = .ok (.iconst 0, 1) := by decide +kernel
theorem d_M_hasGoodText_50 : decode b_M_hasGoodText 50 = .ok (.istore_n 3, 1) := by decide +kernel
theorem d_M_hasGoodText_51 : decode b_M_hasGoodText 51 = .ok (.aload_n 0, 1) := by decide +kernel
theorem d_M_hasGoodText_52 : decode b_M_hasGoodText 52 = .ok (.getfield 40, 3) := by decide +kernel
theorem d_M_hasGoodText_55 : decode b_M_hasGoodText 55 = .ok (.iload 4, 2) := by decide +kernel
theorem d_M_hasGoodText_57 : decode b_M_hasGoodText 57 = .ok (.iaload, 1) := by decide +kernel
theorem d_M_hasGoodText_58 : decode b_M_hasGoodText 58 = .ok (.istore 5, 2) := by decide +kernel
theorem d_M_hasGoodText_60 : decode b_M_hasGoodText 60 = .ok (.iload 5, 2) := by decide +kernel
theorem d_M_hasGoodText_62 : decode b_M_hasGoodText 62 = .ok (.aload_n 0, 1) := by decide +kernel
theorem d_M_hasGoodText_63 : decode b_M_hasGoodText 63 = .ok (.getfield 43, 3) := by decide +kernel
theorem d_M_hasGoodText_66 : decode b_M_hasGoodText 66 = .ok (.iload 4, 2) := by decide +kernel
theorem d_M_hasGoodText_68 : decode b_M_hasGoodText 68 = .ok (.iaload, 1) := by decide +kernel
theorem d_M_hasGoodText_69 : decode b_M_hasGoodText 69 = .ok (.if_icmp .ge 29, 3) := by decide +kernel
theorem d_M_hasGoodText_72 : decode b_M_hasGoodText 72 = .ok (.iload_n 3, 1) := by decide +kernel
theorem d_M_hasGoodText_73 : decode b_M_hasGoodText 73 = .ok (.ifCond .eq 25, 3) := by decide +kernel
theorem d_M_hasGoodText_76 : decode b_M_hasGoodText 76 = .ok (.aload_n 0, 1) := by decide +kernel
theorem d_M_hasGoodText_77 : decode b_M_hasGoodText 77 = .ok (.iload 5, 2) := by decide +kernel
theorem d_M_hasGoodText_79 : decode b_M_hasGoodText 79 = .ok (.invokevirtual 139, 3) := by decide +kernel
theorem d_M_hasGoodText_82 : decode b_M_hasGoodText 82 = .ok (.invokestatic 104, 3) := by decide +kernel
theorem d_M_hasGoodText_85 : decode b_M_hasGoodText 85 = .ok (.istore_n 3, 1) := by decide +kernel
theorem d_M_hasGoodText_86 : decode b_M_hasGoodText 86 = .ok (.iload 5, 2) := by decide +kernel
theorem d_M_hasGoodText_88 : decode b_M_hasGoodText 88 = .ok (.aload_n 0, 1) := by decide +kernel
theorem d_M_hasGoodText_89 : decode b_M_hasGoodText 89 = .ok (.getfield 76, 3) := by decide +kernel
theorem d_M_hasGoodText_92 : decode b_M_hasGoodText 92 = .ok (.iadd, 1) := by decide +kernel
theorem d_M_hasGoodText_93 : decode b_M_hasGoodText 93 = .ok (.istore 5, 2) := by decide +kernel
theorem d_M_hasGoodText_95 : decode b_M_hasGoodText 95 = .ok (.goto (-35), 3) := by decide +kernel
theorem d_M_hasGoodText_98 : decode b_M_hasGoodText 98 = .ok (.aload_n 0, 1) := by decide +kernel
theorem d_M_hasGoodText_99 : decode b_M_hasGoodText 99 = .ok (.getfield 52, 3) := by decide +kernel
theorem d_M_hasGoodText_102 : decode b_M_hasGoodText 102 = .ok (.iload 4, 2) := by decide +kernel
theorem d_M_hasGoodText_104 : decode b_M_hasGoodText 104 = .ok (.iaload, 1) := by decide +kernel
theorem d_M_hasGoodText_105 : decode b_M_hasGoodText 105 = .ok (.istore 4, 2) := by decide +kernel
theorem d_M_hasGoodText_107 : decode b_M_hasGoodText 107 = .ok (.goto (-97), 3) := by decide +kernel
theorem d_M_hasGoodText_110 : decode b_M_hasGoodText 110 = .ok (.iload_n 3, 1) := by decide +kernel
theorem d_M_hasGoodText_111 : decode b_M_hasGoodText 111 = .ok (.ireturn, 1) := by decide +kernel
def w_M_hasGoodText_J98  (v2 : Int32) (K : Int32 → Int32 → MPS → Prop) (post : Int32 → MPS → Prop) (v3 : Int32) (v4 : Int32) (σ : MPS) : Prop := (vp_in v4 1000 ∧ K v3 ((mp_next σ) v4.toNatClampNeg) σ)
def w_M_hasGoodText_L60  (v2 : Int32) (v4 : Int32) (post : Int32 → MPS → Prop) : Nat → Int32 → Int32 → MPS → Prop
  | 0, _, _, _ => False
  | n + 1, v3, v5, σ => (vp_in v4 1000 ∧ ((((mp_ends σ) v4.toNatClampNeg) ≤ v5 → w_M_hasGoodText_J98 v2 (w_M_hasGoodText_L10 v2 post n) post v3 v4 σ) ∧ (¬ ((mp_ends σ) v4.toNatClampNeg) ≤ v5 → ((v3 = 0 → w_M_hasGoodText_J98 v2 (w_M_hasGoodText_L10 v2 post n) post v3 v4 σ) ∧ (¬ v3 = 0 → w_M_characterOf σ v5 (fun r79 σ79 => w_M_isWhite  r79 (fun r82 => w_M_hasGoodText_L60 v2 v4 post n r82 (v5 + (mp_width σ79)) σ79)))))))
def w_M_hasGoodText_J50  (v2 : Int32) (K : Int32 → Int32 → MPS → Prop) (post : Int32 → MPS → Prop) (v4 : Int32) (t0 : Int32) (σ : MPS) : Prop := (vp_in v4 1000 ∧ (∃ n, w_M_hasGoodText_L60 v2 v4 post n t0 ((mp_begins σ) v4.toNatClampNeg) σ))
def w_M_hasGoodText_L10  (v2 : Int32) (post : Int32 → MPS → Prop) : Nat → Int32 → Int32 → MPS → Prop
  | 0, _, _, _ => False
  | n + 1, v3, v4, σ => ((v4 < 0 → (narrow .boolean (.int v3) = .int v3 ∧ post v3 σ)) ∧ (¬ v4 < 0 → ((v3 = 0 → (narrow .boolean (.int v3) = .int v3 ∧ post v3 σ)) ∧ (¬ v3 = 0 → w_M_mayHaveText  v2 (fun r20 => ((r20 = 0 → (vp_in v4 1000 ∧ ((((mp_isElement σ) v4.toNatClampNeg) = 0 → ((21 ≤ v2 → w_M_hasGoodText_J50 v2 (w_M_hasGoodText_L10 v2 post n) post v4 0 σ) ∧ (¬ 21 ≤ v2 → w_M_hasGoodText_J50 v2 (w_M_hasGoodText_L10 v2 post n) post v4 1 σ))) ∧ (¬ ((mp_isElement σ) v4.toNatClampNeg) = 0 → w_M_hasGoodText_J98 v2 (w_M_hasGoodText_L10 v2 post n) post v3 v4 σ)))) ∧ (¬ r20 = 0 → (narrow .boolean (.int v3) = .int v3 ∧ post v3 σ))))))))
def w_M_hasGoodText  (σ : MPS) (x0 : Int32) (x1 : Int32) (post : Int32 → MPS → Prop) : Prop := (vp_in x0 1000 ∧ (∃ n, w_M_hasGoodText_L10 x1 post n 1 ((mp_first σ) x0.toNatClampNeg) σ))
set_option maxHeartbeats 4000000 in
set_option maxRecDepth 100000 in
theorem c_M_hasGoodText (l : Launch) (md : MD) (sz : Nat) (σ : MPS) (x0 : Int32) (x1 : Int32)  (post : Int32 → MPS → Prop) (hE : w_M_hasGoodText σ x0 x1 post) : Met l y_M_hasGoodText ws_M_hasGoodText { frames := 3, cells := 0, slots := 0, locals := 73 } (va_Pc [.ref (mA md 0), .int x0, .int x1] (gM md σ sz)) (va_Qi post (eM md (va_A (MW md σ) sz)) (va_A (MW md σ) sz)) 0 0 (va_A (MW md σ) sz) := by
  refine Met.ofW (cc := b_M_hasGoodText) (maxL := 6) (ret := (some .boolean)) (by decide) rfl ?_
  intro p e s m args below meth c s₁ B hml hv
  obtain ⟨rfl, hsz, hP, hK, hD0⟩ := hv
  have hx := B.exec
  have hb := B.bytes
  have hr := B.returns
  have hta : ∀ w ∈ aW, w.before _ s = true := fun w h => atoms_spec (ws := ws_M_hasGoodText) B.pre w (List.mem_cons_of_mem _ h)
  have hown : s.vm.findClass R_M = some m.cls := findClass_of_methodNamed B.named
  have hlocks := B.notSynchronized
  subst hsz
  have hD := hD0.self (sz := s.heap.size)
  generalize hAe : va_A (MW md σ) s.heap.size = A at hD ⊢
  have hA : ∀ q : Nat, s.heap.size ≤ q → A q := fun q h => by rw [← hAe]; exact Or.inr h
  have hS : va_S A s.heap s.heap [] := va_S.rf
  have hP : va_P (mG md) classes (MW md σ) s.heap := hP
  have hl := lv_entry ([.ref (mA md 0), .int x0, .int x1]) (n := 6) (Nat.le_of_ble_eq_true rfl)
  rw [lg_entry_eq]
  generalize (lg_sl ([.ref (mA md 0), .int x0, .int x1]) ++ List.replicate (6 - (lg_sl ([.ref (mA md 0), .int x0, .int x1])).length) Slot.unset).toArray = ls at hl ⊢
  have hl : lv_has ls 6 [(0, .ref (mA md 0)), (1, .int x0), (2, .int x1)] := hl
  have L10 : ∀ (v2 : Int32) (n : Nat) (v3 : Int32) (v4 : Int32) (σ : MPS) (H : Heap) (locs : List Loc) (hP : va_P (mG md) classes (MW md σ) H) (hD : va_D A (MW md σ)) (hS : va_S A s.heap H locs) (ls : Array Slot) (hl : lv_has ls 6 [(0, .ref (mA md 0)), (2, .int v2), (3, .int v3), (4, .int v4)]) (hE : w_M_hasGoodText_L10 v2 post n v3 v4 σ), W p l e (headSpec ws_M_hasGoodText { frames := 3, cells := 0, slots := 0, locals := 73 }).room s m ([.ref (mA md 0), .int x0, .int x1] : List Value).toArray below meth c H locs 0 0 (MQ below (va_Qi post (eM md A) A) ([.ref (mA md 0), .int x0, .int x1] : List Value).toArray s 0 0 A) (F0 m 10 ls []) := by
    intro v2 n
    induction n with
    | zero => intro v3 v4 σ H locs hP hD hS ls hl hE; exact hE.elim
    | succ n ih10 =>
      have J98 : ∀ (v3 : Int32) (v4 : Int32) (σ : MPS) (H : Heap) (locs : List Loc) (hP : va_P (mG md) classes (MW md σ) H) (hD : va_D A (MW md σ)) (hS : va_S A s.heap H locs) (ls : Array Slot) (hl : lv_has ls 6 [(0, .ref (mA md 0)), (2, .int v2), (3, .int v3), (4, .int v4)]) (hE : w_M_hasGoodText_J98 v2 (w_M_hasGoodText_L10 v2 post n) post v3 v4 σ), W p l e (headSpec ws_M_hasGoodText { frames := 3, cells := 0, slots := 0, locals := 73 }).room s m ([.ref (mA md 0), .int x0, .int x1] : List Value).toArray below meth c H locs 0 0 (MQ below (va_Qi post (eM md A) A) ([.ref (mA md 0), .int x0, .int x1] : List Value).toArray s 0 0 A) (F0 m 98 ls []) := by
        intro  v3 v4 σ H locs hP hD hS ls hl hE
        unfold w_M_hasGoodText_J98 at hE
        refine lv_aload_n hx hb d_M_hasGoodText_98 rfl (lv_at hl 0 rfl) ?_
        refine va_get (D := (mG md)) (ci := 7) (v := .ref (mA md 13)) (C := R_M) (T := F_M) (N := 37) hx hb hta i_M hown hK hP 0 rfl rfl 28 (by decide) (hta _ fl_M_52) (fun _ h9 => h9) rfl d_M_hasGoodText_99 ?_
        refine lv_iload hx hb d_M_hasGoodText_102 (lv_at hl 3 rfl) ?_
        obtain ⟨hI104, hE⟩ := hE
        refine va_iald (D := (mG md)) (f := mp_next σ) hx hb hK hP 13 0 rfl rfl hI104 d_M_hasGoodText_104 ?_
        refine lv_istore (lv' := [(4, .int ((mp_next σ) v4.toNatClampNeg)), (0, .ref (mA md 0)), (2, .int v2), (3, .int v3)]) hx hb d_M_hasGoodText_105 hl (by decide) rfl (fun ls hl => ?_)
        refine lv_goto (tgt := 10) hx hb d_M_hasGoodText_107 (by decide) ?_
        exact ih10 v3 ((mp_next σ) v4.toNatClampNeg) σ _ _ hP hD hS _ (lv_sub hl [1, 2, 3, 0] rfl) hE
      have L60 : ∀ (n : Nat) (v3 : Int32) (v5 : Int32) (σ : MPS) (H : Heap) (locs : List Loc) (hP : va_P (mG md) classes (MW md σ) H) (hD : va_D A (MW md σ)) (hS : va_S A s.heap H locs) (ls : Array Slot) (hl : lv_has ls 6 [(0, .ref (mA md 0)), (2, .int v2), (3, .int v3), (4, .int v4), (5, .int v5)]) (hE : w_M_hasGoodText_L60 v2 v4 (w_M_hasGoodText_L10 v2 post n) post n v3 v5 σ), W p l e (headSpec ws_M_hasGoodText { frames := 3, cells := 0, slots := 0, locals := 73 }).room s m ([.ref (mA md 0), .int x0, .int x1] : List Value).toArray below meth c H locs 0 0 (MQ below (va_Qi post (eM md A) A) ([.ref (mA md 0), .int x0, .int x1] : List Value).toArray s 0 0 A) (F0 m 60 ls []) := by
        intro v2 v4 n
        induction n with
        | zero => intro v3 v5 σ H locs hP hD hS ls hl hE; exact hE.elim
        | succ n ih60 =>
          intro v3 v5 σ H locs hP hD hS ls hl hE
          unfold w_M_hasGoodText_L60 at hE
          refine lv_iload hx hb d_M_hasGoodText_60 (lv_at hl 4 rfl) ?_
          refine lv_aload_n hx hb d_M_hasGoodText_62 rfl (lv_at hl 0 rfl) ?_
          refine va_get (D := (mG md)) (ci := 7) (v := .ref (mA md 10)) (C := R_M) (T := F_M) (N := 37) hx hb hta i_M hown hK hP 0 rfl rfl 25 (by decide) (hta _ fl_M_43) (fun _ h9 => h9) rfl d_M_hasGoodText_63 ?_
          refine lv_iload hx hb d_M_hasGoodText_66 (lv_at hl 3 rfl) ?_
          obtain ⟨hI68, hE⟩ := hE
          refine va_iald (D := (mG md)) (f := mp_ends σ) hx hb hK hP 10 0 rfl rfl hI68 d_M_hasGoodText_68 ?_
          refine lv_icmp_ge (tgt := 98) hx hb d_M_hasGoodText_69 (by decide) (fun cc69 => ?_) (fun cc69 => ?_)
          · have hE := hE.1 cc69
            exact J98  v3 v4 σ _ _ hP hD hS _ (lv_sub hl [0, 1, 2, 3] rfl) hE
          · have hE := hE.2 cc69
            refine lv_iload_n hx hb d_M_hasGoodText_72 rfl (lv_at hl 2 rfl) ?_
            refine lv_if_eq (tgt := 98) hx hb d_M_hasGoodText_73 (by decide) (fun cc73 => ?_) (fun cc73 => ?_)
            · have hE := hE.1 cc73
              exact J98  v3 v4 σ _ _ hP hD hS _ (lv_sub hl [0, 1, 2, 3] rfl) hE
            · have hE := hE.2 cc73
              refine lv_aload_n hx hb d_M_hasGoodText_76 rfl (lv_at hl 0 rfl) ?_
              refine lv_iload hx hb d_M_hasGoodText_77 (lv_at hl 4 rfl) ?_
              refine mm_i (b0 := (mA md 0)) (As := [.int v5]) (rest := []) ⟨hx, hb, hml, hown, hta⟩ (c_M_characterOf l md _ σ v5 _ hE) ok_M_139 ⟨Nat.le_of_ble_eq_true rfl, Nat.le_of_ble_eq_true rfl⟩ (va_recv hK hP (ci := 7) (q0 := 0) rfl rfl) hP hK hD hS hA rfl hl.1 rfl (Nat.le_of_ble_eq_true rfl) d_M_hasGoodText_79 ⟨Nat.zero_le _, Nat.zero_le _⟩ (fun r79 σ79 H locs hE hP hD hS => ?_)
              refine ro_S  (As := [.int r79]) (rest := []) ⟨hx, hb, hml, hown, hta⟩ (c_M_isWhite l r79  _ hE) ok_M_104 ⟨Nat.le_of_ble_eq_true rfl, Nat.le_of_ble_eq_true rfl⟩ blind_true  (fun _ _ _ => trivial) rfl hl.1 rfl (Nat.le_of_ble_eq_true rfl) d_M_hasGoodText_82 ⟨Nat.zero_le _, Nat.zero_le _⟩ (fun r82 hE => ?_)
              refine lv_istore_n (lv' := [(3, .int r82), (0, .ref (mA md 0)), (2, .int v2), (4, .int v4), (5, .int v5)]) hx hb d_M_hasGoodText_85 rfl hl (by decide) rfl (fun ls hl => ?_)
              refine lv_iload hx hb d_M_hasGoodText_86 (lv_at hl 4 rfl) ?_
              refine lv_aload_n hx hb d_M_hasGoodText_88 rfl (lv_at hl 1 rfl) ?_
              refine va_get (D := (mG md)) (ci := 7) (v := .int (mp_width σ79)) (C := R_M) (T := F_M) (N := 37) hx hb hta i_M hown hK hP 0 rfl rfl 12 (by decide) (hta _ fl_M_76) (fun _ h9 => h9) rfl d_M_hasGoodText_89 ?_
              refine lv_iadd hx hb d_M_hasGoodText_92 ?_
              refine lv_istore (lv' := [(5, .int (v5 + (mp_width σ79))), (3, .int r82), (0, .ref (mA md 0)), (2, .int v2), (4, .int v4)]) hx hb d_M_hasGoodText_93 hl (by decide) rfl (fun ls hl => ?_)
              refine lv_goto (tgt := 60) hx hb d_M_hasGoodText_95 (by decide) ?_
              exact ih60 r82 (v5 + (mp_width σ79)) σ79 _ _ hP hD hS _ (lv_sub hl [2, 3, 1, 4, 0] rfl) hE
      have J50 : ∀ (v4 : Int32) (t0 : Int32) (σ : MPS) (H : Heap) (locs : List Loc) (hP : va_P (mG md) classes (MW md σ) H) (hD : va_D A (MW md σ)) (hS : va_S A s.heap H locs) (ls : Array Slot) (hl : lv_has ls 6 [(0, .ref (mA md 0)), (2, .int v2), (4, .int v4)]) (hE : w_M_hasGoodText_J50 v2 (w_M_hasGoodText_L10 v2 post n) post v4 t0 σ), W p l e (headSpec ws_M_hasGoodText { frames := 3, cells := 0, slots := 0, locals := 73 }).room s m ([.ref (mA md 0), .int x0, .int x1] : List Value).toArray below meth c H locs 0 0 (MQ below (va_Qi post (eM md A) A) ([.ref (mA md 0), .int x0, .int x1] : List Value).toArray s 0 0 A) (F0 m 50 ls [.int t0]) := by
        intro  v4 t0 σ H locs hP hD hS ls hl hE
        unfold w_M_hasGoodText_J50 at hE
        refine lv_istore_n (lv' := [(3, .int t0), (0, .ref (mA md 0)), (2, .int v2), (4, .int v4)]) hx hb d_M_hasGoodText_50 rfl hl (by decide) rfl (fun ls hl => ?_)
        refine lv_aload_n hx hb d_M_hasGoodText_51 rfl (lv_at hl 1 rfl) ?_
        refine va_get (D := (mG md)) (ci := 7) (v := .ref (mA md 9)) (C := R_M) (T := F_M) (N := 37) hx hb hta i_M hown hK hP 0 rfl rfl 24 (by decide) (hta _ fl_M_40) (fun _ h9 => h9) rfl d_M_hasGoodText_52 ?_
        refine lv_iload hx hb d_M_hasGoodText_55 (lv_at hl 3 rfl) ?_
        obtain ⟨hI57, hE⟩ := hE
        refine va_iald (D := (mG md)) (f := mp_begins σ) hx hb hK hP 9 0 rfl rfl hI57 d_M_hasGoodText_57 ?_
        refine lv_istore (lv' := [(5, .int ((mp_begins σ) v4.toNatClampNeg)), (3, .int t0), (0, .ref (mA md 0)), (2, .int v2), (4, .int v4)]) hx hb d_M_hasGoodText_58 hl (by decide) rfl (fun ls hl => ?_)
        obtain ⟨n, hE⟩ := hE
        exact L60 v2 v4 n t0 ((mp_begins σ) v4.toNatClampNeg) σ _ _ hP hD hS _ (lv_sub hl [2, 3, 1, 4, 0] rfl) hE
      intro v3 v4 σ H locs hP hD hS ls hl hE
      unfold w_M_hasGoodText_L10 at hE
      refine lv_iload hx hb d_M_hasGoodText_10 (lv_at hl 3 rfl) ?_
      refine lv_if_lt (tgt := 110) hx hb d_M_hasGoodText_12 (by decide) (fun cc12 => ?_) (fun cc12 => ?_)
      · have hE := hE.1 cc12
        refine lv_iload_n hx hb d_M_hasGoodText_110 rfl (lv_at hl 2 rfl) ?_
        obtain ⟨hN, hE⟩ := hE
        exact W.zret (v := v3) hx hb hr hN (fun t ht hW => ⟨⟨_, σ, rfl, hE, by rw [ht]; exact hP, va_K.moved hW.alike hK, hD⟩, hS.F ht⟩) hS.2.2 d_M_hasGoodText_111
      · have hE := hE.2 cc12
        refine lv_iload_n hx hb d_M_hasGoodText_15 rfl (lv_at hl 2 rfl) ?_
        refine lv_if_eq (tgt := 110) hx hb d_M_hasGoodText_16 (by decide) (fun cc16 => ?_) (fun cc16 => ?_)
        · have hE := hE.1 cc16
          refine lv_iload_n hx hb d_M_hasGoodText_110 rfl (lv_at hl 2 rfl) ?_
          obtain ⟨hN, hE⟩ := hE
          exact W.zret (v := v3) hx hb hr hN (fun t ht hW => ⟨⟨_, σ, rfl, hE, by rw [ht]; exact hP, va_K.moved hW.alike hK, hD⟩, hS.F ht⟩) hS.2.2 d_M_hasGoodText_111
        · have hE := hE.2 cc16
          refine lv_iload_n hx hb d_M_hasGoodText_19 rfl (lv_at hl 1 rfl) ?_
          refine ro_S  (As := [.int v2]) (rest := []) ⟨hx, hb, hml, hown, hta⟩ (c_M_mayHaveText l v2  _ hE) ok_M_305 ⟨Nat.le_of_ble_eq_true rfl, Nat.le_of_ble_eq_true rfl⟩ blind_true  (fun _ _ _ => trivial) rfl hl.1 rfl (Nat.le_of_ble_eq_true rfl) d_M_hasGoodText_20 ⟨Nat.zero_le _, Nat.zero_le _⟩ (fun r20 hE => ?_)
          refine lv_if_ne (tgt := 110) hx hb d_M_hasGoodText_23 (by decide) (fun cc23 => ?_) (fun cc23 => ?_)
          · have hE := hE.2 cc23
            refine lv_iload_n hx hb d_M_hasGoodText_110 rfl (lv_at hl 2 rfl) ?_
            obtain ⟨hN, hE⟩ := hE
            exact W.zret (v := v3) hx hb hr hN (fun t ht hW => ⟨⟨_, σ, rfl, hE, by rw [ht]; exact hP, va_K.moved hW.alike hK, hD⟩, hS.F ht⟩) hS.2.2 d_M_hasGoodText_111
          · have hE := hE.1 cc23
            refine lv_aload_n hx hb d_M_hasGoodText_26 rfl (lv_at hl 0 rfl) ?_
            refine va_get (D := (mG md)) (ci := 7) (v := .ref (mA md 8)) (C := R_M) (T := F_M) (N := 37) hx hb hta i_M hown hK hP 0 rfl rfl 23 (by decide) (hta _ fl_M_36) (fun _ h9 => h9) rfl d_M_hasGoodText_27 ?_
            refine lv_iload hx hb d_M_hasGoodText_30 (lv_at hl 3 rfl) ?_
            obtain ⟨hI32, hE⟩ := hE
            refine va_zald (D := (mG md)) (f := mp_isElement σ) hx hb hK hP 8 2 rfl rfl hI32 d_M_hasGoodText_32 ?_
            refine lv_if_eq (tgt := 39) hx hb d_M_hasGoodText_33 (by decide) (fun cc33 => ?_) (fun cc33 => ?_)
            · have hE := hE.1 cc33
              refine lv_iload_n hx hb d_M_hasGoodText_39 rfl (lv_at hl 1 rfl) ?_
              refine lv_bipush (v := 21) hx hb d_M_hasGoodText_40 (by decide) ?_
              refine lv_icmp_ge (tgt := 49) hx hb d_M_hasGoodText_42 (by decide) (fun cc42 => ?_) (fun cc42 => ?_)
              · have hE := hE.1 cc42
                refine lv_iconst (v := 0) hx hb d_M_hasGoodText_49 (by decide) ?_
                exact J50  v4 0 σ _ _ hP hD hS _ (lv_sub hl [0, 1, 3] rfl) hE
              · have hE := hE.2 cc42
                refine lv_iconst (v := 1) hx hb d_M_hasGoodText_45 (by decide) ?_
                refine lv_goto (tgt := 50) hx hb d_M_hasGoodText_46 (by decide) ?_
                exact J50  v4 1 σ _ _ hP hD hS _ (lv_sub hl [0, 1, 3] rfl) hE
            · have hE := hE.2 cc33
              refine lv_goto (tgt := 98) hx hb d_M_hasGoodText_36 (by decide) ?_
              exact J98  v3 v4 σ _ _ hP hD hS _ (lv_sub hl [0, 1, 2, 3] rfl) hE
  unfold w_M_hasGoodText at hE
  refine lv_iconst (v := 1) hx hb d_M_hasGoodText_0 (by decide) ?_
  refine lv_istore_n (lv' := [(3, .int 1), (0, .ref (mA md 0)), (1, .int x0), (2, .int x1)]) hx hb d_M_hasGoodText_1 rfl hl (by decide) rfl (fun ls hl => ?_)
  refine lv_aload_n hx hb d_M_hasGoodText_2 rfl (lv_at hl 1 rfl) ?_
  refine va_get (D := (mG md)) (ci := 7) (v := .ref (mA md 12)) (C := R_M) (T := F_M) (N := 37) hx hb hta i_M hown hK hP 0 rfl rfl 27 (by decide) (hta _ fl_M_49) (fun _ h9 => h9) rfl d_M_hasGoodText_3 ?_
  refine lv_iload_n hx hb d_M_hasGoodText_6 rfl (lv_at hl 2 rfl) ?_
  obtain ⟨hI7, hE⟩ := hE
  refine va_iald (D := (mG md)) (f := mp_first σ) hx hb hK hP 12 0 rfl rfl hI7 d_M_hasGoodText_7 ?_
  refine lv_istore (lv' := [(4, .int ((mp_first σ) x0.toNatClampNeg)), (3, .int 1), (0, .ref (mA md 0)), (1, .int x0), (2, .int x1)]) hx hb d_M_hasGoodText_8 hl (by decide) rfl (fun ls hl => ?_)
  obtain ⟨n, hE⟩ := hE
  exact L10 x1 n 1 ((mp_first σ) x0.toNatClampNeg) σ _ _ hP hD hS _ (lv_sub hl [2, 4, 1, 0] rfl) hE
theorem ok_M_308 : okS "PlainPagesModel" 308 y_M_mayHold b_M_mayHold 2 (some .boolean) 2 := ⟨aW_in 1177 (by decide +kernel) rfl, aW_in 1178 (by decide +kernel) rfl, aW_in 92 (by decide +kernel) rfl, cd_M_mayHold, by decide +kernel, by decide +kernel, by decide +kernel⟩
theorem ok_M_311 : okV "PlainPagesModel" 311 R_M y_M_isInAnchor b_M_isInAnchor 3 (some .boolean) 1 := ⟨aW_in 1186 (by decide +kernel) rfl, aW_in 1188 (by decide +kernel) rfl, aW_in 62 (by decide +kernel) rfl, aW_in 92 (by decide +kernel) rfl, cd_M_isInAnchor, rfl, by decide +kernel, by decide +kernel, by decide +kernel⟩
theorem ok_M_314 : okV "PlainPagesModel" 314 R_M y_M_hasGoodAttributes b_M_hasGoodAttributes 6 (some .boolean) 2 := ⟨aW_in 1190 (by decide +kernel) rfl, aW_in 1192 (by decide +kernel) rfl, aW_in 63 (by decide +kernel) rfl, aW_in 92 (by decide +kernel) rfl, cd_M_hasGoodAttributes, rfl, by decide +kernel, by decide +kernel, by decide +kernel⟩
theorem ok_M_317 : okV "PlainPagesModel" 317 R_M y_M_holdsAll b_M_holdsAll 7 (some .boolean) 2 := ⟨aW_in 1220 (by decide +kernel) rfl, aW_in 1222 (by decide +kernel) rfl, aW_in 69 (by decide +kernel) rfl, aW_in 92 (by decide +kernel) rfl, cd_M_holdsAll, rfl, by decide +kernel, by decide +kernel, by decide +kernel⟩
theorem ok_M_320 : okV "PlainPagesModel" 320 R_M y_M_hasGoodText b_M_hasGoodText 6 (some .boolean) 2 := ⟨aW_in 1224 (by decide +kernel) rfl, aW_in 1226 (by decide +kernel) rfl, aW_in 70 (by decide +kernel) rfl, aW_in 92 (by decide +kernel) rfl, cd_M_hasGoodText, rfl, by decide +kernel, by decide +kernel, by decide +kernel⟩
theorem d_M_fault_0 : decode b_M_fault 0 = .ok (.aload_n 0, 1) := by decide +kernel
theorem d_M_fault_1 : decode b_M_fault 1 = .ok (.iconst 0, 1) := by decide +kernel
theorem d_M_fault_2 : decode b_M_fault 2 = .ok (.putfield 70, 3) := by decide +kernel
theorem d_M_fault_5 : decode b_M_fault 5 = .ok (.iload_n 1, 1) := by decide +kernel
theorem d_M_fault_6 : decode b_M_fault 6 = .ok (.ifCond .ne 10, 3) := by decide +kernel
theorem d_M_fault_9 : decode b_M_fault 9 = .ok (.aload_n 0, 1) := by decide +kernel
theorem d_M_fault_10 : decode b_M_fault 10 = .ok (.getfield 208, 3) := by decide +kernel
theorem d_M_fault_13 : decode b_M_fault 13 = .ok (.goto 16, 3) := by decide +kernel
theorem d_M_fault_16 : decode b_M_fault 16 = .ok (.iload_n 1, 1) := by decide +kernel
theorem d_M_fault_17 : decode b_M_fault 17 = .ok (.iconst 1, 1) := by decide +kernel
theorem d_M_fault_18 : decode b_M_fault 18 = .ok (.if_icmp .ne 10, 3) := by decide +kernel
theorem d_M_fault_21 : decode b_M_fault 21 = .ok (.aload_n 0, 1) := by decide +kernel
theorem d_M_fault_22 : decode b_M_fault 22 = .ok (.getfield 25, 3) := by decide +kernel
theorem d_M_fault_25 : decode b_M_fault 25 = .ok (.goto 4, 3) := by decide +kernel
theorem d_M_fault_28 : decode b_M_fault 28 = .ok (.iconst (-1), 1) := by decide +kernel
theorem d_M_fault_29 : decode b_M_fault 29 = .ok (.ireturn, 1) := by decide +kernel
def w_M_fault  (σ : MPS) (x0 : Int32) (post : Int32 → MPS → Prop) : Prop := (∀ σ2 : MPS, σ2 = ms_thrown σ 0 → ((x0 = 0 → post (mp_fault σ2) σ2) ∧ (¬ x0 = 0 → ((x0 = 1 → post (mp_faultAt σ2) σ2) ∧ (¬ x0 = 1 → post (-1) σ2)))))
set_option maxHeartbeats 4000000 in
set_option maxRecDepth 100000 in
theorem c_M_fault (l : Launch) (md : MD) (sz : Nat) (σ : MPS) (x0 : Int32)  (post : Int32 → MPS → Prop) (hE : w_M_fault σ x0 post) : Met l y_M_fault ws_M_fault { frames := 0, cells := 0, slots := 0, locals := 0 } (va_Pc [.ref (mA md 0), .int x0] (gM md σ sz)) (va_Qi post (eM md (va_A (MW md σ) sz)) (va_A (MW md σ) sz)) 0 0 (va_A (MW md σ) sz) := by
  refine Met.ofW (cc := b_M_fault) (maxL := 2) (ret := (some .int)) (by decide) rfl ?_
  intro p e s m args below meth c s₁ B hml hv
  obtain ⟨rfl, hsz, hP, hK, hD0⟩ := hv
  have hx := B.exec
  have hb := B.bytes
  have hr := B.returns
  have hta : ∀ w ∈ aW, w.before _ s = true := fun w h => atoms_spec (ws := ws_M_fault) B.pre w (List.mem_cons_of_mem _ h)
  have hown : s.vm.findClass R_M = some m.cls := findClass_of_methodNamed B.named
  have hlocks := B.notSynchronized
  subst hsz
  have hD := hD0.self (sz := s.heap.size)
  generalize hAe : va_A (MW md σ) s.heap.size = A at hD ⊢
  have hA : ∀ q : Nat, s.heap.size ≤ q → A q := fun q h => by rw [← hAe]; exact Or.inr h
  have hS : va_S A s.heap s.heap [] := va_S.rf
  have hP : va_P (mG md) classes (MW md σ) s.heap := hP
  have hl := lv_entry ([.ref (mA md 0), .int x0]) (n := 2) (Nat.le_of_ble_eq_true rfl)
  rw [lg_entry_eq]
  generalize (lg_sl ([.ref (mA md 0), .int x0]) ++ List.replicate (2 - (lg_sl ([.ref (mA md 0), .int x0])).length) Slot.unset).toArray = ls at hl ⊢
  have hl : lv_has ls 2 [(0, .ref (mA md 0)), (1, .int x0)] := hl
  unfold w_M_fault at hE
  refine lv_aload_n hx hb d_M_fault_0 rfl (lv_at hl 0 rfl) ?_
  refine lv_iconst (v := 0) hx hb d_M_fault_1 (by decide) ?_
  refine va_put (D := (mG md)) (ci := 7) (v := .int 0) (ty := .int) (C := R_M) (T := F_M) (N := 37) hx hb hta i_M t_M t_M_ok n_M hown hK hP hD hS 0 rfl rfl 0 (by decide) (hta _ fl_M_70) (fun _ h9 => h9) rfl (by decide +kernel) rfl rfl (Nat.le_of_ble_eq_true rfl) d_M_fault_2 (fun H locs hP hD hS => ?_)
  have hP : va_P (mG md) classes (MW md (ms_thrown σ 0)) H := hP
  have hD : va_D A (MW md (ms_thrown σ 0)) := hD
  have hE := hE _ rfl
  generalize (ms_thrown σ 0 : MPS) = σ2 at hP hD hE
  refine lv_iload_n hx hb d_M_fault_5 rfl (lv_at hl 1 rfl) ?_
  refine lv_if_ne (tgt := 16) hx hb d_M_fault_6 (by decide) (fun cc6 => ?_) (fun cc6 => ?_)
  · have hE := hE.2 cc6
    refine lv_iload_n hx hb d_M_fault_16 rfl (lv_at hl 1 rfl) ?_
    refine lv_iconst (v := 1) hx hb d_M_fault_17 (by decide) ?_
    refine lv_icmp_ne (tgt := 28) hx hb d_M_fault_18 (by decide) (fun cc18 => ?_) (fun cc18 => ?_)
    · have hE := hE.2 cc18
      refine lv_iconst (v := -1) hx hb d_M_fault_28 (by decide) ?_
      exact W.iret (v := (-1)) hx hb hr (fun t ht hW => ⟨⟨_, σ2, rfl, hE, by rw [ht]; exact hP, va_K.moved hW.alike hK, hD⟩, hS.F ht⟩) hS.2.2 d_M_fault_29
    · have hE := hE.1 cc18
      refine lv_aload_n hx hb d_M_fault_21 rfl (lv_at hl 0 rfl) ?_
      refine va_get (D := (mG md)) (ci := 7) (v := .int (mp_faultAt σ2)) (C := R_M) (T := F_M) (N := 37) hx hb hta i_M hown hK hP 0 rfl rfl 10 (by decide) (hta _ fl_M_25) (fun _ h9 => h9) rfl d_M_fault_22 ?_
      refine lv_goto (tgt := 29) hx hb d_M_fault_25 (by decide) ?_
      exact W.iret (v := mp_faultAt σ2) hx hb hr (fun t ht hW => ⟨⟨_, σ2, rfl, hE, by rw [ht]; exact hP, va_K.moved hW.alike hK, hD⟩, hS.F ht⟩) hS.2.2 d_M_fault_29
  · have hE := hE.1 cc6
    refine lv_aload_n hx hb d_M_fault_9 rfl (lv_at hl 0 rfl) ?_
    refine va_get (D := (mG md)) (ci := 7) (v := .int (mp_fault σ2)) (C := R_M) (T := F_M) (N := 37) hx hb hta i_M hown hK hP 0 rfl rfl 9 (by decide) (hta _ fl_M_208) (fun _ h9 => h9) rfl d_M_fault_10 ?_
    refine lv_goto (tgt := 29) hx hb d_M_fault_13 (by decide) ?_
    exact W.iret (v := mp_fault σ2) hx hb hr (fun t ht hW => ⟨⟨_, σ2, rfl, hE, by rw [ht]; exact hP, va_K.moved hW.alike hK, hD⟩, hS.F ht⟩) hS.2.2 d_M_fault_29

theorem d_M_characters_0 : decode b_M_characters 0 = .ok (.iconst 0, 1) := by decide +kernel
theorem d_M_characters_1 : decode b_M_characters 1 = .ok (.istore_n 3, 1) := by decide +kernel
theorem d_M_characters_2 : decode b_M_characters 2 = .ok (.iload_n 1, 1) := by decide +kernel
theorem d_M_characters_3 : decode b_M_characters 3 = .ok (.istore 4, 2) := by decide +kernel
theorem d_M_characters_5 : decode b_M_characters 5 = .ok (.iload 4, 2) := by decide +kernel
theorem d_M_characters_7 : decode b_M_characters 7 = .ok (.iload_n 2, 1) := by decide +kernel
theorem d_M_characters_8 : decode b_M_characters 8 = .ok (.if_icmp .ge 26, 3) := by decide +kernel
theorem d_M_characters_11 : decode b_M_characters 11 = .ok (.aload_n 0, 1) := by decide +kernel
theorem d_M_characters_12 : decode b_M_characters 12 = .ok (.iload 4, 2) := by decide +kernel
theorem d_M_characters_14 : decode b_M_characters 14 = .ok (.invokevirtual 139, 3) := by decide +kernel
theorem d_M_characters_17 : decode b_M_characters 17 = .ok (.istore 5, 2) := by decide +kernel
theorem d_M_characters_19 : decode b_M_characters 19 = .ok (.iinc 3 1, 3) := by decide +kernel
theorem d_M_characters_22 : decode b_M_characters 22 = .ok (.iload 4, 2) := by decide +kernel
theorem d_M_characters_24 : decode b_M_characters 24 = .ok (.aload_n 0, 1) := by decide +kernel
theorem d_M_characters_25 : decode b_M_characters 25 = .ok (.getfield 76, 3) := by decide +kernel
theorem d_M_characters_28 : decode b_M_characters 28 = .ok (.iadd, 1) := by decide +kernel
theorem d_M_characters_29 : decode b_M_characters 29 = .ok (.istore 4, 2) := by decide +kernel
theorem d_M_characters_31 : decode b_M_characters 31 = .ok (.goto (-26), 3) := by decide +kernel
theorem d_M_characters_34 : decode b_M_characters 34 = .ok (.iload_n 3, 1) := by decide +kernel
theorem d_M_characters_35 : decode b_M_characters 35 = .ok (.ireturn, 1) := by decide +kernel
def w_M_characters_L5  (v2 : Int32) (post : Int32 → MPS → Prop) : Nat → Int32 → Int32 → MPS → Prop
  | 0, _, _, _ => False
  | n + 1, v3, v4, σ => ((v2 ≤ v4 → post v3 σ) ∧ (¬ v2 ≤ v4 → w_M_characterOf σ v4 (fun r14 σ14 => w_M_characters_L5 v2 post n (v3 + 1) (v4 + (mp_width σ14)) σ14)))
def w_M_characters  (σ : MPS) (x0 : Int32) (x1 : Int32) (post : Int32 → MPS → Prop) : Prop := (∃ n, w_M_characters_L5 x1 post n 0 x0 σ)
set_option maxHeartbeats 4000000 in
set_option maxRecDepth 100000 in
theorem c_M_characters (l : Launch) (md : MD) (sz : Nat) (σ : MPS) (x0 : Int32) (x1 : Int32)  (post : Int32 → MPS → Prop) (hE : w_M_characters σ x0 x1 post) : Met l y_M_characters ws_M_characters { frames := 3, cells := 0, slots := 0, locals := 73 } (va_Pc [.ref (mA md 0), .int x0, .int x1] (gM md σ sz)) (va_Qi post (eM md (va_A (MW md σ) sz)) (va_A (MW md σ) sz)) 0 0 (va_A (MW md σ) sz) := by
  refine Met.ofW (cc := b_M_characters) (maxL := 6) (ret := (some .int)) (by decide) rfl ?_
  intro p e s m args below meth c s₁ B hml hv
  obtain ⟨rfl, hsz, hP, hK, hD0⟩ := hv
  have hx := B.exec
  have hb := B.bytes
  have hr := B.returns
  have hta : ∀ w ∈ aW, w.before _ s = true := fun w h => atoms_spec (ws := ws_M_characters) B.pre w (List.mem_cons_of_mem _ h)
  have hown : s.vm.findClass R_M = some m.cls := findClass_of_methodNamed B.named
  have hlocks := B.notSynchronized
  subst hsz
  have hD := hD0.self (sz := s.heap.size)
  generalize hAe : va_A (MW md σ) s.heap.size = A at hD ⊢
  have hA : ∀ q : Nat, s.heap.size ≤ q → A q := fun q h => by rw [← hAe]; exact Or.inr h
  have hS : va_S A s.heap s.heap [] := va_S.rf
  have hP : va_P (mG md) classes (MW md σ) s.heap := hP
  have hl := lv_entry ([.ref (mA md 0), .int x0, .int x1]) (n := 6) (Nat.le_of_ble_eq_true rfl)
  rw [lg_entry_eq]
  generalize (lg_sl ([.ref (mA md 0), .int x0, .int x1]) ++ List.replicate (6 - (lg_sl ([.ref (mA md 0), .int x0, .int x1])).length) Slot.unset).toArray = ls at hl ⊢
  have hl : lv_has ls 6 [(0, .ref (mA md 0)), (1, .int x0), (2, .int x1)] := hl
  have L5 : ∀ (v2 : Int32) (n : Nat) (v3 : Int32) (v4 : Int32) (σ : MPS) (H : Heap) (locs : List Loc) (hP : va_P (mG md) classes (MW md σ) H) (hD : va_D A (MW md σ)) (hS : va_S A s.heap H locs) (ls : Array Slot) (hl : lv_has ls 6 [(0, .ref (mA md 0)), (2, .int v2), (3, .int v3), (4, .int v4)]) (hE : w_M_characters_L5 v2 post n v3 v4 σ), W p l e (headSpec ws_M_characters { frames := 3, cells := 0, slots := 0, locals := 73 }).room s m ([.ref (mA md 0), .int x0, .int x1] : List Value).toArray below meth c H locs 0 0 (MQ below (va_Qi post (eM md A) A) ([.ref (mA md 0), .int x0, .int x1] : List Value).toArray s 0 0 A) (F0 m 5 ls []) := by
    intro v2 n
    induction n with
    | zero => intro v3 v4 σ H locs hP hD hS ls hl hE; exact hE.elim
    | succ n ih5 =>
      intro v3 v4 σ H locs hP hD hS ls hl hE
      unfold w_M_characters_L5 at hE
      refine lv_iload hx hb d_M_characters_5 (lv_at hl 3 rfl) ?_
      refine lv_iload_n hx hb d_M_characters_7 rfl (lv_at hl 1 rfl) ?_
      refine lv_icmp_ge (tgt := 34) hx hb d_M_characters_8 (by decide) (fun cc8 => ?_) (fun cc8 => ?_)
      · have hE := hE.1 cc8
        refine lv_iload_n hx hb d_M_characters_34 rfl (lv_at hl 2 rfl) ?_
        exact W.iret (v := v3) hx hb hr (fun t ht hW => ⟨⟨_, σ, rfl, hE, by rw [ht]; exact hP, va_K.moved hW.alike hK, hD⟩, hS.F ht⟩) hS.2.2 d_M_characters_35
      · have hE := hE.2 cc8
        refine lv_aload_n hx hb d_M_characters_11 rfl (lv_at hl 0 rfl) ?_
        refine lv_iload hx hb d_M_characters_12 (lv_at hl 3 rfl) ?_
        refine mm_i (b0 := (mA md 0)) (As := [.int v4]) (rest := []) ⟨hx, hb, hml, hown, hta⟩ (c_M_characterOf l md _ σ v4 _ hE) ok_M_139 ⟨Nat.le_of_ble_eq_true rfl, Nat.le_of_ble_eq_true rfl⟩ (va_recv hK hP (ci := 7) (q0 := 0) rfl rfl) hP hK hD hS hA rfl hl.1 rfl (Nat.le_of_ble_eq_true rfl) d_M_characters_14 ⟨Nat.zero_le _, Nat.zero_le _⟩ (fun r14 σ14 H locs hE hP hD hS => ?_)
        refine lv_istore (lv' := [(5, .int r14), (0, .ref (mA md 0)), (2, .int v2), (3, .int v3), (4, .int v4)]) hx hb d_M_characters_17 hl (by decide) rfl (fun ls hl => ?_)
        refine lv_iinc (v := v3 + 1) (lv' := [(3, .int (v3 + 1)), (5, .int r14), (0, .ref (mA md 0)), (2, .int v2), (4, .int v4)]) hx hb d_M_characters_19 hl (k := 3) rfl rfl (by decide) rfl (fun ls hl => ?_)
        refine lv_iload hx hb d_M_characters_22 (lv_at hl 4 rfl) ?_
        refine lv_aload_n hx hb d_M_characters_24 rfl (lv_at hl 2 rfl) ?_
        refine va_get (D := (mG md)) (ci := 7) (v := .int (mp_width σ14)) (C := R_M) (T := F_M) (N := 37) hx hb hta i_M hown hK hP 0 rfl rfl 12 (by decide) (hta _ fl_M_76) (fun _ h9 => h9) rfl d_M_characters_25 ?_
        refine lv_iadd hx hb d_M_characters_28 ?_
        refine lv_istore (lv' := [(4, .int (v4 + (mp_width σ14))), (3, .int (v3 + 1)), (5, .int r14), (0, .ref (mA md 0)), (2, .int v2)]) hx hb d_M_characters_29 hl (by decide) rfl (fun ls hl => ?_)
        refine lv_goto (tgt := 5) hx hb d_M_characters_31 (by decide) ?_
        exact ih5 (v3 + 1) (v4 + (mp_width σ14)) σ14 _ _ hP hD hS _ (lv_sub hl [3, 4, 1, 0] rfl) hE
  unfold w_M_characters at hE
  refine lv_iconst (v := 0) hx hb d_M_characters_0 (by decide) ?_
  refine lv_istore_n (lv' := [(3, .int 0), (0, .ref (mA md 0)), (1, .int x0), (2, .int x1)]) hx hb d_M_characters_1 rfl hl (by decide) rfl (fun ls hl => ?_)
  refine lv_iload_n hx hb d_M_characters_2 rfl (lv_at hl 2 rfl) ?_
  refine lv_istore (lv' := [(4, .int x0), (3, .int 0), (0, .ref (mA md 0)), (1, .int x0), (2, .int x1)]) hx hb d_M_characters_3 hl (by decide) rfl (fun ls hl => ?_)
  obtain ⟨n, hE⟩ := hE
  exact L5 x1 n 0 x0 σ _ _ hP hD hS _ (lv_sub hl [2, 4, 1, 0] rfl) hE
theorem ok_M_323 : okV "PlainPagesModel" 323 R_M y_M_isNode b_M_isNode 2 (some .boolean) 1 := ⟨aW_in 1243 (by decide +kernel) rfl, aW_in 1245 (by decide +kernel) rfl, aW_in 71 (by decide +kernel) rfl, aW_in 92 (by decide +kernel) rfl, cd_M_isNode, rfl, by decide +kernel, by decide +kernel, by decide +kernel⟩
theorem ok_M_326 : okV "PlainPagesModel" 326 R_M y_M_characters b_M_characters 6 (some .int) 2 := ⟨aW_in 1247 (by decide +kernel) rfl, aW_in 1249 (by decide +kernel) rfl, aW_in 72 (by decide +kernel) rfl, aW_in 92 (by decide +kernel) rfl, cd_M_characters, rfl, by decide +kernel, by decide +kernel, by decide +kernel⟩
theorem d_M_node_0 : decode b_M_node 0 = .ok (.aload_n 0, 1) := by decide +kernel
theorem d_M_node_1 : decode b_M_node 1 = .ok (.iconst 0, 1) := by decide +kernel
theorem d_M_node_2 : decode b_M_node 2 = .ok (.putfield 70, 3) := by decide +kernel
theorem d_M_node_5 : decode b_M_node 5 = .ok (.aload_n 0, 1) := by decide +kernel
theorem d_M_node_6 : decode b_M_node 6 = .ok (.iload_n 1, 1) := by decide +kernel
theorem d_M_node_7 : decode b_M_node 7 = .ok (.invokevirtual 323, 3) := by decide +kernel
theorem d_M_node_10 : decode b_M_node 10 = .ok (.ifCond .ne 5, 3) := by decide +kernel
theorem d_M_node_13 : decode b_M_node 13 = .ok (.iconst (-1), 1) := by decide +kernel
theorem d_M_node_14 : decode b_M_node 14 = .ok (.ireturn, 1) := by decide +kernel
theorem d_M_node_15 : decode b_M_node 15 = .ok (.iload_n 2, 1) := by decide +kernel
theorem d_M_node_16 : decode b_M_node 16 = .ok (.tableswitch 151 0 7 #[48, 63, 70, 77, 111, 130, 137, 144], 48) := by decide +kernel
theorem d_M_node_64 : decode b_M_node 64 = .ok (.aload_n 0, 1) := by decide +kernel
theorem d_M_node_65 : decode b_M_node 65 = .ok (.getfield 36, 3) := by decide +kernel
theorem d_M_node_68 : decode b_M_node 68 = .ok (.iload_n 1, 1) := by decide +kernel
theorem d_M_node_69 : decode b_M_node 69 = .ok (.baload, 1) := by decide +kernel
theorem d_M_node_70 : decode b_M_node 70 = .ok (.ifCond .eq 7, 3) := by decide +kernel
theorem d_M_node_73 : decode b_M_node 73 = .ok (.iconst 1, 1) := by decide +kernel
theorem d_M_node_74 : decode b_M_node 74 = .ok (.goto 4, 3) := by decide +kernel
theorem d_M_node_77 : decode b_M_node 77 = .ok (.iconst 0, 1) := by decide +kernel
theorem d_M_node_78 : decode b_M_node 78 = .ok (.ireturn, 1) := by decide +kernel
theorem d_M_node_79 : decode b_M_node 79 = .ok (.aload_n 0, 1) := by decide +kernel
theorem d_M_node_80 : decode b_M_node 80 = .ok (.getfield 46, 3) := by decide +kernel
theorem d_M_node_83 : decode b_M_node 83 = .ok (.iload_n 1, 1) := by decide +kernel
theorem d_M_node_84 : decode b_M_node 84 = .ok (.iaload, 1) := by decide +kernel
theorem d_M_node_85 : decode b_M_node 85 = .ok (.ireturn, 1) := by decide +kernel
theorem d_M_node_86 : decode b_M_node 86 = .ok (.aload_n 0, 1) := by decide +kernel
theorem d_M_node_87 : decode b_M_node 87 = .ok (.getfield 40, 3) := by decide +kernel
theorem d_M_node_90 : decode b_M_node 90 = .ok (.iload_n 1, 1) := by decide +kernel
theorem d_M_node_91 : decode b_M_node 91 = .ok (.iaload, 1) := by decide +kernel
theorem d_M_node_92 : decode b_M_node 92 = .ok (.ireturn, 1) := by decide +kernel
theorem d_M_node_93 : decode b_M_node 93 = .ok (.aload_n 0, 1) := by decide +kernel
theorem d_M_node_94 : decode b_M_node 94 = .ok (.getfield 36, 3) := by decide +kernel
theorem d_M_node_97 : decode b_M_node 97 = .ok (.iload_n 1, 1) := by decide +kernel
theorem d_M_node_98 : decode b_M_node 98 = .ok (.baload, 1) := by decide +kernel
theorem d_M_node_99 : decode b_M_node 99 = .ok (.ifCond .eq 11, 3) := by decide +kernel
theorem d_M_node_102 : decode b_M_node 102 = .ok (.aload_n 0, 1) := by decide +kernel
theorem d_M_node_103 : decode b_M_node 103 = .ok (.iload_n 1, 1) := by decide +kernel
theorem d_M_node_104 : decode b_M_node 104 = .ok (.invokevirtual 221, 3) := by decide +kernel
theorem d_M_node_107 : decode b_M_node 107 = .ok (.goto 19, 3) := by decide +kernel
theorem d_M_node_110 : decode b_M_node 110 = .ok (.aload_n 0, 1) := by decide +kernel
theorem d_M_node_111 : decode b_M_node 111 = .ok (.aload_n 0, 1) := by decide +kernel
theorem d_M_node_112 : decode b_M_node 112 = .ok (.getfield 40, 3) := by decide +kernel
theorem d_M_node_115 : decode b_M_node 115 = .ok (.iload_n 1, 1) := by decide +kernel
theorem d_M_node_116 : decode b_M_node 116 = .ok (.iaload, 1) := by decide +kernel
theorem d_M_node_117 : decode b_M_node 117 = .ok (.aload_n 0, 1) := by decide +kernel
theorem d_M_node_118 : decode b_M_node 118 = .ok (.getfield 43, 3) := by decide +kernel
theorem d_M_node_121 : decode b_M_node 121 = .ok (.iload_n 1, 1) := by decide +kernel
theorem d_M_node_122 : decode b_M_node 122 = .ok (.iaload, 1) := by decide +kernel
theorem d_M_node_123 : decode b_M_node 123 = .ok (.invokevirtual 326, 3) := by decide +kernel
theorem d_M_node_126 : decode b_M_node 126 = .ok (.ireturn, 1) := by decide +kernel
theorem d_M_node_127 : decode b_M_node 127 = .ok (.aload_n 0, 1) := by decide +kernel
theorem d_M_node_128 : decode b_M_node 128 = .ok (.getfield 36, 3) := by decide +kernel
theorem d_M_node_131 : decode b_M_node 131 = .ok (.iload_n 1, 1) := by decide +kernel
theorem d_M_node_132 : decode b_M_node 132 = .ok (.baload, 1) := by decide +kernel
theorem d_M_node_133 : decode b_M_node 133 = .ok (.ifCond .eq 11, 3) := by decide +kernel
theorem d_M_node_136 : decode b_M_node 136 = .ok (.aload_n 0, 1) := by decide +kernel
theorem d_M_node_137 : decode b_M_node 137 = .ok (.iload_n 1, 1) := by decide +kernel
theorem d_M_node_138 : decode b_M_node 138 = .ok (.invokevirtual 299, 3) := by decide +kernel
theorem d_M_node_141 : decode b_M_node 141 = .ok (.goto 4, 3) := by decide +kernel
theorem d_M_node_144 : decode b_M_node 144 = .ok (.iconst 0, 1) := by decide +kernel
theorem d_M_node_145 : decode b_M_node 145 = .ok (.ireturn, 1) := by decide +kernel
theorem d_M_node_146 : decode b_M_node 146 = .ok (.aload_n 0, 1) := by decide +kernel
theorem d_M_node_147 : decode b_M_node 147 = .ok (.getfield 52, 3) := by decide +kernel
theorem d_M_node_150 : decode b_M_node 150 = .ok (.iload_n 1, 1) := by decide +kernel
theorem d_M_node_151 : decode b_M_node 151 = .ok (.iaload, 1) := by decide +kernel
theorem d_M_node_152 : decode b_M_node 152 = .ok (.ireturn, 1) := by decide +kernel
theorem d_M_node_153 : decode b_M_node 153 = .ok (.aload_n 0, 1) := by decide +kernel
theorem d_M_node_154 : decode b_M_node 154 = .ok (.getfield 49, 3) := by decide +kernel
theorem d_M_node_157 : decode b_M_node 157 = .ok (.iload_n 1, 1) := by decide +kernel
theorem d_M_node_158 : decode b_M_node 158 = .ok (.iaload, 1) := by decide +kernel
theorem d_M_node_159 : decode b_M_node 159 = .ok (.ireturn, 1) := by decide +kernel
theorem d_M_node_160 : decode b_M_node 160 = .ok (.aload_n 0, 1) := by decide +kernel
theorem d_M_node_161 : decode b_M_node 161 = .ok (.getfield 55, 3) := by decide +kernel
theorem d_M_node_164 : decode b_M_node 164 = .ok (.iload_n 1, 1) := by decide +kernel
theorem d_M_node_165 : decode b_M_node 165 = .ok (.iaload, 1) := by decide +kernel
theorem d_M_node_166 : decode b_M_node 166 = .ok (.ireturn, 1) := by decide +kernel
theorem d_M_node_167 : decode b_M_node 167 = .ok (.iconst (-1), 1) := by decide +kernel
theorem d_M_node_168 : decode b_M_node 168 = .ok (.ireturn, 1) := by decide +kernel
def w_M_node  (σ : MPS) (x0 : Int32) (x1 : Int32) (post : Int32 → MPS → Prop) : Prop := (∀ σ2 : MPS, σ2 = ms_thrown σ 0 → w_M_isNode σ2 x0 (fun r7 => ((r7 = 0 → post (-1) σ2) ∧ (¬ r7 = 0 → ((x1 = 0 → (vp_in x0 1000 ∧ ((((mp_isElement σ2) x0.toNatClampNeg) = 0 → post 0 σ2) ∧ (¬ ((mp_isElement σ2) x0.toNatClampNeg) = 0 → post 1 σ2)))) ∧ (¬ x1 = 0 → ((x1 = 1 → (vp_in x0 1000 ∧ post ((mp_up σ2) x0.toNatClampNeg) σ2)) ∧ (¬ x1 = 1 → ((x1 = 2 → (vp_in x0 1000 ∧ post ((mp_begins σ2) x0.toNatClampNeg) σ2)) ∧ (¬ x1 = 2 → ((x1 = 3 → (vp_in x0 1000 ∧ ((((mp_isElement σ2) x0.toNatClampNeg) = 0 → (vp_in x0 1000 ∧ (vp_in x0 1000 ∧ w_M_characters σ2 ((mp_begins σ2) x0.toNatClampNeg) ((mp_ends σ2) x0.toNatClampNeg) (fun r123 σ123 => post r123 σ123)))) ∧ (¬ ((mp_isElement σ2) x0.toNatClampNeg) = 0 → w_M_nameSize σ2 x0 (fun r104 => post r104 σ2))))) ∧ (¬ x1 = 3 → ((x1 = 4 → (vp_in x0 1000 ∧ ((((mp_isElement σ2) x0.toNatClampNeg) = 0 → post 0 σ2) ∧ (¬ ((mp_isElement σ2) x0.toNatClampNeg) = 0 → w_M_attributes σ2 x0 (fun r138 σ138 => post r138 σ138))))) ∧ (¬ x1 = 4 → ((x1 = 5 → (vp_in x0 1000 ∧ post ((mp_next σ2) x0.toNatClampNeg) σ2)) ∧ (¬ x1 = 5 → ((x1 = 6 → (vp_in x0 1000 ∧ post ((mp_first σ2) x0.toNatClampNeg) σ2)) ∧ (¬ x1 = 6 → ((x1 = 7 → (vp_in x0 1000 ∧ post ((mp_depth σ2) x0.toNatClampNeg) σ2)) ∧ (¬ x1 = 7 → post (-1) σ2))))))))))))))))))))
set_option maxHeartbeats 4000000 in
set_option maxRecDepth 100000 in
theorem c_M_node (l : Launch) (md : MD) (sz : Nat) (σ : MPS) (x0 : Int32) (x1 : Int32)  (post : Int32 → MPS → Prop) (hE : w_M_node σ x0 x1 post) : Met l y_M_node ws_M_node { frames := 4, cells := 0, slots := 0, locals := 98 } (va_Pc [.ref (mA md 0), .int x0, .int x1] (gM md σ sz)) (va_Qi post (eM md (va_A (MW md σ) sz)) (va_A (MW md σ) sz)) 0 0 (va_A (MW md σ) sz) := by
  refine Met.ofW (cc := b_M_node) (maxL := 3) (ret := (some .int)) (by decide) rfl ?_
  intro p e s m args below meth c s₁ B hml hv
  obtain ⟨rfl, hsz, hP, hK, hD0⟩ := hv
  have hx := B.exec
  have hb := B.bytes
  have hr := B.returns
  have hta : ∀ w ∈ aW, w.before _ s = true := fun w h => atoms_spec (ws := ws_M_node) B.pre w (List.mem_cons_of_mem _ h)
  have hown : s.vm.findClass R_M = some m.cls := findClass_of_methodNamed B.named
  have hlocks := B.notSynchronized
  subst hsz
  have hD := hD0.self (sz := s.heap.size)
  generalize hAe : va_A (MW md σ) s.heap.size = A at hD ⊢
  have hA : ∀ q : Nat, s.heap.size ≤ q → A q := fun q h => by rw [← hAe]; exact Or.inr h
  have hS : va_S A s.heap s.heap [] := va_S.rf
  have hP : va_P (mG md) classes (MW md σ) s.heap := hP
  have hl := lv_entry ([.ref (mA md 0), .int x0, .int x1]) (n := 3) (Nat.le_of_ble_eq_true rfl)
  rw [lg_entry_eq]
  generalize (lg_sl ([.ref (mA md 0), .int x0, .int x1]) ++ List.replicate (3 - (lg_sl ([.ref (mA md 0), .int x0, .int x1])).length) Slot.unset).toArray = ls at hl ⊢
  have hl : lv_has ls 3 [(0, .ref (mA md 0)), (1, .int x0), (2, .int x1)] := hl
  unfold w_M_node at hE
  refine lv_aload_n hx hb d_M_node_0 rfl (lv_at hl 0 rfl) ?_
  refine lv_iconst (v := 0) hx hb d_M_node_1 (by decide) ?_
  refine va_put (D := (mG md)) (ci := 7) (v := .int 0) (ty := .int) (C := R_M) (T := F_M) (N := 37) hx hb hta i_M t_M t_M_ok n_M hown hK hP hD hS 0 rfl rfl 0 (by decide) (hta _ fl_M_70) (fun _ h9 => h9) rfl (by decide +kernel) rfl rfl (Nat.le_of_ble_eq_true rfl) d_M_node_2 (fun H locs hP hD hS => ?_)
  have hP : va_P (mG md) classes (MW md (ms_thrown σ 0)) H := hP
  have hD : va_D A (MW md (ms_thrown σ 0)) := hD
  have hE := hE _ rfl
  generalize (ms_thrown σ 0 : MPS) = σ2 at hP hD hE
  refine lv_aload_n hx hb d_M_node_5 rfl (lv_at hl 0 rfl) ?_
  refine lv_iload_n hx hb d_M_node_6 rfl (lv_at hl 1 rfl) ?_
  refine ro_V (b0 := (mA md 0)) (As := [.int x0]) (rest := []) ⟨hx, hb, hml, hown, hta⟩ (c_M_isNode l md σ2 x0  _ hE) ok_M_323 ⟨Nat.le_of_ble_eq_true rfl, Nat.le_of_ble_eq_true rfl⟩ blind_rM (va_recv hK hP (ci := 7) (q0 := 0) rfl rfl) (rM_of hP hK) rfl hl.1 rfl (Nat.le_of_ble_eq_true rfl) d_M_node_7 ⟨Nat.zero_le _, Nat.zero_le _⟩ (fun r7 hE => ?_)
  refine lv_if_ne (tgt := 15) hx hb d_M_node_10 (by decide) (fun cc10 => ?_) (fun cc10 => ?_)
  · have hE := hE.2 cc10
    refine lv_iload_n hx hb d_M_node_15 rfl (lv_at hl 2 rfl) ?_
    by_cases hs16_0 : x1 = 0
    · have hE := hE.1 hs16_0
      refine lv_tableIn (off := 48) (tgt := 64) hx hb d_M_node_16 (by rw [hs16_0]; decide) (by rw [hs16_0]; decide) (by rw [hs16_0]; decide) (by decide) ?_
      refine lv_aload_n hx hb d_M_node_64 rfl (lv_at hl 0 rfl) ?_
      refine va_get (D := (mG md)) (ci := 7) (v := .ref (mA md 8)) (C := R_M) (T := F_M) (N := 37) hx hb hta i_M hown hK hP 0 rfl rfl 23 (by decide) (hta _ fl_M_36) (fun _ h9 => h9) rfl d_M_node_65 ?_
      refine lv_iload_n hx hb d_M_node_68 rfl (lv_at hl 1 rfl) ?_
      obtain ⟨hI69, hE⟩ := hE
      refine va_zald (D := (mG md)) (f := mp_isElement σ2) hx hb hK hP 8 2 rfl rfl hI69 d_M_node_69 ?_
      refine lv_if_eq (tgt := 77) hx hb d_M_node_70 (by decide) (fun cc70 => ?_) (fun cc70 => ?_)
      · have hE := hE.1 cc70
        refine lv_iconst (v := 0) hx hb d_M_node_77 (by decide) ?_
        exact W.iret (v := 0) hx hb hr (fun t ht hW => ⟨⟨_, σ2, rfl, hE, by rw [ht]; exact hP, va_K.moved hW.alike hK, hD⟩, hS.F ht⟩) hS.2.2 d_M_node_78
      · have hE := hE.2 cc70
        refine lv_iconst (v := 1) hx hb d_M_node_73 (by decide) ?_
        refine lv_goto (tgt := 78) hx hb d_M_node_74 (by decide) ?_
        exact W.iret (v := 1) hx hb hr (fun t ht hW => ⟨⟨_, σ2, rfl, hE, by rw [ht]; exact hP, va_K.moved hW.alike hK, hD⟩, hS.F ht⟩) hS.2.2 d_M_node_78
    · have hE := hE.2 hs16_0
      by_cases hs16_1 : x1 = 1
      · have hE := hE.1 hs16_1
        refine lv_tableIn (off := 63) (tgt := 79) hx hb d_M_node_16 (by rw [hs16_1]; decide) (by rw [hs16_1]; decide) (by rw [hs16_1]; decide) (by decide) ?_
        refine lv_aload_n hx hb d_M_node_79 rfl (lv_at hl 0 rfl) ?_
        refine va_get (D := (mG md)) (ci := 7) (v := .ref (mA md 11)) (C := R_M) (T := F_M) (N := 37) hx hb hta i_M hown hK hP 0 rfl rfl 26 (by decide) (hta _ fl_M_46) (fun _ h9 => h9) rfl d_M_node_80 ?_
        refine lv_iload_n hx hb d_M_node_83 rfl (lv_at hl 1 rfl) ?_
        obtain ⟨hI84, hE⟩ := hE
        refine va_iald (D := (mG md)) (f := mp_up σ2) hx hb hK hP 11 0 rfl rfl hI84 d_M_node_84 ?_
        exact W.iret (v := (mp_up σ2) x0.toNatClampNeg) hx hb hr (fun t ht hW => ⟨⟨_, σ2, rfl, hE, by rw [ht]; exact hP, va_K.moved hW.alike hK, hD⟩, hS.F ht⟩) hS.2.2 d_M_node_85
      · have hE := hE.2 hs16_1
        by_cases hs16_2 : x1 = 2
        · have hE := hE.1 hs16_2
          refine lv_tableIn (off := 70) (tgt := 86) hx hb d_M_node_16 (by rw [hs16_2]; decide) (by rw [hs16_2]; decide) (by rw [hs16_2]; decide) (by decide) ?_
          refine lv_aload_n hx hb d_M_node_86 rfl (lv_at hl 0 rfl) ?_
          refine va_get (D := (mG md)) (ci := 7) (v := .ref (mA md 9)) (C := R_M) (T := F_M) (N := 37) hx hb hta i_M hown hK hP 0 rfl rfl 24 (by decide) (hta _ fl_M_40) (fun _ h9 => h9) rfl d_M_node_87 ?_
          refine lv_iload_n hx hb d_M_node_90 rfl (lv_at hl 1 rfl) ?_
          obtain ⟨hI91, hE⟩ := hE
          refine va_iald (D := (mG md)) (f := mp_begins σ2) hx hb hK hP 9 0 rfl rfl hI91 d_M_node_91 ?_
          exact W.iret (v := (mp_begins σ2) x0.toNatClampNeg) hx hb hr (fun t ht hW => ⟨⟨_, σ2, rfl, hE, by rw [ht]; exact hP, va_K.moved hW.alike hK, hD⟩, hS.F ht⟩) hS.2.2 d_M_node_92
        · have hE := hE.2 hs16_2
          by_cases hs16_3 : x1 = 3
          · have hE := hE.1 hs16_3
            refine lv_tableIn (off := 77) (tgt := 93) hx hb d_M_node_16 (by rw [hs16_3]; decide) (by rw [hs16_3]; decide) (by rw [hs16_3]; decide) (by decide) ?_
            refine lv_aload_n hx hb d_M_node_93 rfl (lv_at hl 0 rfl) ?_
            refine va_get (D := (mG md)) (ci := 7) (v := .ref (mA md 8)) (C := R_M) (T := F_M) (N := 37) hx hb hta i_M hown hK hP 0 rfl rfl 23 (by decide) (hta _ fl_M_36) (fun _ h9 => h9) rfl d_M_node_94 ?_
            refine lv_iload_n hx hb d_M_node_97 rfl (lv_at hl 1 rfl) ?_
            obtain ⟨hI98, hE⟩ := hE
            refine va_zald (D := (mG md)) (f := mp_isElement σ2) hx hb hK hP 8 2 rfl rfl hI98 d_M_node_98 ?_
            refine lv_if_eq (tgt := 110) hx hb d_M_node_99 (by decide) (fun cc99 => ?_) (fun cc99 => ?_)
            · have hE := hE.1 cc99
              refine lv_aload_n hx hb d_M_node_110 rfl (lv_at hl 0 rfl) ?_
              refine lv_aload_n hx hb d_M_node_111 rfl (lv_at hl 0 rfl) ?_
              refine va_get (D := (mG md)) (ci := 7) (v := .ref (mA md 9)) (C := R_M) (T := F_M) (N := 37) hx hb hta i_M hown hK hP 0 rfl rfl 24 (by decide) (hta _ fl_M_40) (fun _ h9 => h9) rfl d_M_node_112 ?_
              refine lv_iload_n hx hb d_M_node_115 rfl (lv_at hl 1 rfl) ?_
              obtain ⟨hI116, hE⟩ := hE
              refine va_iald (D := (mG md)) (f := mp_begins σ2) hx hb hK hP 9 0 rfl rfl hI116 d_M_node_116 ?_
              refine lv_aload_n hx hb d_M_node_117 rfl (lv_at hl 0 rfl) ?_
              refine va_get (D := (mG md)) (ci := 7) (v := .ref (mA md 10)) (C := R_M) (T := F_M) (N := 37) hx hb hta i_M hown hK hP 0 rfl rfl 25 (by decide) (hta _ fl_M_43) (fun _ h9 => h9) rfl d_M_node_118 ?_
              refine lv_iload_n hx hb d_M_node_121 rfl (lv_at hl 1 rfl) ?_
              obtain ⟨hI122, hE⟩ := hE
              refine va_iald (D := (mG md)) (f := mp_ends σ2) hx hb hK hP 10 0 rfl rfl hI122 d_M_node_122 ?_
              refine mm_i (b0 := (mA md 0)) (As := [.int ((mp_begins σ2) x0.toNatClampNeg), .int ((mp_ends σ2) x0.toNatClampNeg)]) (rest := []) ⟨hx, hb, hml, hown, hta⟩ (c_M_characters l md _ σ2 ((mp_begins σ2) x0.toNatClampNeg) ((mp_ends σ2) x0.toNatClampNeg) _ hE) ok_M_326 ⟨Nat.le_of_ble_eq_true rfl, Nat.le_of_ble_eq_true rfl⟩ (va_recv hK hP (ci := 7) (q0 := 0) rfl rfl) hP hK hD hS hA rfl hl.1 rfl (Nat.le_of_ble_eq_true rfl) d_M_node_123 ⟨Nat.zero_le _, Nat.zero_le _⟩ (fun r123 σ123 H locs hE hP hD hS => ?_)
              exact W.iret (v := r123) hx hb hr (fun t ht hW => ⟨⟨_, σ123, rfl, hE, by rw [ht]; exact hP, va_K.moved hW.alike hK, hD⟩, hS.F ht⟩) hS.2.2 d_M_node_126
            · have hE := hE.2 cc99
              refine lv_aload_n hx hb d_M_node_102 rfl (lv_at hl 0 rfl) ?_
              refine lv_iload_n hx hb d_M_node_103 rfl (lv_at hl 1 rfl) ?_
              refine ro_V (b0 := (mA md 0)) (As := [.int x0]) (rest := []) ⟨hx, hb, hml, hown, hta⟩ (c_M_nameSize l md σ2 x0  _ hE) ok_M_221 ⟨Nat.le_of_ble_eq_true rfl, Nat.le_of_ble_eq_true rfl⟩ blind_rM (va_recv hK hP (ci := 7) (q0 := 0) rfl rfl) (rM_of hP hK) rfl hl.1 rfl (Nat.le_of_ble_eq_true rfl) d_M_node_104 ⟨Nat.zero_le _, Nat.zero_le _⟩ (fun r104 hE => ?_)
              refine lv_goto (tgt := 126) hx hb d_M_node_107 (by decide) ?_
              exact W.iret (v := r104) hx hb hr (fun t ht hW => ⟨⟨_, σ2, rfl, hE, by rw [ht]; exact hP, va_K.moved hW.alike hK, hD⟩, hS.F ht⟩) hS.2.2 d_M_node_126
          · have hE := hE.2 hs16_3
            by_cases hs16_4 : x1 = 4
            · have hE := hE.1 hs16_4
              refine lv_tableIn (off := 111) (tgt := 127) hx hb d_M_node_16 (by rw [hs16_4]; decide) (by rw [hs16_4]; decide) (by rw [hs16_4]; decide) (by decide) ?_
              refine lv_aload_n hx hb d_M_node_127 rfl (lv_at hl 0 rfl) ?_
              refine va_get (D := (mG md)) (ci := 7) (v := .ref (mA md 8)) (C := R_M) (T := F_M) (N := 37) hx hb hta i_M hown hK hP 0 rfl rfl 23 (by decide) (hta _ fl_M_36) (fun _ h9 => h9) rfl d_M_node_128 ?_
              refine lv_iload_n hx hb d_M_node_131 rfl (lv_at hl 1 rfl) ?_
              obtain ⟨hI132, hE⟩ := hE
              refine va_zald (D := (mG md)) (f := mp_isElement σ2) hx hb hK hP 8 2 rfl rfl hI132 d_M_node_132 ?_
              refine lv_if_eq (tgt := 144) hx hb d_M_node_133 (by decide) (fun cc133 => ?_) (fun cc133 => ?_)
              · have hE := hE.1 cc133
                refine lv_iconst (v := 0) hx hb d_M_node_144 (by decide) ?_
                exact W.iret (v := 0) hx hb hr (fun t ht hW => ⟨⟨_, σ2, rfl, hE, by rw [ht]; exact hP, va_K.moved hW.alike hK, hD⟩, hS.F ht⟩) hS.2.2 d_M_node_145
              · have hE := hE.2 cc133
                refine lv_aload_n hx hb d_M_node_136 rfl (lv_at hl 0 rfl) ?_
                refine lv_iload_n hx hb d_M_node_137 rfl (lv_at hl 1 rfl) ?_
                refine mm_i (b0 := (mA md 0)) (As := [.int x0]) (rest := []) ⟨hx, hb, hml, hown, hta⟩ (c_M_attributes l md _ σ2 x0 _ hE) ok_M_299 ⟨Nat.le_of_ble_eq_true rfl, Nat.le_of_ble_eq_true rfl⟩ (va_recv hK hP (ci := 7) (q0 := 0) rfl rfl) hP hK hD hS hA rfl hl.1 rfl (Nat.le_of_ble_eq_true rfl) d_M_node_138 ⟨Nat.zero_le _, Nat.zero_le _⟩ (fun r138 σ138 H locs hE hP hD hS => ?_)
                refine lv_goto (tgt := 145) hx hb d_M_node_141 (by decide) ?_
                exact W.iret (v := r138) hx hb hr (fun t ht hW => ⟨⟨_, σ138, rfl, hE, by rw [ht]; exact hP, va_K.moved hW.alike hK, hD⟩, hS.F ht⟩) hS.2.2 d_M_node_145
            · have hE := hE.2 hs16_4
              by_cases hs16_5 : x1 = 5
              · have hE := hE.1 hs16_5
                refine lv_tableIn (off := 130) (tgt := 146) hx hb d_M_node_16 (by rw [hs16_5]; decide) (by rw [hs16_5]; decide) (by rw [hs16_5]; decide) (by decide) ?_
                refine lv_aload_n hx hb d_M_node_146 rfl (lv_at hl 0 rfl) ?_
                refine va_get (D := (mG md)) (ci := 7) (v := .ref (mA md 13)) (C := R_M) (T := F_M) (N := 37) hx hb hta i_M hown hK hP 0 rfl rfl 28 (by decide) (hta _ fl_M_52) (fun _ h9 => h9) rfl d_M_node_147 ?_
                refine lv_iload_n hx hb d_M_node_150 rfl (lv_at hl 1 rfl) ?_
                obtain ⟨hI151, hE⟩ := hE
                refine va_iald (D := (mG md)) (f := mp_next σ2) hx hb hK hP 13 0 rfl rfl hI151 d_M_node_151 ?_
                exact W.iret (v := (mp_next σ2) x0.toNatClampNeg) hx hb hr (fun t ht hW => ⟨⟨_, σ2, rfl, hE, by rw [ht]; exact hP, va_K.moved hW.alike hK, hD⟩, hS.F ht⟩) hS.2.2 d_M_node_152
              · have hE := hE.2 hs16_5
                by_cases hs16_6 : x1 = 6
                · have hE := hE.1 hs16_6
                  refine lv_tableIn (off := 137) (tgt := 153) hx hb d_M_node_16 (by rw [hs16_6]; decide) (by rw [hs16_6]; decide) (by rw [hs16_6]; decide) (by decide) ?_
                  refine lv_aload_n hx hb d_M_node_153 rfl (lv_at hl 0 rfl) ?_
                  refine va_get (D := (mG md)) (ci := 7) (v := .ref (mA md 12)) (C := R_M) (T := F_M) (N := 37) hx hb hta i_M hown hK hP 0 rfl rfl 27 (by decide) (hta _ fl_M_49) (fun _ h9 => h9) rfl d_M_node_154 ?_
                  refine lv_iload_n hx hb d_M_node_157 rfl (lv_at hl 1 rfl) ?_
                  obtain ⟨hI158, hE⟩ := hE
                  refine va_iald (D := (mG md)) (f := mp_first σ2) hx hb hK hP 12 0 rfl rfl hI158 d_M_node_158 ?_
                  exact W.iret (v := (mp_first σ2) x0.toNatClampNeg) hx hb hr (fun t ht hW => ⟨⟨_, σ2, rfl, hE, by rw [ht]; exact hP, va_K.moved hW.alike hK, hD⟩, hS.F ht⟩) hS.2.2 d_M_node_159
                · have hE := hE.2 hs16_6
                  by_cases hs16_7 : x1 = 7
                  · have hE := hE.1 hs16_7
                    refine lv_tableIn (off := 144) (tgt := 160) hx hb d_M_node_16 (by rw [hs16_7]; decide) (by rw [hs16_7]; decide) (by rw [hs16_7]; decide) (by decide) ?_
                    refine lv_aload_n hx hb d_M_node_160 rfl (lv_at hl 0 rfl) ?_
                    refine va_get (D := (mG md)) (ci := 7) (v := .ref (mA md 14)) (C := R_M) (T := F_M) (N := 37) hx hb hta i_M hown hK hP 0 rfl rfl 29 (by decide) (hta _ fl_M_55) (fun _ h9 => h9) rfl d_M_node_161 ?_
                    refine lv_iload_n hx hb d_M_node_164 rfl (lv_at hl 1 rfl) ?_
                    obtain ⟨hI165, hE⟩ := hE
                    refine va_iald (D := (mG md)) (f := mp_depth σ2) hx hb hK hP 14 0 rfl rfl hI165 d_M_node_165 ?_
                    exact W.iret (v := (mp_depth σ2) x0.toNatClampNeg) hx hb hr (fun t ht hW => ⟨⟨_, σ2, rfl, hE, by rw [ht]; exact hP, va_K.moved hW.alike hK, hD⟩, hS.F ht⟩) hS.2.2 d_M_node_166
                  · have hE := hE.2 hs16_7
                    refine lv_tableOut (tgt := 167) hx hb d_M_node_16 (by have hq := And.intro True.intro (And.intro True.intro True.intro); have q0 := lv_neT hs16_0 (a := 0) (by decide); have q1 := lv_neT hs16_1 (a := 1) (by decide); have q2 := lv_neT hs16_2 (a := 2) (by decide); have q3 := lv_neT hs16_3 (a := 3) (by decide); have q4 := lv_neT hs16_4 (a := 4) (by decide); have q5 := lv_neT hs16_5 (a := 5) (by decide); have q6 := lv_neT hs16_6 (a := 6) (by decide); have q7 := lv_neT hs16_7 (a := 7) (by decide); omega) (by decide) ?_
                    refine lv_iconst (v := -1) hx hb d_M_node_167 (by decide) ?_
                    exact W.iret (v := (-1)) hx hb hr (fun t ht hW => ⟨⟨_, σ2, rfl, hE, by rw [ht]; exact hP, va_K.moved hW.alike hK, hD⟩, hS.F ht⟩) hS.2.2 d_M_node_168
  · have hE := hE.1 cc10
    refine lv_iconst (v := -1) hx hb d_M_node_13 (by decide) ?_
    exact W.iret (v := (-1)) hx hb hr (fun t ht hW => ⟨⟨_, σ2, rfl, hE, by rw [ht]; exact hP, va_K.moved hW.alike hK, hD⟩, hS.F ht⟩) hS.2.2 d_M_node_14

theorem d_M_characterIn_0 : decode b_M_characterIn 0 = .ok (.iconst 0, 1) := by decide +kernel
theorem d_M_characterIn_1 : decode b_M_characterIn 1 = .ok (.istore 4, 2) := by decide +kernel
theorem d_M_characterIn_3 : decode b_M_characterIn 3 = .ok (.iload_n 1, 1) := by decide +kernel
theorem d_M_characterIn_4 : decode b_M_characterIn 4 = .ok (.istore 5, 2) := by decide +kernel
theorem d_M_characterIn_6 : decode b_M_characterIn 6 = .ok (.iload 5, 2) := by decide +kernel
theorem d_M_characterIn_8 : decode b_M_characterIn 8 = .ok (.iload_n 2, 1) := by decide +kernel
theorem d_M_characterIn_9 : decode b_M_characterIn 9 = .ok (.if_icmp .ge 35, 3) := by decide +kernel
theorem d_M_characterIn_12 : decode b_M_characterIn 12 = .ok (.aload_n 0, 1) := by decide +kernel
theorem d_M_characterIn_13 : decode b_M_characterIn 13 = .ok (.iload 5, 2) := by decide +kernel
theorem d_M_characterIn_15 : decode b_M_characterIn 15 = .ok (.invokevirtual 139, 3) := by decide +kernel
theorem d_M_characterIn_18 : decode b_M_characterIn 18 = .ok (.istore 6, 2) := by decide +kernel
theorem d_M_characterIn_20 : decode b_M_characterIn 20 = .ok (.iload 4, 2) := by decide +kernel
theorem d_M_characterIn_22 : decode b_M_characterIn 22 = .ok (.iload_n 3, 1) := by decide +kernel
theorem d_M_characterIn_23 : decode b_M_characterIn 23 = .ok (.if_icmp .ne 6, 3) := by decide +kernel
theorem d_M_characterIn_26 : decode b_M_characterIn 26 = .ok (.iload 6, 2) := by decide +kernel
theorem d_M_characterIn_28 : decode b_M_characterIn 28 = .ok (.ireturn, 1) := by decide +kernel
theorem d_M_characterIn_29 : decode b_M_characterIn 29 = .ok (.iinc 4 1, 3) := by decide +kernel
theorem d_M_characterIn_32 : decode b_M_characterIn 32 = .ok (.iload 5, 2) := by decide +kernel
theorem d_M_characterIn_34 : decode b_M_characterIn 34 = .ok (.aload_n 0, 1) := by decide +kernel
theorem d_M_characterIn_35 : decode b_M_characterIn 35 = .ok (.getfield 76, 3) := by decide +kernel
theorem d_M_characterIn_38 : decode b_M_characterIn 38 = .ok (.iadd, 1) := by decide +kernel
theorem d_M_characterIn_39 : decode b_M_characterIn 39 = .ok (.istore 5, 2) := by decide +kernel
theorem d_M_characterIn_41 : decode b_M_characterIn 41 = .ok (.goto (-35), 3) := by decide +kernel
theorem d_M_characterIn_44 : decode b_M_characterIn 44 = .ok (.iconst (-1), 1) := by decide +kernel
theorem d_M_characterIn_45 : decode b_M_characterIn 45 = .ok (.ireturn, 1) := by decide +kernel
def w_M_characterIn_L6  (v2 : Int32) (v3 : Int32) (post : Int32 → MPS → Prop) : Nat → Int32 → Int32 → MPS → Prop
  | 0, _, _, _ => False
  | n + 1, v4, v5, σ => ((v2 ≤ v5 → post (-1) σ) ∧ (¬ v2 ≤ v5 → w_M_characterOf σ v5 (fun r15 σ15 => ((v4 = v3 → post r15 σ15) ∧ (¬ v4 = v3 → w_M_characterIn_L6 v2 v3 post n (v4 + 1) (v5 + (mp_width σ15)) σ15)))))
def w_M_characterIn  (σ : MPS) (x0 : Int32) (x1 : Int32) (x2 : Int32) (post : Int32 → MPS → Prop) : Prop := (∃ n, w_M_characterIn_L6 x1 x2 post n 0 x0 σ)
set_option maxHeartbeats 4000000 in
set_option maxRecDepth 100000 in
theorem c_M_characterIn (l : Launch) (md : MD) (sz : Nat) (σ : MPS) (x0 : Int32) (x1 : Int32) (x2 : Int32)  (post : Int32 → MPS → Prop) (hE : w_M_characterIn σ x0 x1 x2 post) : Met l y_M_characterIn ws_M_characterIn { frames := 3, cells := 0, slots := 0, locals := 73 } (va_Pc [.ref (mA md 0), .int x0, .int x1, .int x2] (gM md σ sz)) (va_Qi post (eM md (va_A (MW md σ) sz)) (va_A (MW md σ) sz)) 0 0 (va_A (MW md σ) sz) := by
  refine Met.ofW (cc := b_M_characterIn) (maxL := 7) (ret := (some .int)) (by decide) rfl ?_
  intro p e s m args below meth c s₁ B hml hv
  obtain ⟨rfl, hsz, hP, hK, hD0⟩ := hv
  have hx := B.exec
  have hb := B.bytes
  have hr := B.returns
  have hta : ∀ w ∈ aW, w.before _ s = true := fun w h => atoms_spec (ws := ws_M_characterIn) B.pre w (List.mem_cons_of_mem _ h)
  have hown : s.vm.findClass R_M = some m.cls := findClass_of_methodNamed B.named
  have hlocks := B.notSynchronized
  subst hsz
  have hD := hD0.self (sz := s.heap.size)
  generalize hAe : va_A (MW md σ) s.heap.size = A at hD ⊢
  have hA : ∀ q : Nat, s.heap.size ≤ q → A q := fun q h => by rw [← hAe]; exact Or.inr h
  have hS : va_S A s.heap s.heap [] := va_S.rf
  have hP : va_P (mG md) classes (MW md σ) s.heap := hP
  have hl := lv_entry ([.ref (mA md 0), .int x0, .int x1, .int x2]) (n := 7) (Nat.le_of_ble_eq_true rfl)
  rw [lg_entry_eq]
  generalize (lg_sl ([.ref (mA md 0), .int x0, .int x1, .int x2]) ++ List.replicate (7 - (lg_sl ([.ref (mA md 0), .int x0, .int x1, .int x2])).length) Slot.unset).toArray = ls at hl ⊢
  have hl : lv_has ls 7 [(0, .ref (mA md 0)), (1, .int x0), (2, .int x1), (3, .int x2)] := hl
  have L6 : ∀ (v2 : Int32) (v3 : Int32) (n : Nat) (v4 : Int32) (v5 : Int32) (σ : MPS) (H : Heap) (locs : List Loc) (hP : va_P (mG md) classes (MW md σ) H) (hD : va_D A (MW md σ)) (hS : va_S A s.heap H locs) (ls : Array Slot) (hl : lv_has ls 7 [(0, .ref (mA md 0)), (2, .int v2), (3, .int v3), (4, .int v4), (5, .int v5)]) (hE : w_M_characterIn_L6 v2 v3 post n v4 v5 σ), W p l e (headSpec ws_M_characterIn { frames := 3, cells := 0, slots := 0, locals := 73 }).room s m ([.ref (mA md 0), .int x0, .int x1, .int x2] : List Value).toArray below meth c H locs 0 0 (MQ below (va_Qi post (eM md A) A) ([.ref (mA md 0), .int x0, .int x1, .int x2] : List Value).toArray s 0 0 A) (F0 m 6 ls []) := by
    intro v2 v3 n
    induction n with
    | zero => intro v4 v5 σ H locs hP hD hS ls hl hE; exact hE.elim
    | succ n ih6 =>
      intro v4 v5 σ H locs hP hD hS ls hl hE
      unfold w_M_characterIn_L6 at hE
      refine lv_iload hx hb d_M_characterIn_6 (lv_at hl 4 rfl) ?_
      refine lv_iload_n hx hb d_M_characterIn_8 rfl (lv_at hl 1 rfl) ?_
      refine lv_icmp_ge (tgt := 44) hx hb d_M_characterIn_9 (by decide) (fun cc9 => ?_) (fun cc9 => ?_)
      · have hE := hE.1 cc9
        refine lv_iconst (v := -1) hx hb d_M_characterIn_44 (by decide) ?_
        exact W.iret (v := (-1)) hx hb hr (fun t ht hW => ⟨⟨_, σ, rfl, hE, by rw [ht]; exact hP, va_K.moved hW.alike hK, hD⟩, hS.F ht⟩) hS.2.2 d_M_characterIn_45
      · have hE := hE.2 cc9
        refine lv_aload_n hx hb d_M_characterIn_12 rfl (lv_at hl 0 rfl) ?_
        refine lv_iload hx hb d_M_characterIn_13 (lv_at hl 4 rfl) ?_
        refine mm_i (b0 := (mA md 0)) (As := [.int v5]) (rest := []) ⟨hx, hb, hml, hown, hta⟩ (c_M_characterOf l md _ σ v5 _ hE) ok_M_139 ⟨Nat.le_of_ble_eq_true rfl, Nat.le_of_ble_eq_true rfl⟩ (va_recv hK hP (ci := 7) (q0 := 0) rfl rfl) hP hK hD hS hA rfl hl.1 rfl (Nat.le_of_ble_eq_true rfl) d_M_characterIn_15 ⟨Nat.zero_le _, Nat.zero_le _⟩ (fun r15 σ15 H locs hE hP hD hS => ?_)
        refine lv_istore (lv' := [(6, .int r15), (0, .ref (mA md 0)), (2, .int v2), (3, .int v3), (4, .int v4), (5, .int v5)]) hx hb d_M_characterIn_18 hl (by decide) rfl (fun ls hl => ?_)
        refine lv_iload hx hb d_M_characterIn_20 (lv_at hl 4 rfl) ?_
        refine lv_iload_n hx hb d_M_characterIn_22 rfl (lv_at hl 3 rfl) ?_
        refine lv_icmp_ne (tgt := 29) hx hb d_M_characterIn_23 (by decide) (fun cc23 => ?_) (fun cc23 => ?_)
        · have hE := hE.2 cc23
          refine lv_iinc (v := v4 + 1) (lv' := [(4, .int (v4 + 1)), (6, .int r15), (0, .ref (mA md 0)), (2, .int v2), (3, .int v3), (5, .int v5)]) hx hb d_M_characterIn_29 hl (k := 4) rfl rfl (by decide) rfl (fun ls hl => ?_)
          refine lv_iload hx hb d_M_characterIn_32 (lv_at hl 5 rfl) ?_
          refine lv_aload_n hx hb d_M_characterIn_34 rfl (lv_at hl 2 rfl) ?_
          refine va_get (D := (mG md)) (ci := 7) (v := .int (mp_width σ15)) (C := R_M) (T := F_M) (N := 37) hx hb hta i_M hown hK hP 0 rfl rfl 12 (by decide) (hta _ fl_M_76) (fun _ h9 => h9) rfl d_M_characterIn_35 ?_
          refine lv_iadd hx hb d_M_characterIn_38 ?_
          refine lv_istore (lv' := [(5, .int (v5 + (mp_width σ15))), (4, .int (v4 + 1)), (6, .int r15), (0, .ref (mA md 0)), (2, .int v2), (3, .int v3)]) hx hb d_M_characterIn_39 hl (by decide) rfl (fun ls hl => ?_)
          refine lv_goto (tgt := 6) hx hb d_M_characterIn_41 (by decide) ?_
          exact ih6 (v4 + 1) (v5 + (mp_width σ15)) σ15 _ _ hP hD hS _ (lv_sub hl [3, 4, 5, 1, 0] rfl) hE
        · have hE := hE.1 cc23
          refine lv_iload hx hb d_M_characterIn_26 (lv_at hl 0 rfl) ?_
          exact W.iret (v := r15) hx hb hr (fun t ht hW => ⟨⟨_, σ15, rfl, hE, by rw [ht]; exact hP, va_K.moved hW.alike hK, hD⟩, hS.F ht⟩) hS.2.2 d_M_characterIn_28
  unfold w_M_characterIn at hE
  refine lv_iconst (v := 0) hx hb d_M_characterIn_0 (by decide) ?_
  refine lv_istore (lv' := [(4, .int 0), (0, .ref (mA md 0)), (1, .int x0), (2, .int x1), (3, .int x2)]) hx hb d_M_characterIn_1 hl (by decide) rfl (fun ls hl => ?_)
  refine lv_iload_n hx hb d_M_characterIn_3 rfl (lv_at hl 2 rfl) ?_
  refine lv_istore (lv' := [(5, .int x0), (4, .int 0), (0, .ref (mA md 0)), (1, .int x0), (2, .int x1), (3, .int x2)]) hx hb d_M_characterIn_4 hl (by decide) rfl (fun ls hl => ?_)
  obtain ⟨n, hE⟩ := hE
  exact L6 x1 x2 n 0 x0 σ _ _ hP hD hS _ (lv_sub hl [2, 4, 5, 1, 0] rfl) hE
theorem ok_M_330 : okV "PlainPagesModel" 330 R_M y_M_characterIn b_M_characterIn 7 (some .int) 3 := ⟨aW_in 1255 (by decide +kernel) rfl, aW_in 1257 (by decide +kernel) rfl, aW_in 73 (by decide +kernel) rfl, aW_in 92 (by decide +kernel) rfl, cd_M_characterIn, rfl, by decide +kernel, by decide +kernel, by decide +kernel⟩
theorem d_M_letter_0 : decode b_M_letter 0 = .ok (.aload_n 0, 1) := by decide +kernel
theorem d_M_letter_1 : decode b_M_letter 1 = .ok (.iconst 0, 1) := by decide +kernel
theorem d_M_letter_2 : decode b_M_letter 2 = .ok (.putfield 70, 3) := by decide +kernel
theorem d_M_letter_5 : decode b_M_letter 5 = .ok (.aload_n 0, 1) := by decide +kernel
theorem d_M_letter_6 : decode b_M_letter 6 = .ok (.iload_n 1, 1) := by decide +kernel
theorem d_M_letter_7 : decode b_M_letter 7 = .ok (.invokevirtual 323, 3) := by decide +kernel
theorem d_M_letter_10 : decode b_M_letter 10 = .ok (.ifCond .eq 7, 3) := by decide +kernel
theorem d_M_letter_13 : decode b_M_letter 13 = .ok (.iload_n 2, 1) := by decide +kernel
theorem d_M_letter_14 : decode b_M_letter 14 = .ok (.ifCond .ge 5, 3) := by decide +kernel
theorem d_M_letter_17 : decode b_M_letter 17 = .ok (.iconst (-1), 1) := by decide +kernel
theorem d_M_letter_18 : decode b_M_letter 18 = .ok (.ireturn, 1) := by decide +kernel
theorem d_M_letter_19 : decode b_M_letter 19 = .ok (.aload_n 0, 1) := by decide +kernel
theorem d_M_letter_20 : decode b_M_letter 20 = .ok (.getfield 36, 3) := by decide +kernel
theorem d_M_letter_23 : decode b_M_letter 23 = .ok (.iload_n 1, 1) := by decide +kernel
theorem d_M_letter_24 : decode b_M_letter 24 = .ok (.baload, 1) := by decide +kernel
theorem d_M_letter_25 : decode b_M_letter 25 = .ok (.ifCond .eq 33, 3) := by decide +kernel
theorem d_M_letter_28 : decode b_M_letter 28 = .ok (.iload_n 2, 1) := by decide +kernel
theorem d_M_letter_29 : decode b_M_letter 29 = .ok (.aload_n 0, 1) := by decide +kernel
theorem d_M_letter_30 : decode b_M_letter 30 = .ok (.iload_n 1, 1) := by decide +kernel
theorem d_M_letter_31 : decode b_M_letter 31 = .ok (.invokevirtual 221, 3) := by decide +kernel
theorem d_M_letter_34 : decode b_M_letter 34 = .ok (.if_icmp .ge 20, 3) := by decide +kernel
theorem d_M_letter_37 : decode b_M_letter 37 = .ok (.aload_n 0, 1) := by decide +kernel
theorem d_M_letter_38 : decode b_M_letter 38 = .ok (.aload_n 0, 1) := by decide +kernel
theorem d_M_letter_39 : decode b_M_letter 39 = .ok (.getfield 40, 3) := by decide +kernel
theorem d_M_letter_42 : decode b_M_letter 42 = .ok (.iload_n 1, 1) := by decide +kernel
theorem d_M_letter_43 : decode b_M_letter 43 = .ok (.iaload, 1) := by decide +kernel
theorem d_M_letter_44 : decode b_M_letter 44 = .ok (.iconst 1, 1) := by decide +kernel
theorem d_M_letter_45 : decode b_M_letter 45 = .ok (.iadd, 1) := by decide +kernel
theorem d_M_letter_46 : decode b_M_letter 46 = .ok (.iload_n 2, 1) := by decide +kernel
theorem d_M_letter_47 : decode b_M_letter 47 = .ok (.iadd, 1) := by decide +kernel
theorem d_M_letter_48 : decode b_M_letter 48 = .ok (.invokevirtual 95, 3) := by decide +kernel
theorem d_M_letter_51 : decode b_M_letter 51 = .ok (.goto 24, 3) := by decide +kernel
theorem d_M_letter_54 : decode b_M_letter 54 = .ok (.iconst (-1), 1) := by decide +kernel
theorem d_M_letter_55 : decode b_M_letter 55 = .ok (.goto 20, 3) := by decide +kernel
theorem d_M_letter_58 : decode b_M_letter 58 = .ok (.aload_n 0, 1) := by decide +kernel
theorem d_M_letter_59 : decode b_M_letter 59 = .ok (.aload_n 0, 1) := by decide +kernel
theorem d_M_letter_60 : decode b_M_letter 60 = .ok (.getfield 40, 3) := by decide +kernel
theorem d_M_letter_63 : decode b_M_letter 63 = .ok (.iload_n 1, 1) := by decide +kernel
theorem d_M_letter_64 : decode b_M_letter 64 = .ok (.iaload, 1) := by decide +kernel
theorem d_M_letter_65 : decode b_M_letter 65 = .ok (.aload_n 0, 1) := by decide +kernel
theorem d_M_letter_66 : decode b_M_letter 66 = .ok (.getfield 43, 3) := by decide +kernel
theorem d_M_letter_69 : decode b_M_letter 69 = .ok (.iload_n 1, 1) := by decide +kernel
theorem d_M_letter_70 : decode b_M_letter 70 = .ok (.iaload, 1) := by decide +kernel
theorem d_M_letter_71 : decode b_M_letter 71 = .ok (.iload_n 2, 1) := by decide +kernel
theorem d_M_letter_72 : decode b_M_letter 72 = .ok (.invokevirtual 330, 3) := by decide +kernel
theorem d_M_letter_75 : decode b_M_letter 75 = .ok (.ireturn, 1) := by decide +kernel
def w_M_letter  (σ : MPS) (x0 : Int32) (x1 : Int32) (post : Int32 → MPS → Prop) : Prop := (∀ σ2 : MPS, σ2 = ms_thrown σ 0 → w_M_isNode σ2 x0 (fun r7 => ((r7 = 0 → post (-1) σ2) ∧ (¬ r7 = 0 → ((0 ≤ x1 → (vp_in x0 1000 ∧ ((((mp_isElement σ2) x0.toNatClampNeg) = 0 → (vp_in x0 1000 ∧ (vp_in x0 1000 ∧ w_M_characterIn σ2 ((mp_begins σ2) x0.toNatClampNeg) ((mp_ends σ2) x0.toNatClampNeg) x1 (fun r72 σ72 => post r72 σ72)))) ∧ (¬ ((mp_isElement σ2) x0.toNatClampNeg) = 0 → w_M_nameSize σ2 x0 (fun r31 => ((r31 ≤ x1 → post (-1) σ2) ∧ (¬ r31 ≤ x1 → (vp_in x0 1000 ∧ w_M_x σ2 ((((mp_begins σ2) x0.toNatClampNeg) + 1) + x1) (fun r48 => post r48 σ2))))))))) ∧ (¬ 0 ≤ x1 → post (-1) σ2))))))
set_option maxHeartbeats 4000000 in
set_option maxRecDepth 100000 in
theorem c_M_letter (l : Launch) (md : MD) (sz : Nat) (σ : MPS) (x0 : Int32) (x1 : Int32)  (post : Int32 → MPS → Prop) (hE : w_M_letter σ x0 x1 post) : Met l y_M_letter ws_M_letter { frames := 4, cells := 0, slots := 0, locals := 99 } (va_Pc [.ref (mA md 0), .int x0, .int x1] (gM md σ sz)) (va_Qi post (eM md (va_A (MW md σ) sz)) (va_A (MW md σ) sz)) 0 0 (va_A (MW md σ) sz) := by
  refine Met.ofW (cc := b_M_letter) (maxL := 3) (ret := (some .int)) (by decide) rfl ?_
  intro p e s m args below meth c s₁ B hml hv
  obtain ⟨rfl, hsz, hP, hK, hD0⟩ := hv
  have hx := B.exec
  have hb := B.bytes
  have hr := B.returns
  have hta : ∀ w ∈ aW, w.before _ s = true := fun w h => atoms_spec (ws := ws_M_letter) B.pre w (List.mem_cons_of_mem _ h)
  have hown : s.vm.findClass R_M = some m.cls := findClass_of_methodNamed B.named
  have hlocks := B.notSynchronized
  subst hsz
  have hD := hD0.self (sz := s.heap.size)
  generalize hAe : va_A (MW md σ) s.heap.size = A at hD ⊢
  have hA : ∀ q : Nat, s.heap.size ≤ q → A q := fun q h => by rw [← hAe]; exact Or.inr h
  have hS : va_S A s.heap s.heap [] := va_S.rf
  have hP : va_P (mG md) classes (MW md σ) s.heap := hP
  have hl := lv_entry ([.ref (mA md 0), .int x0, .int x1]) (n := 3) (Nat.le_of_ble_eq_true rfl)
  rw [lg_entry_eq]
  generalize (lg_sl ([.ref (mA md 0), .int x0, .int x1]) ++ List.replicate (3 - (lg_sl ([.ref (mA md 0), .int x0, .int x1])).length) Slot.unset).toArray = ls at hl ⊢
  have hl : lv_has ls 3 [(0, .ref (mA md 0)), (1, .int x0), (2, .int x1)] := hl
  unfold w_M_letter at hE
  refine lv_aload_n hx hb d_M_letter_0 rfl (lv_at hl 0 rfl) ?_
  refine lv_iconst (v := 0) hx hb d_M_letter_1 (by decide) ?_
  refine va_put (D := (mG md)) (ci := 7) (v := .int 0) (ty := .int) (C := R_M) (T := F_M) (N := 37) hx hb hta i_M t_M t_M_ok n_M hown hK hP hD hS 0 rfl rfl 0 (by decide) (hta _ fl_M_70) (fun _ h9 => h9) rfl (by decide +kernel) rfl rfl (Nat.le_of_ble_eq_true rfl) d_M_letter_2 (fun H locs hP hD hS => ?_)
  have hP : va_P (mG md) classes (MW md (ms_thrown σ 0)) H := hP
  have hD : va_D A (MW md (ms_thrown σ 0)) := hD
  have hE := hE _ rfl
  generalize (ms_thrown σ 0 : MPS) = σ2 at hP hD hE
  refine lv_aload_n hx hb d_M_letter_5 rfl (lv_at hl 0 rfl) ?_
  refine lv_iload_n hx hb d_M_letter_6 rfl (lv_at hl 1 rfl) ?_
  refine ro_V (b0 := (mA md 0)) (As := [.int x0]) (rest := []) ⟨hx, hb, hml, hown, hta⟩ (c_M_isNode l md σ2 x0  _ hE) ok_M_323 ⟨Nat.le_of_ble_eq_true rfl, Nat.le_of_ble_eq_true rfl⟩ blind_rM (va_recv hK hP (ci := 7) (q0 := 0) rfl rfl) (rM_of hP hK) rfl hl.1 rfl (Nat.le_of_ble_eq_true rfl) d_M_letter_7 ⟨Nat.zero_le _, Nat.zero_le _⟩ (fun r7 hE => ?_)
  refine lv_if_eq (tgt := 17) hx hb d_M_letter_10 (by decide) (fun cc10 => ?_) (fun cc10 => ?_)
  · have hE := hE.1 cc10
    refine lv_iconst (v := -1) hx hb d_M_letter_17 (by decide) ?_
    exact W.iret (v := (-1)) hx hb hr (fun t ht hW => ⟨⟨_, σ2, rfl, hE, by rw [ht]; exact hP, va_K.moved hW.alike hK, hD⟩, hS.F ht⟩) hS.2.2 d_M_letter_18
  · have hE := hE.2 cc10
    refine lv_iload_n hx hb d_M_letter_13 rfl (lv_at hl 2 rfl) ?_
    refine lv_if_ge (tgt := 19) hx hb d_M_letter_14 (by decide) (fun cc14 => ?_) (fun cc14 => ?_)
    · have hE := hE.1 cc14
      refine lv_aload_n hx hb d_M_letter_19 rfl (lv_at hl 0 rfl) ?_
      refine va_get (D := (mG md)) (ci := 7) (v := .ref (mA md 8)) (C := R_M) (T := F_M) (N := 37) hx hb hta i_M hown hK hP 0 rfl rfl 23 (by decide) (hta _ fl_M_36) (fun _ h9 => h9) rfl d_M_letter_20 ?_
      refine lv_iload_n hx hb d_M_letter_23 rfl (lv_at hl 1 rfl) ?_
      obtain ⟨hI24, hE⟩ := hE
      refine va_zald (D := (mG md)) (f := mp_isElement σ2) hx hb hK hP 8 2 rfl rfl hI24 d_M_letter_24 ?_
      refine lv_if_eq (tgt := 58) hx hb d_M_letter_25 (by decide) (fun cc25 => ?_) (fun cc25 => ?_)
      · have hE := hE.1 cc25
        refine lv_aload_n hx hb d_M_letter_58 rfl (lv_at hl 0 rfl) ?_
        refine lv_aload_n hx hb d_M_letter_59 rfl (lv_at hl 0 rfl) ?_
        refine va_get (D := (mG md)) (ci := 7) (v := .ref (mA md 9)) (C := R_M) (T := F_M) (N := 37) hx hb hta i_M hown hK hP 0 rfl rfl 24 (by decide) (hta _ fl_M_40) (fun _ h9 => h9) rfl d_M_letter_60 ?_
        refine lv_iload_n hx hb d_M_letter_63 rfl (lv_at hl 1 rfl) ?_
        obtain ⟨hI64, hE⟩ := hE
        refine va_iald (D := (mG md)) (f := mp_begins σ2) hx hb hK hP 9 0 rfl rfl hI64 d_M_letter_64 ?_
        refine lv_aload_n hx hb d_M_letter_65 rfl (lv_at hl 0 rfl) ?_
        refine va_get (D := (mG md)) (ci := 7) (v := .ref (mA md 10)) (C := R_M) (T := F_M) (N := 37) hx hb hta i_M hown hK hP 0 rfl rfl 25 (by decide) (hta _ fl_M_43) (fun _ h9 => h9) rfl d_M_letter_66 ?_
        refine lv_iload_n hx hb d_M_letter_69 rfl (lv_at hl 1 rfl) ?_
        obtain ⟨hI70, hE⟩ := hE
        refine va_iald (D := (mG md)) (f := mp_ends σ2) hx hb hK hP 10 0 rfl rfl hI70 d_M_letter_70 ?_
        refine lv_iload_n hx hb d_M_letter_71 rfl (lv_at hl 2 rfl) ?_
        refine mm_i (b0 := (mA md 0)) (As := [.int ((mp_begins σ2) x0.toNatClampNeg), .int ((mp_ends σ2) x0.toNatClampNeg), .int x1]) (rest := []) ⟨hx, hb, hml, hown, hta⟩ (c_M_characterIn l md _ σ2 ((mp_begins σ2) x0.toNatClampNeg) ((mp_ends σ2) x0.toNatClampNeg) x1 _ hE) ok_M_330 ⟨Nat.le_of_ble_eq_true rfl, Nat.le_of_ble_eq_true rfl⟩ (va_recv hK hP (ci := 7) (q0 := 0) rfl rfl) hP hK hD hS hA rfl hl.1 rfl (Nat.le_of_ble_eq_true rfl) d_M_letter_72 ⟨Nat.zero_le _, Nat.zero_le _⟩ (fun r72 σ72 H locs hE hP hD hS => ?_)
        exact W.iret (v := r72) hx hb hr (fun t ht hW => ⟨⟨_, σ72, rfl, hE, by rw [ht]; exact hP, va_K.moved hW.alike hK, hD⟩, hS.F ht⟩) hS.2.2 d_M_letter_75
      · have hE := hE.2 cc25
        refine lv_iload_n hx hb d_M_letter_28 rfl (lv_at hl 2 rfl) ?_
        refine lv_aload_n hx hb d_M_letter_29 rfl (lv_at hl 0 rfl) ?_
        refine lv_iload_n hx hb d_M_letter_30 rfl (lv_at hl 1 rfl) ?_
        refine ro_V (b0 := (mA md 0)) (As := [.int x0]) (rest := [.int x1]) ⟨hx, hb, hml, hown, hta⟩ (c_M_nameSize l md σ2 x0  _ hE) ok_M_221 ⟨Nat.le_of_ble_eq_true rfl, Nat.le_of_ble_eq_true rfl⟩ blind_rM (va_recv hK hP (ci := 7) (q0 := 0) rfl rfl) (rM_of hP hK) rfl hl.1 rfl (Nat.le_of_ble_eq_true rfl) d_M_letter_31 ⟨Nat.zero_le _, Nat.zero_le _⟩ (fun r31 hE => ?_)
        refine lv_icmp_ge (tgt := 54) hx hb d_M_letter_34 (by decide) (fun cc34 => ?_) (fun cc34 => ?_)
        · have hE := hE.1 cc34
          refine lv_iconst (v := -1) hx hb d_M_letter_54 (by decide) ?_
          refine lv_goto (tgt := 75) hx hb d_M_letter_55 (by decide) ?_
          exact W.iret (v := (-1)) hx hb hr (fun t ht hW => ⟨⟨_, σ2, rfl, hE, by rw [ht]; exact hP, va_K.moved hW.alike hK, hD⟩, hS.F ht⟩) hS.2.2 d_M_letter_75
        · have hE := hE.2 cc34
          refine lv_aload_n hx hb d_M_letter_37 rfl (lv_at hl 0 rfl) ?_
          refine lv_aload_n hx hb d_M_letter_38 rfl (lv_at hl 0 rfl) ?_
          refine va_get (D := (mG md)) (ci := 7) (v := .ref (mA md 9)) (C := R_M) (T := F_M) (N := 37) hx hb hta i_M hown hK hP 0 rfl rfl 24 (by decide) (hta _ fl_M_40) (fun _ h9 => h9) rfl d_M_letter_39 ?_
          refine lv_iload_n hx hb d_M_letter_42 rfl (lv_at hl 1 rfl) ?_
          obtain ⟨hI43, hE⟩ := hE
          refine va_iald (D := (mG md)) (f := mp_begins σ2) hx hb hK hP 9 0 rfl rfl hI43 d_M_letter_43 ?_
          refine lv_iconst (v := 1) hx hb d_M_letter_44 (by decide) ?_
          refine lv_iadd hx hb d_M_letter_45 ?_
          refine lv_iload_n hx hb d_M_letter_46 rfl (lv_at hl 2 rfl) ?_
          refine lv_iadd hx hb d_M_letter_47 ?_
          refine ro_V (b0 := (mA md 0)) (As := [.int ((((mp_begins σ2) x0.toNatClampNeg) + 1) + x1)]) (rest := []) ⟨hx, hb, hml, hown, hta⟩ (c_M_x l md σ2 ((((mp_begins σ2) x0.toNatClampNeg) + 1) + x1)  _ hE) ok_M_95 ⟨Nat.le_of_ble_eq_true rfl, Nat.le_of_ble_eq_true rfl⟩ blind_rM (va_recv hK hP (ci := 7) (q0 := 0) rfl rfl) (rM_of hP hK) rfl hl.1 rfl (Nat.le_of_ble_eq_true rfl) d_M_letter_48 ⟨Nat.zero_le _, Nat.zero_le _⟩ (fun r48 hE => ?_)
          refine lv_goto (tgt := 75) hx hb d_M_letter_51 (by decide) ?_
          exact W.iret (v := r48) hx hb hr (fun t ht hW => ⟨⟨_, σ2, rfl, hE, by rw [ht]; exact hP, va_K.moved hW.alike hK, hD⟩, hS.F ht⟩) hS.2.2 d_M_letter_75
    · have hE := hE.2 cc14
      refine lv_iconst (v := -1) hx hb d_M_letter_17 (by decide) ?_
      exact W.iret (v := (-1)) hx hb hr (fun t ht hW => ⟨⟨_, σ2, rfl, hE, by rw [ht]; exact hP, va_K.moved hW.alike hK, hD⟩, hS.F ht⟩) hS.2.2 d_M_letter_18

theorem d_M_hasNumber_0 : decode b_M_hasNumber 0 = .ok (.aload_n 0, 1) := by decide +kernel
theorem d_M_hasNumber_1 : decode b_M_hasNumber 1 = .ok (.iload_n 1, 1) := by decide +kernel
theorem d_M_hasNumber_2 : decode b_M_hasNumber 2 = .ok (.invokevirtual 323, 3) := by decide +kernel
theorem d_M_hasNumber_5 : decode b_M_hasNumber 5 = .ok (.ifCond .eq 16, 3) := by decide +kernel
theorem d_M_hasNumber_8 : decode b_M_hasNumber 8 = .ok (.aload_n 0, 1) := by decide +kernel
theorem d_M_hasNumber_9 : decode b_M_hasNumber 9 = .ok (.getfield 36, 3) := by decide +kernel
theorem d_M_hasNumber_12 : decode b_M_hasNumber 12 = .ok (.iload_n 1, 1) := by decide +kernel
theorem d_M_hasNumber_13 : decode b_M_hasNumber 13 = .ok (.baload, 1) := by decide +kernel
theorem d_M_hasNumber_14 : decode b_M_hasNumber 14 = .ok (.ifCond .eq 7, 3) := by decide +kernel
theorem d_M_hasNumber_17 : decode b_M_hasNumber 17 = .ok (.iload_n 2, 1) := by decide +kernel
theorem d_M_hasNumber_18 : decode b_M_hasNumber 18 = .ok (.ifCond .ge 5, 3) := by decide +kernel
theorem d_M_hasNumber_21 : decode b_M_hasNumber 21 = .ok (.iconst 0, 1) := by decide +kernel
theorem d_M_hasNumber_22 : decode b_M_hasNumber 22 = .ok (.ireturn, 1) := by decide +kernel
theorem d_M_hasNumber_23 : decode b_M_hasNumber 23 = .ok (.aload_n 0, 1) := by decide +kernel
theorem d_M_hasNumber_24 : decode b_M_hasNumber 24 = .ok (.aload_n 0, 1) := by decide +kernel
theorem d_M_hasNumber_25 : decode b_M_hasNumber 25 = .ok (.getfield 40, 3) := by decide +kernel
theorem d_M_hasNumber_28 : decode b_M_hasNumber 28 = .ok (.iload_n 1, 1) := by decide +kernel
theorem d_M_hasNumber_29 : decode b_M_hasNumber 29 = .ok (.iaload, 1) := by decide +kernel
theorem d_M_hasNumber_30 : decode b_M_hasNumber 30 = .ok (.invokevirtual 154, 3) := by decide +kernel
theorem d_M_hasNumber_33 : decode b_M_hasNumber 33 = .ok (.istore_n 3, 1) := by decide +kernel
theorem d_M_hasNumber_34 : decode b_M_hasNumber 34 = .ok (.iconst 0, 1) := by decide +kernel
theorem d_M_hasNumber_35 : decode b_M_hasNumber 35 = .ok (.istore 4, 2) := by decide +kernel
theorem d_M_hasNumber_37 : decode b_M_hasNumber 37 = .ok (.iload 4, 2) := by decide +kernel
theorem d_M_hasNumber_39 : decode b_M_hasNumber 39 = .ok (.iload_n 2, 1) := by decide +kernel
theorem d_M_hasNumber_40 : decode b_M_hasNumber 40 = .ok (.if_icmp .gt 30, 3) := by decide +kernel
theorem d_M_hasNumber_43 : decode b_M_hasNumber 43 = .ok (.aload_n 0, 1) := by decide +kernel
theorem d_M_hasNumber_44 : decode b_M_hasNumber 44 = .ok (.iload_n 3, 1) := by decide +kernel
theorem d_M_hasNumber_45 : decode b_M_hasNumber 45 = .ok (.aload_n 0, 1) := by decide +kernel
theorem d_M_hasNumber_46 : decode b_M_hasNumber 46 = .ok (.getfield 92, 3) := by decide +kernel
theorem d_M_hasNumber_49 : decode b_M_hasNumber 49 = .ok (.invokevirtual 157, 3) := by decide +kernel
theorem d_M_hasNumber_52 : decode b_M_hasNumber 52 = .ok (.ifCond .ne 5, 3) := by decide +kernel
theorem d_M_hasNumber_55 : decode b_M_hasNumber 55 = .ok (.iconst 0, 1) := by decide +kernel
theorem d_M_hasNumber_56 : decode b_M_hasNumber 56 = .ok (.ireturn, 1) := by decide +kernel
theorem d_M_hasNumber_57 : decode b_M_hasNumber 57 = .ok (.aload_n 0, 1) := by decide +kernel
theorem d_M_hasNumber_58 : decode b_M_hasNumber 58 = .ok (.getfield 151, 3) := by decide +kernel
theorem d_M_hasNumber_61 : decode b_M_hasNumber 61 = .ok (.iconst 1, 1) := by decide +kernel
theorem d_M_hasNumber_62 : decode b_M_hasNumber 62 = .ok (.iadd, 1) := by decide +kernel
theorem d_M_hasNumber_63 : decode b_M_hasNumber 63 = .ok (.istore_n 3, 1) := by decide +kernel
theorem d_M_hasNumber_64 : decode b_M_hasNumber 64 = .ok (.iinc 4 1, 3) := by decide +kernel
theorem d_M_hasNumber_67 : decode b_M_hasNumber 67 = .ok (.goto (-30), 3) := by decide +kernel
theorem d_M_hasNumber_70 : decode b_M_hasNumber 70 = .ok (.iconst 1, 1) := by decide +kernel
theorem d_M_hasNumber_71 : decode b_M_hasNumber 71 = .ok (.ireturn, 1) := by decide +kernel
def w_M_hasNumber_L37  (v2 : Int32) (post : Int32 → MPS → Prop) : Nat → Int32 → Int32 → MPS → Prop
  | 0, _, _, _ => False
  | n + 1, v3, v4, σ => ((v2 < v4 → post 1 σ) ∧ (¬ v2 < v4 → w_M_nextAttribute σ v3 (mp_size σ) (fun r49 σ49 => ((r49 = 0 → post 0 σ49) ∧ (¬ r49 = 0 → w_M_hasNumber_L37 v2 post n ((mp_valueEnd σ49) + 1) (v4 + 1) σ49)))))
def w_M_hasNumber  (σ : MPS) (x0 : Int32) (x1 : Int32) (post : Int32 → MPS → Prop) : Prop := w_M_isNode σ x0 (fun r2 => ((r2 = 0 → post 0 σ) ∧ (¬ r2 = 0 → (vp_in x0 1000 ∧ ((((mp_isElement σ) x0.toNatClampNeg) = 0 → post 0 σ) ∧ (¬ ((mp_isElement σ) x0.toNatClampNeg) = 0 → ((0 ≤ x1 → (vp_in x0 1000 ∧ w_M_behindName σ ((mp_begins σ) x0.toNatClampNeg) (fun r30 => (∃ n, w_M_hasNumber_L37 x1 post n r30 0 σ)))) ∧ (¬ 0 ≤ x1 → post 0 σ))))))))
set_option maxHeartbeats 4000000 in
set_option maxRecDepth 100000 in
theorem c_M_hasNumber (l : Launch) (md : MD) (sz : Nat) (σ : MPS) (x0 : Int32) (x1 : Int32)  (post : Int32 → MPS → Prop) (hE : w_M_hasNumber σ x0 x1 post) : Met l y_M_hasNumber ws_M_hasNumber { frames := 3, cells := 0, slots := 0, locals := 64 } (va_Pc [.ref (mA md 0), .int x0, .int x1] (gM md σ sz)) (va_Qi post (eM md (va_A (MW md σ) sz)) (va_A (MW md σ) sz)) 0 0 (va_A (MW md σ) sz) := by
  refine Met.ofW (cc := b_M_hasNumber) (maxL := 5) (ret := (some .boolean)) (by decide) rfl ?_
  intro p e s m args below meth c s₁ B hml hv
  obtain ⟨rfl, hsz, hP, hK, hD0⟩ := hv
  have hx := B.exec
  have hb := B.bytes
  have hr := B.returns
  have hta : ∀ w ∈ aW, w.before _ s = true := fun w h => atoms_spec (ws := ws_M_hasNumber) B.pre w (List.mem_cons_of_mem _ h)
  have hown : s.vm.findClass R_M = some m.cls := findClass_of_methodNamed B.named
  have hlocks := B.notSynchronized
  subst hsz
  have hD := hD0.self (sz := s.heap.size)
  generalize hAe : va_A (MW md σ) s.heap.size = A at hD ⊢
  have hA : ∀ q : Nat, s.heap.size ≤ q → A q := fun q h => by rw [← hAe]; exact Or.inr h
  have hS : va_S A s.heap s.heap [] := va_S.rf
  have hP : va_P (mG md) classes (MW md σ) s.heap := hP
  have hl := lv_entry ([.ref (mA md 0), .int x0, .int x1]) (n := 5) (Nat.le_of_ble_eq_true rfl)
  rw [lg_entry_eq]
  generalize (lg_sl ([.ref (mA md 0), .int x0, .int x1]) ++ List.replicate (5 - (lg_sl ([.ref (mA md 0), .int x0, .int x1])).length) Slot.unset).toArray = ls at hl ⊢
  have hl : lv_has ls 5 [(0, .ref (mA md 0)), (1, .int x0), (2, .int x1)] := hl
  have L37 : ∀ (v2 : Int32) (n : Nat) (v3 : Int32) (v4 : Int32) (σ : MPS) (H : Heap) (locs : List Loc) (hP : va_P (mG md) classes (MW md σ) H) (hD : va_D A (MW md σ)) (hS : va_S A s.heap H locs) (ls : Array Slot) (hl : lv_has ls 5 [(0, .ref (mA md 0)), (2, .int v2), (3, .int v3), (4, .int v4)]) (hE : w_M_hasNumber_L37 v2 post n v3 v4 σ), W p l e (headSpec ws_M_hasNumber { frames := 3, cells := 0, slots := 0, locals := 64 }).room s m ([.ref (mA md 0), .int x0, .int x1] : List Value).toArray below meth c H locs 0 0 (MQ below (va_Qi post (eM md A) A) ([.ref (mA md 0), .int x0, .int x1] : List Value).toArray s 0 0 A) (F0 m 37 ls []) := by
    intro v2 n
    induction n with
    | zero => intro v3 v4 σ H locs hP hD hS ls hl hE; exact hE.elim
    | succ n ih37 =>
      intro v3 v4 σ H locs hP hD hS ls hl hE
      unfold w_M_hasNumber_L37 at hE
      refine lv_iload hx hb d_M_hasNumber_37 (lv_at hl 3 rfl) ?_
      refine lv_iload_n hx hb d_M_hasNumber_39 rfl (lv_at hl 1 rfl) ?_
      refine lv_icmp_gt (tgt := 70) hx hb d_M_hasNumber_40 (by decide) (fun cc40 => ?_) (fun cc40 => ?_)
      · have hE := hE.1 cc40
        refine lv_iconst (v := 1) hx hb d_M_hasNumber_70 (by decide) ?_
        exact W.zret (v := 1) hx hb hr rfl (fun t ht hW => ⟨⟨_, σ, rfl, hE, by rw [ht]; exact hP, va_K.moved hW.alike hK, hD⟩, hS.F ht⟩) hS.2.2 d_M_hasNumber_71
      · have hE := hE.2 cc40
        refine lv_aload_n hx hb d_M_hasNumber_43 rfl (lv_at hl 0 rfl) ?_
        refine lv_iload_n hx hb d_M_hasNumber_44 rfl (lv_at hl 2 rfl) ?_
        refine lv_aload_n hx hb d_M_hasNumber_45 rfl (lv_at hl 0 rfl) ?_
        refine va_get (D := (mG md)) (ci := 7) (v := .int (mp_size σ)) (C := R_M) (T := F_M) (N := 37) hx hb hta i_M hown hK hP 0 rfl rfl 7 (by decide) (hta _ fl_M_92) (fun _ h9 => h9) rfl d_M_hasNumber_46 ?_
        refine mm_i (b0 := (mA md 0)) (As := [.int v3, .int (mp_size σ)]) (rest := []) ⟨hx, hb, hml, hown, hta⟩ (c_M_nextAttribute l md _ σ v3 (mp_size σ) _ hE) ok_M_157 ⟨Nat.le_of_ble_eq_true rfl, Nat.le_of_ble_eq_true rfl⟩ (va_recv hK hP (ci := 7) (q0 := 0) rfl rfl) hP hK hD hS hA rfl hl.1 rfl (Nat.le_of_ble_eq_true rfl) d_M_hasNumber_49 ⟨Nat.zero_le _, Nat.zero_le _⟩ (fun r49 σ49 H locs hE hP hD hS => ?_)
        refine lv_if_ne (tgt := 57) hx hb d_M_hasNumber_52 (by decide) (fun cc52 => ?_) (fun cc52 => ?_)
        · have hE := hE.2 cc52
          refine lv_aload_n hx hb d_M_hasNumber_57 rfl (lv_at hl 0 rfl) ?_
          refine va_get (D := (mG md)) (ci := 7) (v := .int (mp_valueEnd σ49)) (C := R_M) (T := F_M) (N := 37) hx hb hta i_M hown hK hP 0 rfl rfl 22 (by decide) (hta _ fl_M_151) (fun _ h9 => h9) rfl d_M_hasNumber_58 ?_
          refine lv_iconst (v := 1) hx hb d_M_hasNumber_61 (by decide) ?_
          refine lv_iadd hx hb d_M_hasNumber_62 ?_
          refine lv_istore_n (lv' := [(3, .int ((mp_valueEnd σ49) + 1)), (0, .ref (mA md 0)), (2, .int v2), (4, .int v4)]) hx hb d_M_hasNumber_63 rfl hl (by decide) rfl (fun ls hl => ?_)
          refine lv_iinc (v := v4 + 1) (lv' := [(4, .int (v4 + 1)), (3, .int ((mp_valueEnd σ49) + 1)), (0, .ref (mA md 0)), (2, .int v2)]) hx hb d_M_hasNumber_64 hl (k := 3) rfl rfl (by decide) rfl (fun ls hl => ?_)
          refine lv_goto (tgt := 37) hx hb d_M_hasNumber_67 (by decide) ?_
          exact ih37 ((mp_valueEnd σ49) + 1) (v4 + 1) σ49 _ _ hP hD hS _ (lv_sub hl [2, 3, 1, 0] rfl) hE
        · have hE := hE.1 cc52
          refine lv_iconst (v := 0) hx hb d_M_hasNumber_55 (by decide) ?_
          exact W.zret (v := 0) hx hb hr rfl (fun t ht hW => ⟨⟨_, σ49, rfl, hE, by rw [ht]; exact hP, va_K.moved hW.alike hK, hD⟩, hS.F ht⟩) hS.2.2 d_M_hasNumber_56
  unfold w_M_hasNumber at hE
  refine lv_aload_n hx hb d_M_hasNumber_0 rfl (lv_at hl 0 rfl) ?_
  refine lv_iload_n hx hb d_M_hasNumber_1 rfl (lv_at hl 1 rfl) ?_
  refine ro_V (b0 := (mA md 0)) (As := [.int x0]) (rest := []) ⟨hx, hb, hml, hown, hta⟩ (c_M_isNode l md σ x0  _ hE) ok_M_323 ⟨Nat.le_of_ble_eq_true rfl, Nat.le_of_ble_eq_true rfl⟩ blind_rM (va_recv hK hP (ci := 7) (q0 := 0) rfl rfl) (rM_of hP hK) rfl hl.1 rfl (Nat.le_of_ble_eq_true rfl) d_M_hasNumber_2 ⟨Nat.zero_le _, Nat.zero_le _⟩ (fun r2 hE => ?_)
  refine lv_if_eq (tgt := 21) hx hb d_M_hasNumber_5 (by decide) (fun cc5 => ?_) (fun cc5 => ?_)
  · have hE := hE.1 cc5
    refine lv_iconst (v := 0) hx hb d_M_hasNumber_21 (by decide) ?_
    exact W.zret (v := 0) hx hb hr rfl (fun t ht hW => ⟨⟨_, σ, rfl, hE, by rw [ht]; exact hP, va_K.moved hW.alike hK, hD⟩, hS.F ht⟩) hS.2.2 d_M_hasNumber_22
  · have hE := hE.2 cc5
    refine lv_aload_n hx hb d_M_hasNumber_8 rfl (lv_at hl 0 rfl) ?_
    refine va_get (D := (mG md)) (ci := 7) (v := .ref (mA md 8)) (C := R_M) (T := F_M) (N := 37) hx hb hta i_M hown hK hP 0 rfl rfl 23 (by decide) (hta _ fl_M_36) (fun _ h9 => h9) rfl d_M_hasNumber_9 ?_
    refine lv_iload_n hx hb d_M_hasNumber_12 rfl (lv_at hl 1 rfl) ?_
    obtain ⟨hI13, hE⟩ := hE
    refine va_zald (D := (mG md)) (f := mp_isElement σ) hx hb hK hP 8 2 rfl rfl hI13 d_M_hasNumber_13 ?_
    refine lv_if_eq (tgt := 21) hx hb d_M_hasNumber_14 (by decide) (fun cc14 => ?_) (fun cc14 => ?_)
    · have hE := hE.1 cc14
      refine lv_iconst (v := 0) hx hb d_M_hasNumber_21 (by decide) ?_
      exact W.zret (v := 0) hx hb hr rfl (fun t ht hW => ⟨⟨_, σ, rfl, hE, by rw [ht]; exact hP, va_K.moved hW.alike hK, hD⟩, hS.F ht⟩) hS.2.2 d_M_hasNumber_22
    · have hE := hE.2 cc14
      refine lv_iload_n hx hb d_M_hasNumber_17 rfl (lv_at hl 2 rfl) ?_
      refine lv_if_ge (tgt := 23) hx hb d_M_hasNumber_18 (by decide) (fun cc18 => ?_) (fun cc18 => ?_)
      · have hE := hE.1 cc18
        refine lv_aload_n hx hb d_M_hasNumber_23 rfl (lv_at hl 0 rfl) ?_
        refine lv_aload_n hx hb d_M_hasNumber_24 rfl (lv_at hl 0 rfl) ?_
        refine va_get (D := (mG md)) (ci := 7) (v := .ref (mA md 9)) (C := R_M) (T := F_M) (N := 37) hx hb hta i_M hown hK hP 0 rfl rfl 24 (by decide) (hta _ fl_M_40) (fun _ h9 => h9) rfl d_M_hasNumber_25 ?_
        refine lv_iload_n hx hb d_M_hasNumber_28 rfl (lv_at hl 1 rfl) ?_
        obtain ⟨hI29, hE⟩ := hE
        refine va_iald (D := (mG md)) (f := mp_begins σ) hx hb hK hP 9 0 rfl rfl hI29 d_M_hasNumber_29 ?_
        refine ro_V (b0 := (mA md 0)) (As := [.int ((mp_begins σ) x0.toNatClampNeg)]) (rest := []) ⟨hx, hb, hml, hown, hta⟩ (c_M_behindName l md σ ((mp_begins σ) x0.toNatClampNeg)  _ hE) ok_M_154 ⟨Nat.le_of_ble_eq_true rfl, Nat.le_of_ble_eq_true rfl⟩ blind_rM (va_recv hK hP (ci := 7) (q0 := 0) rfl rfl) (rM_of hP hK) rfl hl.1 rfl (Nat.le_of_ble_eq_true rfl) d_M_hasNumber_30 ⟨Nat.zero_le _, Nat.zero_le _⟩ (fun r30 hE => ?_)
        refine lv_istore_n (lv' := [(3, .int r30), (0, .ref (mA md 0)), (1, .int x0), (2, .int x1)]) hx hb d_M_hasNumber_33 rfl hl (by decide) rfl (fun ls hl => ?_)
        refine lv_iconst (v := 0) hx hb d_M_hasNumber_34 (by decide) ?_
        refine lv_istore (lv' := [(4, .int 0), (3, .int r30), (0, .ref (mA md 0)), (1, .int x0), (2, .int x1)]) hx hb d_M_hasNumber_35 hl (by decide) rfl (fun ls hl => ?_)
        obtain ⟨n, hE⟩ := hE
        exact L37 x1 n r30 0 σ _ _ hP hD hS _ (lv_sub hl [2, 4, 1, 0] rfl) hE
      · have hE := hE.2 cc18
        refine lv_iconst (v := 0) hx hb d_M_hasNumber_21 (by decide) ?_
        exact W.zret (v := 0) hx hb hr rfl (fun t ht hW => ⟨⟨_, σ, rfl, hE, by rw [ht]; exact hP, va_K.moved hW.alike hK, hD⟩, hS.F ht⟩) hS.2.2 d_M_hasNumber_22
theorem ok_M_334 : okV "PlainPagesModel" 334 R_M y_M_hasNumber b_M_hasNumber 5 (some .boolean) 2 := ⟨aW_in 1263 (by decide +kernel) rfl, aW_in 1265 (by decide +kernel) rfl, aW_in 74 (by decide +kernel) rfl, aW_in 92 (by decide +kernel) rfl, cd_M_hasNumber, rfl, by decide +kernel, by decide +kernel, by decide +kernel⟩
theorem d_M_attribute_0 : decode b_M_attribute 0 = .ok (.aload_n 0, 1) := by decide +kernel
theorem d_M_attribute_1 : decode b_M_attribute 1 = .ok (.iconst 0, 1) := by decide +kernel
theorem d_M_attribute_2 : decode b_M_attribute 2 = .ok (.putfield 70, 3) := by decide +kernel
theorem d_M_attribute_5 : decode b_M_attribute 5 = .ok (.aload_n 0, 1) := by decide +kernel
theorem d_M_attribute_6 : decode b_M_attribute 6 = .ok (.iload_n 1, 1) := by decide +kernel
theorem d_M_attribute_7 : decode b_M_attribute 7 = .ok (.iload_n 2, 1) := by decide +kernel
theorem d_M_attribute_8 : decode b_M_attribute 8 = .ok (.invokevirtual 334, 3) := by decide +kernel
theorem d_M_attribute_11 : decode b_M_attribute 11 = .ok (.ifCond .ne 5, 3) := by decide +kernel
theorem d_M_attribute_14 : decode b_M_attribute 14 = .ok (.iconst (-1), 1) := by decide +kernel
theorem d_M_attribute_15 : decode b_M_attribute 15 = .ok (.ireturn, 1) := by decide +kernel
theorem d_M_attribute_16 : decode b_M_attribute 16 = .ok (.iload_n 3, 1) := by decide +kernel
theorem d_M_attribute_17 : decode b_M_attribute 17 = .ok (.ifCond .ne 10, 3) := by decide +kernel
theorem d_M_attribute_20 : decode b_M_attribute 20 = .ok (.aload_n 0, 1) := by decide +kernel
theorem d_M_attribute_21 : decode b_M_attribute 21 = .ok (.getfield 145, 3) := by decide +kernel
theorem d_M_attribute_24 : decode b_M_attribute 24 = .ok (.goto 36, 3) := by decide +kernel
theorem d_M_attribute_27 : decode b_M_attribute 27 = .ok (.iload_n 3, 1) := by decide +kernel
theorem d_M_attribute_28 : decode b_M_attribute 28 = .ok (.iconst 1, 1) := by decide +kernel
theorem d_M_attribute_29 : decode b_M_attribute 29 = .ok (.if_icmp .ne 18, 3) := by decide +kernel
theorem d_M_attribute_32 : decode b_M_attribute 32 = .ok (.aload_n 0, 1) := by decide +kernel
theorem d_M_attribute_33 : decode b_M_attribute 33 = .ok (.aload_n 0, 1) := by decide +kernel
theorem d_M_attribute_34 : decode b_M_attribute 34 = .ok (.getfield 148, 3) := by decide +kernel
theorem d_M_attribute_37 : decode b_M_attribute 37 = .ok (.aload_n 0, 1) := by decide +kernel
theorem d_M_attribute_38 : decode b_M_attribute 38 = .ok (.getfield 151, 3) := by decide +kernel
theorem d_M_attribute_41 : decode b_M_attribute 41 = .ok (.invokevirtual 326, 3) := by decide +kernel
theorem d_M_attribute_44 : decode b_M_attribute 44 = .ok (.goto 16, 3) := by decide +kernel
theorem d_M_attribute_47 : decode b_M_attribute 47 = .ok (.iload_n 3, 1) := by decide +kernel
theorem d_M_attribute_48 : decode b_M_attribute 48 = .ok (.iconst 2, 1) := by decide +kernel
theorem d_M_attribute_49 : decode b_M_attribute 49 = .ok (.if_icmp .ne 10, 3) := by decide +kernel
theorem d_M_attribute_52 : decode b_M_attribute 52 = .ok (.aload_n 0, 1) := by decide +kernel
theorem d_M_attribute_53 : decode b_M_attribute 53 = .ok (.getfield 142, 3) := by decide +kernel
theorem d_M_attribute_56 : decode b_M_attribute 56 = .ok (.goto 4, 3) := by decide +kernel
theorem d_M_attribute_59 : decode b_M_attribute 59 = .ok (.iconst (-1), 1) := by decide +kernel
theorem d_M_attribute_60 : decode b_M_attribute 60 = .ok (.ireturn, 1) := by decide +kernel
def w_M_attribute  (σ : MPS) (x0 : Int32) (x1 : Int32) (x2 : Int32) (post : Int32 → MPS → Prop) : Prop := (∀ σ2 : MPS, σ2 = ms_thrown σ 0 → w_M_hasNumber σ2 x0 x1 (fun r8 σ8 => ((r8 = 0 → post (-1) σ8) ∧ (¬ r8 = 0 → ((x2 = 0 → post (mp_nameMany σ8) σ8) ∧ (¬ x2 = 0 → ((x2 = 1 → w_M_characters σ8 (mp_valueAt σ8) (mp_valueEnd σ8) (fun r41 σ41 => post r41 σ41)) ∧ (¬ x2 = 1 → ((x2 = 2 → post (mp_nameAt σ8) σ8) ∧ (¬ x2 = 2 → post (-1) σ8))))))))))
set_option maxHeartbeats 4000000 in
set_option maxRecDepth 100000 in
theorem c_M_attribute (l : Launch) (md : MD) (sz : Nat) (σ : MPS) (x0 : Int32) (x1 : Int32) (x2 : Int32)  (post : Int32 → MPS → Prop) (hE : w_M_attribute σ x0 x1 x2 post) : Met l y_M_attribute ws_M_attribute { frames := 4, cells := 0, slots := 0, locals := 98 } (va_Pc [.ref (mA md 0), .int x0, .int x1, .int x2] (gM md σ sz)) (va_Qi post (eM md (va_A (MW md σ) sz)) (va_A (MW md σ) sz)) 0 0 (va_A (MW md σ) sz) := by
  refine Met.ofW (cc := b_M_attribute) (maxL := 4) (ret := (some .int)) (by decide) rfl ?_
  intro p e s m args below meth c s₁ B hml hv
  obtain ⟨rfl, hsz, hP, hK, hD0⟩ := hv
  have hx := B.exec
  have hb := B.bytes
  have hr := B.returns
  have hta : ∀ w ∈ aW, w.before _ s = true := fun w h => atoms_spec (ws := ws_M_attribute) B.pre w (List.mem_cons_of_mem _ h)
  have hown : s.vm.findClass R_M = some m.cls := findClass_of_methodNamed B.named
  have hlocks := B.notSynchronized
  subst hsz
  have hD := hD0.self (sz := s.heap.size)
  generalize hAe : va_A (MW md σ) s.heap.size = A at hD ⊢
  have hA : ∀ q : Nat, s.heap.size ≤ q → A q := fun q h => by rw [← hAe]; exact Or.inr h
  have hS : va_S A s.heap s.heap [] := va_S.rf
  have hP : va_P (mG md) classes (MW md σ) s.heap := hP
  have hl := lv_entry ([.ref (mA md 0), .int x0, .int x1, .int x2]) (n := 4) (Nat.le_of_ble_eq_true rfl)
  rw [lg_entry_eq]
  generalize (lg_sl ([.ref (mA md 0), .int x0, .int x1, .int x2]) ++ List.replicate (4 - (lg_sl ([.ref (mA md 0), .int x0, .int x1, .int x2])).length) Slot.unset).toArray = ls at hl ⊢
  have hl : lv_has ls 4 [(0, .ref (mA md 0)), (1, .int x0), (2, .int x1), (3, .int x2)] := hl
  unfold w_M_attribute at hE
  refine lv_aload_n hx hb d_M_attribute_0 rfl (lv_at hl 0 rfl) ?_
  refine lv_iconst (v := 0) hx hb d_M_attribute_1 (by decide) ?_
  refine va_put (D := (mG md)) (ci := 7) (v := .int 0) (ty := .int) (C := R_M) (T := F_M) (N := 37) hx hb hta i_M t_M t_M_ok n_M hown hK hP hD hS 0 rfl rfl 0 (by decide) (hta _ fl_M_70) (fun _ h9 => h9) rfl (by decide +kernel) rfl rfl (Nat.le_of_ble_eq_true rfl) d_M_attribute_2 (fun H locs hP hD hS => ?_)
  have hP : va_P (mG md) classes (MW md (ms_thrown σ 0)) H := hP
  have hD : va_D A (MW md (ms_thrown σ 0)) := hD
  have hE := hE _ rfl
  generalize (ms_thrown σ 0 : MPS) = σ2 at hP hD hE
  refine lv_aload_n hx hb d_M_attribute_5 rfl (lv_at hl 0 rfl) ?_
  refine lv_iload_n hx hb d_M_attribute_6 rfl (lv_at hl 1 rfl) ?_
  refine lv_iload_n hx hb d_M_attribute_7 rfl (lv_at hl 2 rfl) ?_
  refine mm_i (b0 := (mA md 0)) (As := [.int x0, .int x1]) (rest := []) ⟨hx, hb, hml, hown, hta⟩ (c_M_hasNumber l md _ σ2 x0 x1 _ hE) ok_M_334 ⟨Nat.le_of_ble_eq_true rfl, Nat.le_of_ble_eq_true rfl⟩ (va_recv hK hP (ci := 7) (q0 := 0) rfl rfl) hP hK hD hS hA rfl hl.1 rfl (Nat.le_of_ble_eq_true rfl) d_M_attribute_8 ⟨Nat.zero_le _, Nat.zero_le _⟩ (fun r8 σ8 H locs hE hP hD hS => ?_)
  refine lv_if_ne (tgt := 16) hx hb d_M_attribute_11 (by decide) (fun cc11 => ?_) (fun cc11 => ?_)
  · have hE := hE.2 cc11
    refine lv_iload_n hx hb d_M_attribute_16 rfl (lv_at hl 3 rfl) ?_
    refine lv_if_ne (tgt := 27) hx hb d_M_attribute_17 (by decide) (fun cc17 => ?_) (fun cc17 => ?_)
    · have hE := hE.2 cc17
      refine lv_iload_n hx hb d_M_attribute_27 rfl (lv_at hl 3 rfl) ?_
      refine lv_iconst (v := 1) hx hb d_M_attribute_28 (by decide) ?_
      refine lv_icmp_ne (tgt := 47) hx hb d_M_attribute_29 (by decide) (fun cc29 => ?_) (fun cc29 => ?_)
      · have hE := hE.2 cc29
        refine lv_iload_n hx hb d_M_attribute_47 rfl (lv_at hl 3 rfl) ?_
        refine lv_iconst (v := 2) hx hb d_M_attribute_48 (by decide) ?_
        refine lv_icmp_ne (tgt := 59) hx hb d_M_attribute_49 (by decide) (fun cc49 => ?_) (fun cc49 => ?_)
        · have hE := hE.2 cc49
          refine lv_iconst (v := -1) hx hb d_M_attribute_59 (by decide) ?_
          exact W.iret (v := (-1)) hx hb hr (fun t ht hW => ⟨⟨_, σ8, rfl, hE, by rw [ht]; exact hP, va_K.moved hW.alike hK, hD⟩, hS.F ht⟩) hS.2.2 d_M_attribute_60
        · have hE := hE.1 cc49
          refine lv_aload_n hx hb d_M_attribute_52 rfl (lv_at hl 0 rfl) ?_
          refine va_get (D := (mG md)) (ci := 7) (v := .int (mp_nameAt σ8)) (C := R_M) (T := F_M) (N := 37) hx hb hta i_M hown hK hP 0 rfl rfl 19 (by decide) (hta _ fl_M_142) (fun _ h9 => h9) rfl d_M_attribute_53 ?_
          refine lv_goto (tgt := 60) hx hb d_M_attribute_56 (by decide) ?_
          exact W.iret (v := mp_nameAt σ8) hx hb hr (fun t ht hW => ⟨⟨_, σ8, rfl, hE, by rw [ht]; exact hP, va_K.moved hW.alike hK, hD⟩, hS.F ht⟩) hS.2.2 d_M_attribute_60
      · have hE := hE.1 cc29
        refine lv_aload_n hx hb d_M_attribute_32 rfl (lv_at hl 0 rfl) ?_
        refine lv_aload_n hx hb d_M_attribute_33 rfl (lv_at hl 0 rfl) ?_
        refine va_get (D := (mG md)) (ci := 7) (v := .int (mp_valueAt σ8)) (C := R_M) (T := F_M) (N := 37) hx hb hta i_M hown hK hP 0 rfl rfl 21 (by decide) (hta _ fl_M_148) (fun _ h9 => h9) rfl d_M_attribute_34 ?_
        refine lv_aload_n hx hb d_M_attribute_37 rfl (lv_at hl 0 rfl) ?_
        refine va_get (D := (mG md)) (ci := 7) (v := .int (mp_valueEnd σ8)) (C := R_M) (T := F_M) (N := 37) hx hb hta i_M hown hK hP 0 rfl rfl 22 (by decide) (hta _ fl_M_151) (fun _ h9 => h9) rfl d_M_attribute_38 ?_
        refine mm_i (b0 := (mA md 0)) (As := [.int (mp_valueAt σ8), .int (mp_valueEnd σ8)]) (rest := []) ⟨hx, hb, hml, hown, hta⟩ (c_M_characters l md _ σ8 (mp_valueAt σ8) (mp_valueEnd σ8) _ hE) ok_M_326 ⟨Nat.le_of_ble_eq_true rfl, Nat.le_of_ble_eq_true rfl⟩ (va_recv hK hP (ci := 7) (q0 := 0) rfl rfl) hP hK hD hS hA rfl hl.1 rfl (Nat.le_of_ble_eq_true rfl) d_M_attribute_41 ⟨Nat.zero_le _, Nat.zero_le _⟩ (fun r41 σ41 H locs hE hP hD hS => ?_)
        refine lv_goto (tgt := 60) hx hb d_M_attribute_44 (by decide) ?_
        exact W.iret (v := r41) hx hb hr (fun t ht hW => ⟨⟨_, σ41, rfl, hE, by rw [ht]; exact hP, va_K.moved hW.alike hK, hD⟩, hS.F ht⟩) hS.2.2 d_M_attribute_60
    · have hE := hE.1 cc17
      refine lv_aload_n hx hb d_M_attribute_20 rfl (lv_at hl 0 rfl) ?_
      refine va_get (D := (mG md)) (ci := 7) (v := .int (mp_nameMany σ8)) (C := R_M) (T := F_M) (N := 37) hx hb hta i_M hown hK hP 0 rfl rfl 20 (by decide) (hta _ fl_M_145) (fun _ h9 => h9) rfl d_M_attribute_21 ?_
      refine lv_goto (tgt := 60) hx hb d_M_attribute_24 (by decide) ?_
      exact W.iret (v := mp_nameMany σ8) hx hb hr (fun t ht hW => ⟨⟨_, σ8, rfl, hE, by rw [ht]; exact hP, va_K.moved hW.alike hK, hD⟩, hS.F ht⟩) hS.2.2 d_M_attribute_60
  · have hE := hE.1 cc11
    refine lv_iconst (v := -1) hx hb d_M_attribute_14 (by decide) ?_
    exact W.iret (v := (-1)) hx hb hr (fun t ht hW => ⟨⟨_, σ8, rfl, hE, by rw [ht]; exact hP, va_K.moved hW.alike hK, hD⟩, hS.F ht⟩) hS.2.2 d_M_attribute_15

theorem d_M_sign_0 : decode b_M_sign 0 = .ok (.aload_n 0, 1) := by decide +kernel
theorem d_M_sign_1 : decode b_M_sign 1 = .ok (.iconst 0, 1) := by decide +kernel
theorem d_M_sign_2 : decode b_M_sign 2 = .ok (.putfield 70, 3) := by decide +kernel
theorem d_M_sign_5 : decode b_M_sign 5 = .ok (.aload_n 0, 1) := by decide +kernel
theorem d_M_sign_6 : decode b_M_sign 6 = .ok (.iload_n 1, 1) := by decide +kernel
theorem d_M_sign_7 : decode b_M_sign 7 = .ok (.iload_n 2, 1) := by decide +kernel
theorem d_M_sign_8 : decode b_M_sign 8 = .ok (.invokevirtual 334, 3) := by decide +kernel
theorem d_M_sign_11 : decode b_M_sign 11 = .ok (.ifCond .eq 8, 3) := by decide +kernel
theorem d_M_sign_14 : decode b_M_sign 14 = .ok (.iload 4, 2) := by decide +kernel
theorem d_M_sign_16 : decode b_M_sign 16 = .ok (.ifCond .ge 5, 3) := by decide +kernel
theorem d_M_sign_19 : decode b_M_sign 19 = .ok (.iconst (-1), 1) := by decide +kernel
theorem d_M_sign_20 : decode b_M_sign 20 = .ok (.ireturn, 1) := by decide +kernel
theorem d_M_sign_21 : decode b_M_sign 21 = .ok (.iload_n 3, 1) := by decide +kernel
theorem d_M_sign_22 : decode b_M_sign 22 = .ok (.ifCond .eq 20, 3) := by decide +kernel
theorem d_M_sign_25 : decode b_M_sign 25 = .ok (.aload_n 0, 1) := by decide +kernel
theorem d_M_sign_26 : decode b_M_sign 26 = .ok (.aload_n 0, 1) := by decide +kernel
theorem d_M_sign_27 : decode b_M_sign 27 = .ok (.getfield 148, 3) := by decide +kernel
theorem d_M_sign_30 : decode b_M_sign 30 = .ok (.aload_n 0, 1) := by decide +kernel
theorem d_M_sign_31 : decode b_M_sign 31 = .ok (.getfield 151, 3) := by decide +kernel
theorem d_M_sign_34 : decode b_M_sign 34 = .ok (.iload 4, 2) := by decide +kernel
theorem d_M_sign_36 : decode b_M_sign 36 = .ok (.invokevirtual 330, 3) := by decide +kernel
theorem d_M_sign_39 : decode b_M_sign 39 = .ok (.goto 27, 3) := by decide +kernel
theorem d_M_sign_42 : decode b_M_sign 42 = .ok (.iload 4, 2) := by decide +kernel
theorem d_M_sign_44 : decode b_M_sign 44 = .ok (.aload_n 0, 1) := by decide +kernel
theorem d_M_sign_45 : decode b_M_sign 45 = .ok (.getfield 145, 3) := by decide +kernel
theorem d_M_sign_48 : decode b_M_sign 48 = .ok (.if_icmp .ge 17, 3) := by decide +kernel
theorem d_M_sign_51 : decode b_M_sign 51 = .ok (.aload_n 0, 1) := by decide +kernel
theorem d_M_sign_52 : decode b_M_sign 52 = .ok (.aload_n 0, 1) := by decide +kernel
theorem d_M_sign_53 : decode b_M_sign 53 = .ok (.getfield 142, 3) := by decide +kernel
theorem d_M_sign_56 : decode b_M_sign 56 = .ok (.iload 4, 2) := by decide +kernel
theorem d_M_sign_58 : decode b_M_sign 58 = .ok (.iadd, 1) := by decide +kernel
theorem d_M_sign_59 : decode b_M_sign 59 = .ok (.invokevirtual 95, 3) := by decide +kernel
theorem d_M_sign_62 : decode b_M_sign 62 = .ok (.goto 4, 3) := by decide +kernel
theorem d_M_sign_65 : decode b_M_sign 65 = .ok (.iconst (-1), 1) := by decide +kernel
theorem d_M_sign_66 : decode b_M_sign 66 = .ok (.ireturn, 1) := by decide +kernel
def w_M_sign  (σ : MPS) (x0 : Int32) (x1 : Int32) (x2 : Int32) (x3 : Int32) (post : Int32 → MPS → Prop) : Prop := (∀ σ2 : MPS, σ2 = ms_thrown σ 0 → w_M_hasNumber σ2 x0 x1 (fun r8 σ8 => ((r8 = 0 → post (-1) σ8) ∧ (¬ r8 = 0 → ((0 ≤ x3 → ((x2 = 0 → (((mp_nameMany σ8) ≤ x3 → post (-1) σ8) ∧ (¬ (mp_nameMany σ8) ≤ x3 → w_M_x σ8 ((mp_nameAt σ8) + x3) (fun r59 => post r59 σ8)))) ∧ (¬ x2 = 0 → w_M_characterIn σ8 (mp_valueAt σ8) (mp_valueEnd σ8) x3 (fun r36 σ36 => post r36 σ36)))) ∧ (¬ 0 ≤ x3 → post (-1) σ8))))))
set_option maxHeartbeats 4000000 in
set_option maxRecDepth 100000 in
theorem c_M_sign (l : Launch) (md : MD) (sz : Nat) (σ : MPS) (x0 : Int32) (x1 : Int32) (x2 : Int32) (x3 : Int32)  (post : Int32 → MPS → Prop) (hE : w_M_sign σ x0 x1 x2 x3 post) : Met l y_M_sign ws_M_sign { frames := 4, cells := 0, slots := 0, locals := 99 } (va_Pc [.ref (mA md 0), .int x0, .int x1, .int x2, .int x3] (gM md σ sz)) (va_Qi post (eM md (va_A (MW md σ) sz)) (va_A (MW md σ) sz)) 0 0 (va_A (MW md σ) sz) := by
  refine Met.ofW (cc := b_M_sign) (maxL := 5) (ret := (some .int)) (by decide) rfl ?_
  intro p e s m args below meth c s₁ B hml hv
  obtain ⟨rfl, hsz, hP, hK, hD0⟩ := hv
  have hx := B.exec
  have hb := B.bytes
  have hr := B.returns
  have hta : ∀ w ∈ aW, w.before _ s = true := fun w h => atoms_spec (ws := ws_M_sign) B.pre w (List.mem_cons_of_mem _ h)
  have hown : s.vm.findClass R_M = some m.cls := findClass_of_methodNamed B.named
  have hlocks := B.notSynchronized
  subst hsz
  have hD := hD0.self (sz := s.heap.size)
  generalize hAe : va_A (MW md σ) s.heap.size = A at hD ⊢
  have hA : ∀ q : Nat, s.heap.size ≤ q → A q := fun q h => by rw [← hAe]; exact Or.inr h
  have hS : va_S A s.heap s.heap [] := va_S.rf
  have hP : va_P (mG md) classes (MW md σ) s.heap := hP
  have hl := lv_entry ([.ref (mA md 0), .int x0, .int x1, .int x2, .int x3]) (n := 5) (Nat.le_of_ble_eq_true rfl)
  rw [lg_entry_eq]
  generalize (lg_sl ([.ref (mA md 0), .int x0, .int x1, .int x2, .int x3]) ++ List.replicate (5 - (lg_sl ([.ref (mA md 0), .int x0, .int x1, .int x2, .int x3])).length) Slot.unset).toArray = ls at hl ⊢
  have hl : lv_has ls 5 [(0, .ref (mA md 0)), (1, .int x0), (2, .int x1), (3, .int x2), (4, .int x3)] := hl
  unfold w_M_sign at hE
  refine lv_aload_n hx hb d_M_sign_0 rfl (lv_at hl 0 rfl) ?_
  refine lv_iconst (v := 0) hx hb d_M_sign_1 (by decide) ?_
  refine va_put (D := (mG md)) (ci := 7) (v := .int 0) (ty := .int) (C := R_M) (T := F_M) (N := 37) hx hb hta i_M t_M t_M_ok n_M hown hK hP hD hS 0 rfl rfl 0 (by decide) (hta _ fl_M_70) (fun _ h9 => h9) rfl (by decide +kernel) rfl rfl (Nat.le_of_ble_eq_true rfl) d_M_sign_2 (fun H locs hP hD hS => ?_)
  have hP : va_P (mG md) classes (MW md (ms_thrown σ 0)) H := hP
  have hD : va_D A (MW md (ms_thrown σ 0)) := hD
  have hE := hE _ rfl
  generalize (ms_thrown σ 0 : MPS) = σ2 at hP hD hE
  refine lv_aload_n hx hb d_M_sign_5 rfl (lv_at hl 0 rfl) ?_
  refine lv_iload_n hx hb d_M_sign_6 rfl (lv_at hl 1 rfl) ?_
  refine lv_iload_n hx hb d_M_sign_7 rfl (lv_at hl 2 rfl) ?_
  refine mm_i (b0 := (mA md 0)) (As := [.int x0, .int x1]) (rest := []) ⟨hx, hb, hml, hown, hta⟩ (c_M_hasNumber l md _ σ2 x0 x1 _ hE) ok_M_334 ⟨Nat.le_of_ble_eq_true rfl, Nat.le_of_ble_eq_true rfl⟩ (va_recv hK hP (ci := 7) (q0 := 0) rfl rfl) hP hK hD hS hA rfl hl.1 rfl (Nat.le_of_ble_eq_true rfl) d_M_sign_8 ⟨Nat.zero_le _, Nat.zero_le _⟩ (fun r8 σ8 H locs hE hP hD hS => ?_)
  refine lv_if_eq (tgt := 19) hx hb d_M_sign_11 (by decide) (fun cc11 => ?_) (fun cc11 => ?_)
  · have hE := hE.1 cc11
    refine lv_iconst (v := -1) hx hb d_M_sign_19 (by decide) ?_
    exact W.iret (v := (-1)) hx hb hr (fun t ht hW => ⟨⟨_, σ8, rfl, hE, by rw [ht]; exact hP, va_K.moved hW.alike hK, hD⟩, hS.F ht⟩) hS.2.2 d_M_sign_20
  · have hE := hE.2 cc11
    refine lv_iload hx hb d_M_sign_14 (lv_at hl 4 rfl) ?_
    refine lv_if_ge (tgt := 21) hx hb d_M_sign_16 (by decide) (fun cc16 => ?_) (fun cc16 => ?_)
    · have hE := hE.1 cc16
      refine lv_iload_n hx hb d_M_sign_21 rfl (lv_at hl 3 rfl) ?_
      refine lv_if_eq (tgt := 42) hx hb d_M_sign_22 (by decide) (fun cc22 => ?_) (fun cc22 => ?_)
      · have hE := hE.1 cc22
        refine lv_iload hx hb d_M_sign_42 (lv_at hl 4 rfl) ?_
        refine lv_aload_n hx hb d_M_sign_44 rfl (lv_at hl 0 rfl) ?_
        refine va_get (D := (mG md)) (ci := 7) (v := .int (mp_nameMany σ8)) (C := R_M) (T := F_M) (N := 37) hx hb hta i_M hown hK hP 0 rfl rfl 20 (by decide) (hta _ fl_M_145) (fun _ h9 => h9) rfl d_M_sign_45 ?_
        refine lv_icmp_ge (tgt := 65) hx hb d_M_sign_48 (by decide) (fun cc48 => ?_) (fun cc48 => ?_)
        · have hE := hE.1 cc48
          refine lv_iconst (v := -1) hx hb d_M_sign_65 (by decide) ?_
          exact W.iret (v := (-1)) hx hb hr (fun t ht hW => ⟨⟨_, σ8, rfl, hE, by rw [ht]; exact hP, va_K.moved hW.alike hK, hD⟩, hS.F ht⟩) hS.2.2 d_M_sign_66
        · have hE := hE.2 cc48
          refine lv_aload_n hx hb d_M_sign_51 rfl (lv_at hl 0 rfl) ?_
          refine lv_aload_n hx hb d_M_sign_52 rfl (lv_at hl 0 rfl) ?_
          refine va_get (D := (mG md)) (ci := 7) (v := .int (mp_nameAt σ8)) (C := R_M) (T := F_M) (N := 37) hx hb hta i_M hown hK hP 0 rfl rfl 19 (by decide) (hta _ fl_M_142) (fun _ h9 => h9) rfl d_M_sign_53 ?_
          refine lv_iload hx hb d_M_sign_56 (lv_at hl 4 rfl) ?_
          refine lv_iadd hx hb d_M_sign_58 ?_
          refine ro_V (b0 := (mA md 0)) (As := [.int ((mp_nameAt σ8) + x3)]) (rest := []) ⟨hx, hb, hml, hown, hta⟩ (c_M_x l md σ8 ((mp_nameAt σ8) + x3)  _ hE) ok_M_95 ⟨Nat.le_of_ble_eq_true rfl, Nat.le_of_ble_eq_true rfl⟩ blind_rM (va_recv hK hP (ci := 7) (q0 := 0) rfl rfl) (rM_of hP hK) rfl hl.1 rfl (Nat.le_of_ble_eq_true rfl) d_M_sign_59 ⟨Nat.zero_le _, Nat.zero_le _⟩ (fun r59 hE => ?_)
          refine lv_goto (tgt := 66) hx hb d_M_sign_62 (by decide) ?_
          exact W.iret (v := r59) hx hb hr (fun t ht hW => ⟨⟨_, σ8, rfl, hE, by rw [ht]; exact hP, va_K.moved hW.alike hK, hD⟩, hS.F ht⟩) hS.2.2 d_M_sign_66
      · have hE := hE.2 cc22
        refine lv_aload_n hx hb d_M_sign_25 rfl (lv_at hl 0 rfl) ?_
        refine lv_aload_n hx hb d_M_sign_26 rfl (lv_at hl 0 rfl) ?_
        refine va_get (D := (mG md)) (ci := 7) (v := .int (mp_valueAt σ8)) (C := R_M) (T := F_M) (N := 37) hx hb hta i_M hown hK hP 0 rfl rfl 21 (by decide) (hta _ fl_M_148) (fun _ h9 => h9) rfl d_M_sign_27 ?_
        refine lv_aload_n hx hb d_M_sign_30 rfl (lv_at hl 0 rfl) ?_
        refine va_get (D := (mG md)) (ci := 7) (v := .int (mp_valueEnd σ8)) (C := R_M) (T := F_M) (N := 37) hx hb hta i_M hown hK hP 0 rfl rfl 22 (by decide) (hta _ fl_M_151) (fun _ h9 => h9) rfl d_M_sign_31 ?_
        refine lv_iload hx hb d_M_sign_34 (lv_at hl 4 rfl) ?_
        refine mm_i (b0 := (mA md 0)) (As := [.int (mp_valueAt σ8), .int (mp_valueEnd σ8), .int x3]) (rest := []) ⟨hx, hb, hml, hown, hta⟩ (c_M_characterIn l md _ σ8 (mp_valueAt σ8) (mp_valueEnd σ8) x3 _ hE) ok_M_330 ⟨Nat.le_of_ble_eq_true rfl, Nat.le_of_ble_eq_true rfl⟩ (va_recv hK hP (ci := 7) (q0 := 0) rfl rfl) hP hK hD hS hA rfl hl.1 rfl (Nat.le_of_ble_eq_true rfl) d_M_sign_36 ⟨Nat.zero_le _, Nat.zero_le _⟩ (fun r36 σ36 H locs hE hP hD hS => ?_)
        refine lv_goto (tgt := 66) hx hb d_M_sign_39 (by decide) ?_
        exact W.iret (v := r36) hx hb hr (fun t ht hW => ⟨⟨_, σ36, rfl, hE, by rw [ht]; exact hP, va_K.moved hW.alike hK, hD⟩, hS.F ht⟩) hS.2.2 d_M_sign_66
    · have hE := hE.2 cc16
      refine lv_iconst (v := -1) hx hb d_M_sign_19 (by decide) ?_
      exact W.iret (v := (-1)) hx hb hr (fun t ht hW => ⟨⟨_, σ8, rfl, hE, by rw [ht]; exact hP, va_K.moved hW.alike hK, hD⟩, hS.F ht⟩) hS.2.2 d_M_sign_20
theorem fl_M_19 : Cond.fieldLink "PlainPagesModel" 19 "PlainPagesModel" "output" "[B" ∈ aW := aW_in 908 (by decide +kernel) rfl
theorem fl_M_337 : Cond.fieldLink "PlainPagesModel" 337 "PlainPagesModel" "outs" "I" ∈ aW := aW_in 912 (by decide +kernel) rfl
theorem d_M_put_0 : decode b_M_put 0 = .ok (.aload_n 0, 1) := by decide +kernel
theorem d_M_put_1 : decode b_M_put 1 = .ok (.getfield 19, 3) := by decide +kernel
theorem d_M_put_4 : decode b_M_put 4 = .ok (.aload_n 0, 1) := by decide +kernel
theorem d_M_put_5 : decode b_M_put 5 = .ok (.getfield 337, 3) := by decide +kernel
theorem d_M_put_8 : decode b_M_put 8 = .ok (.iload_n 1, 1) := by decide +kernel
theorem d_M_put_9 : decode b_M_put 9 = .ok (.i2b, 1) := by decide +kernel
theorem d_M_put_10 : decode b_M_put 10 = .ok (.bastore, 1) := by decide +kernel
theorem d_M_put_11 : decode b_M_put 11 = .ok (.aload_n 0, 1) := by decide +kernel
theorem d_M_put_12 : decode b_M_put 12 = .ok (.dup, 1) := by decide +kernel
theorem d_M_put_13 : decode b_M_put 13 = .ok (.getfield 337, 3) := by decide +kernel
theorem d_M_put_16 : decode b_M_put 16 = .ok (.iconst 1, 1) := by decide +kernel
theorem d_M_put_17 : decode b_M_put 17 = .ok (.iadd, 1) := by decide +kernel
theorem d_M_put_18 : decode b_M_put 18 = .ok (.putfield 337, 3) := by decide +kernel
theorem d_M_put_21 : decode b_M_put 21 = .ok (.return_, 1) := by decide +kernel
def w_M_put  (σ : MPS) (x0 : Int32) (post : MPS → Prop) : Prop := (vp_in (mp_outs σ) 24000 ∧ (∀ σ10 : MPS, σ10 = ms_output σ (upd (mp_output σ) (mp_outs σ).toNatClampNeg (vp_nar .byte x0.toInt8.toInt32)) → (∀ σ18 : MPS, σ18 = ms_outs σ10 ((mp_outs σ10) + 1) → post σ18)))
set_option maxHeartbeats 4000000 in
set_option maxRecDepth 100000 in
theorem c_M_put (l : Launch) (md : MD) (sz : Nat) (σ : MPS) (x0 : Int32)  (post : MPS → Prop) (hE : w_M_put σ x0 post) : Met l y_M_put ws_M_put { frames := 0, cells := 0, slots := 0, locals := 0 } (va_Pc [.ref (mA md 0), .int x0] (gM md σ sz)) (va_Qv post (eM md (va_A (MW md σ) sz)) (va_A (MW md σ) sz)) 0 0 (va_A (MW md σ) sz) := by
  refine Met.ofW (cc := b_M_put) (maxL := 2) (ret := none) (by decide) rfl ?_
  intro p e s m args below meth c s₁ B hml hv
  obtain ⟨rfl, hsz, hP, hK, hD0⟩ := hv
  have hx := B.exec
  have hb := B.bytes
  have hr := B.returns
  have hta : ∀ w ∈ aW, w.before _ s = true := fun w h => atoms_spec (ws := ws_M_put) B.pre w (List.mem_cons_of_mem _ h)
  have hown : s.vm.findClass R_M = some m.cls := findClass_of_methodNamed B.named
  have hlocks := B.notSynchronized
  subst hsz
  have hD := hD0.self (sz := s.heap.size)
  generalize hAe : va_A (MW md σ) s.heap.size = A at hD ⊢
  have hA : ∀ q : Nat, s.heap.size ≤ q → A q := fun q h => by rw [← hAe]; exact Or.inr h
  have hS : va_S A s.heap s.heap [] := va_S.rf
  have hP : va_P (mG md) classes (MW md σ) s.heap := hP
  have hl := lv_entry ([.ref (mA md 0), .int x0]) (n := 2) (Nat.le_of_ble_eq_true rfl)
  rw [lg_entry_eq]
  generalize (lg_sl ([.ref (mA md 0), .int x0]) ++ List.replicate (2 - (lg_sl ([.ref (mA md 0), .int x0])).length) Slot.unset).toArray = ls at hl ⊢
  have hl : lv_has ls 2 [(0, .ref (mA md 0)), (1, .int x0)] := hl
  unfold w_M_put at hE
  refine lv_aload_n hx hb d_M_put_0 rfl (lv_at hl 0 rfl) ?_
  refine va_get (D := (mG md)) (ci := 7) (v := .ref (mA md 4)) (C := R_M) (T := F_M) (N := 37) hx hb hta i_M hown hK hP 0 rfl rfl 4 (by decide) (hta _ fl_M_19) (fun _ h9 => h9) rfl d_M_put_1 ?_
  refine lv_aload_n hx hb d_M_put_4 rfl (lv_at hl 0 rfl) ?_
  refine va_get (D := (mG md)) (ci := 7) (v := .int (mp_outs σ)) (C := R_M) (T := F_M) (N := 37) hx hb hta i_M hown hK hP 0 rfl rfl 8 (by decide) (hta _ fl_M_337) (fun _ h9 => h9) rfl d_M_put_5 ?_
  refine lv_iload_n hx hb d_M_put_8 rfl (lv_at hl 1 rfl) ?_
  refine lv_i2b hx hb d_M_put_9 rfl ?_
  obtain ⟨hI10, hE⟩ := hE
  refine va_bast (D := (mG md)) (f := mp_output σ) hx hb hK hP hD hS 4 1 rfl rfl hI10 d_M_put_10 (fun H locs hP hD hS => ?_)
  have hP : va_P (mG md) classes (MW md (ms_output σ (upd (mp_output σ) (mp_outs σ).toNatClampNeg (vp_nar .byte x0.toInt8.toInt32)))) H := hP
  have hD : va_D A (MW md (ms_output σ (upd (mp_output σ) (mp_outs σ).toNatClampNeg (vp_nar .byte x0.toInt8.toInt32)))) := hD
  have hE := hE _ rfl
  generalize (ms_output σ (upd (mp_output σ) (mp_outs σ).toNatClampNeg (vp_nar .byte x0.toInt8.toInt32)) : MPS) = σ10 at hP hD hE
  refine lv_aload_n hx hb d_M_put_11 rfl (lv_at hl 0 rfl) ?_
  refine lv_dup hx hb d_M_put_12 rfl ?_
  refine va_get (D := (mG md)) (ci := 7) (v := .int (mp_outs σ10)) (C := R_M) (T := F_M) (N := 37) hx hb hta i_M hown hK hP 0 rfl rfl 8 (by decide) (hta _ fl_M_337) (fun _ h9 => h9) rfl d_M_put_13 ?_
  refine lv_iconst (v := 1) hx hb d_M_put_16 (by decide) ?_
  refine lv_iadd hx hb d_M_put_17 ?_
  refine va_put (D := (mG md)) (ci := 7) (v := .int ((mp_outs σ10) + 1)) (ty := .int) (C := R_M) (T := F_M) (N := 37) hx hb hta i_M t_M t_M_ok n_M hown hK hP hD hS 0 rfl rfl 8 (by decide) (hta _ fl_M_337) (fun _ h9 => h9) rfl (by decide +kernel) rfl rfl (Nat.le_of_ble_eq_true rfl) d_M_put_18 (fun H locs hP hD hS => ?_)
  have hP : va_P (mG md) classes (MW md (ms_outs σ10 ((mp_outs σ10) + 1))) H := hP
  have hD : va_D A (MW md (ms_outs σ10 ((mp_outs σ10) + 1))) := hD
  have hE := hE _ rfl
  generalize (ms_outs σ10 ((mp_outs σ10) + 1) : MPS) = σ18 at hP hD hE
  exact W.vret hx hb hr (fun t ht hW => ⟨⟨σ18, rfl, hE, by rw [ht]; exact hP, va_K.moved hW.alike hK, hD⟩, hS.F ht⟩) hS.2.2 d_M_put_21
theorem ok_M_340 : okV "PlainPagesModel" 340 R_M y_M_put b_M_put 2 none 1 := ⟨aW_in 1295 (by decide +kernel) rfl, aW_in 1297 (by decide +kernel) rfl, aW_in 79 (by decide +kernel) rfl, aW_in 92 (by decide +kernel) rfl, cd_M_put, rfl, by decide +kernel, by decide +kernel, by decide +kernel⟩
theorem d_M_putWord_0 : decode b_M_putWord 0 = .ok (.iload_n 3, 1) := by decide +kernel
theorem d_M_putWord_1 : decode b_M_putWord 1 = .ok (.iconst 1, 1) := by decide +kernel
theorem d_M_putWord_2 : decode b_M_putWord 2 = .ok (.isub, 1) := by decide +kernel
theorem d_M_putWord_3 : decode b_M_putWord 3 = .ok (.istore 4, 2) := by decide +kernel
theorem d_M_putWord_5 : decode b_M_putWord 5 = .ok (.iload 4, 2) := by decide +kernel
theorem d_M_putWord_7 : decode b_M_putWord 7 = .ok (.ifCond .lt 25, 3) := by decide +kernel
theorem d_M_putWord_10 : decode b_M_putWord 10 = .ok (.aload_n 0, 1) := by decide +kernel
theorem d_M_putWord_11 : decode b_M_putWord 11 = .ok (.lload_n 1, 1) := by decide +kernel
theorem d_M_putWord_12 : decode b_M_putWord 12 = .ok (.bipush 8, 2) := by decide +kernel
theorem d_M_putWord_14 : decode b_M_putWord 14 = .ok (.iload 4, 2) := by decide +kernel
theorem d_M_putWord_16 : decode b_M_putWord 16 = .ok (.imul, 1) := by decide +kernel
theorem d_M_putWord_17 : decode b_M_putWord 17 = .ok (.lshr, 1) := by decide +kernel
theorem d_M_putWord_18 : decode b_M_putWord 18 = .ok (.ldc2_w 99, 3) := by decide +kernel
theorem d_M_putWord_21 : decode b_M_putWord 21 = .ok (.land, 1) := by decide +kernel
theorem d_M_putWord_22 : decode b_M_putWord 22 = .ok (.l2i, 1) := by decide +kernel
theorem d_M_putWord_23 : decode b_M_putWord 23 = .ok (.invokevirtual 340, 3) := by decide +kernel
theorem d_M_putWord_26 : decode b_M_putWord 26 = .ok (.iinc 4 (-1), 3) := by decide +kernel
theorem d_M_putWord_29 : decode b_M_putWord 29 = .ok (.goto (-24), 3) := by decide +kernel
theorem d_M_putWord_32 : decode b_M_putWord 32 = .ok (.return_, 1) := by decide +kernel
def w_M_putWord_L5  (v1 : Int64) (post : MPS → Prop) : Nat → Int32 → MPS → Prop
  | 0, _, _ => False
  | n + 1, v4, σ => ((v4 < 0 → post σ) ∧ (¬ v4 < 0 → w_M_put σ (((v1 >>> ((8 * v4).toInt64 &&& 63)) &&& 255).toInt32) (fun σ23 => w_M_putWord_L5 v1 post n (v4 + (-1)) σ23)))
def w_M_putWord  (σ : MPS) (x0 : Int64) (x1 : Int32) (post : MPS → Prop) : Prop := (∃ n, w_M_putWord_L5 x0 post n (x1 - 1) σ)
set_option maxHeartbeats 4000000 in
set_option maxRecDepth 100000 in
theorem c_M_putWord (l : Launch) (md : MD) (sz : Nat) (σ : MPS) (x0 : Int64) (x1 : Int32)  (post : MPS → Prop) (hE : w_M_putWord σ x0 x1 post) : Met l y_M_putWord ws_M_putWord { frames := 1, cells := 0, slots := 0, locals := 21 } (va_Pc [.ref (mA md 0), .long x0, .int x1] (gM md σ sz)) (va_Qv post (eM md (va_A (MW md σ) sz)) (va_A (MW md σ) sz)) 0 0 (va_A (MW md σ) sz) := by
  refine Met.ofW (cc := b_M_putWord) (maxL := 5) (ret := none) (by decide) rfl ?_
  intro p e s m args below meth c s₁ B hml hv
  obtain ⟨rfl, hsz, hP, hK, hD0⟩ := hv
  have hx := B.exec
  have hb := B.bytes
  have hr := B.returns
  have hta : ∀ w ∈ aW, w.before _ s = true := fun w h => atoms_spec (ws := ws_M_putWord) B.pre w (List.mem_cons_of_mem _ h)
  have hown : s.vm.findClass R_M = some m.cls := findClass_of_methodNamed B.named
  have hlocks := B.notSynchronized
  subst hsz
  have hD := hD0.self (sz := s.heap.size)
  generalize hAe : va_A (MW md σ) s.heap.size = A at hD ⊢
  have hA : ∀ q : Nat, s.heap.size ≤ q → A q := fun q h => by rw [← hAe]; exact Or.inr h
  have hS : va_S A s.heap s.heap [] := va_S.rf
  have hP : va_P (mG md) classes (MW md σ) s.heap := hP
  have hl := lv_entry ([.ref (mA md 0), .long x0, .int x1]) (n := 5) (Nat.le_of_ble_eq_true rfl)
  rw [lg_entry_eq]
  generalize (lg_sl ([.ref (mA md 0), .long x0, .int x1]) ++ List.replicate (5 - (lg_sl ([.ref (mA md 0), .long x0, .int x1])).length) Slot.unset).toArray = ls at hl ⊢
  have hl : lv_has ls 5 [(0, .ref (mA md 0)), (1, .long x0), (3, .int x1)] := hl
  have L5 : ∀ (v1 : Int64) (n : Nat) (v4 : Int32) (σ : MPS) (H : Heap) (locs : List Loc) (hP : va_P (mG md) classes (MW md σ) H) (hD : va_D A (MW md σ)) (hS : va_S A s.heap H locs) (ls : Array Slot) (hl : lv_has ls 5 [(0, .ref (mA md 0)), (1, .long v1), (4, .int v4)]) (hE : w_M_putWord_L5 v1 post n v4 σ), W p l e (headSpec ws_M_putWord { frames := 1, cells := 0, slots := 0, locals := 21 }).room s m ([.ref (mA md 0), .long x0, .int x1] : List Value).toArray below meth c H locs 0 0 (MQ below (va_Qv post (eM md A) A) ([.ref (mA md 0), .long x0, .int x1] : List Value).toArray s 0 0 A) (F0 m 5 ls []) := by
    intro v1 n
    induction n with
    | zero => intro v4 σ H locs hP hD hS ls hl hE; exact hE.elim
    | succ n ih5 =>
      intro v4 σ H locs hP hD hS ls hl hE
      unfold w_M_putWord_L5 at hE
      refine lv_iload hx hb d_M_putWord_5 (lv_at hl 2 rfl) ?_
      refine lv_if_lt (tgt := 32) hx hb d_M_putWord_7 (by decide) (fun cc7 => ?_) (fun cc7 => ?_)
      · have hE := hE.1 cc7
        exact W.vret hx hb hr (fun t ht hW => ⟨⟨σ, rfl, hE, by rw [ht]; exact hP, va_K.moved hW.alike hK, hD⟩, hS.F ht⟩) hS.2.2 d_M_putWord_32
      · have hE := hE.2 cc7
        refine lv_aload_n hx hb d_M_putWord_10 rfl (lv_at hl 0 rfl) ?_
        refine lv_lload_n hx hb d_M_putWord_11 rfl (lv_at hl 1 rfl) ?_
        refine lv_bipush (v := 8) hx hb d_M_putWord_12 (by decide) ?_
        refine lv_iload hx hb d_M_putWord_14 (lv_at hl 2 rfl) ?_
        refine lv_imul hx hb d_M_putWord_16 ?_
        refine lv_lshr hx hb d_M_putWord_17 rfl ?_
        refine lv_ldc2 hx hb hown (hta _ cl_M_99) d_M_putWord_18 ?_
        refine lv_land hx hb d_M_putWord_21 ?_
        refine lv_l2i hx hb d_M_putWord_22 rfl ?_
        refine mm_v (b0 := (mA md 0)) (As := [.int (((v1 >>> ((8 * v4).toInt64 &&& 63)) &&& 255).toInt32)]) (rest := []) ⟨hx, hb, hml, hown, hta⟩ (c_M_put l md _ σ (((v1 >>> ((8 * v4).toInt64 &&& 63)) &&& 255).toInt32) _ hE) ok_M_340 ⟨Nat.le_of_ble_eq_true rfl, Nat.le_of_ble_eq_true rfl⟩ (va_recv hK hP (ci := 7) (q0 := 0) rfl rfl) hP hK hD hS hA rfl hl.1 rfl (Nat.le_of_ble_eq_true rfl) d_M_putWord_23 ⟨Nat.zero_le _, Nat.zero_le _⟩ (fun σ23 H locs hE hP hD hS => ?_)
        refine lv_iinc (v := v4 + (-1)) (lv' := [(4, .int (v4 + (-1))), (0, .ref (mA md 0)), (1, .long v1)]) hx hb d_M_putWord_26 hl (k := 2) rfl rfl (by decide) rfl (fun ls hl => ?_)
        refine lv_goto (tgt := 5) hx hb d_M_putWord_29 (by decide) ?_
        exact ih5 (v4 + (-1)) σ23 _ _ hP hD hS _ (lv_sub hl [1, 2, 0] rfl) hE
  unfold w_M_putWord at hE
  refine lv_iload_n hx hb d_M_putWord_0 rfl (lv_at hl 2 rfl) ?_
  refine lv_iconst (v := 1) hx hb d_M_putWord_1 (by decide) ?_
  refine lv_isub hx hb d_M_putWord_2 ?_
  refine lv_istore (lv' := [(4, .int (x1 - 1)), (0, .ref (mA md 0)), (1, .long x0), (3, .int x1)]) hx hb d_M_putWord_3 hl (by decide) rfl (fun ls hl => ?_)
  obtain ⟨n, hE⟩ := hE
  exact L5 x0 n (x1 - 1) σ _ _ hP hD hS _ (lv_sub hl [1, 2, 0] rfl) hE
theorem ok_M_343 : okV "PlainPagesModel" 343 R_M y_M_putWord b_M_putWord 5 none 2 := ⟨aW_in 1291 (by decide +kernel) rfl, aW_in 1293 (by decide +kernel) rfl, aW_in 78 (by decide +kernel) rfl, aW_in 92 (by decide +kernel) rfl, cd_M_putWord, rfl, by decide +kernel, by decide +kernel, by decide +kernel⟩
theorem d_M_putCharacter_0 : decode b_M_putCharacter 0 = .ok (.iload_n 2, 1) := by decide +kernel
theorem d_M_putCharacter_1 : decode b_M_putCharacter 1 = .ok (.ifCond .eq 20, 3) := by decide +kernel
theorem d_M_putCharacter_4 : decode b_M_putCharacter 4 = .ok (.iload_n 1, 1) := by decide +kernel
theorem d_M_putCharacter_5 : decode b_M_putCharacter 5 = .ok (.bipush 38, 2) := by decide +kernel
theorem d_M_putCharacter_7 : decode b_M_putCharacter 7 = .ok (.if_icmp .ne 14, 3) := by decide +kernel
theorem d_M_putCharacter_10 : decode b_M_putCharacter 10 = .ok (.aload_n 0, 1) := by decide +kernel
theorem d_M_putCharacter_11 : decode b_M_putCharacter 11 = .ok (.ldc2_w 122, 3) := by decide +kernel
theorem d_M_putCharacter_14 : decode b_M_putCharacter 14 = .ok (.iconst 5, 1) := by decide +kernel
theorem d_M_putCharacter_15 : decode b_M_putCharacter 15 = .ok (.invokevirtual 343, 3) := by decide +kernel
theorem d_M_putCharacter_18 : decode b_M_putCharacter 18 = .ok (.goto 218, 3) := by decide +kernel
theorem d_M_putCharacter_21 : decode b_M_putCharacter 21 = .ok (.iload_n 2, 1) := by decide +kernel
theorem d_M_putCharacter_22 : decode b_M_putCharacter 22 = .ok (.ifCond .eq 20, 3) := by decide +kernel
theorem d_M_putCharacter_25 : decode b_M_putCharacter 25 = .ok (.iload_n 1, 1) := by decide +kernel
theorem d_M_putCharacter_26 : decode b_M_putCharacter 26 = .ok (.bipush 60, 2) := by decide +kernel
theorem d_M_putCharacter_28 : decode b_M_putCharacter 28 = .ok (.if_icmp .ne 14, 3) := by decide +kernel
theorem d_M_putCharacter_31 : decode b_M_putCharacter 31 = .ok (.aload_n 0, 1) := by decide +kernel
theorem d_M_putCharacter_32 : decode b_M_putCharacter 32 = .ok (.ldc2_w 128, 3) := by decide +kernel
theorem d_M_putCharacter_35 : decode b_M_putCharacter 35 = .ok (.iconst 4, 1) := by decide +kernel
theorem d_M_putCharacter_36 : decode b_M_putCharacter 36 = .ok (.invokevirtual 343, 3) := by decide +kernel
theorem d_M_putCharacter_39 : decode b_M_putCharacter 39 = .ok (.goto 197, 3) := by decide +kernel
theorem d_M_putCharacter_42 : decode b_M_putCharacter 42 = .ok (.iload_n 2, 1) := by decide +kernel
theorem d_M_putCharacter_43 : decode b_M_putCharacter 43 = .ok (.ifCond .eq 20, 3) := by decide +kernel
theorem d_M_putCharacter_46 : decode b_M_putCharacter 46 = .ok (.iload_n 1, 1) := by decide +kernel
theorem d_M_putCharacter_47 : decode b_M_putCharacter 47 = .ok (.bipush 62, 2) := by decide +kernel
theorem d_M_putCharacter_49 : decode b_M_putCharacter 49 = .ok (.if_icmp .ne 14, 3) := by decide +kernel
theorem d_M_putCharacter_52 : decode b_M_putCharacter 52 = .ok (.aload_n 0, 1) := by decide +kernel
theorem d_M_putCharacter_53 : decode b_M_putCharacter 53 = .ok (.ldc2_w 130, 3) := by decide +kernel
theorem d_M_putCharacter_56 : decode b_M_putCharacter 56 = .ok (.iconst 4, 1) := by decide +kernel
theorem d_M_putCharacter_57 : decode b_M_putCharacter 57 = .ok (.invokevirtual 343, 3) := by decide +kernel
theorem d_M_putCharacter_60 : decode b_M_putCharacter 60 = .ok (.goto 176, 3) := by decide +kernel
theorem d_M_putCharacter_63 : decode b_M_putCharacter 63 = .ok (.iload_n 2, 1) := by decide +kernel
theorem d_M_putCharacter_64 : decode b_M_putCharacter 64 = .ok (.ifCond .eq 21, 3) := by decide +kernel
theorem d_M_putCharacter_67 : decode b_M_putCharacter 67 = .ok (.iload_n 1, 1) := by decide +kernel
theorem d_M_putCharacter_68 : decode b_M_putCharacter 68 = .ok (.bipush 34, 2) := by decide +kernel
theorem d_M_putCharacter_70 : decode b_M_putCharacter 70 = .ok (.if_icmp .ne 15, 3) := by decide +kernel
theorem d_M_putCharacter_73 : decode b_M_putCharacter 73 = .ok (.aload_n 0, 1) := by decide +kernel
theorem d_M_putCharacter_74 : decode b_M_putCharacter 74 = .ok (.ldc2_w 132, 3) := by decide +kernel
theorem d_M_putCharacter_77 : decode b_M_putCharacter 77 = .ok (.bipush 6, 2) := by decide +kernel
theorem d_M_putCharacter_79 : decode b_M_putCharacter 79 = .ok (.invokevirtual 343, 3) := by decide +kernel
theorem d_M_putCharacter_82 : decode b_M_putCharacter 82 = .ok (.goto 154, 3) := by decide +kernel
theorem d_M_putCharacter_85 : decode b_M_putCharacter 85 = .ok (.iload_n 1, 1) := by decide +kernel
theorem d_M_putCharacter_86 : decode b_M_putCharacter 86 = .ok (.sipush 128, 3) := by decide +kernel
theorem d_M_putCharacter_89 : decode b_M_putCharacter 89 = .ok (.if_icmp .ge 11, 3) := by decide +kernel
theorem d_M_putCharacter_92 : decode b_M_putCharacter 92 = .ok (.aload_n 0, 1) := by decide +kernel
theorem d_M_putCharacter_93 : decode b_M_putCharacter 93 = .ok (.iload_n 1, 1) := by decide +kernel
theorem d_M_putCharacter_94 : decode b_M_putCharacter 94 = .ok (.invokevirtual 340, 3) := by decide +kernel
theorem d_M_putCharacter_97 : decode b_M_putCharacter 97 = .ok (.goto 139, 3) := by decide +kernel
theorem d_M_putCharacter_100 : decode b_M_putCharacter 100 = .ok (.iload_n 1, 1) := by decide +kernel
theorem d_M_putCharacter_101 : decode b_M_putCharacter 101 = .ok (.sipush 2048, 3) := by decide +kernel
theorem d_M_putCharacter_104 : decode b_M_putCharacter 104 = .ok (.if_icmp .ge 30, 3) := by decide +kernel
theorem d_M_putCharacter_107 : decode b_M_putCharacter 107 = .ok (.aload_n 0, 1) := by decide +kernel
theorem d_M_putCharacter_108 : decode b_M_putCharacter 108 = .ok (.sipush 192, 3) := by decide +kernel
theorem d_M_putCharacter_111 : decode b_M_putCharacter 111 = .ok (.iload_n 1, 1) := by decide +kernel
theorem d_M_putCharacter_112 : decode b_M_putCharacter 112 = .ok (.bipush 6, 2) := by decide +kernel
theorem d_M_putCharacter_114 : decode b_M_putCharacter 114 = .ok (.ishr, 1) := by decide +kernel
theorem d_M_putCharacter_115 : decode b_M_putCharacter 115 = .ok (.iadd, 1) := by decide +kernel
theorem d_M_putCharacter_116 : decode b_M_putCharacter 116 = .ok (.invokevirtual 340, 3) := by decide +kernel
theorem d_M_putCharacter_119 : decode b_M_putCharacter 119 = .ok (.aload_n 0, 1) := by decide +kernel
theorem d_M_putCharacter_120 : decode b_M_putCharacter 120 = .ok (.sipush 128, 3) := by decide +kernel
theorem d_M_putCharacter_123 : decode b_M_putCharacter 123 = .ok (.iload_n 1, 1) := by decide +kernel
theorem d_M_putCharacter_124 : decode b_M_putCharacter 124 = .ok (.bipush 63, 2) := by decide +kernel
theorem d_M_putCharacter_126 : decode b_M_putCharacter 126 = .ok (.iand, 1) := by decide +kernel
theorem d_M_putCharacter_127 : decode b_M_putCharacter 127 = .ok (.iadd, 1) := by decide +kernel
theorem d_M_putCharacter_128 : decode b_M_putCharacter 128 = .ok (.invokevirtual 340, 3) := by decide +kernel
theorem d_M_putCharacter_131 : decode b_M_putCharacter 131 = .ok (.goto 105, 3) := by decide +kernel
theorem d_M_putCharacter_134 : decode b_M_putCharacter 134 = .ok (.iload_n 1, 1) := by decide +kernel
theorem d_M_putCharacter_135 : decode b_M_putCharacter 135 = .ok (.ldc 79, 2) := by decide +kernel
theorem d_M_putCharacter_137 : decode b_M_putCharacter 137 = .ok (.if_icmp .ge 45, 3) := by decide +kernel
theorem d_M_putCharacter_140 : decode b_M_putCharacter 140 = .ok (.aload_n 0, 1) := by decide +kernel
theorem d_M_putCharacter_141 : decode b_M_putCharacter 141 = .ok (.sipush 224, 3) := by decide +kernel
theorem d_M_putCharacter_144 : decode b_M_putCharacter 144 = .ok (.iload_n 1, 1) := by decide +kernel
theorem d_M_putCharacter_145 : decode b_M_putCharacter 145 = .ok (.bipush 12, 2) := by decide +kernel
theorem d_M_putCharacter_147 : decode b_M_putCharacter 147 = .ok (.ishr, 1) := by decide +kernel
theorem d_M_putCharacter_148 : decode b_M_putCharacter 148 = .ok (.iadd, 1) := by decide +kernel
theorem d_M_putCharacter_149 : decode b_M_putCharacter 149 = .ok (.invokevirtual 340, 3) := by decide +kernel
theorem d_M_putCharacter_152 : decode b_M_putCharacter 152 = .ok (.aload_n 0, 1) := by decide +kernel
theorem d_M_putCharacter_153 : decode b_M_putCharacter 153 = .ok (.sipush 128, 3) := by decide +kernel
theorem d_M_putCharacter_156 : decode b_M_putCharacter 156 = .ok (.iload_n 1, 1) := by decide +kernel
theorem d_M_putCharacter_157 : decode b_M_putCharacter 157 = .ok (.bipush 6, 2) := by decide +kernel
theorem d_M_putCharacter_159 : decode b_M_putCharacter 159 = .ok (.ishr, 1) := by decide +kernel
theorem d_M_putCharacter_160 : decode b_M_putCharacter 160 = .ok (.bipush 63, 2) := by decide +kernel
theorem d_M_putCharacter_162 : decode b_M_putCharacter 162 = .ok (.iand, 1) := by decide +kernel
theorem d_M_putCharacter_163 : decode b_M_putCharacter 163 = .ok (.iadd, 1) := by decide +kernel
theorem d_M_putCharacter_164 : decode b_M_putCharacter 164 = .ok (.invokevirtual 340, 3) := by decide +kernel
theorem d_M_putCharacter_167 : decode b_M_putCharacter 167 = .ok (.aload_n 0, 1) := by decide +kernel
theorem d_M_putCharacter_168 : decode b_M_putCharacter 168 = .ok (.sipush 128, 3) := by decide +kernel
theorem d_M_putCharacter_171 : decode b_M_putCharacter 171 = .ok (.iload_n 1, 1) := by decide +kernel
theorem d_M_putCharacter_172 : decode b_M_putCharacter 172 = .ok (.bipush 63, 2) := by decide +kernel
theorem d_M_putCharacter_174 : decode b_M_putCharacter 174 = .ok (.iand, 1) := by decide +kernel
theorem d_M_putCharacter_175 : decode b_M_putCharacter 175 = .ok (.iadd, 1) := by decide +kernel
theorem d_M_putCharacter_176 : decode b_M_putCharacter 176 = .ok (.invokevirtual 340, 3) := by decide +kernel
theorem d_M_putCharacter_179 : decode b_M_putCharacter 179 = .ok (.goto 57, 3) := by decide +kernel
theorem d_M_putCharacter_182 : decode b_M_putCharacter 182 = .ok (.aload_n 0, 1) := by decide +kernel
theorem d_M_putCharacter_183 : decode b_M_putCharacter 183 = .ok (.sipush 240, 3) := by decide +kernel
theorem d_M_putCharacter_186 : decode b_M_putCharacter 186 = .ok (.iload_n 1, 1) := by decide +kernel
theorem d_M_putCharacter_187 : decode b_M_putCharacter 187 = .ok (.bipush 18, 2) := by decide +kernel
theorem d_M_putCharacter_189 : decode b_M_putCharacter 189 = .ok (.ishr, 1) := by decide +kernel
theorem d_M_putCharacter_190 : decode b_M_putCharacter 190 = .ok (.iadd, 1) := by decide +kernel
theorem d_M_putCharacter_191 : decode b_M_putCharacter 191 = .ok (.invokevirtual 340, 3) := by decide +kernel
theorem d_M_putCharacter_194 : decode b_M_putCharacter 194 = .ok (.aload_n 0, 1) := by decide +kernel
theorem d_M_putCharacter_195 : decode b_M_putCharacter 195 = .ok (.sipush 128, 3) := by decide +kernel
theorem d_M_putCharacter_198 : decode b_M_putCharacter 198 = .ok (.iload_n 1, 1) := by decide +kernel
theorem d_M_putCharacter_199 : decode b_M_putCharacter 199 = .ok (.bipush 12, 2) := by decide +kernel
theorem d_M_putCharacter_201 : decode b_M_putCharacter 201 = .ok (.ishr, 1) := by decide +kernel
theorem d_M_putCharacter_202 : decode b_M_putCharacter 202 = .ok (.bipush 63, 2) := by decide +kernel
theorem d_M_putCharacter_204 : decode b_M_putCharacter 204 = .ok (.iand, 1) := by decide +kernel
theorem d_M_putCharacter_205 : decode b_M_putCharacter 205 = .ok (.iadd, 1) := by decide +kernel
theorem d_M_putCharacter_206 : decode b_M_putCharacter 206 = .ok (.invokevirtual 340, 3) := by decide +kernel
theorem d_M_putCharacter_209 : decode b_M_putCharacter 209 = .ok (.aload_n 0, 1) := by decide +kernel
theorem d_M_putCharacter_210 : decode b_M_putCharacter 210 = .ok (.sipush 128, 3) := by decide +kernel
theorem d_M_putCharacter_213 : decode b_M_putCharacter 213 = .ok (.iload_n 1, 1) := by decide +kernel
theorem d_M_putCharacter_214 : decode b_M_putCharacter 214 = .ok (.bipush 6, 2) := by decide +kernel
theorem d_M_putCharacter_216 : decode b_M_putCharacter 216 = .ok (.ishr, 1) := by decide +kernel
theorem d_M_putCharacter_217 : decode b_M_putCharacter 217 = .ok (.bipush 63, 2) := by decide +kernel
theorem d_M_putCharacter_219 : decode b_M_putCharacter 219 = .ok (.iand, 1) := by decide +kernel
theorem d_M_putCharacter_220 : decode b_M_putCharacter 220 = .ok (.iadd, 1) := by decide +kernel
theorem d_M_putCharacter_221 : decode b_M_putCharacter 221 = .ok (.invokevirtual 340, 3) := by decide +kernel
theorem d_M_putCharacter_224 : decode b_M_putCharacter 224 = .ok (.aload_n 0, 1) := by decide +kernel
theorem d_M_putCharacter_225 : decode b_M_putCharacter 225 = .ok (.sipush 128, 3) := by decide +kernel
theorem d_M_putCharacter_228 : decode b_M_putCharacter 228 = .ok (.iload_n 1, 1) := by decide +kernel
theorem d_M_putCharacter_229 : decode b_M_putCharacter 229 = .ok (.bipush 63, 2) := by decide +kernel
theorem d_M_putCharacter_231 : decode b_M_putCharacter 231 = .ok (.iand, 1) := by decide +kernel
theorem d_M_putCharacter_232 : decode b_M_putCharacter 232 = .ok (.iadd, 1) := by decide +kernel
theorem d_M_putCharacter_233 : decode b_M_putCharacter 233 = .ok (.invokevirtual 340, 3) := by decide +kernel
theorem d_M_putCharacter_236 : decode b_M_putCharacter 236 = .ok (.return_, 1) := by decide +kernel
def w_M_putCharacter_J85   (post : MPS → Prop) (v1 : Int32) (σ : MPS) : Prop := ((128 ≤ v1 → ((2048 ≤ v1 → ((65536 ≤ v1 → w_M_put σ (240 + (v1 >>> (18 &&& 31))) (fun σ191 => w_M_put σ191 (128 + ((v1 >>> (12 &&& 31)) &&& 63)) (fun σ206 => w_M_put σ206 (128 + ((v1 >>> (6 &&& 31)) &&& 63)) (fun σ221 => w_M_put σ221 (128 + (v1 &&& 63)) (fun σ233 => post σ233))))) ∧ (¬ 65536 ≤ v1 → w_M_put σ (224 + (v1 >>> (12 &&& 31))) (fun σ149 => w_M_put σ149 (128 + ((v1 >>> (6 &&& 31)) &&& 63)) (fun σ164 => w_M_put σ164 (128 + (v1 &&& 63)) (fun σ176 => post σ176)))))) ∧ (¬ 2048 ≤ v1 → w_M_put σ (192 + (v1 >>> (6 &&& 31))) (fun σ116 => w_M_put σ116 (128 + (v1 &&& 63)) (fun σ128 => post σ128))))) ∧ (¬ 128 ≤ v1 → w_M_put σ v1 (fun σ94 => post σ94)))
def w_M_putCharacter_J63   (post : MPS → Prop) (v1 : Int32) (v2 : Int32) (σ : MPS) : Prop := ((v2 = 0 → w_M_putCharacter_J85 post v1 σ) ∧ (¬ v2 = 0 → ((v1 = 34 → w_M_putWord σ 42268743398459 6 (fun σ79 => post σ79)) ∧ (¬ v1 = 34 → w_M_putCharacter_J85 post v1 σ))))
def w_M_putCharacter_J42   (post : MPS → Prop) (v1 : Int32) (v2 : Int32) (σ : MPS) : Prop := ((v2 = 0 → w_M_putCharacter_J63 post v1 v2 σ) ∧ (¬ v2 = 0 → ((v1 = 62 → w_M_putWord σ 644314171 4 (fun σ57 => post σ57)) ∧ (¬ v1 = 62 → w_M_putCharacter_J63 post v1 v2 σ))))
def w_M_putCharacter_J21   (post : MPS → Prop) (v1 : Int32) (v2 : Int32) (σ : MPS) : Prop := ((v2 = 0 → w_M_putCharacter_J42 post v1 v2 σ) ∧ (¬ v2 = 0 → ((v1 = 60 → w_M_putWord σ 644641851 4 (fun σ36 => post σ36)) ∧ (¬ v1 = 60 → w_M_putCharacter_J42 post v1 v2 σ))))
def w_M_putCharacter  (σ : MPS) (x0 : Int32) (x1 : Int32) (post : MPS → Prop) : Prop := ((x1 = 0 → w_M_putCharacter_J21 post x0 x1 σ) ∧ (¬ x1 = 0 → ((x0 = 38 → w_M_putWord σ 164843319355 5 (fun σ15 => post σ15)) ∧ (¬ x0 = 38 → w_M_putCharacter_J21 post x0 x1 σ))))
set_option maxHeartbeats 4000000 in
set_option maxRecDepth 100000 in
theorem c_M_putCharacter (l : Launch) (md : MD) (sz : Nat) (σ : MPS) (x0 : Int32) (x1 : Int32)  (post : MPS → Prop) (hE : w_M_putCharacter σ x0 x1 post) : Met l y_M_putCharacter ws_M_putCharacter { frames := 2, cells := 0, slots := 0, locals := 45 } (va_Pc [.ref (mA md 0), .int x0, .int x1] (gM md σ sz)) (va_Qv post (eM md (va_A (MW md σ) sz)) (va_A (MW md σ) sz)) 0 0 (va_A (MW md σ) sz) := by
  refine Met.ofW (cc := b_M_putCharacter) (maxL := 3) (ret := none) (by decide) rfl ?_
  intro p e s m args below meth c s₁ B hml hv
  obtain ⟨rfl, hsz, hP, hK, hD0⟩ := hv
  have hx := B.exec
  have hb := B.bytes
  have hr := B.returns
  have hta : ∀ w ∈ aW, w.before _ s = true := fun w h => atoms_spec (ws := ws_M_putCharacter) B.pre w (List.mem_cons_of_mem _ h)
  have hown : s.vm.findClass R_M = some m.cls := findClass_of_methodNamed B.named
  have hlocks := B.notSynchronized
  subst hsz
  have hD := hD0.self (sz := s.heap.size)
  generalize hAe : va_A (MW md σ) s.heap.size = A at hD ⊢
  have hA : ∀ q : Nat, s.heap.size ≤ q → A q := fun q h => by rw [← hAe]; exact Or.inr h
  have hS : va_S A s.heap s.heap [] := va_S.rf
  have hP : va_P (mG md) classes (MW md σ) s.heap := hP
  have hl := lv_entry ([.ref (mA md 0), .int x0, .int x1]) (n := 3) (Nat.le_of_ble_eq_true rfl)
  rw [lg_entry_eq]
  generalize (lg_sl ([.ref (mA md 0), .int x0, .int x1]) ++ List.replicate (3 - (lg_sl ([.ref (mA md 0), .int x0, .int x1])).length) Slot.unset).toArray = ls at hl ⊢
  have hl : lv_has ls 3 [(0, .ref (mA md 0)), (1, .int x0), (2, .int x1)] := hl
  have J85 : ∀ (v1 : Int32) (σ : MPS) (H : Heap) (locs : List Loc) (hP : va_P (mG md) classes (MW md σ) H) (hD : va_D A (MW md σ)) (hS : va_S A s.heap H locs) (ls : Array Slot) (hl : lv_has ls 3 [(0, .ref (mA md 0)), (1, .int v1)]) (hE : w_M_putCharacter_J85 post v1 σ), W p l e (headSpec ws_M_putCharacter { frames := 2, cells := 0, slots := 0, locals := 45 }).room s m ([.ref (mA md 0), .int x0, .int x1] : List Value).toArray below meth c H locs 0 0 (MQ below (va_Qv post (eM md A) A) ([.ref (mA md 0), .int x0, .int x1] : List Value).toArray s 0 0 A) (F0 m 85 ls []) := by
    intro  v1 σ H locs hP hD hS ls hl hE
    unfold w_M_putCharacter_J85 at hE
    refine lv_iload_n hx hb d_M_putCharacter_85 rfl (lv_at hl 1 rfl) ?_
    refine lv_sipush (v := 128) hx hb d_M_putCharacter_86 (by decide) ?_
    refine lv_icmp_ge (tgt := 100) hx hb d_M_putCharacter_89 (by decide) (fun cc89 => ?_) (fun cc89 => ?_)
    · have hE := hE.1 cc89
      refine lv_iload_n hx hb d_M_putCharacter_100 rfl (lv_at hl 1 rfl) ?_
      refine lv_sipush (v := 2048) hx hb d_M_putCharacter_101 (by decide) ?_
      refine lv_icmp_ge (tgt := 134) hx hb d_M_putCharacter_104 (by decide) (fun cc104 => ?_) (fun cc104 => ?_)
      · have hE := hE.1 cc104
        refine lv_iload_n hx hb d_M_putCharacter_134 rfl (lv_at hl 1 rfl) ?_
        refine lv_ldc hx hb hown (hta _ ct_M_79) d_M_putCharacter_135 ?_
        refine lv_icmp_ge (tgt := 182) hx hb d_M_putCharacter_137 (by decide) (fun cc137 => ?_) (fun cc137 => ?_)
        · have hE := hE.1 cc137
          refine lv_aload_n hx hb d_M_putCharacter_182 rfl (lv_at hl 0 rfl) ?_
          refine lv_sipush (v := 240) hx hb d_M_putCharacter_183 (by decide) ?_
          refine lv_iload_n hx hb d_M_putCharacter_186 rfl (lv_at hl 1 rfl) ?_
          refine lv_bipush (v := 18) hx hb d_M_putCharacter_187 (by decide) ?_
          refine lv_ishr hx hb d_M_putCharacter_189 ?_
          refine lv_iadd hx hb d_M_putCharacter_190 ?_
          refine mm_v (b0 := (mA md 0)) (As := [.int (240 + (v1 >>> (18 &&& 31)))]) (rest := []) ⟨hx, hb, hml, hown, hta⟩ (c_M_put l md _ σ (240 + (v1 >>> (18 &&& 31))) _ hE) ok_M_340 ⟨Nat.le_of_ble_eq_true rfl, Nat.le_of_ble_eq_true rfl⟩ (va_recv hK hP (ci := 7) (q0 := 0) rfl rfl) hP hK hD hS hA rfl hl.1 rfl (Nat.le_of_ble_eq_true rfl) d_M_putCharacter_191 ⟨Nat.zero_le _, Nat.zero_le _⟩ (fun σ191 H locs hE hP hD hS => ?_)
          refine lv_aload_n hx hb d_M_putCharacter_194 rfl (lv_at hl 0 rfl) ?_
          refine lv_sipush (v := 128) hx hb d_M_putCharacter_195 (by decide) ?_
          refine lv_iload_n hx hb d_M_putCharacter_198 rfl (lv_at hl 1 rfl) ?_
          refine lv_bipush (v := 12) hx hb d_M_putCharacter_199 (by decide) ?_
          refine lv_ishr hx hb d_M_putCharacter_201 ?_
          refine lv_bipush (v := 63) hx hb d_M_putCharacter_202 (by decide) ?_
          refine lv_iand hx hb d_M_putCharacter_204 ?_
          refine lv_iadd hx hb d_M_putCharacter_205 ?_
          refine mm_v (b0 := (mA md 0)) (As := [.int (128 + ((v1 >>> (12 &&& 31)) &&& 63))]) (rest := []) ⟨hx, hb, hml, hown, hta⟩ (c_M_put l md _ σ191 (128 + ((v1 >>> (12 &&& 31)) &&& 63)) _ hE) ok_M_340 ⟨Nat.le_of_ble_eq_true rfl, Nat.le_of_ble_eq_true rfl⟩ (va_recv hK hP (ci := 7) (q0 := 0) rfl rfl) hP hK hD hS hA rfl hl.1 rfl (Nat.le_of_ble_eq_true rfl) d_M_putCharacter_206 ⟨Nat.zero_le _, Nat.zero_le _⟩ (fun σ206 H locs hE hP hD hS => ?_)
          refine lv_aload_n hx hb d_M_putCharacter_209 rfl (lv_at hl 0 rfl) ?_
          refine lv_sipush (v := 128) hx hb d_M_putCharacter_210 (by decide) ?_
          refine lv_iload_n hx hb d_M_putCharacter_213 rfl (lv_at hl 1 rfl) ?_
          refine lv_bipush (v := 6) hx hb d_M_putCharacter_214 (by decide) ?_
          refine lv_ishr hx hb d_M_putCharacter_216 ?_
          refine lv_bipush (v := 63) hx hb d_M_putCharacter_217 (by decide) ?_
          refine lv_iand hx hb d_M_putCharacter_219 ?_
          refine lv_iadd hx hb d_M_putCharacter_220 ?_
          refine mm_v (b0 := (mA md 0)) (As := [.int (128 + ((v1 >>> (6 &&& 31)) &&& 63))]) (rest := []) ⟨hx, hb, hml, hown, hta⟩ (c_M_put l md _ σ206 (128 + ((v1 >>> (6 &&& 31)) &&& 63)) _ hE) ok_M_340 ⟨Nat.le_of_ble_eq_true rfl, Nat.le_of_ble_eq_true rfl⟩ (va_recv hK hP (ci := 7) (q0 := 0) rfl rfl) hP hK hD hS hA rfl hl.1 rfl (Nat.le_of_ble_eq_true rfl) d_M_putCharacter_221 ⟨Nat.zero_le _, Nat.zero_le _⟩ (fun σ221 H locs hE hP hD hS => ?_)
          refine lv_aload_n hx hb d_M_putCharacter_224 rfl (lv_at hl 0 rfl) ?_
          refine lv_sipush (v := 128) hx hb d_M_putCharacter_225 (by decide) ?_
          refine lv_iload_n hx hb d_M_putCharacter_228 rfl (lv_at hl 1 rfl) ?_
          refine lv_bipush (v := 63) hx hb d_M_putCharacter_229 (by decide) ?_
          refine lv_iand hx hb d_M_putCharacter_231 ?_
          refine lv_iadd hx hb d_M_putCharacter_232 ?_
          refine mm_v (b0 := (mA md 0)) (As := [.int (128 + (v1 &&& 63))]) (rest := []) ⟨hx, hb, hml, hown, hta⟩ (c_M_put l md _ σ221 (128 + (v1 &&& 63)) _ hE) ok_M_340 ⟨Nat.le_of_ble_eq_true rfl, Nat.le_of_ble_eq_true rfl⟩ (va_recv hK hP (ci := 7) (q0 := 0) rfl rfl) hP hK hD hS hA rfl hl.1 rfl (Nat.le_of_ble_eq_true rfl) d_M_putCharacter_233 ⟨Nat.zero_le _, Nat.zero_le _⟩ (fun σ233 H locs hE hP hD hS => ?_)
          exact W.vret hx hb hr (fun t ht hW => ⟨⟨σ233, rfl, hE, by rw [ht]; exact hP, va_K.moved hW.alike hK, hD⟩, hS.F ht⟩) hS.2.2 d_M_putCharacter_236
        · have hE := hE.2 cc137
          refine lv_aload_n hx hb d_M_putCharacter_140 rfl (lv_at hl 0 rfl) ?_
          refine lv_sipush (v := 224) hx hb d_M_putCharacter_141 (by decide) ?_
          refine lv_iload_n hx hb d_M_putCharacter_144 rfl (lv_at hl 1 rfl) ?_
          refine lv_bipush (v := 12) hx hb d_M_putCharacter_145 (by decide) ?_
          refine lv_ishr hx hb d_M_putCharacter_147 ?_
          refine lv_iadd hx hb d_M_putCharacter_148 ?_
          refine mm_v (b0 := (mA md 0)) (As := [.int (224 + (v1 >>> (12 &&& 31)))]) (rest := []) ⟨hx, hb, hml, hown, hta⟩ (c_M_put l md _ σ (224 + (v1 >>> (12 &&& 31))) _ hE) ok_M_340 ⟨Nat.le_of_ble_eq_true rfl, Nat.le_of_ble_eq_true rfl⟩ (va_recv hK hP (ci := 7) (q0 := 0) rfl rfl) hP hK hD hS hA rfl hl.1 rfl (Nat.le_of_ble_eq_true rfl) d_M_putCharacter_149 ⟨Nat.zero_le _, Nat.zero_le _⟩ (fun σ149 H locs hE hP hD hS => ?_)
          refine lv_aload_n hx hb d_M_putCharacter_152 rfl (lv_at hl 0 rfl) ?_
          refine lv_sipush (v := 128) hx hb d_M_putCharacter_153 (by decide) ?_
          refine lv_iload_n hx hb d_M_putCharacter_156 rfl (lv_at hl 1 rfl) ?_
          refine lv_bipush (v := 6) hx hb d_M_putCharacter_157 (by decide) ?_
          refine lv_ishr hx hb d_M_putCharacter_159 ?_
          refine lv_bipush (v := 63) hx hb d_M_putCharacter_160 (by decide) ?_
          refine lv_iand hx hb d_M_putCharacter_162 ?_
          refine lv_iadd hx hb d_M_putCharacter_163 ?_
          refine mm_v (b0 := (mA md 0)) (As := [.int (128 + ((v1 >>> (6 &&& 31)) &&& 63))]) (rest := []) ⟨hx, hb, hml, hown, hta⟩ (c_M_put l md _ σ149 (128 + ((v1 >>> (6 &&& 31)) &&& 63)) _ hE) ok_M_340 ⟨Nat.le_of_ble_eq_true rfl, Nat.le_of_ble_eq_true rfl⟩ (va_recv hK hP (ci := 7) (q0 := 0) rfl rfl) hP hK hD hS hA rfl hl.1 rfl (Nat.le_of_ble_eq_true rfl) d_M_putCharacter_164 ⟨Nat.zero_le _, Nat.zero_le _⟩ (fun σ164 H locs hE hP hD hS => ?_)
          refine lv_aload_n hx hb d_M_putCharacter_167 rfl (lv_at hl 0 rfl) ?_
          refine lv_sipush (v := 128) hx hb d_M_putCharacter_168 (by decide) ?_
          refine lv_iload_n hx hb d_M_putCharacter_171 rfl (lv_at hl 1 rfl) ?_
          refine lv_bipush (v := 63) hx hb d_M_putCharacter_172 (by decide) ?_
          refine lv_iand hx hb d_M_putCharacter_174 ?_
          refine lv_iadd hx hb d_M_putCharacter_175 ?_
          refine mm_v (b0 := (mA md 0)) (As := [.int (128 + (v1 &&& 63))]) (rest := []) ⟨hx, hb, hml, hown, hta⟩ (c_M_put l md _ σ164 (128 + (v1 &&& 63)) _ hE) ok_M_340 ⟨Nat.le_of_ble_eq_true rfl, Nat.le_of_ble_eq_true rfl⟩ (va_recv hK hP (ci := 7) (q0 := 0) rfl rfl) hP hK hD hS hA rfl hl.1 rfl (Nat.le_of_ble_eq_true rfl) d_M_putCharacter_176 ⟨Nat.zero_le _, Nat.zero_le _⟩ (fun σ176 H locs hE hP hD hS => ?_)
          refine lv_goto (tgt := 236) hx hb d_M_putCharacter_179 (by decide) ?_
          exact W.vret hx hb hr (fun t ht hW => ⟨⟨σ176, rfl, hE, by rw [ht]; exact hP, va_K.moved hW.alike hK, hD⟩, hS.F ht⟩) hS.2.2 d_M_putCharacter_236
      · have hE := hE.2 cc104
        refine lv_aload_n hx hb d_M_putCharacter_107 rfl (lv_at hl 0 rfl) ?_
        refine lv_sipush (v := 192) hx hb d_M_putCharacter_108 (by decide) ?_
        refine lv_iload_n hx hb d_M_putCharacter_111 rfl (lv_at hl 1 rfl) ?_
        refine lv_bipush (v := 6) hx hb d_M_putCharacter_112 (by decide) ?_
        refine lv_ishr hx hb d_M_putCharacter_114 ?_
        refine lv_iadd hx hb d_M_putCharacter_115 ?_
        refine mm_v (b0 := (mA md 0)) (As := [.int (192 + (v1 >>> (6 &&& 31)))]) (rest := []) ⟨hx, hb, hml, hown, hta⟩ (c_M_put l md _ σ (192 + (v1 >>> (6 &&& 31))) _ hE) ok_M_340 ⟨Nat.le_of_ble_eq_true rfl, Nat.le_of_ble_eq_true rfl⟩ (va_recv hK hP (ci := 7) (q0 := 0) rfl rfl) hP hK hD hS hA rfl hl.1 rfl (Nat.le_of_ble_eq_true rfl) d_M_putCharacter_116 ⟨Nat.zero_le _, Nat.zero_le _⟩ (fun σ116 H locs hE hP hD hS => ?_)
        refine lv_aload_n hx hb d_M_putCharacter_119 rfl (lv_at hl 0 rfl) ?_
        refine lv_sipush (v := 128) hx hb d_M_putCharacter_120 (by decide) ?_
        refine lv_iload_n hx hb d_M_putCharacter_123 rfl (lv_at hl 1 rfl) ?_
        refine lv_bipush (v := 63) hx hb d_M_putCharacter_124 (by decide) ?_
        refine lv_iand hx hb d_M_putCharacter_126 ?_
        refine lv_iadd hx hb d_M_putCharacter_127 ?_
        refine mm_v (b0 := (mA md 0)) (As := [.int (128 + (v1 &&& 63))]) (rest := []) ⟨hx, hb, hml, hown, hta⟩ (c_M_put l md _ σ116 (128 + (v1 &&& 63)) _ hE) ok_M_340 ⟨Nat.le_of_ble_eq_true rfl, Nat.le_of_ble_eq_true rfl⟩ (va_recv hK hP (ci := 7) (q0 := 0) rfl rfl) hP hK hD hS hA rfl hl.1 rfl (Nat.le_of_ble_eq_true rfl) d_M_putCharacter_128 ⟨Nat.zero_le _, Nat.zero_le _⟩ (fun σ128 H locs hE hP hD hS => ?_)
        refine lv_goto (tgt := 236) hx hb d_M_putCharacter_131 (by decide) ?_
        exact W.vret hx hb hr (fun t ht hW => ⟨⟨σ128, rfl, hE, by rw [ht]; exact hP, va_K.moved hW.alike hK, hD⟩, hS.F ht⟩) hS.2.2 d_M_putCharacter_236
    · have hE := hE.2 cc89
      refine lv_aload_n hx hb d_M_putCharacter_92 rfl (lv_at hl 0 rfl) ?_
      refine lv_iload_n hx hb d_M_putCharacter_93 rfl (lv_at hl 1 rfl) ?_
      refine mm_v (b0 := (mA md 0)) (As := [.int v1]) (rest := []) ⟨hx, hb, hml, hown, hta⟩ (c_M_put l md _ σ v1 _ hE) ok_M_340 ⟨Nat.le_of_ble_eq_true rfl, Nat.le_of_ble_eq_true rfl⟩ (va_recv hK hP (ci := 7) (q0 := 0) rfl rfl) hP hK hD hS hA rfl hl.1 rfl (Nat.le_of_ble_eq_true rfl) d_M_putCharacter_94 ⟨Nat.zero_le _, Nat.zero_le _⟩ (fun σ94 H locs hE hP hD hS => ?_)
      refine lv_goto (tgt := 236) hx hb d_M_putCharacter_97 (by decide) ?_
      exact W.vret hx hb hr (fun t ht hW => ⟨⟨σ94, rfl, hE, by rw [ht]; exact hP, va_K.moved hW.alike hK, hD⟩, hS.F ht⟩) hS.2.2 d_M_putCharacter_236
  have J63 : ∀ (v1 : Int32) (v2 : Int32) (σ : MPS) (H : Heap) (locs : List Loc) (hP : va_P (mG md) classes (MW md σ) H) (hD : va_D A (MW md σ)) (hS : va_S A s.heap H locs) (ls : Array Slot) (hl : lv_has ls 3 [(0, .ref (mA md 0)), (1, .int v1), (2, .int v2)]) (hE : w_M_putCharacter_J63 post v1 v2 σ), W p l e (headSpec ws_M_putCharacter { frames := 2, cells := 0, slots := 0, locals := 45 }).room s m ([.ref (mA md 0), .int x0, .int x1] : List Value).toArray below meth c H locs 0 0 (MQ below (va_Qv post (eM md A) A) ([.ref (mA md 0), .int x0, .int x1] : List Value).toArray s 0 0 A) (F0 m 63 ls []) := by
    intro  v1 v2 σ H locs hP hD hS ls hl hE
    unfold w_M_putCharacter_J63 at hE
    refine lv_iload_n hx hb d_M_putCharacter_63 rfl (lv_at hl 2 rfl) ?_
    refine lv_if_eq (tgt := 85) hx hb d_M_putCharacter_64 (by decide) (fun cc64 => ?_) (fun cc64 => ?_)
    · have hE := hE.1 cc64
      exact J85  v1 σ _ _ hP hD hS _ (lv_sub hl [0, 1] rfl) hE
    · have hE := hE.2 cc64
      refine lv_iload_n hx hb d_M_putCharacter_67 rfl (lv_at hl 1 rfl) ?_
      refine lv_bipush (v := 34) hx hb d_M_putCharacter_68 (by decide) ?_
      refine lv_icmp_ne (tgt := 85) hx hb d_M_putCharacter_70 (by decide) (fun cc70 => ?_) (fun cc70 => ?_)
      · have hE := hE.2 cc70
        exact J85  v1 σ _ _ hP hD hS _ (lv_sub hl [0, 1] rfl) hE
      · have hE := hE.1 cc70
        refine lv_aload_n hx hb d_M_putCharacter_73 rfl (lv_at hl 0 rfl) ?_
        refine lv_ldc2 hx hb hown (hta _ cl_M_132) d_M_putCharacter_74 ?_
        refine lv_bipush (v := 6) hx hb d_M_putCharacter_77 (by decide) ?_
        refine mm_v (b0 := (mA md 0)) (As := [.long 42268743398459, .int 6]) (rest := []) ⟨hx, hb, hml, hown, hta⟩ (c_M_putWord l md _ σ 42268743398459 6 _ hE) ok_M_343 ⟨Nat.le_of_ble_eq_true rfl, Nat.le_of_ble_eq_true rfl⟩ (va_recv hK hP (ci := 7) (q0 := 0) rfl rfl) hP hK hD hS hA rfl hl.1 rfl (Nat.le_of_ble_eq_true rfl) d_M_putCharacter_79 ⟨Nat.zero_le _, Nat.zero_le _⟩ (fun σ79 H locs hE hP hD hS => ?_)
        refine lv_goto (tgt := 236) hx hb d_M_putCharacter_82 (by decide) ?_
        exact W.vret hx hb hr (fun t ht hW => ⟨⟨σ79, rfl, hE, by rw [ht]; exact hP, va_K.moved hW.alike hK, hD⟩, hS.F ht⟩) hS.2.2 d_M_putCharacter_236
  have J42 : ∀ (v1 : Int32) (v2 : Int32) (σ : MPS) (H : Heap) (locs : List Loc) (hP : va_P (mG md) classes (MW md σ) H) (hD : va_D A (MW md σ)) (hS : va_S A s.heap H locs) (ls : Array Slot) (hl : lv_has ls 3 [(0, .ref (mA md 0)), (1, .int v1), (2, .int v2)]) (hE : w_M_putCharacter_J42 post v1 v2 σ), W p l e (headSpec ws_M_putCharacter { frames := 2, cells := 0, slots := 0, locals := 45 }).room s m ([.ref (mA md 0), .int x0, .int x1] : List Value).toArray below meth c H locs 0 0 (MQ below (va_Qv post (eM md A) A) ([.ref (mA md 0), .int x0, .int x1] : List Value).toArray s 0 0 A) (F0 m 42 ls []) := by
    intro  v1 v2 σ H locs hP hD hS ls hl hE
    unfold w_M_putCharacter_J42 at hE
    refine lv_iload_n hx hb d_M_putCharacter_42 rfl (lv_at hl 2 rfl) ?_
    refine lv_if_eq (tgt := 63) hx hb d_M_putCharacter_43 (by decide) (fun cc43 => ?_) (fun cc43 => ?_)
    · have hE := hE.1 cc43
      exact J63  v1 v2 σ _ _ hP hD hS _ (lv_sub hl [0, 1, 2] rfl) hE
    · have hE := hE.2 cc43
      refine lv_iload_n hx hb d_M_putCharacter_46 rfl (lv_at hl 1 rfl) ?_
      refine lv_bipush (v := 62) hx hb d_M_putCharacter_47 (by decide) ?_
      refine lv_icmp_ne (tgt := 63) hx hb d_M_putCharacter_49 (by decide) (fun cc49 => ?_) (fun cc49 => ?_)
      · have hE := hE.2 cc49
        exact J63  v1 v2 σ _ _ hP hD hS _ (lv_sub hl [0, 1, 2] rfl) hE
      · have hE := hE.1 cc49
        refine lv_aload_n hx hb d_M_putCharacter_52 rfl (lv_at hl 0 rfl) ?_
        refine lv_ldc2 hx hb hown (hta _ cl_M_130) d_M_putCharacter_53 ?_
        refine lv_iconst (v := 4) hx hb d_M_putCharacter_56 (by decide) ?_
        refine mm_v (b0 := (mA md 0)) (As := [.long 644314171, .int 4]) (rest := []) ⟨hx, hb, hml, hown, hta⟩ (c_M_putWord l md _ σ 644314171 4 _ hE) ok_M_343 ⟨Nat.le_of_ble_eq_true rfl, Nat.le_of_ble_eq_true rfl⟩ (va_recv hK hP (ci := 7) (q0 := 0) rfl rfl) hP hK hD hS hA rfl hl.1 rfl (Nat.le_of_ble_eq_true rfl) d_M_putCharacter_57 ⟨Nat.zero_le _, Nat.zero_le _⟩ (fun σ57 H locs hE hP hD hS => ?_)
        refine lv_goto (tgt := 236) hx hb d_M_putCharacter_60 (by decide) ?_
        exact W.vret hx hb hr (fun t ht hW => ⟨⟨σ57, rfl, hE, by rw [ht]; exact hP, va_K.moved hW.alike hK, hD⟩, hS.F ht⟩) hS.2.2 d_M_putCharacter_236
  have J21 : ∀ (v1 : Int32) (v2 : Int32) (σ : MPS) (H : Heap) (locs : List Loc) (hP : va_P (mG md) classes (MW md σ) H) (hD : va_D A (MW md σ)) (hS : va_S A s.heap H locs) (ls : Array Slot) (hl : lv_has ls 3 [(0, .ref (mA md 0)), (1, .int v1), (2, .int v2)]) (hE : w_M_putCharacter_J21 post v1 v2 σ), W p l e (headSpec ws_M_putCharacter { frames := 2, cells := 0, slots := 0, locals := 45 }).room s m ([.ref (mA md 0), .int x0, .int x1] : List Value).toArray below meth c H locs 0 0 (MQ below (va_Qv post (eM md A) A) ([.ref (mA md 0), .int x0, .int x1] : List Value).toArray s 0 0 A) (F0 m 21 ls []) := by
    intro  v1 v2 σ H locs hP hD hS ls hl hE
    unfold w_M_putCharacter_J21 at hE
    refine lv_iload_n hx hb d_M_putCharacter_21 rfl (lv_at hl 2 rfl) ?_
    refine lv_if_eq (tgt := 42) hx hb d_M_putCharacter_22 (by decide) (fun cc22 => ?_) (fun cc22 => ?_)
    · have hE := hE.1 cc22
      exact J42  v1 v2 σ _ _ hP hD hS _ (lv_sub hl [0, 1, 2] rfl) hE
    · have hE := hE.2 cc22
      refine lv_iload_n hx hb d_M_putCharacter_25 rfl (lv_at hl 1 rfl) ?_
      refine lv_bipush (v := 60) hx hb d_M_putCharacter_26 (by decide) ?_
      refine lv_icmp_ne (tgt := 42) hx hb d_M_putCharacter_28 (by decide) (fun cc28 => ?_) (fun cc28 => ?_)
      · have hE := hE.2 cc28
        exact J42  v1 v2 σ _ _ hP hD hS _ (lv_sub hl [0, 1, 2] rfl) hE
      · have hE := hE.1 cc28
        refine lv_aload_n hx hb d_M_putCharacter_31 rfl (lv_at hl 0 rfl) ?_
        refine lv_ldc2 hx hb hown (hta _ cl_M_128) d_M_putCharacter_32 ?_
        refine lv_iconst (v := 4) hx hb d_M_putCharacter_35 (by decide) ?_
        refine mm_v (b0 := (mA md 0)) (As := [.long 644641851, .int 4]) (rest := []) ⟨hx, hb, hml, hown, hta⟩ (c_M_putWord l md _ σ 644641851 4 _ hE) ok_M_343 ⟨Nat.le_of_ble_eq_true rfl, Nat.le_of_ble_eq_true rfl⟩ (va_recv hK hP (ci := 7) (q0 := 0) rfl rfl) hP hK hD hS hA rfl hl.1 rfl (Nat.le_of_ble_eq_true rfl) d_M_putCharacter_36 ⟨Nat.zero_le _, Nat.zero_le _⟩ (fun σ36 H locs hE hP hD hS => ?_)
        refine lv_goto (tgt := 236) hx hb d_M_putCharacter_39 (by decide) ?_
        exact W.vret hx hb hr (fun t ht hW => ⟨⟨σ36, rfl, hE, by rw [ht]; exact hP, va_K.moved hW.alike hK, hD⟩, hS.F ht⟩) hS.2.2 d_M_putCharacter_236
  unfold w_M_putCharacter at hE
  refine lv_iload_n hx hb d_M_putCharacter_0 rfl (lv_at hl 2 rfl) ?_
  refine lv_if_eq (tgt := 21) hx hb d_M_putCharacter_1 (by decide) (fun cc1 => ?_) (fun cc1 => ?_)
  · have hE := hE.1 cc1
    exact J21  x0 x1 σ _ _ hP hD hS _ (lv_sub hl [0, 1, 2] rfl) hE
  · have hE := hE.2 cc1
    refine lv_iload_n hx hb d_M_putCharacter_4 rfl (lv_at hl 1 rfl) ?_
    refine lv_bipush (v := 38) hx hb d_M_putCharacter_5 (by decide) ?_
    refine lv_icmp_ne (tgt := 21) hx hb d_M_putCharacter_7 (by decide) (fun cc7 => ?_) (fun cc7 => ?_)
    · have hE := hE.2 cc7
      exact J21  x0 x1 σ _ _ hP hD hS _ (lv_sub hl [0, 1, 2] rfl) hE
    · have hE := hE.1 cc7
      refine lv_aload_n hx hb d_M_putCharacter_10 rfl (lv_at hl 0 rfl) ?_
      refine lv_ldc2 hx hb hown (hta _ cl_M_122) d_M_putCharacter_11 ?_
      refine lv_iconst (v := 5) hx hb d_M_putCharacter_14 (by decide) ?_
      refine mm_v (b0 := (mA md 0)) (As := [.long 164843319355, .int 5]) (rest := []) ⟨hx, hb, hml, hown, hta⟩ (c_M_putWord l md _ σ 164843319355 5 _ hE) ok_M_343 ⟨Nat.le_of_ble_eq_true rfl, Nat.le_of_ble_eq_true rfl⟩ (va_recv hK hP (ci := 7) (q0 := 0) rfl rfl) hP hK hD hS hA rfl hl.1 rfl (Nat.le_of_ble_eq_true rfl) d_M_putCharacter_15 ⟨Nat.zero_le _, Nat.zero_le _⟩ (fun σ15 H locs hE hP hD hS => ?_)
      refine lv_goto (tgt := 236) hx hb d_M_putCharacter_18 (by decide) ?_
      exact W.vret hx hb hr (fun t ht hW => ⟨⟨σ15, rfl, hE, by rw [ht]; exact hP, va_K.moved hW.alike hK, hD⟩, hS.F ht⟩) hS.2.2 d_M_putCharacter_236
theorem ok_M_347 : okV "PlainPagesModel" 347 R_M y_M_putCharacter b_M_putCharacter 3 none 2 := ⟨aW_in 1287 (by decide +kernel) rfl, aW_in 1289 (by decide +kernel) rfl, aW_in 77 (by decide +kernel) rfl, aW_in 92 (by decide +kernel) rfl, cd_M_putCharacter, rfl, by decide +kernel, by decide +kernel, by decide +kernel⟩
theorem d_M_putRow_0 : decode b_M_putRow 0 = .ok (.iload_n 1, 1) := by decide +kernel
theorem d_M_putRow_1 : decode b_M_putRow 1 = .ok (.istore 4, 2) := by decide +kernel
theorem d_M_putRow_3 : decode b_M_putRow 3 = .ok (.iload 4, 2) := by decide +kernel
theorem d_M_putRow_5 : decode b_M_putRow 5 = .ok (.iload_n 2, 1) := by decide +kernel
theorem d_M_putRow_6 : decode b_M_putRow 6 = .ok (.if_icmp .ge 26, 3) := by decide +kernel
theorem d_M_putRow_9 : decode b_M_putRow 9 = .ok (.aload_n 0, 1) := by decide +kernel
theorem d_M_putRow_10 : decode b_M_putRow 10 = .ok (.aload_n 0, 1) := by decide +kernel
theorem d_M_putRow_11 : decode b_M_putRow 11 = .ok (.iload 4, 2) := by decide +kernel
theorem d_M_putRow_13 : decode b_M_putRow 13 = .ok (.invokevirtual 139, 3) := by decide +kernel
theorem d_M_putRow_16 : decode b_M_putRow 16 = .ok (.iload_n 3, 1) := by decide +kernel
theorem d_M_putRow_17 : decode b_M_putRow 17 = .ok (.invokevirtual 347, 3) := by decide +kernel
theorem d_M_putRow_20 : decode b_M_putRow 20 = .ok (.iload 4, 2) := by decide +kernel
theorem d_M_putRow_22 : decode b_M_putRow 22 = .ok (.aload_n 0, 1) := by decide +kernel
theorem d_M_putRow_23 : decode b_M_putRow 23 = .ok (.getfield 76, 3) := by decide +kernel
theorem d_M_putRow_26 : decode b_M_putRow 26 = .ok (.iadd, 1) := by decide +kernel
theorem d_M_putRow_27 : decode b_M_putRow 27 = .ok (.istore 4, 2) := by decide +kernel
theorem d_M_putRow_29 : decode b_M_putRow 29 = .ok (.goto (-26), 3) := by decide +kernel
theorem d_M_putRow_32 : decode b_M_putRow 32 = .ok (.return_, 1) := by decide +kernel
def w_M_putRow_L3  (v2 : Int32) (v3 : Int32) (post : MPS → Prop) : Nat → Int32 → MPS → Prop
  | 0, _, _ => False
  | n + 1, v4, σ => ((v2 ≤ v4 → post σ) ∧ (¬ v2 ≤ v4 → w_M_characterOf σ v4 (fun r13 σ13 => w_M_putCharacter σ13 r13 v3 (fun σ17 => w_M_putRow_L3 v2 v3 post n (v4 + (mp_width σ17)) σ17))))
def w_M_putRow  (σ : MPS) (x0 : Int32) (x1 : Int32) (x2 : Int32) (post : MPS → Prop) : Prop := (∃ n, w_M_putRow_L3 x1 x2 post n x0 σ)
set_option maxHeartbeats 4000000 in
set_option maxRecDepth 100000 in
theorem c_M_putRow (l : Launch) (md : MD) (sz : Nat) (σ : MPS) (x0 : Int32) (x1 : Int32) (x2 : Int32)  (post : MPS → Prop) (hE : w_M_putRow σ x0 x1 x2 post) : Met l y_M_putRow ws_M_putRow { frames := 3, cells := 0, slots := 0, locals := 73 } (va_Pc [.ref (mA md 0), .int x0, .int x1, .int x2] (gM md σ sz)) (va_Qv post (eM md (va_A (MW md σ) sz)) (va_A (MW md σ) sz)) 0 0 (va_A (MW md σ) sz) := by
  refine Met.ofW (cc := b_M_putRow) (maxL := 5) (ret := none) (by decide) rfl ?_
  intro p e s m args below meth c s₁ B hml hv
  obtain ⟨rfl, hsz, hP, hK, hD0⟩ := hv
  have hx := B.exec
  have hb := B.bytes
  have hr := B.returns
  have hta : ∀ w ∈ aW, w.before _ s = true := fun w h => atoms_spec (ws := ws_M_putRow) B.pre w (List.mem_cons_of_mem _ h)
  have hown : s.vm.findClass R_M = some m.cls := findClass_of_methodNamed B.named
  have hlocks := B.notSynchronized
  subst hsz
  have hD := hD0.self (sz := s.heap.size)
  generalize hAe : va_A (MW md σ) s.heap.size = A at hD ⊢
  have hA : ∀ q : Nat, s.heap.size ≤ q → A q := fun q h => by rw [← hAe]; exact Or.inr h
  have hS : va_S A s.heap s.heap [] := va_S.rf
  have hP : va_P (mG md) classes (MW md σ) s.heap := hP
  have hl := lv_entry ([.ref (mA md 0), .int x0, .int x1, .int x2]) (n := 5) (Nat.le_of_ble_eq_true rfl)
  rw [lg_entry_eq]
  generalize (lg_sl ([.ref (mA md 0), .int x0, .int x1, .int x2]) ++ List.replicate (5 - (lg_sl ([.ref (mA md 0), .int x0, .int x1, .int x2])).length) Slot.unset).toArray = ls at hl ⊢
  have hl : lv_has ls 5 [(0, .ref (mA md 0)), (1, .int x0), (2, .int x1), (3, .int x2)] := hl
  have L3 : ∀ (v2 : Int32) (v3 : Int32) (n : Nat) (v4 : Int32) (σ : MPS) (H : Heap) (locs : List Loc) (hP : va_P (mG md) classes (MW md σ) H) (hD : va_D A (MW md σ)) (hS : va_S A s.heap H locs) (ls : Array Slot) (hl : lv_has ls 5 [(0, .ref (mA md 0)), (2, .int v2), (3, .int v3), (4, .int v4)]) (hE : w_M_putRow_L3 v2 v3 post n v4 σ), W p l e (headSpec ws_M_putRow { frames := 3, cells := 0, slots := 0, locals := 73 }).room s m ([.ref (mA md 0), .int x0, .int x1, .int x2] : List Value).toArray below meth c H locs 0 0 (MQ below (va_Qv post (eM md A) A) ([.ref (mA md 0), .int x0, .int x1, .int x2] : List Value).toArray s 0 0 A) (F0 m 3 ls []) := by
    intro v2 v3 n
    induction n with
    | zero => intro v4 σ H locs hP hD hS ls hl hE; exact hE.elim
    | succ n ih3 =>
      intro v4 σ H locs hP hD hS ls hl hE
      unfold w_M_putRow_L3 at hE
      refine lv_iload hx hb d_M_putRow_3 (lv_at hl 3 rfl) ?_
      refine lv_iload_n hx hb d_M_putRow_5 rfl (lv_at hl 1 rfl) ?_
      refine lv_icmp_ge (tgt := 32) hx hb d_M_putRow_6 (by decide) (fun cc6 => ?_) (fun cc6 => ?_)
      · have hE := hE.1 cc6
        exact W.vret hx hb hr (fun t ht hW => ⟨⟨σ, rfl, hE, by rw [ht]; exact hP, va_K.moved hW.alike hK, hD⟩, hS.F ht⟩) hS.2.2 d_M_putRow_32
      · have hE := hE.2 cc6
        refine lv_aload_n hx hb d_M_putRow_9 rfl (lv_at hl 0 rfl) ?_
        refine lv_aload_n hx hb d_M_putRow_10 rfl (lv_at hl 0 rfl) ?_
        refine lv_iload hx hb d_M_putRow_11 (lv_at hl 3 rfl) ?_
        refine mm_i (b0 := (mA md 0)) (As := [.int v4]) (rest := [.ref (mA md 0)]) ⟨hx, hb, hml, hown, hta⟩ (c_M_characterOf l md _ σ v4 _ hE) ok_M_139 ⟨Nat.le_of_ble_eq_true rfl, Nat.le_of_ble_eq_true rfl⟩ (va_recv hK hP (ci := 7) (q0 := 0) rfl rfl) hP hK hD hS hA rfl hl.1 rfl (Nat.le_of_ble_eq_true rfl) d_M_putRow_13 ⟨Nat.zero_le _, Nat.zero_le _⟩ (fun r13 σ13 H locs hE hP hD hS => ?_)
        refine lv_iload_n hx hb d_M_putRow_16 rfl (lv_at hl 2 rfl) ?_
        refine mm_v (b0 := (mA md 0)) (As := [.int r13, .int v3]) (rest := []) ⟨hx, hb, hml, hown, hta⟩ (c_M_putCharacter l md _ σ13 r13 v3 _ hE) ok_M_347 ⟨Nat.le_of_ble_eq_true rfl, Nat.le_of_ble_eq_true rfl⟩ (va_recv hK hP (ci := 7) (q0 := 0) rfl rfl) hP hK hD hS hA rfl hl.1 rfl (Nat.le_of_ble_eq_true rfl) d_M_putRow_17 ⟨Nat.zero_le _, Nat.zero_le _⟩ (fun σ17 H locs hE hP hD hS => ?_)
        refine lv_iload hx hb d_M_putRow_20 (lv_at hl 3 rfl) ?_
        refine lv_aload_n hx hb d_M_putRow_22 rfl (lv_at hl 0 rfl) ?_
        refine va_get (D := (mG md)) (ci := 7) (v := .int (mp_width σ17)) (C := R_M) (T := F_M) (N := 37) hx hb hta i_M hown hK hP 0 rfl rfl 12 (by decide) (hta _ fl_M_76) (fun _ h9 => h9) rfl d_M_putRow_23 ?_
        refine lv_iadd hx hb d_M_putRow_26 ?_
        refine lv_istore (lv' := [(4, .int (v4 + (mp_width σ17))), (0, .ref (mA md 0)), (2, .int v2), (3, .int v3)]) hx hb d_M_putRow_27 hl (by decide) rfl (fun ls hl => ?_)
        refine lv_goto (tgt := 3) hx hb d_M_putRow_29 (by decide) ?_
        exact ih3 (v4 + (mp_width σ17)) σ17 _ _ hP hD hS _ (lv_sub hl [1, 2, 3, 0] rfl) hE
  unfold w_M_putRow at hE
  refine lv_iload_n hx hb d_M_putRow_0 rfl (lv_at hl 1 rfl) ?_
  refine lv_istore (lv' := [(4, .int x0), (0, .ref (mA md 0)), (1, .int x0), (2, .int x1), (3, .int x2)]) hx hb d_M_putRow_1 hl (by decide) rfl (fun ls hl => ?_)
  obtain ⟨n, hE⟩ := hE
  exact L3 x1 x2 n x0 σ _ _ hP hD hS _ (lv_sub hl [1, 3, 4, 0] rfl) hE
theorem ok_M_351 : okV "PlainPagesModel" 351 R_M y_M_lastIn b_M_lastIn 3 (some .int) 1 := ⟨aW_in 1279 (by decide +kernel) rfl, aW_in 1281 (by decide +kernel) rfl, aW_in 75 (by decide +kernel) rfl, aW_in 92 (by decide +kernel) rfl, cd_M_lastIn, rfl, by decide +kernel, by decide +kernel, by decide +kernel⟩
theorem ok_M_354 : okV "PlainPagesModel" 354 R_M y_M_putRow b_M_putRow 5 none 3 := ⟨aW_in 1283 (by decide +kernel) rfl, aW_in 1285 (by decide +kernel) rfl, aW_in 76 (by decide +kernel) rfl, aW_in 92 (by decide +kernel) rfl, cd_M_putRow, rfl, by decide +kernel, by decide +kernel, by decide +kernel⟩
theorem d_M_plain_0 : decode b_M_plain 0 = .ok (.aload_n 0, 1) := by decide +kernel
theorem d_M_plain_1 : decode b_M_plain 1 = .ok (.aload_n 0, 1) := by decide +kernel
theorem d_M_plain_2 : decode b_M_plain 2 = .ok (.iload_n 1, 1) := by decide +kernel
theorem d_M_plain_3 : decode b_M_plain 3 = .ok (.invokevirtual 323, 3) := by decide +kernel
theorem d_M_plain_6 : decode b_M_plain 6 = .ok (.ifCond .eq 7, 3) := by decide +kernel
theorem d_M_plain_9 : decode b_M_plain 9 = .ok (.iconst 0, 1) := by decide +kernel
theorem d_M_plain_10 : decode b_M_plain 10 = .ok (.goto 4, 3) := by decide +kernel
theorem d_M_plain_13 : decode b_M_plain 13 = .ok (.iconst 1, 1) := by decide +kernel
theorem d_M_plain_14 : decode b_M_plain 14 = .ok (.putfield 70, 3) := by decide +kernel
theorem d_M_plain_17 : decode b_M_plain 17 = .ok (.aload_n 0, 1) := by decide +kernel
theorem d_M_plain_18 : decode b_M_plain 18 = .ok (.getfield 70, 3) := by decide +kernel
theorem d_M_plain_21 : decode b_M_plain 21 = .ok (.ifCond .le 5, 3) := by decide +kernel
theorem d_M_plain_24 : decode b_M_plain 24 = .ok (.iconst 0, 1) := by decide +kernel
theorem d_M_plain_25 : decode b_M_plain 25 = .ok (.ireturn, 1) := by decide +kernel
theorem d_M_plain_26 : decode b_M_plain 26 = .ok (.aload_n 0, 1) := by decide +kernel
theorem d_M_plain_27 : decode b_M_plain 27 = .ok (.iconst 0, 1) := by decide +kernel
theorem d_M_plain_28 : decode b_M_plain 28 = .ok (.putfield 337, 3) := by decide +kernel
theorem d_M_plain_31 : decode b_M_plain 31 = .ok (.aload_n 0, 1) := by decide +kernel
theorem d_M_plain_32 : decode b_M_plain 32 = .ok (.iload_n 1, 1) := by decide +kernel
theorem d_M_plain_33 : decode b_M_plain 33 = .ok (.invokevirtual 351, 3) := by decide +kernel
theorem d_M_plain_36 : decode b_M_plain 36 = .ok (.istore_n 2, 1) := by decide +kernel
theorem d_M_plain_37 : decode b_M_plain 37 = .ok (.iload_n 1, 1) := by decide +kernel
theorem d_M_plain_38 : decode b_M_plain 38 = .ok (.istore_n 3, 1) := by decide +kernel
theorem d_M_plain_39 : decode b_M_plain 39 = .ok (.iload_n 3, 1) := by decide +kernel
theorem d_M_plain_40 : decode b_M_plain 40 = .ok (.iload_n 2, 1) := by decide +kernel
theorem d_M_plain_41 : decode b_M_plain 41 = .ok (.if_icmp .gt 119, 3) := by decide +kernel
theorem d_M_plain_44 : decode b_M_plain 44 = .ok (.aload_n 0, 1) := by decide +kernel
theorem d_M_plain_45 : decode b_M_plain 45 = .ok (.iload_n 3, 1) := by decide +kernel
theorem d_M_plain_46 : decode b_M_plain 46 = .ok (.ldc2_w 259, 3) := by decide +kernel
theorem d_M_plain_49 : decode b_M_plain 49 = .ok (.iconst 2, 1) := by decide +kernel
theorem d_M_plain_50 : decode b_M_plain 50 = .ok (.invokevirtual 230, 3) := by decide +kernel
theorem d_M_plain_53 : decode b_M_plain 53 = .ok (.istore 4, 2) := by decide +kernel
theorem d_M_plain_55 : decode b_M_plain 55 = .ok (.aload_n 0, 1) := by decide +kernel
theorem d_M_plain_56 : decode b_M_plain 56 = .ok (.iload_n 3, 1) := by decide +kernel
theorem d_M_plain_57 : decode b_M_plain 57 = .ok (.ldc2_w 261, 3) := by decide +kernel
theorem d_M_plain_60 : decode b_M_plain 60 = .ok (.iconst 3, 1) := by decide +kernel
theorem d_M_plain_61 : decode b_M_plain 61 = .ok (.invokevirtual 230, 3) := by decide +kernel
theorem d_M_plain_64 : decode b_M_plain 64 = .ok (.istore 5, 2) := by decide +kernel
theorem d_M_plain_66 : decode b_M_plain 66 = .ok (.aload_n 0, 1) := by decide +kernel
theorem d_M_plain_67 : decode b_M_plain 67 = .ok (.getfield 36, 3) := by decide +kernel
theorem d_M_plain_70 : decode b_M_plain 70 = .ok (.iload_n 3, 1) := by decide +kernel
theorem d_M_plain_71 : decode b_M_plain 71 = .ok (.baload, 1) := by decide +kernel
theorem d_M_plain_72 : decode b_M_plain 72 = .ok (.ifCond .ne 20, 3) := by decide +kernel
theorem d_M_plain_75 : decode b_M_plain 75 = .ok (.aload_n 0, 1) := by decide +kernel
theorem d_M_plain_76 : decode b_M_plain 76 = .ok (.aload_n 0, 1) := by decide +kernel
theorem d_M_plain_77 : decode b_M_plain 77 = .ok (.getfield 40, 3) := by decide +kernel
theorem d_M_plain_80 : decode b_M_plain 80 = .ok (.iload_n 3, 1) := by decide +kernel
theorem d_M_plain_81 : decode b_M_plain 81 = .ok (.iaload, 1) := by decide +kernel
theorem d_M_plain_82 : decode b_M_plain 82 = .ok (.aload_n 0, 1) := by decide +kernel
theorem d_M_plain_83 : decode b_M_plain 83 = .ok (.getfield 43, 3) := by decide +kernel
theorem d_M_plain_86 : decode b_M_plain 86 = .ok (.iload_n 3, 1) := by decide +kernel
theorem d_M_plain_87 : decode b_M_plain 87 = .ok (.iaload, 1) := by decide +kernel
theorem d_M_plain_88 : decode b_M_plain 88 = .ok (.iconst 0, 1) := by decide +kernel
theorem d_M_plain_89 : decode b_M_plain 89 = .ok (.invokevirtual 354, 3) := by decide +kernel
theorem d_M_plain_92 : decode b_M_plain 92 = .ok (.iload 4, 2) := by decide +kernel
theorem d_M_plain_94 : decode b_M_plain 94 = .ok (.ifCond .eq 9, 3) := by decide +kernel
theorem d_M_plain_97 : decode b_M_plain 97 = .ok (.aload_n 0, 1) := by decide +kernel
theorem d_M_plain_98 : decode b_M_plain 98 = .ok (.bipush 10, 2) := by decide +kernel
theorem d_M_plain_100 : decode b_M_plain 100 = .ok (.invokevirtual 340, 3) := by decide +kernel
theorem d_M_plain_103 : decode b_M_plain 103 = .ok (.iload 5, 2) := by decide +kernel
theorem d_M_plain_105 : decode b_M_plain 105 = .ok (.ifCond .eq 28, 3) := by decide +kernel
theorem d_M_plain_108 : decode b_M_plain 108 = .ok (.aload_n 0, 1) := by decide +kernel
theorem d_M_plain_109 : decode b_M_plain 109 = .ok (.iload_n 3, 1) := by decide +kernel
theorem d_M_plain_110 : decode b_M_plain 110 = .ok (.ldc2_w 293, 3) := by decide +kernel
theorem d_M_plain_113 : decode b_M_plain 113 = .ok (.iconst 3, 1) := by decide +kernel
theorem d_M_plain_114 : decode b_M_plain 114 = .ok (.invokevirtual 274, 3) := by decide +kernel
theorem d_M_plain_117 : decode b_M_plain 117 = .ok (.ifCond .eq 16, 3) := by decide +kernel
theorem d_M_plain_120 : decode b_M_plain 120 = .ok (.aload_n 0, 1) := by decide +kernel
theorem d_M_plain_121 : decode b_M_plain 121 = .ok (.aload_n 0, 1) := by decide +kernel
theorem d_M_plain_122 : decode b_M_plain 122 = .ok (.getfield 148, 3) := by decide +kernel
theorem d_M_plain_125 : decode b_M_plain 125 = .ok (.aload_n 0, 1) := by decide +kernel
theorem d_M_plain_126 : decode b_M_plain 126 = .ok (.getfield 151, 3) := by decide +kernel
theorem d_M_plain_129 : decode b_M_plain 129 = .ok (.iconst 0, 1) := by decide +kernel
theorem d_M_plain_130 : decode b_M_plain 130 = .ok (.invokevirtual 354, 3) := by decide +kernel
theorem d_M_plain_133 : decode b_M_plain 133 = .ok (.iload 4, 2) := by decide +kernel
theorem d_M_plain_135 : decode b_M_plain 135 = .ok (.ifCond .ne 8, 3) := by decide +kernel
theorem d_M_plain_138 : decode b_M_plain 138 = .ok (.iload 5, 2) := by decide +kernel
theorem d_M_plain_140 : decode b_M_plain 140 = .ok (.ifCond .eq 13, 3) := by decide +kernel
theorem d_M_plain_143 : decode b_M_plain 143 = .ok (.aload_n 0, 1) := by decide +kernel
theorem d_M_plain_144 : decode b_M_plain 144 = .ok (.iload_n 3, 1) := by decide +kernel
theorem d_M_plain_145 : decode b_M_plain 145 = .ok (.invokevirtual 351, 3) := by decide +kernel
theorem d_M_plain_148 : decode b_M_plain 148 = .ok (.iconst 1, 1) := by decide +kernel
theorem d_M_plain_149 : decode b_M_plain 149 = .ok (.iadd, 1) := by decide +kernel
theorem d_M_plain_150 : decode b_M_plain 150 = .ok (.goto 6, 3) := by decide +kernel
theorem d_M_plain_153 : decode b_M_plain 153 = .ok (.iload_n 3, 1) := by decide +kernel
theorem d_M_plain_154 : decode b_M_plain 154 = .ok (.iconst 1, 1) := by decide +kernel
theorem d_M_plain_155 : decode b_M_plain 155 = .ok (.iadd, 1) := by decide +kernel
theorem d_M_plain_156 : decode b_M_plain 156 = .ok (.istore_n 3, 1) := by decide +kernel
theorem d_M_plain_157 : decode b_M_plain 157 = .ok (.goto (-118), 3) := by decide +kernel
theorem d_M_plain_160 : decode b_M_plain 160 = .ok (.aload_n 0, 1) := by decide +kernel
theorem d_M_plain_161 : decode b_M_plain 161 = .ok (.getfield 337, 3) := by decide +kernel
theorem d_M_plain_164 : decode b_M_plain 164 = .ok (.ireturn, 1) := by decide +kernel
def w_M_plain_J156  (v2 : Int32) (K : Int32 → MPS → Prop) (post : Int32 → MPS → Prop) (t0 : Int32) (σ : MPS) : Prop := K t0 σ
def w_M_plain_J143  (v2 : Int32) (K : Int32 → MPS → Prop) (post : Int32 → MPS → Prop) (v3 : Int32) (σ : MPS) : Prop := w_M_lastIn σ v3 (fun r145 => w_M_plain_J156 v2 (K) post (r145 + 1) σ)
def w_M_plain_J133  (v2 : Int32) (K : Int32 → MPS → Prop) (post : Int32 → MPS → Prop) (v3 : Int32) (v4 : Int32) (v5 : Int32) (σ : MPS) : Prop := ((v4 = 0 → ((v5 = 0 → w_M_plain_J156 v2 (K) post (v3 + 1) σ) ∧ (¬ v5 = 0 → w_M_plain_J143 v2 (K) post v3 σ))) ∧ (¬ v4 = 0 → w_M_plain_J143 v2 (K) post v3 σ))
def w_M_plain_J103  (v2 : Int32) (K : Int32 → MPS → Prop) (post : Int32 → MPS → Prop) (v3 : Int32) (v4 : Int32) (v5 : Int32) (σ : MPS) : Prop := ((v5 = 0 → w_M_plain_J133 v2 (K) post v3 v4 v5 σ) ∧ (¬ v5 = 0 → w_M_hasAttribute σ v3 6384756 3 (fun r114 σ114 => ((r114 = 0 → w_M_plain_J133 v2 (K) post v3 v4 v5 σ114) ∧ (¬ r114 = 0 → w_M_putRow σ114 (mp_valueAt σ114) (mp_valueEnd σ114) 0 (fun σ130 => w_M_plain_J133 v2 (K) post v3 v4 v5 σ130))))))
def w_M_plain_J92  (v2 : Int32) (K : Int32 → MPS → Prop) (post : Int32 → MPS → Prop) (v3 : Int32) (v4 : Int32) (v5 : Int32) (σ : MPS) : Prop := ((v4 = 0 → w_M_plain_J103 v2 (K) post v3 v4 v5 σ) ∧ (¬ v4 = 0 → w_M_put σ 10 (fun σ100 => w_M_plain_J103 v2 (K) post v3 v4 v5 σ100)))
def w_M_plain_L39  (v2 : Int32) (post : Int32 → MPS → Prop) : Nat → Int32 → MPS → Prop
  | 0, _, _ => False
  | n + 1, v3, σ => ((v2 < v3 → post (mp_outs σ) σ) ∧ (¬ v2 < v3 → w_M_isNamed σ v3 25202 2 (fun r50 => w_M_isNamed σ v3 6909287 3 (fun r61 => (vp_in v3 1000 ∧ ((((mp_isElement σ) v3.toNatClampNeg) = 0 → (vp_in v3 1000 ∧ (vp_in v3 1000 ∧ w_M_putRow σ ((mp_begins σ) v3.toNatClampNeg) ((mp_ends σ) v3.toNatClampNeg) 0 (fun σ89 => w_M_plain_J92 v2 (w_M_plain_L39 v2 post n) post v3 r50 r61 σ89)))) ∧ (¬ ((mp_isElement σ) v3.toNatClampNeg) = 0 → w_M_plain_J92 v2 (w_M_plain_L39 v2 post n) post v3 r50 r61 σ)))))))
def w_M_plain_J14   (post : Int32 → MPS → Prop) (v1 : Int32) (t0 : Int32) (σ : MPS) : Prop := (∀ σ14 : MPS, σ14 = ms_thrown σ t0 → (((mp_thrown σ14) ≤ 0 → (∀ σ28 : MPS, σ28 = ms_outs σ14 0 → w_M_lastIn σ28 v1 (fun r33 => (∃ n, w_M_plain_L39 r33 post n v1 σ28)))) ∧ (¬ (mp_thrown σ14) ≤ 0 → post 0 σ14)))
def w_M_plain  (σ : MPS) (x0 : Int32) (post : Int32 → MPS → Prop) : Prop := w_M_isNode σ x0 (fun r3 => ((r3 = 0 → w_M_plain_J14 post x0 1 σ) ∧ (¬ r3 = 0 → w_M_plain_J14 post x0 0 σ)))
set_option maxHeartbeats 4000000 in
set_option maxRecDepth 100000 in
theorem c_M_plain (l : Launch) (md : MD) (sz : Nat) (σ : MPS) (x0 : Int32)  (post : Int32 → MPS → Prop) (hE : w_M_plain σ x0 post) : Met l y_M_plain ws_M_plain { frames := 5, cells := 0, slots := 0, locals := 108 } (va_Pc [.ref (mA md 0), .int x0] (gM md σ sz)) (va_Qi post (eM md (va_A (MW md σ) sz)) (va_A (MW md σ) sz)) 0 0 (va_A (MW md σ) sz) := by
  refine Met.ofW (cc := b_M_plain) (maxL := 6) (ret := (some .int)) (by decide) rfl ?_
  intro p e s m args below meth c s₁ B hml hv
  obtain ⟨rfl, hsz, hP, hK, hD0⟩ := hv
  have hx := B.exec
  have hb := B.bytes
  have hr := B.returns
  have hta : ∀ w ∈ aW, w.before _ s = true := fun w h => atoms_spec (ws := ws_M_plain) B.pre w (List.mem_cons_of_mem _ h)
  have hown : s.vm.findClass R_M = some m.cls := findClass_of_methodNamed B.named
  have hlocks := B.notSynchronized
  subst hsz
  have hD := hD0.self (sz := s.heap.size)
  generalize hAe : va_A (MW md σ) s.heap.size = A at hD ⊢
  have hA : ∀ q : Nat, s.heap.size ≤ q → A q := fun q h => by rw [← hAe]; exact Or.inr h
  have hS : va_S A s.heap s.heap [] := va_S.rf
  have hP : va_P (mG md) classes (MW md σ) s.heap := hP
  have hl := lv_entry ([.ref (mA md 0), .int x0]) (n := 6) (Nat.le_of_ble_eq_true rfl)
  rw [lg_entry_eq]
  generalize (lg_sl ([.ref (mA md 0), .int x0]) ++ List.replicate (6 - (lg_sl ([.ref (mA md 0), .int x0])).length) Slot.unset).toArray = ls at hl ⊢
  have hl : lv_has ls 6 [(0, .ref (mA md 0)), (1, .int x0)] := hl
  have L39 : ∀ (v2 : Int32) (n : Nat) (v3 : Int32) (σ : MPS) (H : Heap) (locs : List Loc) (hP : va_P (mG md) classes (MW md σ) H) (hD : va_D A (MW md σ)) (hS : va_S A s.heap H locs) (ls : Array Slot) (hl : lv_has ls 6 [(0, .ref (mA md 0)), (2, .int v2), (3, .int v3)]) (hE : w_M_plain_L39 v2 post n v3 σ), W p l e (headSpec ws_M_plain { frames := 5, cells := 0, slots := 0, locals := 108 }).room s m ([.ref (mA md 0), .int x0] : List Value).toArray below meth c H locs 0 0 (MQ below (va_Qi post (eM md A) A) ([.ref (mA md 0), .int x0] : List Value).toArray s 0 0 A) (F0 m 39 ls []) := by
    intro v2 n
    induction n with
    | zero => intro v3 σ H locs hP hD hS ls hl hE; exact hE.elim
    | succ n ih39 =>
      have J156 : ∀ (t0 : Int32) (σ : MPS) (H : Heap) (locs : List Loc) (hP : va_P (mG md) classes (MW md σ) H) (hD : va_D A (MW md σ)) (hS : va_S A s.heap H locs) (ls : Array Slot) (hl : lv_has ls 6 [(0, .ref (mA md 0)), (2, .int v2)]) (hE : w_M_plain_J156 v2 (w_M_plain_L39 v2 post n) post t0 σ), W p l e (headSpec ws_M_plain { frames := 5, cells := 0, slots := 0, locals := 108 }).room s m ([.ref (mA md 0), .int x0] : List Value).toArray below meth c H locs 0 0 (MQ below (va_Qi post (eM md A) A) ([.ref (mA md 0), .int x0] : List Value).toArray s 0 0 A) (F0 m 156 ls [.int t0]) := by
        intro  t0 σ H locs hP hD hS ls hl hE
        unfold w_M_plain_J156 at hE
        refine lv_istore_n (lv' := [(3, .int t0), (0, .ref (mA md 0)), (2, .int v2)]) hx hb d_M_plain_156 rfl hl (by decide) rfl (fun ls hl => ?_)
        refine lv_goto (tgt := 39) hx hb d_M_plain_157 (by decide) ?_
        exact ih39 t0 σ _ _ hP hD hS _ (lv_sub hl [1, 2, 0] rfl) hE
      have J143 : ∀ (v3 : Int32) (σ : MPS) (H : Heap) (locs : List Loc) (hP : va_P (mG md) classes (MW md σ) H) (hD : va_D A (MW md σ)) (hS : va_S A s.heap H locs) (ls : Array Slot) (hl : lv_has ls 6 [(0, .ref (mA md 0)), (2, .int v2), (3, .int v3)]) (hE : w_M_plain_J143 v2 (w_M_plain_L39 v2 post n) post v3 σ), W p l e (headSpec ws_M_plain { frames := 5, cells := 0, slots := 0, locals := 108 }).room s m ([.ref (mA md 0), .int x0] : List Value).toArray below meth c H locs 0 0 (MQ below (va_Qi post (eM md A) A) ([.ref (mA md 0), .int x0] : List Value).toArray s 0 0 A) (F0 m 143 ls []) := by
        intro  v3 σ H locs hP hD hS ls hl hE
        unfold w_M_plain_J143 at hE
        refine lv_aload_n hx hb d_M_plain_143 rfl (lv_at hl 0 rfl) ?_
        refine lv_iload_n hx hb d_M_plain_144 rfl (lv_at hl 2 rfl) ?_
        refine ro_V (b0 := (mA md 0)) (As := [.int v3]) (rest := []) ⟨hx, hb, hml, hown, hta⟩ (c_M_lastIn l md σ v3  _ hE) ok_M_351 ⟨Nat.le_of_ble_eq_true rfl, Nat.le_of_ble_eq_true rfl⟩ blind_rM (va_recv hK hP (ci := 7) (q0 := 0) rfl rfl) (rM_of hP hK) rfl hl.1 rfl (Nat.le_of_ble_eq_true rfl) d_M_plain_145 ⟨Nat.zero_le _, Nat.zero_le _⟩ (fun r145 hE => ?_)
        refine lv_iconst (v := 1) hx hb d_M_plain_148 (by decide) ?_
        refine lv_iadd hx hb d_M_plain_149 ?_
        refine lv_goto (tgt := 156) hx hb d_M_plain_150 (by decide) ?_
        exact J156  (r145 + 1) σ _ _ hP hD hS _ (lv_sub hl [0, 1] rfl) hE
      have J133 : ∀ (v3 : Int32) (v4 : Int32) (v5 : Int32) (σ : MPS) (H : Heap) (locs : List Loc) (hP : va_P (mG md) classes (MW md σ) H) (hD : va_D A (MW md σ)) (hS : va_S A s.heap H locs) (ls : Array Slot) (hl : lv_has ls 6 [(0, .ref (mA md 0)), (2, .int v2), (3, .int v3), (4, .int v4), (5, .int v5)]) (hE : w_M_plain_J133 v2 (w_M_plain_L39 v2 post n) post v3 v4 v5 σ), W p l e (headSpec ws_M_plain { frames := 5, cells := 0, slots := 0, locals := 108 }).room s m ([.ref (mA md 0), .int x0] : List Value).toArray below meth c H locs 0 0 (MQ below (va_Qi post (eM md A) A) ([.ref (mA md 0), .int x0] : List Value).toArray s 0 0 A) (F0 m 133 ls []) := by
        intro  v3 v4 v5 σ H locs hP hD hS ls hl hE
        unfold w_M_plain_J133 at hE
        refine lv_iload hx hb d_M_plain_133 (lv_at hl 3 rfl) ?_
        refine lv_if_ne (tgt := 143) hx hb d_M_plain_135 (by decide) (fun cc135 => ?_) (fun cc135 => ?_)
        · have hE := hE.2 cc135
          exact J143  v3 σ _ _ hP hD hS _ (lv_sub hl [0, 1, 2] rfl) hE
        · have hE := hE.1 cc135
          refine lv_iload hx hb d_M_plain_138 (lv_at hl 4 rfl) ?_
          refine lv_if_eq (tgt := 153) hx hb d_M_plain_140 (by decide) (fun cc140 => ?_) (fun cc140 => ?_)
          · have hE := hE.1 cc140
            refine lv_iload_n hx hb d_M_plain_153 rfl (lv_at hl 2 rfl) ?_
            refine lv_iconst (v := 1) hx hb d_M_plain_154 (by decide) ?_
            refine lv_iadd hx hb d_M_plain_155 ?_
            exact J156  (v3 + 1) σ _ _ hP hD hS _ (lv_sub hl [0, 1] rfl) hE
          · have hE := hE.2 cc140
            exact J143  v3 σ _ _ hP hD hS _ (lv_sub hl [0, 1, 2] rfl) hE
      have J103 : ∀ (v3 : Int32) (v4 : Int32) (v5 : Int32) (σ : MPS) (H : Heap) (locs : List Loc) (hP : va_P (mG md) classes (MW md σ) H) (hD : va_D A (MW md σ)) (hS : va_S A s.heap H locs) (ls : Array Slot) (hl : lv_has ls 6 [(0, .ref (mA md 0)), (2, .int v2), (3, .int v3), (4, .int v4), (5, .int v5)]) (hE : w_M_plain_J103 v2 (w_M_plain_L39 v2 post n) post v3 v4 v5 σ), W p l e (headSpec ws_M_plain { frames := 5, cells := 0, slots := 0, locals := 108 }).room s m ([.ref (mA md 0), .int x0] : List Value).toArray below meth c H locs 0 0 (MQ below (va_Qi post (eM md A) A) ([.ref (mA md 0), .int x0] : List Value).toArray s 0 0 A) (F0 m 103 ls []) := by
        intro  v3 v4 v5 σ H locs hP hD hS ls hl hE
        unfold w_M_plain_J103 at hE
        refine lv_iload hx hb d_M_plain_103 (lv_at hl 4 rfl) ?_
        refine lv_if_eq (tgt := 133) hx hb d_M_plain_105 (by decide) (fun cc105 => ?_) (fun cc105 => ?_)
        · have hE := hE.1 cc105
          exact J133  v3 v4 v5 σ _ _ hP hD hS _ (lv_sub hl [0, 1, 2, 3, 4] rfl) hE
        · have hE := hE.2 cc105
          refine lv_aload_n hx hb d_M_plain_108 rfl (lv_at hl 0 rfl) ?_
          refine lv_iload_n hx hb d_M_plain_109 rfl (lv_at hl 2 rfl) ?_
          refine lv_ldc2 hx hb hown (hta _ cl_M_293) d_M_plain_110 ?_
          refine lv_iconst (v := 3) hx hb d_M_plain_113 (by decide) ?_
          refine mm_i (b0 := (mA md 0)) (As := [.int v3, .long 6384756, .int 3]) (rest := []) ⟨hx, hb, hml, hown, hta⟩ (c_M_hasAttribute l md _ σ v3 6384756 3 _ hE) ok_M_274 ⟨Nat.le_of_ble_eq_true rfl, Nat.le_of_ble_eq_true rfl⟩ (va_recv hK hP (ci := 7) (q0 := 0) rfl rfl) hP hK hD hS hA rfl hl.1 rfl (Nat.le_of_ble_eq_true rfl) d_M_plain_114 ⟨Nat.zero_le _, Nat.zero_le _⟩ (fun r114 σ114 H locs hE hP hD hS => ?_)
          refine lv_if_eq (tgt := 133) hx hb d_M_plain_117 (by decide) (fun cc117 => ?_) (fun cc117 => ?_)
          · have hE := hE.1 cc117
            exact J133  v3 v4 v5 σ114 _ _ hP hD hS _ (lv_sub hl [0, 1, 2, 3, 4] rfl) hE
          · have hE := hE.2 cc117
            refine lv_aload_n hx hb d_M_plain_120 rfl (lv_at hl 0 rfl) ?_
            refine lv_aload_n hx hb d_M_plain_121 rfl (lv_at hl 0 rfl) ?_
            refine va_get (D := (mG md)) (ci := 7) (v := .int (mp_valueAt σ114)) (C := R_M) (T := F_M) (N := 37) hx hb hta i_M hown hK hP 0 rfl rfl 21 (by decide) (hta _ fl_M_148) (fun _ h9 => h9) rfl d_M_plain_122 ?_
            refine lv_aload_n hx hb d_M_plain_125 rfl (lv_at hl 0 rfl) ?_
            refine va_get (D := (mG md)) (ci := 7) (v := .int (mp_valueEnd σ114)) (C := R_M) (T := F_M) (N := 37) hx hb hta i_M hown hK hP 0 rfl rfl 22 (by decide) (hta _ fl_M_151) (fun _ h9 => h9) rfl d_M_plain_126 ?_
            refine lv_iconst (v := 0) hx hb d_M_plain_129 (by decide) ?_
            refine mm_v (b0 := (mA md 0)) (As := [.int (mp_valueAt σ114), .int (mp_valueEnd σ114), .int 0]) (rest := []) ⟨hx, hb, hml, hown, hta⟩ (c_M_putRow l md _ σ114 (mp_valueAt σ114) (mp_valueEnd σ114) 0 _ hE) ok_M_354 ⟨Nat.le_of_ble_eq_true rfl, Nat.le_of_ble_eq_true rfl⟩ (va_recv hK hP (ci := 7) (q0 := 0) rfl rfl) hP hK hD hS hA rfl hl.1 rfl (Nat.le_of_ble_eq_true rfl) d_M_plain_130 ⟨Nat.zero_le _, Nat.zero_le _⟩ (fun σ130 H locs hE hP hD hS => ?_)
            exact J133  v3 v4 v5 σ130 _ _ hP hD hS _ (lv_sub hl [0, 1, 2, 3, 4] rfl) hE
      have J92 : ∀ (v3 : Int32) (v4 : Int32) (v5 : Int32) (σ : MPS) (H : Heap) (locs : List Loc) (hP : va_P (mG md) classes (MW md σ) H) (hD : va_D A (MW md σ)) (hS : va_S A s.heap H locs) (ls : Array Slot) (hl : lv_has ls 6 [(0, .ref (mA md 0)), (2, .int v2), (3, .int v3), (4, .int v4), (5, .int v5)]) (hE : w_M_plain_J92 v2 (w_M_plain_L39 v2 post n) post v3 v4 v5 σ), W p l e (headSpec ws_M_plain { frames := 5, cells := 0, slots := 0, locals := 108 }).room s m ([.ref (mA md 0), .int x0] : List Value).toArray below meth c H locs 0 0 (MQ below (va_Qi post (eM md A) A) ([.ref (mA md 0), .int x0] : List Value).toArray s 0 0 A) (F0 m 92 ls []) := by
        intro  v3 v4 v5 σ H locs hP hD hS ls hl hE
        unfold w_M_plain_J92 at hE
        refine lv_iload hx hb d_M_plain_92 (lv_at hl 3 rfl) ?_
        refine lv_if_eq (tgt := 103) hx hb d_M_plain_94 (by decide) (fun cc94 => ?_) (fun cc94 => ?_)
        · have hE := hE.1 cc94
          exact J103  v3 v4 v5 σ _ _ hP hD hS _ (lv_sub hl [0, 1, 2, 3, 4] rfl) hE
        · have hE := hE.2 cc94
          refine lv_aload_n hx hb d_M_plain_97 rfl (lv_at hl 0 rfl) ?_
          refine lv_bipush (v := 10) hx hb d_M_plain_98 (by decide) ?_
          refine mm_v (b0 := (mA md 0)) (As := [.int 10]) (rest := []) ⟨hx, hb, hml, hown, hta⟩ (c_M_put l md _ σ 10 _ hE) ok_M_340 ⟨Nat.le_of_ble_eq_true rfl, Nat.le_of_ble_eq_true rfl⟩ (va_recv hK hP (ci := 7) (q0 := 0) rfl rfl) hP hK hD hS hA rfl hl.1 rfl (Nat.le_of_ble_eq_true rfl) d_M_plain_100 ⟨Nat.zero_le _, Nat.zero_le _⟩ (fun σ100 H locs hE hP hD hS => ?_)
          exact J103  v3 v4 v5 σ100 _ _ hP hD hS _ (lv_sub hl [0, 1, 2, 3, 4] rfl) hE
      intro v3 σ H locs hP hD hS ls hl hE
      unfold w_M_plain_L39 at hE
      refine lv_iload_n hx hb d_M_plain_39 rfl (lv_at hl 2 rfl) ?_
      refine lv_iload_n hx hb d_M_plain_40 rfl (lv_at hl 1 rfl) ?_
      refine lv_icmp_gt (tgt := 160) hx hb d_M_plain_41 (by decide) (fun cc41 => ?_) (fun cc41 => ?_)
      · have hE := hE.1 cc41
        refine lv_aload_n hx hb d_M_plain_160 rfl (lv_at hl 0 rfl) ?_
        refine va_get (D := (mG md)) (ci := 7) (v := .int (mp_outs σ)) (C := R_M) (T := F_M) (N := 37) hx hb hta i_M hown hK hP 0 rfl rfl 8 (by decide) (hta _ fl_M_337) (fun _ h9 => h9) rfl d_M_plain_161 ?_
        exact W.iret (v := mp_outs σ) hx hb hr (fun t ht hW => ⟨⟨_, σ, rfl, hE, by rw [ht]; exact hP, va_K.moved hW.alike hK, hD⟩, hS.F ht⟩) hS.2.2 d_M_plain_164
      · have hE := hE.2 cc41
        refine lv_aload_n hx hb d_M_plain_44 rfl (lv_at hl 0 rfl) ?_
        refine lv_iload_n hx hb d_M_plain_45 rfl (lv_at hl 2 rfl) ?_
        refine lv_ldc2 hx hb hown (hta _ cl_M_259) d_M_plain_46 ?_
        refine lv_iconst (v := 2) hx hb d_M_plain_49 (by decide) ?_
        refine ro_V (b0 := (mA md 0)) (As := [.int v3, .long 25202, .int 2]) (rest := []) ⟨hx, hb, hml, hown, hta⟩ (c_M_isNamed l md σ v3 25202 2  _ hE) ok_M_230 ⟨Nat.le_of_ble_eq_true rfl, Nat.le_of_ble_eq_true rfl⟩ blind_rM (va_recv hK hP (ci := 7) (q0 := 0) rfl rfl) (rM_of hP hK) rfl hl.1 rfl (Nat.le_of_ble_eq_true rfl) d_M_plain_50 ⟨Nat.zero_le _, Nat.zero_le _⟩ (fun r50 hE => ?_)
        refine lv_istore (lv' := [(4, .int r50), (0, .ref (mA md 0)), (2, .int v2), (3, .int v3)]) hx hb d_M_plain_53 hl (by decide) rfl (fun ls hl => ?_)
        refine lv_aload_n hx hb d_M_plain_55 rfl (lv_at hl 1 rfl) ?_
        refine lv_iload_n hx hb d_M_plain_56 rfl (lv_at hl 3 rfl) ?_
        refine lv_ldc2 hx hb hown (hta _ cl_M_261) d_M_plain_57 ?_
        refine lv_iconst (v := 3) hx hb d_M_plain_60 (by decide) ?_
        refine ro_V (b0 := (mA md 0)) (As := [.int v3, .long 6909287, .int 3]) (rest := []) ⟨hx, hb, hml, hown, hta⟩ (c_M_isNamed l md σ v3 6909287 3  _ hE) ok_M_230 ⟨Nat.le_of_ble_eq_true rfl, Nat.le_of_ble_eq_true rfl⟩ blind_rM (va_recv hK hP (ci := 7) (q0 := 0) rfl rfl) (rM_of hP hK) rfl hl.1 rfl (Nat.le_of_ble_eq_true rfl) d_M_plain_61 ⟨Nat.zero_le _, Nat.zero_le _⟩ (fun r61 hE => ?_)
        refine lv_istore (lv' := [(5, .int r61), (4, .int r50), (0, .ref (mA md 0)), (2, .int v2), (3, .int v3)]) hx hb d_M_plain_64 hl (by decide) rfl (fun ls hl => ?_)
        refine lv_aload_n hx hb d_M_plain_66 rfl (lv_at hl 2 rfl) ?_
        refine va_get (D := (mG md)) (ci := 7) (v := .ref (mA md 8)) (C := R_M) (T := F_M) (N := 37) hx hb hta i_M hown hK hP 0 rfl rfl 23 (by decide) (hta _ fl_M_36) (fun _ h9 => h9) rfl d_M_plain_67 ?_
        refine lv_iload_n hx hb d_M_plain_70 rfl (lv_at hl 4 rfl) ?_
        obtain ⟨hI71, hE⟩ := hE
        refine va_zald (D := (mG md)) (f := mp_isElement σ) hx hb hK hP 8 2 rfl rfl hI71 d_M_plain_71 ?_
        refine lv_if_ne (tgt := 92) hx hb d_M_plain_72 (by decide) (fun cc72 => ?_) (fun cc72 => ?_)
        · have hE := hE.2 cc72
          exact J92  v3 r50 r61 σ _ _ hP hD hS _ (lv_sub hl [2, 3, 4, 1, 0] rfl) hE
        · have hE := hE.1 cc72
          refine lv_aload_n hx hb d_M_plain_75 rfl (lv_at hl 2 rfl) ?_
          refine lv_aload_n hx hb d_M_plain_76 rfl (lv_at hl 2 rfl) ?_
          refine va_get (D := (mG md)) (ci := 7) (v := .ref (mA md 9)) (C := R_M) (T := F_M) (N := 37) hx hb hta i_M hown hK hP 0 rfl rfl 24 (by decide) (hta _ fl_M_40) (fun _ h9 => h9) rfl d_M_plain_77 ?_
          refine lv_iload_n hx hb d_M_plain_80 rfl (lv_at hl 4 rfl) ?_
          obtain ⟨hI81, hE⟩ := hE
          refine va_iald (D := (mG md)) (f := mp_begins σ) hx hb hK hP 9 0 rfl rfl hI81 d_M_plain_81 ?_
          refine lv_aload_n hx hb d_M_plain_82 rfl (lv_at hl 2 rfl) ?_
          refine va_get (D := (mG md)) (ci := 7) (v := .ref (mA md 10)) (C := R_M) (T := F_M) (N := 37) hx hb hta i_M hown hK hP 0 rfl rfl 25 (by decide) (hta _ fl_M_43) (fun _ h9 => h9) rfl d_M_plain_83 ?_
          refine lv_iload_n hx hb d_M_plain_86 rfl (lv_at hl 4 rfl) ?_
          obtain ⟨hI87, hE⟩ := hE
          refine va_iald (D := (mG md)) (f := mp_ends σ) hx hb hK hP 10 0 rfl rfl hI87 d_M_plain_87 ?_
          refine lv_iconst (v := 0) hx hb d_M_plain_88 (by decide) ?_
          refine mm_v (b0 := (mA md 0)) (As := [.int ((mp_begins σ) v3.toNatClampNeg), .int ((mp_ends σ) v3.toNatClampNeg), .int 0]) (rest := []) ⟨hx, hb, hml, hown, hta⟩ (c_M_putRow l md _ σ ((mp_begins σ) v3.toNatClampNeg) ((mp_ends σ) v3.toNatClampNeg) 0 _ hE) ok_M_354 ⟨Nat.le_of_ble_eq_true rfl, Nat.le_of_ble_eq_true rfl⟩ (va_recv hK hP (ci := 7) (q0 := 0) rfl rfl) hP hK hD hS hA rfl hl.1 rfl (Nat.le_of_ble_eq_true rfl) d_M_plain_89 ⟨Nat.zero_le _, Nat.zero_le _⟩ (fun σ89 H locs hE hP hD hS => ?_)
          exact J92  v3 r50 r61 σ89 _ _ hP hD hS _ (lv_sub hl [2, 3, 4, 1, 0] rfl) hE
  have J14 : ∀ (v1 : Int32) (t0 : Int32) (σ : MPS) (H : Heap) (locs : List Loc) (hP : va_P (mG md) classes (MW md σ) H) (hD : va_D A (MW md σ)) (hS : va_S A s.heap H locs) (ls : Array Slot) (hl : lv_has ls 6 [(0, .ref (mA md 0)), (1, .int v1)]) (hE : w_M_plain_J14 post v1 t0 σ), W p l e (headSpec ws_M_plain { frames := 5, cells := 0, slots := 0, locals := 108 }).room s m ([.ref (mA md 0), .int x0] : List Value).toArray below meth c H locs 0 0 (MQ below (va_Qi post (eM md A) A) ([.ref (mA md 0), .int x0] : List Value).toArray s 0 0 A) (F0 m 14 ls [.int t0, .ref (mA md 0)]) := by
    intro  v1 t0 σ H locs hP hD hS ls hl hE
    unfold w_M_plain_J14 at hE
    refine va_put (D := (mG md)) (ci := 7) (v := .int t0) (ty := .int) (C := R_M) (T := F_M) (N := 37) hx hb hta i_M t_M t_M_ok n_M hown hK hP hD hS 0 rfl rfl 0 (by decide) (hta _ fl_M_70) (fun _ h9 => h9) rfl (by decide +kernel) rfl rfl (Nat.le_of_ble_eq_true rfl) d_M_plain_14 (fun H locs hP hD hS => ?_)
    have hP : va_P (mG md) classes (MW md (ms_thrown σ t0)) H := hP
    have hD : va_D A (MW md (ms_thrown σ t0)) := hD
    have hE := hE _ rfl
    generalize (ms_thrown σ t0 : MPS) = σ14 at hP hD hE
    refine lv_aload_n hx hb d_M_plain_17 rfl (lv_at hl 0 rfl) ?_
    refine va_get (D := (mG md)) (ci := 7) (v := .int (mp_thrown σ14)) (C := R_M) (T := F_M) (N := 37) hx hb hta i_M hown hK hP 0 rfl rfl 0 (by decide) (hta _ fl_M_70) (fun _ h9 => h9) rfl d_M_plain_18 ?_
    refine lv_if_le (tgt := 26) hx hb d_M_plain_21 (by decide) (fun cc21 => ?_) (fun cc21 => ?_)
    · have hE := hE.1 cc21
      refine lv_aload_n hx hb d_M_plain_26 rfl (lv_at hl 0 rfl) ?_
      refine lv_iconst (v := 0) hx hb d_M_plain_27 (by decide) ?_
      refine va_put (D := (mG md)) (ci := 7) (v := .int 0) (ty := .int) (C := R_M) (T := F_M) (N := 37) hx hb hta i_M t_M t_M_ok n_M hown hK hP hD hS 0 rfl rfl 8 (by decide) (hta _ fl_M_337) (fun _ h9 => h9) rfl (by decide +kernel) rfl rfl (Nat.le_of_ble_eq_true rfl) d_M_plain_28 (fun H locs hP hD hS => ?_)
      have hP : va_P (mG md) classes (MW md (ms_outs σ14 0)) H := hP
      have hD : va_D A (MW md (ms_outs σ14 0)) := hD
      have hE := hE _ rfl
      generalize (ms_outs σ14 0 : MPS) = σ28 at hP hD hE
      refine lv_aload_n hx hb d_M_plain_31 rfl (lv_at hl 0 rfl) ?_
      refine lv_iload_n hx hb d_M_plain_32 rfl (lv_at hl 1 rfl) ?_
      refine ro_V (b0 := (mA md 0)) (As := [.int v1]) (rest := []) ⟨hx, hb, hml, hown, hta⟩ (c_M_lastIn l md σ28 v1  _ hE) ok_M_351 ⟨Nat.le_of_ble_eq_true rfl, Nat.le_of_ble_eq_true rfl⟩ blind_rM (va_recv hK hP (ci := 7) (q0 := 0) rfl rfl) (rM_of hP hK) rfl hl.1 rfl (Nat.le_of_ble_eq_true rfl) d_M_plain_33 ⟨Nat.zero_le _, Nat.zero_le _⟩ (fun r33 hE => ?_)
      refine lv_istore_n (lv' := [(2, .int r33), (0, .ref (mA md 0)), (1, .int v1)]) hx hb d_M_plain_36 rfl hl (by decide) rfl (fun ls hl => ?_)
      refine lv_iload_n hx hb d_M_plain_37 rfl (lv_at hl 2 rfl) ?_
      refine lv_istore_n (lv' := [(3, .int v1), (2, .int r33), (0, .ref (mA md 0)), (1, .int v1)]) hx hb d_M_plain_38 rfl hl (by decide) rfl (fun ls hl => ?_)
      obtain ⟨n, hE⟩ := hE
      exact L39 r33 n v1 σ28 _ _ hP hD hS _ (lv_sub hl [2, 1, 0] rfl) hE
    · have hE := hE.2 cc21
      refine lv_iconst (v := 0) hx hb d_M_plain_24 (by decide) ?_
      exact W.iret (v := 0) hx hb hr (fun t ht hW => ⟨⟨_, σ14, rfl, hE, by rw [ht]; exact hP, va_K.moved hW.alike hK, hD⟩, hS.F ht⟩) hS.2.2 d_M_plain_25
  unfold w_M_plain at hE
  refine lv_aload_n hx hb d_M_plain_0 rfl (lv_at hl 0 rfl) ?_
  refine lv_aload_n hx hb d_M_plain_1 rfl (lv_at hl 0 rfl) ?_
  refine lv_iload_n hx hb d_M_plain_2 rfl (lv_at hl 1 rfl) ?_
  refine ro_V (b0 := (mA md 0)) (As := [.int x0]) (rest := [.ref (mA md 0)]) ⟨hx, hb, hml, hown, hta⟩ (c_M_isNode l md σ x0  _ hE) ok_M_323 ⟨Nat.le_of_ble_eq_true rfl, Nat.le_of_ble_eq_true rfl⟩ blind_rM (va_recv hK hP (ci := 7) (q0 := 0) rfl rfl) (rM_of hP hK) rfl hl.1 rfl (Nat.le_of_ble_eq_true rfl) d_M_plain_3 ⟨Nat.zero_le _, Nat.zero_le _⟩ (fun r3 hE => ?_)
  refine lv_if_eq (tgt := 13) hx hb d_M_plain_6 (by decide) (fun cc6 => ?_) (fun cc6 => ?_)
  · have hE := hE.1 cc6
    refine lv_iconst (v := 1) hx hb d_M_plain_13 (by decide) ?_
    exact J14  x0 1 σ _ _ hP hD hS _ (lv_sub hl [0, 1] rfl) hE
  · have hE := hE.2 cc6
    refine lv_iconst (v := 0) hx hb d_M_plain_9 (by decide) ?_
    refine lv_goto (tgt := 14) hx hb d_M_plain_10 (by decide) ?_
    exact J14  x0 0 σ _ _ hP hD hS _ (lv_sub hl [0, 1] rfl) hE

theorem d_M_putName_0 : decode b_M_putName 0 = .ok (.iconst 0, 1) := by decide +kernel
theorem d_M_putName_1 : decode b_M_putName 1 = .ok (.istore_n 2, 1) := by decide +kernel
theorem d_M_putName_2 : decode b_M_putName 2 = .ok (.iload_n 2, 1) := by decide +kernel
theorem d_M_putName_3 : decode b_M_putName 3 = .ok (.aload_n 0, 1) := by decide +kernel
theorem d_M_putName_4 : decode b_M_putName 4 = .ok (.iload_n 1, 1) := by decide +kernel
theorem d_M_putName_5 : decode b_M_putName 5 = .ok (.invokevirtual 221, 3) := by decide +kernel
theorem d_M_putName_8 : decode b_M_putName 8 = .ok (.if_icmp .ge 27, 3) := by decide +kernel
theorem d_M_putName_11 : decode b_M_putName 11 = .ok (.aload_n 0, 1) := by decide +kernel
theorem d_M_putName_12 : decode b_M_putName 12 = .ok (.aload_n 0, 1) := by decide +kernel
theorem d_M_putName_13 : decode b_M_putName 13 = .ok (.aload_n 0, 1) := by decide +kernel
theorem d_M_putName_14 : decode b_M_putName 14 = .ok (.getfield 40, 3) := by decide +kernel
theorem d_M_putName_17 : decode b_M_putName 17 = .ok (.iload_n 1, 1) := by decide +kernel
theorem d_M_putName_18 : decode b_M_putName 18 = .ok (.iaload, 1) := by decide +kernel
theorem d_M_putName_19 : decode b_M_putName 19 = .ok (.iconst 1, 1) := by decide +kernel
theorem d_M_putName_20 : decode b_M_putName 20 = .ok (.iadd, 1) := by decide +kernel
theorem d_M_putName_21 : decode b_M_putName 21 = .ok (.iload_n 2, 1) := by decide +kernel
theorem d_M_putName_22 : decode b_M_putName 22 = .ok (.iadd, 1) := by decide +kernel
theorem d_M_putName_23 : decode b_M_putName 23 = .ok (.invokevirtual 95, 3) := by decide +kernel
theorem d_M_putName_26 : decode b_M_putName 26 = .ok (.invokevirtual 340, 3) := by decide +kernel
theorem d_M_putName_29 : decode b_M_putName 29 = .ok (.iinc 2 1, 3) := by decide +kernel
theorem d_M_putName_32 : decode b_M_putName 32 = .ok (.goto (-30), 3) := by decide +kernel
theorem d_M_putName_35 : decode b_M_putName 35 = .ok (.return_, 1) := by decide +kernel
def w_M_putName_L2  (v1 : Int32) (post : MPS → Prop) : Nat → Int32 → MPS → Prop
  | 0, _, _ => False
  | n + 1, v2, σ => w_M_nameSize σ v1 (fun r5 => ((r5 ≤ v2 → post σ) ∧ (¬ r5 ≤ v2 → (vp_in v1 1000 ∧ w_M_x σ ((((mp_begins σ) v1.toNatClampNeg) + 1) + v2) (fun r23 => w_M_put σ r23 (fun σ26 => w_M_putName_L2 v1 post n (v2 + 1) σ26))))))
def w_M_putName  (σ : MPS) (x0 : Int32) (post : MPS → Prop) : Prop := (∃ n, w_M_putName_L2 x0 post n 0 σ)
set_option maxHeartbeats 4000000 in
set_option maxRecDepth 100000 in
theorem c_M_putName (l : Launch) (md : MD) (sz : Nat) (σ : MPS) (x0 : Int32)  (post : MPS → Prop) (hE : w_M_putName σ x0 post) : Met l y_M_putName ws_M_putName { frames := 4, cells := 0, slots := 0, locals := 84 } (va_Pc [.ref (mA md 0), .int x0] (gM md σ sz)) (va_Qv post (eM md (va_A (MW md σ) sz)) (va_A (MW md σ) sz)) 0 0 (va_A (MW md σ) sz) := by
  refine Met.ofW (cc := b_M_putName) (maxL := 3) (ret := none) (by decide) rfl ?_
  intro p e s m args below meth c s₁ B hml hv
  obtain ⟨rfl, hsz, hP, hK, hD0⟩ := hv
  have hx := B.exec
  have hb := B.bytes
  have hr := B.returns
  have hta : ∀ w ∈ aW, w.before _ s = true := fun w h => atoms_spec (ws := ws_M_putName) B.pre w (List.mem_cons_of_mem _ h)
  have hown : s.vm.findClass R_M = some m.cls := findClass_of_methodNamed B.named
  have hlocks := B.notSynchronized
  subst hsz
  have hD := hD0.self (sz := s.heap.size)
  generalize hAe : va_A (MW md σ) s.heap.size = A at hD ⊢
  have hA : ∀ q : Nat, s.heap.size ≤ q → A q := fun q h => by rw [← hAe]; exact Or.inr h
  have hS : va_S A s.heap s.heap [] := va_S.rf
  have hP : va_P (mG md) classes (MW md σ) s.heap := hP
  have hl := lv_entry ([.ref (mA md 0), .int x0]) (n := 3) (Nat.le_of_ble_eq_true rfl)
  rw [lg_entry_eq]
  generalize (lg_sl ([.ref (mA md 0), .int x0]) ++ List.replicate (3 - (lg_sl ([.ref (mA md 0), .int x0])).length) Slot.unset).toArray = ls at hl ⊢
  have hl : lv_has ls 3 [(0, .ref (mA md 0)), (1, .int x0)] := hl
  have L2 : ∀ (v1 : Int32) (n : Nat) (v2 : Int32) (σ : MPS) (H : Heap) (locs : List Loc) (hP : va_P (mG md) classes (MW md σ) H) (hD : va_D A (MW md σ)) (hS : va_S A s.heap H locs) (ls : Array Slot) (hl : lv_has ls 3 [(0, .ref (mA md 0)), (1, .int v1), (2, .int v2)]) (hE : w_M_putName_L2 v1 post n v2 σ), W p l e (headSpec ws_M_putName { frames := 4, cells := 0, slots := 0, locals := 84 }).room s m ([.ref (mA md 0), .int x0] : List Value).toArray below meth c H locs 0 0 (MQ below (va_Qv post (eM md A) A) ([.ref (mA md 0), .int x0] : List Value).toArray s 0 0 A) (F0 m 2 ls []) := by
    intro v1 n
    induction n with
    | zero => intro v2 σ H locs hP hD hS ls hl hE; exact hE.elim
    | succ n ih2 =>
      intro v2 σ H locs hP hD hS ls hl hE
      unfold w_M_putName_L2 at hE
      refine lv_iload_n hx hb d_M_putName_2 rfl (lv_at hl 2 rfl) ?_
      refine lv_aload_n hx hb d_M_putName_3 rfl (lv_at hl 0 rfl) ?_
      refine lv_iload_n hx hb d_M_putName_4 rfl (lv_at hl 1 rfl) ?_
      refine ro_V (b0 := (mA md 0)) (As := [.int v1]) (rest := [.int v2]) ⟨hx, hb, hml, hown, hta⟩ (c_M_nameSize l md σ v1  _ hE) ok_M_221 ⟨Nat.le_of_ble_eq_true rfl, Nat.le_of_ble_eq_true rfl⟩ blind_rM (va_recv hK hP (ci := 7) (q0 := 0) rfl rfl) (rM_of hP hK) rfl hl.1 rfl (Nat.le_of_ble_eq_true rfl) d_M_putName_5 ⟨Nat.zero_le _, Nat.zero_le _⟩ (fun r5 hE => ?_)
      refine lv_icmp_ge (tgt := 35) hx hb d_M_putName_8 (by decide) (fun cc8 => ?_) (fun cc8 => ?_)
      · have hE := hE.1 cc8
        exact W.vret hx hb hr (fun t ht hW => ⟨⟨σ, rfl, hE, by rw [ht]; exact hP, va_K.moved hW.alike hK, hD⟩, hS.F ht⟩) hS.2.2 d_M_putName_35
      · have hE := hE.2 cc8
        refine lv_aload_n hx hb d_M_putName_11 rfl (lv_at hl 0 rfl) ?_
        refine lv_aload_n hx hb d_M_putName_12 rfl (lv_at hl 0 rfl) ?_
        refine lv_aload_n hx hb d_M_putName_13 rfl (lv_at hl 0 rfl) ?_
        refine va_get (D := (mG md)) (ci := 7) (v := .ref (mA md 9)) (C := R_M) (T := F_M) (N := 37) hx hb hta i_M hown hK hP 0 rfl rfl 24 (by decide) (hta _ fl_M_40) (fun _ h9 => h9) rfl d_M_putName_14 ?_
        refine lv_iload_n hx hb d_M_putName_17 rfl (lv_at hl 1 rfl) ?_
        obtain ⟨hI18, hE⟩ := hE
        refine va_iald (D := (mG md)) (f := mp_begins σ) hx hb hK hP 9 0 rfl rfl hI18 d_M_putName_18 ?_
        refine lv_iconst (v := 1) hx hb d_M_putName_19 (by decide) ?_
        refine lv_iadd hx hb d_M_putName_20 ?_
        refine lv_iload_n hx hb d_M_putName_21 rfl (lv_at hl 2 rfl) ?_
        refine lv_iadd hx hb d_M_putName_22 ?_
        refine ro_V (b0 := (mA md 0)) (As := [.int ((((mp_begins σ) v1.toNatClampNeg) + 1) + v2)]) (rest := [.ref (mA md 0)]) ⟨hx, hb, hml, hown, hta⟩ (c_M_x l md σ ((((mp_begins σ) v1.toNatClampNeg) + 1) + v2)  _ hE) ok_M_95 ⟨Nat.le_of_ble_eq_true rfl, Nat.le_of_ble_eq_true rfl⟩ blind_rM (va_recv hK hP (ci := 7) (q0 := 0) rfl rfl) (rM_of hP hK) rfl hl.1 rfl (Nat.le_of_ble_eq_true rfl) d_M_putName_23 ⟨Nat.zero_le _, Nat.zero_le _⟩ (fun r23 hE => ?_)
        refine mm_v (b0 := (mA md 0)) (As := [.int r23]) (rest := []) ⟨hx, hb, hml, hown, hta⟩ (c_M_put l md _ σ r23 _ hE) ok_M_340 ⟨Nat.le_of_ble_eq_true rfl, Nat.le_of_ble_eq_true rfl⟩ (va_recv hK hP (ci := 7) (q0 := 0) rfl rfl) hP hK hD hS hA rfl hl.1 rfl (Nat.le_of_ble_eq_true rfl) d_M_putName_26 ⟨Nat.zero_le _, Nat.zero_le _⟩ (fun σ26 H locs hE hP hD hS => ?_)
        refine lv_iinc (v := v2 + 1) (lv' := [(2, .int (v2 + 1)), (0, .ref (mA md 0)), (1, .int v1)]) hx hb d_M_putName_29 hl (k := 2) rfl rfl (by decide) rfl (fun ls hl => ?_)
        refine lv_goto (tgt := 2) hx hb d_M_putName_32 (by decide) ?_
        exact ih2 (v2 + 1) σ26 _ _ hP hD hS _ (lv_sub hl [1, 2, 0] rfl) hE
  unfold w_M_putName at hE
  refine lv_iconst (v := 0) hx hb d_M_putName_0 (by decide) ?_
  refine lv_istore_n (lv' := [(2, .int 0), (0, .ref (mA md 0)), (1, .int x0)]) hx hb d_M_putName_1 rfl hl (by decide) rfl (fun ls hl => ?_)
  obtain ⟨n, hE⟩ := hE
  exact L2 x0 n 0 σ _ _ hP hD hS _ (lv_sub hl [1, 2, 0] rfl) hE
theorem ok_M_358 : okV "PlainPagesModel" 358 R_M y_M_putName b_M_putName 3 none 1 := ⟨aW_in 1307 (by decide +kernel) rfl, aW_in 1309 (by decide +kernel) rfl, aW_in 81 (by decide +kernel) rfl, aW_in 92 (by decide +kernel) rfl, cd_M_putName, rfl, by decide +kernel, by decide +kernel, by decide +kernel⟩
theorem d_M_putBeginning_0 : decode b_M_putBeginning 0 = .ok (.aload_n 0, 1) := by decide +kernel
theorem d_M_putBeginning_1 : decode b_M_putBeginning 1 = .ok (.bipush 60, 2) := by decide +kernel
theorem d_M_putBeginning_3 : decode b_M_putBeginning 3 = .ok (.invokevirtual 340, 3) := by decide +kernel
theorem d_M_putBeginning_6 : decode b_M_putBeginning 6 = .ok (.aload_n 0, 1) := by decide +kernel
theorem d_M_putBeginning_7 : decode b_M_putBeginning 7 = .ok (.iload_n 1, 1) := by decide +kernel
theorem d_M_putBeginning_8 : decode b_M_putBeginning 8 = .ok (.invokevirtual 358, 3) := by decide +kernel
theorem d_M_putBeginning_11 : decode b_M_putBeginning 11 = .ok (.aload_n 0, 1) := by decide +kernel
theorem d_M_putBeginning_12 : decode b_M_putBeginning 12 = .ok (.aload_n 0, 1) := by decide +kernel
theorem d_M_putBeginning_13 : decode b_M_putBeginning 13 = .ok (.getfield 40, 3) := by decide +kernel
theorem d_M_putBeginning_16 : decode b_M_putBeginning 16 = .ok (.iload_n 1, 1) := by decide +kernel
theorem d_M_putBeginning_17 : decode b_M_putBeginning 17 = .ok (.iaload, 1) := by decide +kernel
theorem d_M_putBeginning_18 : decode b_M_putBeginning 18 = .ok (.invokevirtual 154, 3) := by decide +kernel
theorem d_M_putBeginning_21 : decode b_M_putBeginning 21 = .ok (.istore_n 2, 1) := by decide +kernel
theorem d_M_putBeginning_22 : decode b_M_putBeginning 22 = .ok (.aload_n 0, 1) := by decide +kernel
theorem d_M_putBeginning_23 : decode b_M_putBeginning 23 = .ok (.iload_n 2, 1) := by decide +kernel
theorem d_M_putBeginning_24 : decode b_M_putBeginning 24 = .ok (.aload_n 0, 1) := by decide +kernel
theorem d_M_putBeginning_25 : decode b_M_putBeginning 25 = .ok (.getfield 92, 3) := by decide +kernel
theorem d_M_putBeginning_28 : decode b_M_putBeginning 28 = .ok (.invokevirtual 157, 3) := by decide +kernel
theorem d_M_putBeginning_31 : decode b_M_putBeginning 31 = .ok (.ifCond .eq 80, 3) := by decide +kernel
theorem d_M_putBeginning_34 : decode b_M_putBeginning 34 = .ok (.aload_n 0, 1) := by decide +kernel
theorem d_M_putBeginning_35 : decode b_M_putBeginning 35 = .ok (.bipush 32, 2) := by decide +kernel
theorem d_M_putBeginning_37 : decode b_M_putBeginning 37 = .ok (.invokevirtual 340, 3) := by decide +kernel
theorem d_M_putBeginning_40 : decode b_M_putBeginning 40 = .ok (.iconst 0, 1) := by decide +kernel
theorem d_M_putBeginning_41 : decode b_M_putBeginning 41 = .ok (.istore_n 3, 1) := by decide +kernel
theorem d_M_putBeginning_42 : decode b_M_putBeginning 42 = .ok (.iload_n 3, 1) := by decide +kernel
theorem d_M_putBeginning_43 : decode b_M_putBeginning 43 = .ok (.aload_n 0, 1) := by decide +kernel
theorem d_M_putBeginning_44 : decode b_M_putBeginning 44 = .ok (.getfield 145, 3) := by decide +kernel
theorem d_M_putBeginning_47 : decode b_M_putBeginning 47 = .ok (.if_icmp .ge 23, 3) := by decide +kernel
theorem d_M_putBeginning_50 : decode b_M_putBeginning 50 = .ok (.aload_n 0, 1) := by decide +kernel
theorem d_M_putBeginning_51 : decode b_M_putBeginning 51 = .ok (.aload_n 0, 1) := by decide +kernel
theorem d_M_putBeginning_52 : decode b_M_putBeginning 52 = .ok (.aload_n 0, 1) := by decide +kernel
theorem d_M_putBeginning_53 : decode b_M_putBeginning 53 = .ok (.getfield 142, 3) := by decide +kernel
theorem d_M_putBeginning_56 : decode b_M_putBeginning 56 = .ok (.iload_n 3, 1) := by decide +kernel
theorem d_M_putBeginning_57 : decode b_M_putBeginning 57 = .ok (.iadd, 1) := by decide +kernel
theorem d_M_putBeginning_58 : decode b_M_putBeginning 58 = .ok (.invokevirtual 95, 3) := by decide +kernel
theorem d_M_putBeginning_61 : decode b_M_putBeginning 61 = .ok (.invokevirtual 340, 3) := by decide +kernel
theorem d_M_putBeginning_64 : decode b_M_putBeginning 64 = .ok (.iinc 3 1, 3) := by decide +kernel
theorem d_M_putBeginning_67 : decode b_M_putBeginning 67 = .ok (.goto (-25), 3) := by decide +kernel
theorem d_M_putBeginning_70 : decode b_M_putBeginning 70 = .ok (.aload_n 0, 1) := by decide +kernel
theorem d_M_putBeginning_71 : decode b_M_putBeginning 71 = .ok (.bipush 61, 2) := by decide +kernel
theorem d_M_putBeginning_73 : decode b_M_putBeginning 73 = .ok (.invokevirtual 340, 3) := by decide +kernel
theorem d_M_putBeginning_76 : decode b_M_putBeginning 76 = .ok (.aload_n 0, 1) := by decide +kernel
theorem d_M_putBeginning_77 : decode b_M_putBeginning 77 = .ok (.bipush 34, 2) := by decide +kernel
theorem d_M_putBeginning_79 : decode b_M_putBeginning 79 = .ok (.invokevirtual 340, 3) := by decide +kernel
theorem d_M_putBeginning_82 : decode b_M_putBeginning 82 = .ok (.aload_n 0, 1) := by decide +kernel
theorem d_M_putBeginning_83 : decode b_M_putBeginning 83 = .ok (.aload_n 0, 1) := by decide +kernel
theorem d_M_putBeginning_84 : decode b_M_putBeginning 84 = .ok (.getfield 148, 3) := by decide +kernel
theorem d_M_putBeginning_87 : decode b_M_putBeginning 87 = .ok (.aload_n 0, 1) := by decide +kernel
theorem d_M_putBeginning_88 : decode b_M_putBeginning 88 = .ok (.getfield 151, 3) := by decide +kernel
theorem d_M_putBeginning_91 : decode b_M_putBeginning 91 = .ok (.iconst 1, 1) := by decide +kernel
theorem d_M_putBeginning_92 : decode b_M_putBeginning 92 = .ok (.invokevirtual 354, 3) := by decide +kernel
theorem d_M_putBeginning_95 : decode b_M_putBeginning 95 = .ok (.aload_n 0, 1) := by decide +kernel
theorem d_M_putBeginning_96 : decode b_M_putBeginning 96 = .ok (.bipush 34, 2) := by decide +kernel
theorem d_M_putBeginning_98 : decode b_M_putBeginning 98 = .ok (.invokevirtual 340, 3) := by decide +kernel
theorem d_M_putBeginning_101 : decode b_M_putBeginning 101 = .ok (.aload_n 0, 1) := by decide +kernel
theorem d_M_putBeginning_102 : decode b_M_putBeginning 102 = .ok (.getfield 151, 3) := by decide +kernel
theorem d_M_putBeginning_105 : decode b_M_putBeginning 105 = .ok (.iconst 1, 1) := by decide +kernel
theorem d_M_putBeginning_106 : decode b_M_putBeginning 106 = .ok (.iadd, 1) := by decide +kernel
theorem d_M_putBeginning_107 : decode b_M_putBeginning 107 = .ok (.istore_n 2, 1) := by decide +kernel
theorem d_M_putBeginning_108 : decode b_M_putBeginning 108 = .ok (.goto (-86), 3) := by decide +kernel
theorem d_M_putBeginning_111 : decode b_M_putBeginning 111 = .ok (.aload_n 0, 1) := by decide +kernel
theorem d_M_putBeginning_112 : decode b_M_putBeginning 112 = .ok (.getfield 49, 3) := by decide +kernel
theorem d_M_putBeginning_115 : decode b_M_putBeginning 115 = .ok (.iload_n 1, 1) := by decide +kernel
theorem d_M_putBeginning_116 : decode b_M_putBeginning 116 = .ok (.iaload, 1) := by decide +kernel
theorem d_M_putBeginning_117 : decode b_M_putBeginning 117 = .ok (.iconst (-1), 1) := by decide +kernel
theorem d_M_putBeginning_118 : decode b_M_putBeginning 118 = .ok (.if_icmp .ne 9, 3) := by decide +kernel
theorem d_M_putBeginning_121 : decode b_M_putBeginning 121 = .ok (.aload_n 0, 1) := by decide +kernel
theorem d_M_putBeginning_122 : decode b_M_putBeginning 122 = .ok (.bipush 47, 2) := by decide +kernel
theorem d_M_putBeginning_124 : decode b_M_putBeginning 124 = .ok (.invokevirtual 340, 3) := by decide +kernel
theorem d_M_putBeginning_127 : decode b_M_putBeginning 127 = .ok (.aload_n 0, 1) := by decide +kernel
theorem d_M_putBeginning_128 : decode b_M_putBeginning 128 = .ok (.bipush 62, 2) := by decide +kernel
theorem d_M_putBeginning_130 : decode b_M_putBeginning 130 = .ok (.invokevirtual 340, 3) := by decide +kernel
theorem d_M_putBeginning_133 : decode b_M_putBeginning 133 = .ok (.return_, 1) := by decide +kernel
def w_M_putBeginning_J127   (post : MPS → Prop) (σ : MPS) : Prop := w_M_put σ 62 (fun σ130 => post σ130)
def w_M_putBeginning_L42  (v1 : Int32) (post : MPS → Prop) : Nat → Int32 → MPS → Prop
  | 0, _, _ => False
  | n + 1, v3, σ => (((mp_nameMany σ) ≤ v3 → w_M_put σ 61 (fun σ73 => w_M_put σ73 34 (fun σ79 => w_M_putRow σ79 (mp_valueAt σ79) (mp_valueEnd σ79) 1 (fun σ92 => w_M_put σ92 34 (fun σ98 => (∃ n, w_M_putBeginning_L22 v1 post n ((mp_valueEnd σ98) + 1) σ98)))))) ∧ (¬ (mp_nameMany σ) ≤ v3 → w_M_x σ ((mp_nameAt σ) + v3) (fun r58 => w_M_put σ r58 (fun σ61 => w_M_putBeginning_L42 v1 post n (v3 + 1) σ61))))
def w_M_putBeginning_L22  (v1 : Int32) (post : MPS → Prop) : Nat → Int32 → MPS → Prop
  | 0, _, _ => False
  | n + 1, v2, σ => w_M_nextAttribute σ v2 (mp_size σ) (fun r28 σ28 => ((r28 = 0 → (vp_in v1 1000 ∧ ((((mp_first σ28) v1.toNatClampNeg) = (-1) → w_M_put σ28 47 (fun σ124 => w_M_putBeginning_J127 post σ124)) ∧ (¬ ((mp_first σ28) v1.toNatClampNeg) = (-1) → w_M_putBeginning_J127 post σ28)))) ∧ (¬ r28 = 0 → w_M_put σ28 32 (fun σ37 => (∃ n, w_M_putBeginning_L42 v1 post n 0 σ37)))))
def w_M_putBeginning  (σ : MPS) (x0 : Int32) (post : MPS → Prop) : Prop := w_M_put σ 60 (fun σ3 => w_M_putName σ3 x0 (fun σ8 => (vp_in x0 1000 ∧ w_M_behindName σ8 ((mp_begins σ8) x0.toNatClampNeg) (fun r18 => (∃ n, w_M_putBeginning_L22 x0 post n r18 σ8)))))
set_option maxHeartbeats 4000000 in
set_option maxRecDepth 100000 in
theorem c_M_putBeginning (l : Launch) (md : MD) (sz : Nat) (σ : MPS) (x0 : Int32)  (post : MPS → Prop) (hE : w_M_putBeginning σ x0 post) : Met l y_M_putBeginning ws_M_putBeginning { frames := 5, cells := 0, slots := 0, locals := 106 } (va_Pc [.ref (mA md 0), .int x0] (gM md σ sz)) (va_Qv post (eM md (va_A (MW md σ) sz)) (va_A (MW md σ) sz)) 0 0 (va_A (MW md σ) sz) := by
  refine Met.ofW (cc := b_M_putBeginning) (maxL := 4) (ret := none) (by decide) rfl ?_
  intro p e s m args below meth c s₁ B hml hv
  obtain ⟨rfl, hsz, hP, hK, hD0⟩ := hv
  have hx := B.exec
  have hb := B.bytes
  have hr := B.returns
  have hta : ∀ w ∈ aW, w.before _ s = true := fun w h => atoms_spec (ws := ws_M_putBeginning) B.pre w (List.mem_cons_of_mem _ h)
  have hown : s.vm.findClass R_M = some m.cls := findClass_of_methodNamed B.named
  have hlocks := B.notSynchronized
  subst hsz
  have hD := hD0.self (sz := s.heap.size)
  generalize hAe : va_A (MW md σ) s.heap.size = A at hD ⊢
  have hA : ∀ q : Nat, s.heap.size ≤ q → A q := fun q h => by rw [← hAe]; exact Or.inr h
  have hS : va_S A s.heap s.heap [] := va_S.rf
  have hP : va_P (mG md) classes (MW md σ) s.heap := hP
  have hl := lv_entry ([.ref (mA md 0), .int x0]) (n := 4) (Nat.le_of_ble_eq_true rfl)
  rw [lg_entry_eq]
  generalize (lg_sl ([.ref (mA md 0), .int x0]) ++ List.replicate (4 - (lg_sl ([.ref (mA md 0), .int x0])).length) Slot.unset).toArray = ls at hl ⊢
  have hl : lv_has ls 4 [(0, .ref (mA md 0)), (1, .int x0)] := hl
  have J127 : ∀ (σ : MPS) (H : Heap) (locs : List Loc) (hP : va_P (mG md) classes (MW md σ) H) (hD : va_D A (MW md σ)) (hS : va_S A s.heap H locs) (ls : Array Slot) (hl : lv_has ls 4 [(0, .ref (mA md 0))]) (hE : w_M_putBeginning_J127 post σ), W p l e (headSpec ws_M_putBeginning { frames := 5, cells := 0, slots := 0, locals := 106 }).room s m ([.ref (mA md 0), .int x0] : List Value).toArray below meth c H locs 0 0 (MQ below (va_Qv post (eM md A) A) ([.ref (mA md 0), .int x0] : List Value).toArray s 0 0 A) (F0 m 127 ls []) := by
    intro  σ H locs hP hD hS ls hl hE
    unfold w_M_putBeginning_J127 at hE
    refine lv_aload_n hx hb d_M_putBeginning_127 rfl (lv_at hl 0 rfl) ?_
    refine lv_bipush (v := 62) hx hb d_M_putBeginning_128 (by decide) ?_
    refine mm_v (b0 := (mA md 0)) (As := [.int 62]) (rest := []) ⟨hx, hb, hml, hown, hta⟩ (c_M_put l md _ σ 62 _ hE) ok_M_340 ⟨Nat.le_of_ble_eq_true rfl, Nat.le_of_ble_eq_true rfl⟩ (va_recv hK hP (ci := 7) (q0 := 0) rfl rfl) hP hK hD hS hA rfl hl.1 rfl (Nat.le_of_ble_eq_true rfl) d_M_putBeginning_130 ⟨Nat.zero_le _, Nat.zero_le _⟩ (fun σ130 H locs hE hP hD hS => ?_)
    exact W.vret hx hb hr (fun t ht hW => ⟨⟨σ130, rfl, hE, by rw [ht]; exact hP, va_K.moved hW.alike hK, hD⟩, hS.F ht⟩) hS.2.2 d_M_putBeginning_133
  have L22 : ∀ (v1 : Int32) (n : Nat) (v2 : Int32) (σ : MPS) (H : Heap) (locs : List Loc) (hP : va_P (mG md) classes (MW md σ) H) (hD : va_D A (MW md σ)) (hS : va_S A s.heap H locs) (ls : Array Slot) (hl : lv_has ls 4 [(0, .ref (mA md 0)), (1, .int v1), (2, .int v2)]) (hE : w_M_putBeginning_L22 v1 post n v2 σ), W p l e (headSpec ws_M_putBeginning { frames := 5, cells := 0, slots := 0, locals := 106 }).room s m ([.ref (mA md 0), .int x0] : List Value).toArray below meth c H locs 0 0 (MQ below (va_Qv post (eM md A) A) ([.ref (mA md 0), .int x0] : List Value).toArray s 0 0 A) (F0 m 22 ls []) := by
    intro v1 n
    induction n with
    | zero => intro v2 σ H locs hP hD hS ls hl hE; exact hE.elim
    | succ n ih22 =>
      have L42 : ∀ (n : Nat) (v3 : Int32) (σ : MPS) (H : Heap) (locs : List Loc) (hP : va_P (mG md) classes (MW md σ) H) (hD : va_D A (MW md σ)) (hS : va_S A s.heap H locs) (ls : Array Slot) (hl : lv_has ls 4 [(0, .ref (mA md 0)), (1, .int v1), (3, .int v3)]) (hE : w_M_putBeginning_L42 v1 (w_M_putBeginning_L22 v1 post n) post n v3 σ), W p l e (headSpec ws_M_putBeginning { frames := 5, cells := 0, slots := 0, locals := 106 }).room s m ([.ref (mA md 0), .int x0] : List Value).toArray below meth c H locs 0 0 (MQ below (va_Qv post (eM md A) A) ([.ref (mA md 0), .int x0] : List Value).toArray s 0 0 A) (F0 m 42 ls []) := by
        intro v1 n
        induction n with
        | zero => intro v3 σ H locs hP hD hS ls hl hE; exact hE.elim
        | succ n ih42 =>
          intro v3 σ H locs hP hD hS ls hl hE
          unfold w_M_putBeginning_L42 at hE
          refine lv_iload_n hx hb d_M_putBeginning_42 rfl (lv_at hl 2 rfl) ?_
          refine lv_aload_n hx hb d_M_putBeginning_43 rfl (lv_at hl 0 rfl) ?_
          refine va_get (D := (mG md)) (ci := 7) (v := .int (mp_nameMany σ)) (C := R_M) (T := F_M) (N := 37) hx hb hta i_M hown hK hP 0 rfl rfl 20 (by decide) (hta _ fl_M_145) (fun _ h9 => h9) rfl d_M_putBeginning_44 ?_
          refine lv_icmp_ge (tgt := 70) hx hb d_M_putBeginning_47 (by decide) (fun cc47 => ?_) (fun cc47 => ?_)
          · have hE := hE.1 cc47
            refine lv_aload_n hx hb d_M_putBeginning_70 rfl (lv_at hl 0 rfl) ?_
            refine lv_bipush (v := 61) hx hb d_M_putBeginning_71 (by decide) ?_
            refine mm_v (b0 := (mA md 0)) (As := [.int 61]) (rest := []) ⟨hx, hb, hml, hown, hta⟩ (c_M_put l md _ σ 61 _ hE) ok_M_340 ⟨Nat.le_of_ble_eq_true rfl, Nat.le_of_ble_eq_true rfl⟩ (va_recv hK hP (ci := 7) (q0 := 0) rfl rfl) hP hK hD hS hA rfl hl.1 rfl (Nat.le_of_ble_eq_true rfl) d_M_putBeginning_73 ⟨Nat.zero_le _, Nat.zero_le _⟩ (fun σ73 H locs hE hP hD hS => ?_)
            refine lv_aload_n hx hb d_M_putBeginning_76 rfl (lv_at hl 0 rfl) ?_
            refine lv_bipush (v := 34) hx hb d_M_putBeginning_77 (by decide) ?_
            refine mm_v (b0 := (mA md 0)) (As := [.int 34]) (rest := []) ⟨hx, hb, hml, hown, hta⟩ (c_M_put l md _ σ73 34 _ hE) ok_M_340 ⟨Nat.le_of_ble_eq_true rfl, Nat.le_of_ble_eq_true rfl⟩ (va_recv hK hP (ci := 7) (q0 := 0) rfl rfl) hP hK hD hS hA rfl hl.1 rfl (Nat.le_of_ble_eq_true rfl) d_M_putBeginning_79 ⟨Nat.zero_le _, Nat.zero_le _⟩ (fun σ79 H locs hE hP hD hS => ?_)
            refine lv_aload_n hx hb d_M_putBeginning_82 rfl (lv_at hl 0 rfl) ?_
            refine lv_aload_n hx hb d_M_putBeginning_83 rfl (lv_at hl 0 rfl) ?_
            refine va_get (D := (mG md)) (ci := 7) (v := .int (mp_valueAt σ79)) (C := R_M) (T := F_M) (N := 37) hx hb hta i_M hown hK hP 0 rfl rfl 21 (by decide) (hta _ fl_M_148) (fun _ h9 => h9) rfl d_M_putBeginning_84 ?_
            refine lv_aload_n hx hb d_M_putBeginning_87 rfl (lv_at hl 0 rfl) ?_
            refine va_get (D := (mG md)) (ci := 7) (v := .int (mp_valueEnd σ79)) (C := R_M) (T := F_M) (N := 37) hx hb hta i_M hown hK hP 0 rfl rfl 22 (by decide) (hta _ fl_M_151) (fun _ h9 => h9) rfl d_M_putBeginning_88 ?_
            refine lv_iconst (v := 1) hx hb d_M_putBeginning_91 (by decide) ?_
            refine mm_v (b0 := (mA md 0)) (As := [.int (mp_valueAt σ79), .int (mp_valueEnd σ79), .int 1]) (rest := []) ⟨hx, hb, hml, hown, hta⟩ (c_M_putRow l md _ σ79 (mp_valueAt σ79) (mp_valueEnd σ79) 1 _ hE) ok_M_354 ⟨Nat.le_of_ble_eq_true rfl, Nat.le_of_ble_eq_true rfl⟩ (va_recv hK hP (ci := 7) (q0 := 0) rfl rfl) hP hK hD hS hA rfl hl.1 rfl (Nat.le_of_ble_eq_true rfl) d_M_putBeginning_92 ⟨Nat.zero_le _, Nat.zero_le _⟩ (fun σ92 H locs hE hP hD hS => ?_)
            refine lv_aload_n hx hb d_M_putBeginning_95 rfl (lv_at hl 0 rfl) ?_
            refine lv_bipush (v := 34) hx hb d_M_putBeginning_96 (by decide) ?_
            refine mm_v (b0 := (mA md 0)) (As := [.int 34]) (rest := []) ⟨hx, hb, hml, hown, hta⟩ (c_M_put l md _ σ92 34 _ hE) ok_M_340 ⟨Nat.le_of_ble_eq_true rfl, Nat.le_of_ble_eq_true rfl⟩ (va_recv hK hP (ci := 7) (q0 := 0) rfl rfl) hP hK hD hS hA rfl hl.1 rfl (Nat.le_of_ble_eq_true rfl) d_M_putBeginning_98 ⟨Nat.zero_le _, Nat.zero_le _⟩ (fun σ98 H locs hE hP hD hS => ?_)
            refine lv_aload_n hx hb d_M_putBeginning_101 rfl (lv_at hl 0 rfl) ?_
            refine va_get (D := (mG md)) (ci := 7) (v := .int (mp_valueEnd σ98)) (C := R_M) (T := F_M) (N := 37) hx hb hta i_M hown hK hP 0 rfl rfl 22 (by decide) (hta _ fl_M_151) (fun _ h9 => h9) rfl d_M_putBeginning_102 ?_
            refine lv_iconst (v := 1) hx hb d_M_putBeginning_105 (by decide) ?_
            refine lv_iadd hx hb d_M_putBeginning_106 ?_
            refine lv_istore_n (lv' := [(2, .int ((mp_valueEnd σ98) + 1)), (0, .ref (mA md 0)), (1, .int v1), (3, .int v3)]) hx hb d_M_putBeginning_107 rfl hl (by decide) rfl (fun ls hl => ?_)
            refine lv_goto (tgt := 22) hx hb d_M_putBeginning_108 (by decide) ?_
            obtain ⟨n, hE⟩ := hE
            exact L22 v1 n ((mp_valueEnd σ98) + 1) σ98 _ _ hP hD hS _ (lv_sub hl [1, 2, 0] rfl) hE
          · have hE := hE.2 cc47
            refine lv_aload_n hx hb d_M_putBeginning_50 rfl (lv_at hl 0 rfl) ?_
            refine lv_aload_n hx hb d_M_putBeginning_51 rfl (lv_at hl 0 rfl) ?_
            refine lv_aload_n hx hb d_M_putBeginning_52 rfl (lv_at hl 0 rfl) ?_
            refine va_get (D := (mG md)) (ci := 7) (v := .int (mp_nameAt σ)) (C := R_M) (T := F_M) (N := 37) hx hb hta i_M hown hK hP 0 rfl rfl 19 (by decide) (hta _ fl_M_142) (fun _ h9 => h9) rfl d_M_putBeginning_53 ?_
            refine lv_iload_n hx hb d_M_putBeginning_56 rfl (lv_at hl 2 rfl) ?_
            refine lv_iadd hx hb d_M_putBeginning_57 ?_
            refine ro_V (b0 := (mA md 0)) (As := [.int ((mp_nameAt σ) + v3)]) (rest := [.ref (mA md 0)]) ⟨hx, hb, hml, hown, hta⟩ (c_M_x l md σ ((mp_nameAt σ) + v3)  _ hE) ok_M_95 ⟨Nat.le_of_ble_eq_true rfl, Nat.le_of_ble_eq_true rfl⟩ blind_rM (va_recv hK hP (ci := 7) (q0 := 0) rfl rfl) (rM_of hP hK) rfl hl.1 rfl (Nat.le_of_ble_eq_true rfl) d_M_putBeginning_58 ⟨Nat.zero_le _, Nat.zero_le _⟩ (fun r58 hE => ?_)
            refine mm_v (b0 := (mA md 0)) (As := [.int r58]) (rest := []) ⟨hx, hb, hml, hown, hta⟩ (c_M_put l md _ σ r58 _ hE) ok_M_340 ⟨Nat.le_of_ble_eq_true rfl, Nat.le_of_ble_eq_true rfl⟩ (va_recv hK hP (ci := 7) (q0 := 0) rfl rfl) hP hK hD hS hA rfl hl.1 rfl (Nat.le_of_ble_eq_true rfl) d_M_putBeginning_61 ⟨Nat.zero_le _, Nat.zero_le _⟩ (fun σ61 H locs hE hP hD hS => ?_)
            refine lv_iinc (v := v3 + 1) (lv' := [(3, .int (v3 + 1)), (0, .ref (mA md 0)), (1, .int v1)]) hx hb d_M_putBeginning_64 hl (k := 2) rfl rfl (by decide) rfl (fun ls hl => ?_)
            refine lv_goto (tgt := 42) hx hb d_M_putBeginning_67 (by decide) ?_
            exact ih42 (v3 + 1) σ61 _ _ hP hD hS _ (lv_sub hl [1, 2, 0] rfl) hE
      intro v2 σ H locs hP hD hS ls hl hE
      unfold w_M_putBeginning_L22 at hE
      refine lv_aload_n hx hb d_M_putBeginning_22 rfl (lv_at hl 0 rfl) ?_
      refine lv_iload_n hx hb d_M_putBeginning_23 rfl (lv_at hl 2 rfl) ?_
      refine lv_aload_n hx hb d_M_putBeginning_24 rfl (lv_at hl 0 rfl) ?_
      refine va_get (D := (mG md)) (ci := 7) (v := .int (mp_size σ)) (C := R_M) (T := F_M) (N := 37) hx hb hta i_M hown hK hP 0 rfl rfl 7 (by decide) (hta _ fl_M_92) (fun _ h9 => h9) rfl d_M_putBeginning_25 ?_
      refine mm_i (b0 := (mA md 0)) (As := [.int v2, .int (mp_size σ)]) (rest := []) ⟨hx, hb, hml, hown, hta⟩ (c_M_nextAttribute l md _ σ v2 (mp_size σ) _ hE) ok_M_157 ⟨Nat.le_of_ble_eq_true rfl, Nat.le_of_ble_eq_true rfl⟩ (va_recv hK hP (ci := 7) (q0 := 0) rfl rfl) hP hK hD hS hA rfl hl.1 rfl (Nat.le_of_ble_eq_true rfl) d_M_putBeginning_28 ⟨Nat.zero_le _, Nat.zero_le _⟩ (fun r28 σ28 H locs hE hP hD hS => ?_)
      refine lv_if_eq (tgt := 111) hx hb d_M_putBeginning_31 (by decide) (fun cc31 => ?_) (fun cc31 => ?_)
      · have hE := hE.1 cc31
        refine lv_aload_n hx hb d_M_putBeginning_111 rfl (lv_at hl 0 rfl) ?_
        refine va_get (D := (mG md)) (ci := 7) (v := .ref (mA md 12)) (C := R_M) (T := F_M) (N := 37) hx hb hta i_M hown hK hP 0 rfl rfl 27 (by decide) (hta _ fl_M_49) (fun _ h9 => h9) rfl d_M_putBeginning_112 ?_
        refine lv_iload_n hx hb d_M_putBeginning_115 rfl (lv_at hl 1 rfl) ?_
        obtain ⟨hI116, hE⟩ := hE
        refine va_iald (D := (mG md)) (f := mp_first σ28) hx hb hK hP 12 0 rfl rfl hI116 d_M_putBeginning_116 ?_
        refine lv_iconst (v := -1) hx hb d_M_putBeginning_117 (by decide) ?_
        refine lv_icmp_ne (tgt := 127) hx hb d_M_putBeginning_118 (by decide) (fun cc118 => ?_) (fun cc118 => ?_)
        · have hE := hE.2 cc118
          exact J127  σ28 _ _ hP hD hS _ (lv_sub hl [0] rfl) hE
        · have hE := hE.1 cc118
          refine lv_aload_n hx hb d_M_putBeginning_121 rfl (lv_at hl 0 rfl) ?_
          refine lv_bipush (v := 47) hx hb d_M_putBeginning_122 (by decide) ?_
          refine mm_v (b0 := (mA md 0)) (As := [.int 47]) (rest := []) ⟨hx, hb, hml, hown, hta⟩ (c_M_put l md _ σ28 47 _ hE) ok_M_340 ⟨Nat.le_of_ble_eq_true rfl, Nat.le_of_ble_eq_true rfl⟩ (va_recv hK hP (ci := 7) (q0 := 0) rfl rfl) hP hK hD hS hA rfl hl.1 rfl (Nat.le_of_ble_eq_true rfl) d_M_putBeginning_124 ⟨Nat.zero_le _, Nat.zero_le _⟩ (fun σ124 H locs hE hP hD hS => ?_)
          exact J127  σ124 _ _ hP hD hS _ (lv_sub hl [0] rfl) hE
      · have hE := hE.2 cc31
        refine lv_aload_n hx hb d_M_putBeginning_34 rfl (lv_at hl 0 rfl) ?_
        refine lv_bipush (v := 32) hx hb d_M_putBeginning_35 (by decide) ?_
        refine mm_v (b0 := (mA md 0)) (As := [.int 32]) (rest := []) ⟨hx, hb, hml, hown, hta⟩ (c_M_put l md _ σ28 32 _ hE) ok_M_340 ⟨Nat.le_of_ble_eq_true rfl, Nat.le_of_ble_eq_true rfl⟩ (va_recv hK hP (ci := 7) (q0 := 0) rfl rfl) hP hK hD hS hA rfl hl.1 rfl (Nat.le_of_ble_eq_true rfl) d_M_putBeginning_37 ⟨Nat.zero_le _, Nat.zero_le _⟩ (fun σ37 H locs hE hP hD hS => ?_)
        refine lv_iconst (v := 0) hx hb d_M_putBeginning_40 (by decide) ?_
        refine lv_istore_n (lv' := [(3, .int 0), (0, .ref (mA md 0)), (1, .int v1), (2, .int v2)]) hx hb d_M_putBeginning_41 rfl hl (by decide) rfl (fun ls hl => ?_)
        obtain ⟨n, hE⟩ := hE
        exact L42 v1 n 0 σ37 _ _ hP hD hS _ (lv_sub hl [1, 2, 0] rfl) hE
  unfold w_M_putBeginning at hE
  refine lv_aload_n hx hb d_M_putBeginning_0 rfl (lv_at hl 0 rfl) ?_
  refine lv_bipush (v := 60) hx hb d_M_putBeginning_1 (by decide) ?_
  refine mm_v (b0 := (mA md 0)) (As := [.int 60]) (rest := []) ⟨hx, hb, hml, hown, hta⟩ (c_M_put l md _ σ 60 _ hE) ok_M_340 ⟨Nat.le_of_ble_eq_true rfl, Nat.le_of_ble_eq_true rfl⟩ (va_recv hK hP (ci := 7) (q0 := 0) rfl rfl) hP hK hD hS hA rfl hl.1 rfl (Nat.le_of_ble_eq_true rfl) d_M_putBeginning_3 ⟨Nat.zero_le _, Nat.zero_le _⟩ (fun σ3 H locs hE hP hD hS => ?_)
  refine lv_aload_n hx hb d_M_putBeginning_6 rfl (lv_at hl 0 rfl) ?_
  refine lv_iload_n hx hb d_M_putBeginning_7 rfl (lv_at hl 1 rfl) ?_
  refine mm_v (b0 := (mA md 0)) (As := [.int x0]) (rest := []) ⟨hx, hb, hml, hown, hta⟩ (c_M_putName l md _ σ3 x0 _ hE) ok_M_358 ⟨Nat.le_of_ble_eq_true rfl, Nat.le_of_ble_eq_true rfl⟩ (va_recv hK hP (ci := 7) (q0 := 0) rfl rfl) hP hK hD hS hA rfl hl.1 rfl (Nat.le_of_ble_eq_true rfl) d_M_putBeginning_8 ⟨Nat.zero_le _, Nat.zero_le _⟩ (fun σ8 H locs hE hP hD hS => ?_)
  refine lv_aload_n hx hb d_M_putBeginning_11 rfl (lv_at hl 0 rfl) ?_
  refine lv_aload_n hx hb d_M_putBeginning_12 rfl (lv_at hl 0 rfl) ?_
  refine va_get (D := (mG md)) (ci := 7) (v := .ref (mA md 9)) (C := R_M) (T := F_M) (N := 37) hx hb hta i_M hown hK hP 0 rfl rfl 24 (by decide) (hta _ fl_M_40) (fun _ h9 => h9) rfl d_M_putBeginning_13 ?_
  refine lv_iload_n hx hb d_M_putBeginning_16 rfl (lv_at hl 1 rfl) ?_
  obtain ⟨hI17, hE⟩ := hE
  refine va_iald (D := (mG md)) (f := mp_begins σ8) hx hb hK hP 9 0 rfl rfl hI17 d_M_putBeginning_17 ?_
  refine ro_V (b0 := (mA md 0)) (As := [.int ((mp_begins σ8) x0.toNatClampNeg)]) (rest := []) ⟨hx, hb, hml, hown, hta⟩ (c_M_behindName l md σ8 ((mp_begins σ8) x0.toNatClampNeg)  _ hE) ok_M_154 ⟨Nat.le_of_ble_eq_true rfl, Nat.le_of_ble_eq_true rfl⟩ blind_rM (va_recv hK hP (ci := 7) (q0 := 0) rfl rfl) (rM_of hP hK) rfl hl.1 rfl (Nat.le_of_ble_eq_true rfl) d_M_putBeginning_18 ⟨Nat.zero_le _, Nat.zero_le _⟩ (fun r18 hE => ?_)
  refine lv_istore_n (lv' := [(2, .int r18), (0, .ref (mA md 0)), (1, .int x0)]) hx hb d_M_putBeginning_21 rfl hl (by decide) rfl (fun ls hl => ?_)
  obtain ⟨n, hE⟩ := hE
  exact L22 x0 n r18 σ8 _ _ hP hD hS _ (lv_sub hl [1, 2, 0] rfl) hE

theorem d_M_putEnding_0 : decode b_M_putEnding 0 = .ok (.aload_n 0, 1) := by decide +kernel
theorem d_M_putEnding_1 : decode b_M_putEnding 1 = .ok (.bipush 60, 2) := by decide +kernel
theorem d_M_putEnding_3 : decode b_M_putEnding 3 = .ok (.invokevirtual 340, 3) := by decide +kernel
theorem d_M_putEnding_6 : decode b_M_putEnding 6 = .ok (.aload_n 0, 1) := by decide +kernel
theorem d_M_putEnding_7 : decode b_M_putEnding 7 = .ok (.bipush 47, 2) := by decide +kernel
theorem d_M_putEnding_9 : decode b_M_putEnding 9 = .ok (.invokevirtual 340, 3) := by decide +kernel
theorem d_M_putEnding_12 : decode b_M_putEnding 12 = .ok (.aload_n 0, 1) := by decide +kernel
theorem d_M_putEnding_13 : decode b_M_putEnding 13 = .ok (.iload_n 1, 1) := by decide +kernel
theorem d_M_putEnding_14 : decode b_M_putEnding 14 = .ok (.invokevirtual 358, 3) := by decide +kernel
theorem d_M_putEnding_17 : decode b_M_putEnding 17 = .ok (.aload_n 0, 1) := by decide +kernel
theorem d_M_putEnding_18 : decode b_M_putEnding 18 = .ok (.bipush 62, 2) := by decide +kernel
theorem d_M_putEnding_20 : decode b_M_putEnding 20 = .ok (.invokevirtual 340, 3) := by decide +kernel
theorem d_M_putEnding_23 : decode b_M_putEnding 23 = .ok (.return_, 1) := by decide +kernel
def w_M_putEnding  (σ : MPS) (x0 : Int32) (post : MPS → Prop) : Prop := w_M_put σ 60 (fun σ3 => w_M_put σ3 47 (fun σ9 => w_M_putName σ9 x0 (fun σ14 => w_M_put σ14 62 (fun σ20 => post σ20))))
set_option maxHeartbeats 4000000 in
set_option maxRecDepth 100000 in
theorem c_M_putEnding (l : Launch) (md : MD) (sz : Nat) (σ : MPS) (x0 : Int32)  (post : MPS → Prop) (hE : w_M_putEnding σ x0 post) : Met l y_M_putEnding ws_M_putEnding { frames := 5, cells := 0, slots := 0, locals := 106 } (va_Pc [.ref (mA md 0), .int x0] (gM md σ sz)) (va_Qv post (eM md (va_A (MW md σ) sz)) (va_A (MW md σ) sz)) 0 0 (va_A (MW md σ) sz) := by
  refine Met.ofW (cc := b_M_putEnding) (maxL := 2) (ret := none) (by decide) rfl ?_
  intro p e s m args below meth c s₁ B hml hv
  obtain ⟨rfl, hsz, hP, hK, hD0⟩ := hv
  have hx := B.exec
  have hb := B.bytes
  have hr := B.returns
  have hta : ∀ w ∈ aW, w.before _ s = true := fun w h => atoms_spec (ws := ws_M_putEnding) B.pre w (List.mem_cons_of_mem _ h)
  have hown : s.vm.findClass R_M = some m.cls := findClass_of_methodNamed B.named
  have hlocks := B.notSynchronized
  subst hsz
  have hD := hD0.self (sz := s.heap.size)
  generalize hAe : va_A (MW md σ) s.heap.size = A at hD ⊢
  have hA : ∀ q : Nat, s.heap.size ≤ q → A q := fun q h => by rw [← hAe]; exact Or.inr h
  have hS : va_S A s.heap s.heap [] := va_S.rf
  have hP : va_P (mG md) classes (MW md σ) s.heap := hP
  have hl := lv_entry ([.ref (mA md 0), .int x0]) (n := 2) (Nat.le_of_ble_eq_true rfl)
  rw [lg_entry_eq]
  generalize (lg_sl ([.ref (mA md 0), .int x0]) ++ List.replicate (2 - (lg_sl ([.ref (mA md 0), .int x0])).length) Slot.unset).toArray = ls at hl ⊢
  have hl : lv_has ls 2 [(0, .ref (mA md 0)), (1, .int x0)] := hl
  unfold w_M_putEnding at hE
  refine lv_aload_n hx hb d_M_putEnding_0 rfl (lv_at hl 0 rfl) ?_
  refine lv_bipush (v := 60) hx hb d_M_putEnding_1 (by decide) ?_
  refine mm_v (b0 := (mA md 0)) (As := [.int 60]) (rest := []) ⟨hx, hb, hml, hown, hta⟩ (c_M_put l md _ σ 60 _ hE) ok_M_340 ⟨Nat.le_of_ble_eq_true rfl, Nat.le_of_ble_eq_true rfl⟩ (va_recv hK hP (ci := 7) (q0 := 0) rfl rfl) hP hK hD hS hA rfl hl.1 rfl (Nat.le_of_ble_eq_true rfl) d_M_putEnding_3 ⟨Nat.zero_le _, Nat.zero_le _⟩ (fun σ3 H locs hE hP hD hS => ?_)
  refine lv_aload_n hx hb d_M_putEnding_6 rfl (lv_at hl 0 rfl) ?_
  refine lv_bipush (v := 47) hx hb d_M_putEnding_7 (by decide) ?_
  refine mm_v (b0 := (mA md 0)) (As := [.int 47]) (rest := []) ⟨hx, hb, hml, hown, hta⟩ (c_M_put l md _ σ3 47 _ hE) ok_M_340 ⟨Nat.le_of_ble_eq_true rfl, Nat.le_of_ble_eq_true rfl⟩ (va_recv hK hP (ci := 7) (q0 := 0) rfl rfl) hP hK hD hS hA rfl hl.1 rfl (Nat.le_of_ble_eq_true rfl) d_M_putEnding_9 ⟨Nat.zero_le _, Nat.zero_le _⟩ (fun σ9 H locs hE hP hD hS => ?_)
  refine lv_aload_n hx hb d_M_putEnding_12 rfl (lv_at hl 0 rfl) ?_
  refine lv_iload_n hx hb d_M_putEnding_13 rfl (lv_at hl 1 rfl) ?_
  refine mm_v (b0 := (mA md 0)) (As := [.int x0]) (rest := []) ⟨hx, hb, hml, hown, hta⟩ (c_M_putName l md _ σ9 x0 _ hE) ok_M_358 ⟨Nat.le_of_ble_eq_true rfl, Nat.le_of_ble_eq_true rfl⟩ (va_recv hK hP (ci := 7) (q0 := 0) rfl rfl) hP hK hD hS hA rfl hl.1 rfl (Nat.le_of_ble_eq_true rfl) d_M_putEnding_14 ⟨Nat.zero_le _, Nat.zero_le _⟩ (fun σ14 H locs hE hP hD hS => ?_)
  refine lv_aload_n hx hb d_M_putEnding_17 rfl (lv_at hl 0 rfl) ?_
  refine lv_bipush (v := 62) hx hb d_M_putEnding_18 (by decide) ?_
  refine mm_v (b0 := (mA md 0)) (As := [.int 62]) (rest := []) ⟨hx, hb, hml, hown, hta⟩ (c_M_put l md _ σ14 62 _ hE) ok_M_340 ⟨Nat.le_of_ble_eq_true rfl, Nat.le_of_ble_eq_true rfl⟩ (va_recv hK hP (ci := 7) (q0 := 0) rfl rfl) hP hK hD hS hA rfl hl.1 rfl (Nat.le_of_ble_eq_true rfl) d_M_putEnding_20 ⟨Nat.zero_le _, Nat.zero_le _⟩ (fun σ20 H locs hE hP hD hS => ?_)
  exact W.vret hx hb hr (fun t ht hW => ⟨⟨σ20, rfl, hE, by rw [ht]; exact hP, va_K.moved hW.alike hK, hD⟩, hS.F ht⟩) hS.2.2 d_M_putEnding_23
theorem ok_M_361 : okV "PlainPagesModel" 361 R_M y_M_putBeginning b_M_putBeginning 4 none 1 := ⟨aW_in 1303 (by decide +kernel) rfl, aW_in 1305 (by decide +kernel) rfl, aW_in 80 (by decide +kernel) rfl, aW_in 92 (by decide +kernel) rfl, cd_M_putBeginning, rfl, by decide +kernel, by decide +kernel, by decide +kernel⟩
theorem ok_M_364 : okV "PlainPagesModel" 364 R_M y_M_putEnding b_M_putEnding 2 none 1 := ⟨aW_in 1311 (by decide +kernel) rfl, aW_in 1313 (by decide +kernel) rfl, aW_in 82 (by decide +kernel) rfl, aW_in 92 (by decide +kernel) rfl, cd_M_putEnding, rfl, by decide +kernel, by decide +kernel, by decide +kernel⟩
theorem d_M_write_0 : decode b_M_write 0 = .ok (.aload_n 0, 1) := by decide +kernel
theorem d_M_write_1 : decode b_M_write 1 = .ok (.aload_n 0, 1) := by decide +kernel
theorem d_M_write_2 : decode b_M_write 2 = .ok (.iload_n 1, 1) := by decide +kernel
theorem d_M_write_3 : decode b_M_write 3 = .ok (.invokevirtual 323, 3) := by decide +kernel
theorem d_M_write_6 : decode b_M_write 6 = .ok (.ifCond .eq 7, 3) := by decide +kernel
theorem d_M_write_9 : decode b_M_write 9 = .ok (.iconst 0, 1) := by decide +kernel
theorem d_M_write_10 : decode b_M_write 10 = .ok (.goto 4, 3) := by decide +kernel
theorem d_M_write_13 : decode b_M_write 13 = .ok (.iconst 1, 1) := by decide +kernel
theorem d_M_write_14 : decode b_M_write 14 = .ok (.putfield 70, 3) := by decide +kernel
theorem d_M_write_17 : decode b_M_write 17 = .ok (.aload_n 0, 1) := by decide +kernel
theorem d_M_write_18 : decode b_M_write 18 = .ok (.getfield 70, 3) := by decide +kernel
theorem d_M_write_21 : decode b_M_write 21 = .ok (.ifCond .le 5, 3) := by decide +kernel
theorem d_M_write_24 : decode b_M_write 24 = .ok (.iconst 0, 1) := by decide +kernel
theorem d_M_write_25 : decode b_M_write 25 = .ok (.ireturn, 1) := by decide +kernel
theorem d_M_write_26 : decode b_M_write 26 = .ok (.aload_n 0, 1) := by decide +kernel
theorem d_M_write_27 : decode b_M_write 27 = .ok (.iconst 0, 1) := by decide +kernel
theorem d_M_write_28 : decode b_M_write 28 = .ok (.putfield 337, 3) := by decide +kernel
theorem d_M_write_31 : decode b_M_write 31 = .ok (.aload_n 0, 1) := by decide +kernel
theorem d_M_write_32 : decode b_M_write 32 = .ok (.iload_n 1, 1) := by decide +kernel
theorem d_M_write_33 : decode b_M_write 33 = .ok (.invokevirtual 351, 3) := by decide +kernel
theorem d_M_write_36 : decode b_M_write 36 = .ok (.istore_n 2, 1) := by decide +kernel
theorem d_M_write_37 : decode b_M_write 37 = .ok (.iload_n 1, 1) := by decide +kernel
theorem d_M_write_38 : decode b_M_write 38 = .ok (.istore_n 3, 1) := by decide +kernel
theorem d_M_write_39 : decode b_M_write 39 = .ok (.iload_n 3, 1) := by decide +kernel
theorem d_M_write_40 : decode b_M_write 40 = .ok (.iload_n 2, 1) := by decide +kernel
theorem d_M_write_41 : decode b_M_write 41 = .ok (.if_icmp .gt 109, 3) := by decide +kernel
theorem d_M_write_44 : decode b_M_write 44 = .ok (.aload_n 0, 1) := by decide +kernel
theorem d_M_write_45 : decode b_M_write 45 = .ok (.getfield 36, 3) := by decide +kernel
theorem d_M_write_48 : decode b_M_write 48 = .ok (.iload_n 3, 1) := by decide +kernel
theorem d_M_write_49 : decode b_M_write 49 = .ok (.baload, 1) := by decide +kernel
theorem d_M_write_50 : decode b_M_write 50 = .ok (.ifCond .eq 11, 3) := by decide +kernel
theorem d_M_write_53 : decode b_M_write 53 = .ok (.aload_n 0, 1) := by decide +kernel
theorem d_M_write_54 : decode b_M_write 54 = .ok (.iload_n 3, 1) := by decide +kernel
theorem d_M_write_55 : decode b_M_write 55 = .ok (.invokevirtual 361, 3) := by decide +kernel
theorem d_M_write_58 : decode b_M_write 58 = .ok (.goto 20, 3) := by decide +kernel
theorem d_M_write_61 : decode b_M_write 61 = .ok (.aload_n 0, 1) := by decide +kernel
theorem d_M_write_62 : decode b_M_write 62 = .ok (.aload_n 0, 1) := by decide +kernel
theorem d_M_write_63 : decode b_M_write 63 = .ok (.getfield 40, 3) := by decide +kernel
theorem d_M_write_66 : decode b_M_write 66 = .ok (.iload_n 3, 1) := by decide +kernel
theorem d_M_write_67 : decode b_M_write 67 = .ok (.iaload, 1) := by decide +kernel
theorem d_M_write_68 : decode b_M_write 68 = .ok (.aload_n 0, 1) := by decide +kernel
theorem d_M_write_69 : decode b_M_write 69 = .ok (.getfield 43, 3) := by decide +kernel
theorem d_M_write_72 : decode b_M_write 72 = .ok (.iload_n 3, 1) := by decide +kernel
theorem d_M_write_73 : decode b_M_write 73 = .ok (.iaload, 1) := by decide +kernel
theorem d_M_write_74 : decode b_M_write 74 = .ok (.iconst 1, 1) := by decide +kernel
theorem d_M_write_75 : decode b_M_write 75 = .ok (.invokevirtual 354, 3) := by decide +kernel
theorem d_M_write_78 : decode b_M_write 78 = .ok (.aload_n 0, 1) := by decide +kernel
theorem d_M_write_79 : decode b_M_write 79 = .ok (.getfield 36, 3) := by decide +kernel
theorem d_M_write_82 : decode b_M_write 82 = .ok (.iload_n 3, 1) := by decide +kernel
theorem d_M_write_83 : decode b_M_write 83 = .ok (.baload, 1) := by decide +kernel
theorem d_M_write_84 : decode b_M_write 84 = .ok (.ifCond .eq 17, 3) := by decide +kernel
theorem d_M_write_87 : decode b_M_write 87 = .ok (.aload_n 0, 1) := by decide +kernel
theorem d_M_write_88 : decode b_M_write 88 = .ok (.getfield 49, 3) := by decide +kernel
theorem d_M_write_91 : decode b_M_write 91 = .ok (.iload_n 3, 1) := by decide +kernel
theorem d_M_write_92 : decode b_M_write 92 = .ok (.iaload, 1) := by decide +kernel
theorem d_M_write_93 : decode b_M_write 93 = .ok (.iconst (-1), 1) := by decide +kernel
theorem d_M_write_94 : decode b_M_write 94 = .ok (.if_icmp .eq 7, 3) := by decide +kernel
theorem d_M_write_97 : decode b_M_write 97 = .ok (.iconst (-1), 1) := by decide +kernel
theorem d_M_write_98 : decode b_M_write 98 = .ok (.goto 4, 3) := by decide +kernel
theorem d_M_write_101 : decode b_M_write 101 = .ok (.iload_n 3, 1) := by decide +kernel
theorem d_M_write_102 : decode b_M_write 102 = .ok (.istore 4, 2) := by decide +kernel
theorem d_M_write_104 : decode b_M_write 104 = .ok (.iload 4, 2) := by decide +kernel
theorem d_M_write_106 : decode b_M_write 106 = .ok (.ifCond .lt 38, 3) := by decide +kernel
theorem d_M_write_109 : decode b_M_write 109 = .ok (.iload 4, 2) := by decide +kernel
theorem d_M_write_111 : decode b_M_write 111 = .ok (.iload_n 1, 1) := by decide +kernel
theorem d_M_write_112 : decode b_M_write 112 = .ok (.if_icmp .eq 32, 3) := by decide +kernel
theorem d_M_write_115 : decode b_M_write 115 = .ok (.aload_n 0, 1) := by decide +kernel
theorem d_M_write_116 : decode b_M_write 116 = .ok (.getfield 52, 3) := by decide +kernel
theorem d_M_write_119 : decode b_M_write 119 = .ok (.iload 4, 2) := by decide +kernel
theorem d_M_write_121 : decode b_M_write 121 = .ok (.iaload, 1) := by decide +kernel
theorem d_M_write_122 : decode b_M_write 122 = .ok (.iconst (-1), 1) := by decide +kernel
theorem d_M_write_123 : decode b_M_write 123 = .ok (.if_icmp .ne 21, 3) := by decide +kernel
theorem d_M_write_126 : decode b_M_write 126 = .ok (.aload_n 0, 1) := by decide +kernel
theorem d_M_write_127 : decode b_M_write 127 = .ok (.getfield 46, 3) := by decide +kernel
theorem d_M_write_130 : decode b_M_write 130 = .ok (.iload 4, 2) := by decide +kernel
theorem d_M_write_132 : decode b_M_write 132 = .ok (.iaload, 1) := by decide +kernel
theorem d_M_write_133 : decode b_M_write 133 = .ok (.istore 4, 2) := by decide +kernel
theorem d_M_write_135 : decode b_M_write 135 = .ok (.aload_n 0, 1) := by decide +kernel
theorem d_M_write_136 : decode b_M_write 136 = .ok (.iload 4, 2) := by decide +kernel
theorem d_M_write_138 : decode b_M_write 138 = .ok (.invokevirtual 364, 3) := by decide +kernel
theorem d_M_write_141 : decode b_M_write 141 = .ok (.goto (-37), 3) := by decide +kernel
theorem d_M_write_144 : decode b_M_write 144 = .ok (.iinc 3 1, 3) := by decide +kernel
theorem d_M_write_147 : decode b_M_write 147 = .ok (.goto (-108), 3) := by decide +kernel
theorem d_M_write_150 : decode b_M_write 150 = .ok (.aload_n 0, 1) := by decide +kernel
theorem d_M_write_151 : decode b_M_write 151 = .ok (.getfield 337, 3) := by decide +kernel
theorem d_M_write_154 : decode b_M_write 154 = .ok (.ireturn, 1) := by decide +kernel
def w_M_write_J144  (v1 : Int32) (v2 : Int32) (K : Int32 → MPS → Prop) (post : Int32 → MPS → Prop) (v3 : Int32) (σ : MPS) : Prop := K (v3 + 1) σ
def w_M_write_L104  (v1 : Int32) (v2 : Int32) (v3 : Int32) (post : Int32 → MPS → Prop) : Nat → Int32 → MPS → Prop
  | 0, _, _ => False
  | n + 1, v4, σ => ((v4 < 0 → w_M_write_J144 v1 v2 (w_M_write_L39 v1 v2 post n) post v3 σ) ∧ (¬ v4 < 0 → ((v4 = v1 → w_M_write_J144 v1 v2 (w_M_write_L39 v1 v2 post n) post v3 σ) ∧ (¬ v4 = v1 → (vp_in v4 1000 ∧ ((((mp_next σ) v4.toNatClampNeg) = (-1) → (vp_in v4 1000 ∧ w_M_putEnding σ ((mp_up σ) v4.toNatClampNeg) (fun σ138 => w_M_write_L104 v1 v2 v3 post n ((mp_up σ) v4.toNatClampNeg) σ138))) ∧ (¬ ((mp_next σ) v4.toNatClampNeg) = (-1) → w_M_write_J144 v1 v2 (w_M_write_L39 v1 v2 post n) post v3 σ)))))))
def w_M_write_J102  (v1 : Int32) (v2 : Int32) (K : Int32 → MPS → Prop) (post : Int32 → MPS → Prop) (v3 : Int32) (t0 : Int32) (σ : MPS) : Prop := (∃ n, w_M_write_L104 v1 v2 v3 post n t0 σ)
def w_M_write_J101  (v1 : Int32) (v2 : Int32) (K : Int32 → MPS → Prop) (post : Int32 → MPS → Prop) (v3 : Int32) (σ : MPS) : Prop := w_M_write_J102 v1 v2 (K) post v3 v3 σ
def w_M_write_J78  (v1 : Int32) (v2 : Int32) (K : Int32 → MPS → Prop) (post : Int32 → MPS → Prop) (v3 : Int32) (σ : MPS) : Prop := (vp_in v3 1000 ∧ ((((mp_isElement σ) v3.toNatClampNeg) = 0 → w_M_write_J101 v1 v2 (K) post v3 σ) ∧ (¬ ((mp_isElement σ) v3.toNatClampNeg) = 0 → (vp_in v3 1000 ∧ ((((mp_first σ) v3.toNatClampNeg) = (-1) → w_M_write_J101 v1 v2 (K) post v3 σ) ∧ (¬ ((mp_first σ) v3.toNatClampNeg) = (-1) → w_M_write_J102 v1 v2 (K) post v3 (-1) σ))))))
def w_M_write_L39  (v1 : Int32) (v2 : Int32) (post : Int32 → MPS → Prop) : Nat → Int32 → MPS → Prop
  | 0, _, _ => False
  | n + 1, v3, σ => ((v2 < v3 → post (mp_outs σ) σ) ∧ (¬ v2 < v3 → (vp_in v3 1000 ∧ ((((mp_isElement σ) v3.toNatClampNeg) = 0 → (vp_in v3 1000 ∧ (vp_in v3 1000 ∧ w_M_putRow σ ((mp_begins σ) v3.toNatClampNeg) ((mp_ends σ) v3.toNatClampNeg) 1 (fun σ75 => w_M_write_J78 v1 v2 (w_M_write_L39 v1 v2 post n) post v3 σ75)))) ∧ (¬ ((mp_isElement σ) v3.toNatClampNeg) = 0 → w_M_putBeginning σ v3 (fun σ55 => w_M_write_J78 v1 v2 (w_M_write_L39 v1 v2 post n) post v3 σ55))))))
def w_M_write_J14   (post : Int32 → MPS → Prop) (v1 : Int32) (t0 : Int32) (σ : MPS) : Prop := (∀ σ14 : MPS, σ14 = ms_thrown σ t0 → (((mp_thrown σ14) ≤ 0 → (∀ σ28 : MPS, σ28 = ms_outs σ14 0 → w_M_lastIn σ28 v1 (fun r33 => (∃ n, w_M_write_L39 v1 r33 post n v1 σ28)))) ∧ (¬ (mp_thrown σ14) ≤ 0 → post 0 σ14)))
def w_M_write  (σ : MPS) (x0 : Int32) (post : Int32 → MPS → Prop) : Prop := w_M_isNode σ x0 (fun r3 => ((r3 = 0 → w_M_write_J14 post x0 1 σ) ∧ (¬ r3 = 0 → w_M_write_J14 post x0 0 σ)))
set_option maxHeartbeats 4000000 in
set_option maxRecDepth 100000 in
theorem c_M_write (l : Launch) (md : MD) (sz : Nat) (σ : MPS) (x0 : Int32)  (post : Int32 → MPS → Prop) (hE : w_M_write σ x0 post) : Met l y_M_write ws_M_write { frames := 6, cells := 0, slots := 0, locals := 129 } (va_Pc [.ref (mA md 0), .int x0] (gM md σ sz)) (va_Qi post (eM md (va_A (MW md σ) sz)) (va_A (MW md σ) sz)) 0 0 (va_A (MW md σ) sz) := by
  refine Met.ofW (cc := b_M_write) (maxL := 5) (ret := (some .int)) (by decide) rfl ?_
  intro p e s m args below meth c s₁ B hml hv
  obtain ⟨rfl, hsz, hP, hK, hD0⟩ := hv
  have hx := B.exec
  have hb := B.bytes
  have hr := B.returns
  have hta : ∀ w ∈ aW, w.before _ s = true := fun w h => atoms_spec (ws := ws_M_write) B.pre w (List.mem_cons_of_mem _ h)
  have hown : s.vm.findClass R_M = some m.cls := findClass_of_methodNamed B.named
  have hlocks := B.notSynchronized
  subst hsz
  have hD := hD0.self (sz := s.heap.size)
  generalize hAe : va_A (MW md σ) s.heap.size = A at hD ⊢
  have hA : ∀ q : Nat, s.heap.size ≤ q → A q := fun q h => by rw [← hAe]; exact Or.inr h
  have hS : va_S A s.heap s.heap [] := va_S.rf
  have hP : va_P (mG md) classes (MW md σ) s.heap := hP
  have hl := lv_entry ([.ref (mA md 0), .int x0]) (n := 5) (Nat.le_of_ble_eq_true rfl)
  rw [lg_entry_eq]
  generalize (lg_sl ([.ref (mA md 0), .int x0]) ++ List.replicate (5 - (lg_sl ([.ref (mA md 0), .int x0])).length) Slot.unset).toArray = ls at hl ⊢
  have hl : lv_has ls 5 [(0, .ref (mA md 0)), (1, .int x0)] := hl
  have L39 : ∀ (v1 : Int32) (v2 : Int32) (n : Nat) (v3 : Int32) (σ : MPS) (H : Heap) (locs : List Loc) (hP : va_P (mG md) classes (MW md σ) H) (hD : va_D A (MW md σ)) (hS : va_S A s.heap H locs) (ls : Array Slot) (hl : lv_has ls 5 [(0, .ref (mA md 0)), (1, .int v1), (2, .int v2), (3, .int v3)]) (hE : w_M_write_L39 v1 v2 post n v3 σ), W p l e (headSpec ws_M_write { frames := 6, cells := 0, slots := 0, locals := 129 }).room s m ([.ref (mA md 0), .int x0] : List Value).toArray below meth c H locs 0 0 (MQ below (va_Qi post (eM md A) A) ([.ref (mA md 0), .int x0] : List Value).toArray s 0 0 A) (F0 m 39 ls []) := by
    intro v1 v2 n
    induction n with
    | zero => intro v3 σ H locs hP hD hS ls hl hE; exact hE.elim
    | succ n ih39 =>
      have J144 : ∀ (v3 : Int32) (σ : MPS) (H : Heap) (locs : List Loc) (hP : va_P (mG md) classes (MW md σ) H) (hD : va_D A (MW md σ)) (hS : va_S A s.heap H locs) (ls : Array Slot) (hl : lv_has ls 5 [(0, .ref (mA md 0)), (1, .int v1), (2, .int v2), (3, .int v3)]) (hE : w_M_write_J144 v1 v2 (w_M_write_L39 v1 v2 post n) post v3 σ), W p l e (headSpec ws_M_write { frames := 6, cells := 0, slots := 0, locals := 129 }).room s m ([.ref (mA md 0), .int x0] : List Value).toArray below meth c H locs 0 0 (MQ below (va_Qi post (eM md A) A) ([.ref (mA md 0), .int x0] : List Value).toArray s 0 0 A) (F0 m 144 ls []) := by
        intro  v3 σ H locs hP hD hS ls hl hE
        unfold w_M_write_J144 at hE
        refine lv_iinc (v := v3 + 1) (lv' := [(3, .int (v3 + 1)), (0, .ref (mA md 0)), (1, .int v1), (2, .int v2)]) hx hb d_M_write_144 hl (k := 3) rfl rfl (by decide) rfl (fun ls hl => ?_)
        refine lv_goto (tgt := 39) hx hb d_M_write_147 (by decide) ?_
        exact ih39 (v3 + 1) σ _ _ hP hD hS _ (lv_sub hl [1, 2, 3, 0] rfl) hE
      have L104 : ∀ (n : Nat) (v4 : Int32) (σ : MPS) (H : Heap) (locs : List Loc) (hP : va_P (mG md) classes (MW md σ) H) (hD : va_D A (MW md σ)) (hS : va_S A s.heap H locs) (ls : Array Slot) (hl : lv_has ls 5 [(0, .ref (mA md 0)), (1, .int v1), (2, .int v2), (3, .int v3), (4, .int v4)]) (hE : w_M_write_L104 v1 v2 v3 (w_M_write_L39 v1 v2 post n) post n v4 σ), W p l e (headSpec ws_M_write { frames := 6, cells := 0, slots := 0, locals := 129 }).room s m ([.ref (mA md 0), .int x0] : List Value).toArray below meth c H locs 0 0 (MQ below (va_Qi post (eM md A) A) ([.ref (mA md 0), .int x0] : List Value).toArray s 0 0 A) (F0 m 104 ls []) := by
        intro v1 v2 v3 n
        induction n with
        | zero => intro v4 σ H locs hP hD hS ls hl hE; exact hE.elim
        | succ n ih104 =>
          intro v4 σ H locs hP hD hS ls hl hE
          unfold w_M_write_L104 at hE
          refine lv_iload hx hb d_M_write_104 (lv_at hl 4 rfl) ?_
          refine lv_if_lt (tgt := 144) hx hb d_M_write_106 (by decide) (fun cc106 => ?_) (fun cc106 => ?_)
          · have hE := hE.1 cc106
            exact J144  v3 σ _ _ hP hD hS _ (lv_sub hl [0, 1, 2, 3] rfl) hE
          · have hE := hE.2 cc106
            refine lv_iload hx hb d_M_write_109 (lv_at hl 4 rfl) ?_
            refine lv_iload_n hx hb d_M_write_111 rfl (lv_at hl 1 rfl) ?_
            refine lv_icmp_eq (tgt := 144) hx hb d_M_write_112 (by decide) (fun cc112 => ?_) (fun cc112 => ?_)
            · have hE := hE.1 cc112
              exact J144  v3 σ _ _ hP hD hS _ (lv_sub hl [0, 1, 2, 3] rfl) hE
            · have hE := hE.2 cc112
              refine lv_aload_n hx hb d_M_write_115 rfl (lv_at hl 0 rfl) ?_
              refine va_get (D := (mG md)) (ci := 7) (v := .ref (mA md 13)) (C := R_M) (T := F_M) (N := 37) hx hb hta i_M hown hK hP 0 rfl rfl 28 (by decide) (hta _ fl_M_52) (fun _ h9 => h9) rfl d_M_write_116 ?_
              refine lv_iload hx hb d_M_write_119 (lv_at hl 4 rfl) ?_
              obtain ⟨hI121, hE⟩ := hE
              refine va_iald (D := (mG md)) (f := mp_next σ) hx hb hK hP 13 0 rfl rfl hI121 d_M_write_121 ?_
              refine lv_iconst (v := -1) hx hb d_M_write_122 (by decide) ?_
              refine lv_icmp_ne (tgt := 144) hx hb d_M_write_123 (by decide) (fun cc123 => ?_) (fun cc123 => ?_)
              · have hE := hE.2 cc123
                exact J144  v3 σ _ _ hP hD hS _ (lv_sub hl [0, 1, 2, 3] rfl) hE
              · have hE := hE.1 cc123
                refine lv_aload_n hx hb d_M_write_126 rfl (lv_at hl 0 rfl) ?_
                refine va_get (D := (mG md)) (ci := 7) (v := .ref (mA md 11)) (C := R_M) (T := F_M) (N := 37) hx hb hta i_M hown hK hP 0 rfl rfl 26 (by decide) (hta _ fl_M_46) (fun _ h9 => h9) rfl d_M_write_127 ?_
                refine lv_iload hx hb d_M_write_130 (lv_at hl 4 rfl) ?_
                obtain ⟨hI132, hE⟩ := hE
                refine va_iald (D := (mG md)) (f := mp_up σ) hx hb hK hP 11 0 rfl rfl hI132 d_M_write_132 ?_
                refine lv_istore (lv' := [(4, .int ((mp_up σ) v4.toNatClampNeg)), (0, .ref (mA md 0)), (1, .int v1), (2, .int v2), (3, .int v3)]) hx hb d_M_write_133 hl (by decide) rfl (fun ls hl => ?_)
                refine lv_aload_n hx hb d_M_write_135 rfl (lv_at hl 1 rfl) ?_
                refine lv_iload hx hb d_M_write_136 (lv_at hl 0 rfl) ?_
                refine mm_v (b0 := (mA md 0)) (As := [.int ((mp_up σ) v4.toNatClampNeg)]) (rest := []) ⟨hx, hb, hml, hown, hta⟩ (c_M_putEnding l md _ σ ((mp_up σ) v4.toNatClampNeg) _ hE) ok_M_364 ⟨Nat.le_of_ble_eq_true rfl, Nat.le_of_ble_eq_true rfl⟩ (va_recv hK hP (ci := 7) (q0 := 0) rfl rfl) hP hK hD hS hA rfl hl.1 rfl (Nat.le_of_ble_eq_true rfl) d_M_write_138 ⟨Nat.zero_le _, Nat.zero_le _⟩ (fun σ138 H locs hE hP hD hS => ?_)
                refine lv_goto (tgt := 104) hx hb d_M_write_141 (by decide) ?_
                exact ih104 ((mp_up σ) v4.toNatClampNeg) σ138 _ _ hP hD hS _ (lv_sub hl [1, 2, 3, 4, 0] rfl) hE
      have J102 : ∀ (v3 : Int32) (t0 : Int32) (σ : MPS) (H : Heap) (locs : List Loc) (hP : va_P (mG md) classes (MW md σ) H) (hD : va_D A (MW md σ)) (hS : va_S A s.heap H locs) (ls : Array Slot) (hl : lv_has ls 5 [(0, .ref (mA md 0)), (1, .int v1), (2, .int v2), (3, .int v3)]) (hE : w_M_write_J102 v1 v2 (w_M_write_L39 v1 v2 post n) post v3 t0 σ), W p l e (headSpec ws_M_write { frames := 6, cells := 0, slots := 0, locals := 129 }).room s m ([.ref (mA md 0), .int x0] : List Value).toArray below meth c H locs 0 0 (MQ below (va_Qi post (eM md A) A) ([.ref (mA md 0), .int x0] : List Value).toArray s 0 0 A) (F0 m 102 ls [.int t0]) := by
        intro  v3 t0 σ H locs hP hD hS ls hl hE
        unfold w_M_write_J102 at hE
        refine lv_istore (lv' := [(4, .int t0), (0, .ref (mA md 0)), (1, .int v1), (2, .int v2), (3, .int v3)]) hx hb d_M_write_102 hl (by decide) rfl (fun ls hl => ?_)
        obtain ⟨n, hE⟩ := hE
        exact L104 v1 v2 v3 n t0 σ _ _ hP hD hS _ (lv_sub hl [1, 2, 3, 4, 0] rfl) hE
      have J101 : ∀ (v3 : Int32) (σ : MPS) (H : Heap) (locs : List Loc) (hP : va_P (mG md) classes (MW md σ) H) (hD : va_D A (MW md σ)) (hS : va_S A s.heap H locs) (ls : Array Slot) (hl : lv_has ls 5 [(0, .ref (mA md 0)), (1, .int v1), (2, .int v2), (3, .int v3)]) (hE : w_M_write_J101 v1 v2 (w_M_write_L39 v1 v2 post n) post v3 σ), W p l e (headSpec ws_M_write { frames := 6, cells := 0, slots := 0, locals := 129 }).room s m ([.ref (mA md 0), .int x0] : List Value).toArray below meth c H locs 0 0 (MQ below (va_Qi post (eM md A) A) ([.ref (mA md 0), .int x0] : List Value).toArray s 0 0 A) (F0 m 101 ls []) := by
        intro  v3 σ H locs hP hD hS ls hl hE
        unfold w_M_write_J101 at hE
        refine lv_iload_n hx hb d_M_write_101 rfl (lv_at hl 3 rfl) ?_
        exact J102  v3 v3 σ _ _ hP hD hS _ (lv_sub hl [0, 1, 2, 3] rfl) hE
      have J78 : ∀ (v3 : Int32) (σ : MPS) (H : Heap) (locs : List Loc) (hP : va_P (mG md) classes (MW md σ) H) (hD : va_D A (MW md σ)) (hS : va_S A s.heap H locs) (ls : Array Slot) (hl : lv_has ls 5 [(0, .ref (mA md 0)), (1, .int v1), (2, .int v2), (3, .int v3)]) (hE : w_M_write_J78 v1 v2 (w_M_write_L39 v1 v2 post n) post v3 σ), W p l e (headSpec ws_M_write { frames := 6, cells := 0, slots := 0, locals := 129 }).room s m ([.ref (mA md 0), .int x0] : List Value).toArray below meth c H locs 0 0 (MQ below (va_Qi post (eM md A) A) ([.ref (mA md 0), .int x0] : List Value).toArray s 0 0 A) (F0 m 78 ls []) := by
        intro  v3 σ H locs hP hD hS ls hl hE
        unfold w_M_write_J78 at hE
        refine lv_aload_n hx hb d_M_write_78 rfl (lv_at hl 0 rfl) ?_
        refine va_get (D := (mG md)) (ci := 7) (v := .ref (mA md 8)) (C := R_M) (T := F_M) (N := 37) hx hb hta i_M hown hK hP 0 rfl rfl 23 (by decide) (hta _ fl_M_36) (fun _ h9 => h9) rfl d_M_write_79 ?_
        refine lv_iload_n hx hb d_M_write_82 rfl (lv_at hl 3 rfl) ?_
        obtain ⟨hI83, hE⟩ := hE
        refine va_zald (D := (mG md)) (f := mp_isElement σ) hx hb hK hP 8 2 rfl rfl hI83 d_M_write_83 ?_
        refine lv_if_eq (tgt := 101) hx hb d_M_write_84 (by decide) (fun cc84 => ?_) (fun cc84 => ?_)
        · have hE := hE.1 cc84
          exact J101  v3 σ _ _ hP hD hS _ (lv_sub hl [0, 1, 2, 3] rfl) hE
        · have hE := hE.2 cc84
          refine lv_aload_n hx hb d_M_write_87 rfl (lv_at hl 0 rfl) ?_
          refine va_get (D := (mG md)) (ci := 7) (v := .ref (mA md 12)) (C := R_M) (T := F_M) (N := 37) hx hb hta i_M hown hK hP 0 rfl rfl 27 (by decide) (hta _ fl_M_49) (fun _ h9 => h9) rfl d_M_write_88 ?_
          refine lv_iload_n hx hb d_M_write_91 rfl (lv_at hl 3 rfl) ?_
          obtain ⟨hI92, hE⟩ := hE
          refine va_iald (D := (mG md)) (f := mp_first σ) hx hb hK hP 12 0 rfl rfl hI92 d_M_write_92 ?_
          refine lv_iconst (v := -1) hx hb d_M_write_93 (by decide) ?_
          refine lv_icmp_eq (tgt := 101) hx hb d_M_write_94 (by decide) (fun cc94 => ?_) (fun cc94 => ?_)
          · have hE := hE.1 cc94
            exact J101  v3 σ _ _ hP hD hS _ (lv_sub hl [0, 1, 2, 3] rfl) hE
          · have hE := hE.2 cc94
            refine lv_iconst (v := -1) hx hb d_M_write_97 (by decide) ?_
            refine lv_goto (tgt := 102) hx hb d_M_write_98 (by decide) ?_
            exact J102  v3 (-1) σ _ _ hP hD hS _ (lv_sub hl [0, 1, 2, 3] rfl) hE
      intro v3 σ H locs hP hD hS ls hl hE
      unfold w_M_write_L39 at hE
      refine lv_iload_n hx hb d_M_write_39 rfl (lv_at hl 3 rfl) ?_
      refine lv_iload_n hx hb d_M_write_40 rfl (lv_at hl 2 rfl) ?_
      refine lv_icmp_gt (tgt := 150) hx hb d_M_write_41 (by decide) (fun cc41 => ?_) (fun cc41 => ?_)
      · have hE := hE.1 cc41
        refine lv_aload_n hx hb d_M_write_150 rfl (lv_at hl 0 rfl) ?_
        refine va_get (D := (mG md)) (ci := 7) (v := .int (mp_outs σ)) (C := R_M) (T := F_M) (N := 37) hx hb hta i_M hown hK hP 0 rfl rfl 8 (by decide) (hta _ fl_M_337) (fun _ h9 => h9) rfl d_M_write_151 ?_
        exact W.iret (v := mp_outs σ) hx hb hr (fun t ht hW => ⟨⟨_, σ, rfl, hE, by rw [ht]; exact hP, va_K.moved hW.alike hK, hD⟩, hS.F ht⟩) hS.2.2 d_M_write_154
      · have hE := hE.2 cc41
        refine lv_aload_n hx hb d_M_write_44 rfl (lv_at hl 0 rfl) ?_
        refine va_get (D := (mG md)) (ci := 7) (v := .ref (mA md 8)) (C := R_M) (T := F_M) (N := 37) hx hb hta i_M hown hK hP 0 rfl rfl 23 (by decide) (hta _ fl_M_36) (fun _ h9 => h9) rfl d_M_write_45 ?_
        refine lv_iload_n hx hb d_M_write_48 rfl (lv_at hl 3 rfl) ?_
        obtain ⟨hI49, hE⟩ := hE
        refine va_zald (D := (mG md)) (f := mp_isElement σ) hx hb hK hP 8 2 rfl rfl hI49 d_M_write_49 ?_
        refine lv_if_eq (tgt := 61) hx hb d_M_write_50 (by decide) (fun cc50 => ?_) (fun cc50 => ?_)
        · have hE := hE.1 cc50
          refine lv_aload_n hx hb d_M_write_61 rfl (lv_at hl 0 rfl) ?_
          refine lv_aload_n hx hb d_M_write_62 rfl (lv_at hl 0 rfl) ?_
          refine va_get (D := (mG md)) (ci := 7) (v := .ref (mA md 9)) (C := R_M) (T := F_M) (N := 37) hx hb hta i_M hown hK hP 0 rfl rfl 24 (by decide) (hta _ fl_M_40) (fun _ h9 => h9) rfl d_M_write_63 ?_
          refine lv_iload_n hx hb d_M_write_66 rfl (lv_at hl 3 rfl) ?_
          obtain ⟨hI67, hE⟩ := hE
          refine va_iald (D := (mG md)) (f := mp_begins σ) hx hb hK hP 9 0 rfl rfl hI67 d_M_write_67 ?_
          refine lv_aload_n hx hb d_M_write_68 rfl (lv_at hl 0 rfl) ?_
          refine va_get (D := (mG md)) (ci := 7) (v := .ref (mA md 10)) (C := R_M) (T := F_M) (N := 37) hx hb hta i_M hown hK hP 0 rfl rfl 25 (by decide) (hta _ fl_M_43) (fun _ h9 => h9) rfl d_M_write_69 ?_
          refine lv_iload_n hx hb d_M_write_72 rfl (lv_at hl 3 rfl) ?_
          obtain ⟨hI73, hE⟩ := hE
          refine va_iald (D := (mG md)) (f := mp_ends σ) hx hb hK hP 10 0 rfl rfl hI73 d_M_write_73 ?_
          refine lv_iconst (v := 1) hx hb d_M_write_74 (by decide) ?_
          refine mm_v (b0 := (mA md 0)) (As := [.int ((mp_begins σ) v3.toNatClampNeg), .int ((mp_ends σ) v3.toNatClampNeg), .int 1]) (rest := []) ⟨hx, hb, hml, hown, hta⟩ (c_M_putRow l md _ σ ((mp_begins σ) v3.toNatClampNeg) ((mp_ends σ) v3.toNatClampNeg) 1 _ hE) ok_M_354 ⟨Nat.le_of_ble_eq_true rfl, Nat.le_of_ble_eq_true rfl⟩ (va_recv hK hP (ci := 7) (q0 := 0) rfl rfl) hP hK hD hS hA rfl hl.1 rfl (Nat.le_of_ble_eq_true rfl) d_M_write_75 ⟨Nat.zero_le _, Nat.zero_le _⟩ (fun σ75 H locs hE hP hD hS => ?_)
          exact J78  v3 σ75 _ _ hP hD hS _ (lv_sub hl [0, 1, 2, 3] rfl) hE
        · have hE := hE.2 cc50
          refine lv_aload_n hx hb d_M_write_53 rfl (lv_at hl 0 rfl) ?_
          refine lv_iload_n hx hb d_M_write_54 rfl (lv_at hl 3 rfl) ?_
          refine mm_v (b0 := (mA md 0)) (As := [.int v3]) (rest := []) ⟨hx, hb, hml, hown, hta⟩ (c_M_putBeginning l md _ σ v3 _ hE) ok_M_361 ⟨Nat.le_of_ble_eq_true rfl, Nat.le_of_ble_eq_true rfl⟩ (va_recv hK hP (ci := 7) (q0 := 0) rfl rfl) hP hK hD hS hA rfl hl.1 rfl (Nat.le_of_ble_eq_true rfl) d_M_write_55 ⟨Nat.zero_le _, Nat.zero_le _⟩ (fun σ55 H locs hE hP hD hS => ?_)
          refine lv_goto (tgt := 78) hx hb d_M_write_58 (by decide) ?_
          exact J78  v3 σ55 _ _ hP hD hS _ (lv_sub hl [0, 1, 2, 3] rfl) hE
  have J14 : ∀ (v1 : Int32) (t0 : Int32) (σ : MPS) (H : Heap) (locs : List Loc) (hP : va_P (mG md) classes (MW md σ) H) (hD : va_D A (MW md σ)) (hS : va_S A s.heap H locs) (ls : Array Slot) (hl : lv_has ls 5 [(0, .ref (mA md 0)), (1, .int v1)]) (hE : w_M_write_J14 post v1 t0 σ), W p l e (headSpec ws_M_write { frames := 6, cells := 0, slots := 0, locals := 129 }).room s m ([.ref (mA md 0), .int x0] : List Value).toArray below meth c H locs 0 0 (MQ below (va_Qi post (eM md A) A) ([.ref (mA md 0), .int x0] : List Value).toArray s 0 0 A) (F0 m 14 ls [.int t0, .ref (mA md 0)]) := by
    intro  v1 t0 σ H locs hP hD hS ls hl hE
    unfold w_M_write_J14 at hE
    refine va_put (D := (mG md)) (ci := 7) (v := .int t0) (ty := .int) (C := R_M) (T := F_M) (N := 37) hx hb hta i_M t_M t_M_ok n_M hown hK hP hD hS 0 rfl rfl 0 (by decide) (hta _ fl_M_70) (fun _ h9 => h9) rfl (by decide +kernel) rfl rfl (Nat.le_of_ble_eq_true rfl) d_M_write_14 (fun H locs hP hD hS => ?_)
    have hP : va_P (mG md) classes (MW md (ms_thrown σ t0)) H := hP
    have hD : va_D A (MW md (ms_thrown σ t0)) := hD
    have hE := hE _ rfl
    generalize (ms_thrown σ t0 : MPS) = σ14 at hP hD hE
    refine lv_aload_n hx hb d_M_write_17 rfl (lv_at hl 0 rfl) ?_
    refine va_get (D := (mG md)) (ci := 7) (v := .int (mp_thrown σ14)) (C := R_M) (T := F_M) (N := 37) hx hb hta i_M hown hK hP 0 rfl rfl 0 (by decide) (hta _ fl_M_70) (fun _ h9 => h9) rfl d_M_write_18 ?_
    refine lv_if_le (tgt := 26) hx hb d_M_write_21 (by decide) (fun cc21 => ?_) (fun cc21 => ?_)
    · have hE := hE.1 cc21
      refine lv_aload_n hx hb d_M_write_26 rfl (lv_at hl 0 rfl) ?_
      refine lv_iconst (v := 0) hx hb d_M_write_27 (by decide) ?_
      refine va_put (D := (mG md)) (ci := 7) (v := .int 0) (ty := .int) (C := R_M) (T := F_M) (N := 37) hx hb hta i_M t_M t_M_ok n_M hown hK hP hD hS 0 rfl rfl 8 (by decide) (hta _ fl_M_337) (fun _ h9 => h9) rfl (by decide +kernel) rfl rfl (Nat.le_of_ble_eq_true rfl) d_M_write_28 (fun H locs hP hD hS => ?_)
      have hP : va_P (mG md) classes (MW md (ms_outs σ14 0)) H := hP
      have hD : va_D A (MW md (ms_outs σ14 0)) := hD
      have hE := hE _ rfl
      generalize (ms_outs σ14 0 : MPS) = σ28 at hP hD hE
      refine lv_aload_n hx hb d_M_write_31 rfl (lv_at hl 0 rfl) ?_
      refine lv_iload_n hx hb d_M_write_32 rfl (lv_at hl 1 rfl) ?_
      refine ro_V (b0 := (mA md 0)) (As := [.int v1]) (rest := []) ⟨hx, hb, hml, hown, hta⟩ (c_M_lastIn l md σ28 v1  _ hE) ok_M_351 ⟨Nat.le_of_ble_eq_true rfl, Nat.le_of_ble_eq_true rfl⟩ blind_rM (va_recv hK hP (ci := 7) (q0 := 0) rfl rfl) (rM_of hP hK) rfl hl.1 rfl (Nat.le_of_ble_eq_true rfl) d_M_write_33 ⟨Nat.zero_le _, Nat.zero_le _⟩ (fun r33 hE => ?_)
      refine lv_istore_n (lv' := [(2, .int r33), (0, .ref (mA md 0)), (1, .int v1)]) hx hb d_M_write_36 rfl hl (by decide) rfl (fun ls hl => ?_)
      refine lv_iload_n hx hb d_M_write_37 rfl (lv_at hl 2 rfl) ?_
      refine lv_istore_n (lv' := [(3, .int v1), (2, .int r33), (0, .ref (mA md 0)), (1, .int v1)]) hx hb d_M_write_38 rfl hl (by decide) rfl (fun ls hl => ?_)
      obtain ⟨n, hE⟩ := hE
      exact L39 v1 r33 n v1 σ28 _ _ hP hD hS _ (lv_sub hl [2, 3, 1, 0] rfl) hE
    · have hE := hE.2 cc21
      refine lv_iconst (v := 0) hx hb d_M_write_24 (by decide) ?_
      exact W.iret (v := 0) hx hb hr (fun t ht hW => ⟨⟨_, σ14, rfl, hE, by rw [ht]; exact hP, va_K.moved hW.alike hK, hD⟩, hS.F ht⟩) hS.2.2 d_M_write_25
  unfold w_M_write at hE
  refine lv_aload_n hx hb d_M_write_0 rfl (lv_at hl 0 rfl) ?_
  refine lv_aload_n hx hb d_M_write_1 rfl (lv_at hl 0 rfl) ?_
  refine lv_iload_n hx hb d_M_write_2 rfl (lv_at hl 1 rfl) ?_
  refine ro_V (b0 := (mA md 0)) (As := [.int x0]) (rest := [.ref (mA md 0)]) ⟨hx, hb, hml, hown, hta⟩ (c_M_isNode l md σ x0  _ hE) ok_M_323 ⟨Nat.le_of_ble_eq_true rfl, Nat.le_of_ble_eq_true rfl⟩ blind_rM (va_recv hK hP (ci := 7) (q0 := 0) rfl rfl) (rM_of hP hK) rfl hl.1 rfl (Nat.le_of_ble_eq_true rfl) d_M_write_3 ⟨Nat.zero_le _, Nat.zero_le _⟩ (fun r3 hE => ?_)
  refine lv_if_eq (tgt := 13) hx hb d_M_write_6 (by decide) (fun cc6 => ?_) (fun cc6 => ?_)
  · have hE := hE.1 cc6
    refine lv_iconst (v := 1) hx hb d_M_write_13 (by decide) ?_
    exact J14  x0 1 σ _ _ hP hD hS _ (lv_sub hl [0, 1] rfl) hE
  · have hE := hE.2 cc6
    refine lv_iconst (v := 0) hx hb d_M_write_9 (by decide) ?_
    refine lv_goto (tgt := 14) hx hb d_M_write_10 (by decide) ?_
    exact J14  x0 0 σ _ _ hP hD hS _ (lv_sub hl [0, 1] rfl) hE

theorem d_M_output_0 : decode b_M_output 0 = .ok (.aload_n 0, 1) := by decide +kernel
theorem d_M_output_1 : decode b_M_output 1 = .ok (.iconst 0, 1) := by decide +kernel
theorem d_M_output_2 : decode b_M_output 2 = .ok (.putfield 70, 3) := by decide +kernel
theorem d_M_output_5 : decode b_M_output 5 = .ok (.iload_n 1, 1) := by decide +kernel
theorem d_M_output_6 : decode b_M_output 6 = .ok (.ifCond .lt 24, 3) := by decide +kernel
theorem d_M_output_9 : decode b_M_output 9 = .ok (.iload_n 1, 1) := by decide +kernel
theorem d_M_output_10 : decode b_M_output 10 = .ok (.aload_n 0, 1) := by decide +kernel
theorem d_M_output_11 : decode b_M_output 11 = .ok (.getfield 337, 3) := by decide +kernel
theorem d_M_output_14 : decode b_M_output 14 = .ok (.if_icmp .ge 16, 3) := by decide +kernel
theorem d_M_output_17 : decode b_M_output 17 = .ok (.aload_n 0, 1) := by decide +kernel
theorem d_M_output_18 : decode b_M_output 18 = .ok (.getfield 19, 3) := by decide +kernel
theorem d_M_output_21 : decode b_M_output 21 = .ok (.iload_n 1, 1) := by decide +kernel
theorem d_M_output_22 : decode b_M_output 22 = .ok (.baload, 1) := by decide +kernel
theorem d_M_output_23 : decode b_M_output 23 = .ok (.sipush 255, 3) := by decide +kernel
theorem d_M_output_26 : decode b_M_output 26 = .ok (.iand, 1) := by decide +kernel
theorem d_M_output_27 : decode b_M_output 27 = .ok (.goto 4, 3) := by decide +kernel
theorem d_M_output_30 : decode b_M_output 30 = .ok (.iconst (-1), 1) := by decide +kernel
theorem d_M_output_31 : decode b_M_output 31 = .ok (.ireturn, 1) := by decide +kernel
def w_M_output  (σ : MPS) (x0 : Int32) (post : Int32 → MPS → Prop) : Prop := (∀ σ2 : MPS, σ2 = ms_thrown σ 0 → ((x0 < 0 → post (-1) σ2) ∧ (¬ x0 < 0 → (((mp_outs σ2) ≤ x0 → post (-1) σ2) ∧ (¬ (mp_outs σ2) ≤ x0 → (vp_in x0 24000 ∧ post (((mp_output σ2) x0.toNatClampNeg) &&& 255) σ2))))))
set_option maxHeartbeats 4000000 in
set_option maxRecDepth 100000 in
theorem c_M_output (l : Launch) (md : MD) (sz : Nat) (σ : MPS) (x0 : Int32)  (post : Int32 → MPS → Prop) (hE : w_M_output σ x0 post) : Met l y_M_output ws_M_output { frames := 0, cells := 0, slots := 0, locals := 0 } (va_Pc [.ref (mA md 0), .int x0] (gM md σ sz)) (va_Qi post (eM md (va_A (MW md σ) sz)) (va_A (MW md σ) sz)) 0 0 (va_A (MW md σ) sz) := by
  refine Met.ofW (cc := b_M_output) (maxL := 2) (ret := (some .int)) (by decide) rfl ?_
  intro p e s m args below meth c s₁ B hml hv
  obtain ⟨rfl, hsz, hP, hK, hD0⟩ := hv
  have hx := B.exec
  have hb := B.bytes
  have hr := B.returns
  have hta : ∀ w ∈ aW, w.before _ s = true := fun w h => atoms_spec (ws := ws_M_output) B.pre w (List.mem_cons_of_mem _ h)
  have hown : s.vm.findClass R_M = some m.cls := findClass_of_methodNamed B.named
  have hlocks := B.notSynchronized
  subst hsz
  have hD := hD0.self (sz := s.heap.size)
  generalize hAe : va_A (MW md σ) s.heap.size = A at hD ⊢
  have hA : ∀ q : Nat, s.heap.size ≤ q → A q := fun q h => by rw [← hAe]; exact Or.inr h
  have hS : va_S A s.heap s.heap [] := va_S.rf
  have hP : va_P (mG md) classes (MW md σ) s.heap := hP
  have hl := lv_entry ([.ref (mA md 0), .int x0]) (n := 2) (Nat.le_of_ble_eq_true rfl)
  rw [lg_entry_eq]
  generalize (lg_sl ([.ref (mA md 0), .int x0]) ++ List.replicate (2 - (lg_sl ([.ref (mA md 0), .int x0])).length) Slot.unset).toArray = ls at hl ⊢
  have hl : lv_has ls 2 [(0, .ref (mA md 0)), (1, .int x0)] := hl
  unfold w_M_output at hE
  refine lv_aload_n hx hb d_M_output_0 rfl (lv_at hl 0 rfl) ?_
  refine lv_iconst (v := 0) hx hb d_M_output_1 (by decide) ?_
  refine va_put (D := (mG md)) (ci := 7) (v := .int 0) (ty := .int) (C := R_M) (T := F_M) (N := 37) hx hb hta i_M t_M t_M_ok n_M hown hK hP hD hS 0 rfl rfl 0 (by decide) (hta _ fl_M_70) (fun _ h9 => h9) rfl (by decide +kernel) rfl rfl (Nat.le_of_ble_eq_true rfl) d_M_output_2 (fun H locs hP hD hS => ?_)
  have hP : va_P (mG md) classes (MW md (ms_thrown σ 0)) H := hP
  have hD : va_D A (MW md (ms_thrown σ 0)) := hD
  have hE := hE _ rfl
  generalize (ms_thrown σ 0 : MPS) = σ2 at hP hD hE
  refine lv_iload_n hx hb d_M_output_5 rfl (lv_at hl 1 rfl) ?_
  refine lv_if_lt (tgt := 30) hx hb d_M_output_6 (by decide) (fun cc6 => ?_) (fun cc6 => ?_)
  · have hE := hE.1 cc6
    refine lv_iconst (v := -1) hx hb d_M_output_30 (by decide) ?_
    exact W.iret (v := (-1)) hx hb hr (fun t ht hW => ⟨⟨_, σ2, rfl, hE, by rw [ht]; exact hP, va_K.moved hW.alike hK, hD⟩, hS.F ht⟩) hS.2.2 d_M_output_31
  · have hE := hE.2 cc6
    refine lv_iload_n hx hb d_M_output_9 rfl (lv_at hl 1 rfl) ?_
    refine lv_aload_n hx hb d_M_output_10 rfl (lv_at hl 0 rfl) ?_
    refine va_get (D := (mG md)) (ci := 7) (v := .int (mp_outs σ2)) (C := R_M) (T := F_M) (N := 37) hx hb hta i_M hown hK hP 0 rfl rfl 8 (by decide) (hta _ fl_M_337) (fun _ h9 => h9) rfl d_M_output_11 ?_
    refine lv_icmp_ge (tgt := 30) hx hb d_M_output_14 (by decide) (fun cc14 => ?_) (fun cc14 => ?_)
    · have hE := hE.1 cc14
      refine lv_iconst (v := -1) hx hb d_M_output_30 (by decide) ?_
      exact W.iret (v := (-1)) hx hb hr (fun t ht hW => ⟨⟨_, σ2, rfl, hE, by rw [ht]; exact hP, va_K.moved hW.alike hK, hD⟩, hS.F ht⟩) hS.2.2 d_M_output_31
    · have hE := hE.2 cc14
      refine lv_aload_n hx hb d_M_output_17 rfl (lv_at hl 0 rfl) ?_
      refine va_get (D := (mG md)) (ci := 7) (v := .ref (mA md 4)) (C := R_M) (T := F_M) (N := 37) hx hb hta i_M hown hK hP 0 rfl rfl 4 (by decide) (hta _ fl_M_19) (fun _ h9 => h9) rfl d_M_output_18 ?_
      refine lv_iload_n hx hb d_M_output_21 rfl (lv_at hl 1 rfl) ?_
      obtain ⟨hI22, hE⟩ := hE
      refine va_bald (D := (mG md)) (f := mp_output σ2) hx hb hK hP 4 1 rfl rfl hI22 d_M_output_22 ?_
      refine lv_sipush (v := 255) hx hb d_M_output_23 (by decide) ?_
      refine lv_iand hx hb d_M_output_26 ?_
      refine lv_goto (tgt := 31) hx hb d_M_output_27 (by decide) ?_
      exact W.iret (v := ((mp_output σ2) x0.toNatClampNeg) &&& 255) hx hb hr (fun t ht hW => ⟨⟨_, σ2, rfl, hE, by rw [ht]; exact hP, va_K.moved hW.alike hK, hD⟩, hS.F ht⟩) hS.2.2 d_M_output_31

theorem d_M_about_0 : decode b_M_about 0 = .ok (.aload_n 0, 1) := by decide +kernel
theorem d_M_about_1 : decode b_M_about 1 = .ok (.iconst 0, 1) := by decide +kernel
theorem d_M_about_2 : decode b_M_about 2 = .ok (.putfield 70, 3) := by decide +kernel
theorem d_M_about_5 : decode b_M_about 5 = .ok (.iload_n 1, 1) := by decide +kernel
theorem d_M_about_6 : decode b_M_about 6 = .ok (.ifCond .ne 10, 3) := by decide +kernel
theorem d_M_about_9 : decode b_M_about 9 = .ok (.aload_n 0, 1) := by decide +kernel
theorem d_M_about_10 : decode b_M_about 10 = .ok (.getfield 73, 3) := by decide +kernel
theorem d_M_about_13 : decode b_M_about 13 = .ok (.goto 62, 3) := by decide +kernel
theorem d_M_about_16 : decode b_M_about 16 = .ok (.iload_n 1, 1) := by decide +kernel
theorem d_M_about_17 : decode b_M_about 17 = .ok (.iconst 1, 1) := by decide +kernel
theorem d_M_about_18 : decode b_M_about 18 = .ok (.if_icmp .ne 21, 3) := by decide +kernel
theorem d_M_about_21 : decode b_M_about 21 = .ok (.aload_n 0, 1) := by decide +kernel
theorem d_M_about_22 : decode b_M_about 22 = .ok (.getfield 214, 3) := by decide +kernel
theorem d_M_about_25 : decode b_M_about 25 = .ok (.ifCond .eq 10, 3) := by decide +kernel
theorem d_M_about_28 : decode b_M_about 28 = .ok (.aload_n 0, 1) := by decide +kernel
theorem d_M_about_29 : decode b_M_about 29 = .ok (.getfield 175, 3) := by decide +kernel
theorem d_M_about_32 : decode b_M_about 32 = .ok (.goto 43, 3) := by decide +kernel
theorem d_M_about_35 : decode b_M_about 35 = .ok (.iconst 0, 1) := by decide +kernel
theorem d_M_about_36 : decode b_M_about 36 = .ok (.goto 39, 3) := by decide +kernel
theorem d_M_about_39 : decode b_M_about 39 = .ok (.iload_n 1, 1) := by decide +kernel
theorem d_M_about_40 : decode b_M_about 40 = .ok (.iconst 2, 1) := by decide +kernel
theorem d_M_about_41 : decode b_M_about 41 = .ok (.if_icmp .ne 21, 3) := by decide +kernel
theorem d_M_about_44 : decode b_M_about 44 = .ok (.aload_n 0, 1) := by decide +kernel
theorem d_M_about_45 : decode b_M_about 45 = .ok (.getfield 214, 3) := by decide +kernel
theorem d_M_about_48 : decode b_M_about 48 = .ok (.ifCond .eq 10, 3) := by decide +kernel
theorem d_M_about_51 : decode b_M_about 51 = .ok (.aload_n 0, 1) := by decide +kernel
theorem d_M_about_52 : decode b_M_about 52 = .ok (.getfield 181, 3) := by decide +kernel
theorem d_M_about_55 : decode b_M_about 55 = .ok (.goto 20, 3) := by decide +kernel
theorem d_M_about_58 : decode b_M_about 58 = .ok (.iconst 0, 1) := by decide +kernel
theorem d_M_about_59 : decode b_M_about 59 = .ok (.goto 16, 3) := by decide +kernel
theorem d_M_about_62 : decode b_M_about 62 = .ok (.iload_n 1, 1) := by decide +kernel
theorem d_M_about_63 : decode b_M_about 63 = .ok (.iconst 3, 1) := by decide +kernel
theorem d_M_about_64 : decode b_M_about 64 = .ok (.if_icmp .ne 10, 3) := by decide +kernel
theorem d_M_about_67 : decode b_M_about 67 = .ok (.aload_n 0, 1) := by decide +kernel
theorem d_M_about_68 : decode b_M_about 68 = .ok (.getfield 337, 3) := by decide +kernel
theorem d_M_about_71 : decode b_M_about 71 = .ok (.goto 4, 3) := by decide +kernel
theorem d_M_about_74 : decode b_M_about 74 = .ok (.iconst (-1), 1) := by decide +kernel
theorem d_M_about_75 : decode b_M_about 75 = .ok (.ireturn, 1) := by decide +kernel
def w_M_about  (σ : MPS) (x0 : Int32) (post : Int32 → MPS → Prop) : Prop := (∀ σ2 : MPS, σ2 = ms_thrown σ 0 → ((x0 = 0 → post (mp_taped σ2) σ2) ∧ (¬ x0 = 0 → ((x0 = 1 → (((mp_known σ2) = 0 → post 0 σ2) ∧ (¬ (mp_known σ2) = 0 → post (mp_nodes σ2) σ2))) ∧ (¬ x0 = 1 → ((x0 = 2 → (((mp_known σ2) = 0 → post 0 σ2) ∧ (¬ (mp_known σ2) = 0 → post (mp_elements σ2) σ2))) ∧ (¬ x0 = 2 → ((x0 = 3 → post (mp_outs σ2) σ2) ∧ (¬ x0 = 3 → post (-1) σ2)))))))))
set_option maxHeartbeats 4000000 in
set_option maxRecDepth 100000 in
theorem c_M_about (l : Launch) (md : MD) (sz : Nat) (σ : MPS) (x0 : Int32)  (post : Int32 → MPS → Prop) (hE : w_M_about σ x0 post) : Met l y_M_about ws_M_about { frames := 0, cells := 0, slots := 0, locals := 0 } (va_Pc [.ref (mA md 0), .int x0] (gM md σ sz)) (va_Qi post (eM md (va_A (MW md σ) sz)) (va_A (MW md σ) sz)) 0 0 (va_A (MW md σ) sz) := by
  refine Met.ofW (cc := b_M_about) (maxL := 2) (ret := (some .int)) (by decide) rfl ?_
  intro p e s m args below meth c s₁ B hml hv
  obtain ⟨rfl, hsz, hP, hK, hD0⟩ := hv
  have hx := B.exec
  have hb := B.bytes
  have hr := B.returns
  have hta : ∀ w ∈ aW, w.before _ s = true := fun w h => atoms_spec (ws := ws_M_about) B.pre w (List.mem_cons_of_mem _ h)
  have hown : s.vm.findClass R_M = some m.cls := findClass_of_methodNamed B.named
  have hlocks := B.notSynchronized
  subst hsz
  have hD := hD0.self (sz := s.heap.size)
  generalize hAe : va_A (MW md σ) s.heap.size = A at hD ⊢
  have hA : ∀ q : Nat, s.heap.size ≤ q → A q := fun q h => by rw [← hAe]; exact Or.inr h
  have hS : va_S A s.heap s.heap [] := va_S.rf
  have hP : va_P (mG md) classes (MW md σ) s.heap := hP
  have hl := lv_entry ([.ref (mA md 0), .int x0]) (n := 2) (Nat.le_of_ble_eq_true rfl)
  rw [lg_entry_eq]
  generalize (lg_sl ([.ref (mA md 0), .int x0]) ++ List.replicate (2 - (lg_sl ([.ref (mA md 0), .int x0])).length) Slot.unset).toArray = ls at hl ⊢
  have hl : lv_has ls 2 [(0, .ref (mA md 0)), (1, .int x0)] := hl
  unfold w_M_about at hE
  refine lv_aload_n hx hb d_M_about_0 rfl (lv_at hl 0 rfl) ?_
  refine lv_iconst (v := 0) hx hb d_M_about_1 (by decide) ?_
  refine va_put (D := (mG md)) (ci := 7) (v := .int 0) (ty := .int) (C := R_M) (T := F_M) (N := 37) hx hb hta i_M t_M t_M_ok n_M hown hK hP hD hS 0 rfl rfl 0 (by decide) (hta _ fl_M_70) (fun _ h9 => h9) rfl (by decide +kernel) rfl rfl (Nat.le_of_ble_eq_true rfl) d_M_about_2 (fun H locs hP hD hS => ?_)
  have hP : va_P (mG md) classes (MW md (ms_thrown σ 0)) H := hP
  have hD : va_D A (MW md (ms_thrown σ 0)) := hD
  have hE := hE _ rfl
  generalize (ms_thrown σ 0 : MPS) = σ2 at hP hD hE
  refine lv_iload_n hx hb d_M_about_5 rfl (lv_at hl 1 rfl) ?_
  refine lv_if_ne (tgt := 16) hx hb d_M_about_6 (by decide) (fun cc6 => ?_) (fun cc6 => ?_)
  · have hE := hE.2 cc6
    refine lv_iload_n hx hb d_M_about_16 rfl (lv_at hl 1 rfl) ?_
    refine lv_iconst (v := 1) hx hb d_M_about_17 (by decide) ?_
    refine lv_icmp_ne (tgt := 39) hx hb d_M_about_18 (by decide) (fun cc18 => ?_) (fun cc18 => ?_)
    · have hE := hE.2 cc18
      refine lv_iload_n hx hb d_M_about_39 rfl (lv_at hl 1 rfl) ?_
      refine lv_iconst (v := 2) hx hb d_M_about_40 (by decide) ?_
      refine lv_icmp_ne (tgt := 62) hx hb d_M_about_41 (by decide) (fun cc41 => ?_) (fun cc41 => ?_)
      · have hE := hE.2 cc41
        refine lv_iload_n hx hb d_M_about_62 rfl (lv_at hl 1 rfl) ?_
        refine lv_iconst (v := 3) hx hb d_M_about_63 (by decide) ?_
        refine lv_icmp_ne (tgt := 74) hx hb d_M_about_64 (by decide) (fun cc64 => ?_) (fun cc64 => ?_)
        · have hE := hE.2 cc64
          refine lv_iconst (v := -1) hx hb d_M_about_74 (by decide) ?_
          exact W.iret (v := (-1)) hx hb hr (fun t ht hW => ⟨⟨_, σ2, rfl, hE, by rw [ht]; exact hP, va_K.moved hW.alike hK, hD⟩, hS.F ht⟩) hS.2.2 d_M_about_75
        · have hE := hE.1 cc64
          refine lv_aload_n hx hb d_M_about_67 rfl (lv_at hl 0 rfl) ?_
          refine va_get (D := (mG md)) (ci := 7) (v := .int (mp_outs σ2)) (C := R_M) (T := F_M) (N := 37) hx hb hta i_M hown hK hP 0 rfl rfl 8 (by decide) (hta _ fl_M_337) (fun _ h9 => h9) rfl d_M_about_68 ?_
          refine lv_goto (tgt := 75) hx hb d_M_about_71 (by decide) ?_
          exact W.iret (v := mp_outs σ2) hx hb hr (fun t ht hW => ⟨⟨_, σ2, rfl, hE, by rw [ht]; exact hP, va_K.moved hW.alike hK, hD⟩, hS.F ht⟩) hS.2.2 d_M_about_75
      · have hE := hE.1 cc41
        refine lv_aload_n hx hb d_M_about_44 rfl (lv_at hl 0 rfl) ?_
        refine va_get (D := (mG md)) (ci := 7) (v := .int (mp_known σ2)) (C := R_M) (T := F_M) (N := 37) hx hb hta i_M hown hK hP 0 rfl rfl 11 (by decide) (hta _ fl_M_214) (fun _ h9 => h9) rfl d_M_about_45 ?_
        refine lv_if_eq (tgt := 58) hx hb d_M_about_48 (by decide) (fun cc48 => ?_) (fun cc48 => ?_)
        · have hE := hE.1 cc48
          refine lv_iconst (v := 0) hx hb d_M_about_58 (by decide) ?_
          refine lv_goto (tgt := 75) hx hb d_M_about_59 (by decide) ?_
          exact W.iret (v := 0) hx hb hr (fun t ht hW => ⟨⟨_, σ2, rfl, hE, by rw [ht]; exact hP, va_K.moved hW.alike hK, hD⟩, hS.F ht⟩) hS.2.2 d_M_about_75
        · have hE := hE.2 cc48
          refine lv_aload_n hx hb d_M_about_51 rfl (lv_at hl 0 rfl) ?_
          refine va_get (D := (mG md)) (ci := 7) (v := .int (mp_elements σ2)) (C := R_M) (T := F_M) (N := 37) hx hb hta i_M hown hK hP 0 rfl rfl 14 (by decide) (hta _ fl_M_181) (fun _ h9 => h9) rfl d_M_about_52 ?_
          refine lv_goto (tgt := 75) hx hb d_M_about_55 (by decide) ?_
          exact W.iret (v := mp_elements σ2) hx hb hr (fun t ht hW => ⟨⟨_, σ2, rfl, hE, by rw [ht]; exact hP, va_K.moved hW.alike hK, hD⟩, hS.F ht⟩) hS.2.2 d_M_about_75
    · have hE := hE.1 cc18
      refine lv_aload_n hx hb d_M_about_21 rfl (lv_at hl 0 rfl) ?_
      refine va_get (D := (mG md)) (ci := 7) (v := .int (mp_known σ2)) (C := R_M) (T := F_M) (N := 37) hx hb hta i_M hown hK hP 0 rfl rfl 11 (by decide) (hta _ fl_M_214) (fun _ h9 => h9) rfl d_M_about_22 ?_
      refine lv_if_eq (tgt := 35) hx hb d_M_about_25 (by decide) (fun cc25 => ?_) (fun cc25 => ?_)
      · have hE := hE.1 cc25
        refine lv_iconst (v := 0) hx hb d_M_about_35 (by decide) ?_
        refine lv_goto (tgt := 75) hx hb d_M_about_36 (by decide) ?_
        exact W.iret (v := 0) hx hb hr (fun t ht hW => ⟨⟨_, σ2, rfl, hE, by rw [ht]; exact hP, va_K.moved hW.alike hK, hD⟩, hS.F ht⟩) hS.2.2 d_M_about_75
      · have hE := hE.2 cc25
        refine lv_aload_n hx hb d_M_about_28 rfl (lv_at hl 0 rfl) ?_
        refine va_get (D := (mG md)) (ci := 7) (v := .int (mp_nodes σ2)) (C := R_M) (T := F_M) (N := 37) hx hb hta i_M hown hK hP 0 rfl rfl 32 (by decide) (hta _ fl_M_175) (fun _ h9 => h9) rfl d_M_about_29 ?_
        refine lv_goto (tgt := 75) hx hb d_M_about_32 (by decide) ?_
        exact W.iret (v := mp_nodes σ2) hx hb hr (fun t ht hW => ⟨⟨_, σ2, rfl, hE, by rw [ht]; exact hP, va_K.moved hW.alike hK, hD⟩, hS.F ht⟩) hS.2.2 d_M_about_75
  · have hE := hE.1 cc6
    refine lv_aload_n hx hb d_M_about_9 rfl (lv_at hl 0 rfl) ?_
    refine va_get (D := (mG md)) (ci := 7) (v := .int (mp_taped σ2)) (C := R_M) (T := F_M) (N := 37) hx hb hta i_M hown hK hP 0 rfl rfl 6 (by decide) (hta _ fl_M_73) (fun _ h9 => h9) rfl d_M_about_10 ?_
    refine lv_goto (tgt := 75) hx hb d_M_about_13 (by decide) ?_
    exact W.iret (v := mp_taped σ2) hx hb hr (fun t ht hW => ⟨⟨_, σ2, rfl, hE, by rw [ht]; exact hP, va_K.moved hW.alike hK, hD⟩, hS.F ht⟩) hS.2.2 d_M_about_75
