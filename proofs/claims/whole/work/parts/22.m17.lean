-- printed by wip/gen: the reference
theorem fl_M_19 : Cond.fieldLink "PlainPagesModel" 19 "PlainPagesModel" "output" "[B" ∈ aW := aW_in 908 (by decide +kernel) rfl
theorem fl_M_337 : Cond.fieldLink "PlainPagesModel" 337 "PlainPagesModel" "outs" "I" ∈ aW := aW_in 912 (by decide +kernel) rfl
theorem d_M_put_0 : decode b_M_put 0 = .ok (.aload_n 0, 1) := by decide +kernel
theorem d_M_put_1 : decode b_M_put 1 = .ok (.getfield 19, 3) := by decide +kernel
theorem d_M_put_4 : decode b_M_put 4 = .ok (.aload_n 0, 1) := by decide +kernel
theorem d_M_put_5 : decode b_M_put 5 = .ok (.getfield 337, 3) := by decide +kernel
theorem d_M_put_8 : decode b_M_put 8 = .ok (.iload_n 1, 1) := by decide +kernel
theorem d_M_put_9 : decode b_M_put 9 = .ok (.i2b, 1) := by decide +kernel
theorem d_M_put_10 : decode b_M_put 10 = .ok (.bastore, 1) := by decide +kernel
theorem d_M_put_11 : decode b_M_put 11 = .ok (.aload_n 0, 1) := by decide +kernel
theorem d_M_put_12 : decode b_M_put 12 = .ok (.dup, 1) := by decide +kernel
theorem d_M_put_13 : decode b_M_put 13 = .ok (.getfield 337, 3) := by decide +kernel
theorem d_M_put_16 : decode b_M_put 16 = .ok (.iconst 1, 1) := by decide +kernel
theorem d_M_put_17 : decode b_M_put 17 = .ok (.iadd, 1) := by decide +kernel
theorem d_M_put_18 : decode b_M_put 18 = .ok (.putfield 337, 3) := by decide +kernel
theorem d_M_put_21 : decode b_M_put 21 = .ok (.return_, 1) := by decide +kernel
def w_M_put  (σ : MPS) (x0 : Int32) (post : MPS → Prop) : Prop := (vp_in (mp_outs σ) 24000 ∧ (∀ σ10 : MPS, σ10 = ms_output σ (upd (mp_output σ) (mp_outs σ).toNatClampNeg (vp_nar .byte x0.toInt8.toInt32)) → (∀ σ18 : MPS, σ18 = ms_outs σ10 ((mp_outs σ10) + 1) → post σ18)))
set_option maxHeartbeats 4000000 in
set_option maxRecDepth 100000 in
theorem c_M_put (l : Launch) (md : MD) (sz : Nat) (σ : MPS) (x0 : Int32)  (post : MPS → Prop) (hE : w_M_put σ x0 post) : Met l y_M_put ws_M_put { frames := 0, cells := 0, slots := 0, locals := 0 } (va_Pc [.ref (mA md 0), .int x0] (gM md σ sz)) (va_Qv post (eM md (va_A (MW md σ) sz)) (va_A (MW md σ) sz)) 0 0 (va_A (MW md σ) sz) := by
  refine Met.ofW (cc := b_M_put) (maxL := 2) (ret := none) (by decide) rfl ?_
  intro p e s m args below meth c s₁ B hml hv
  obtain ⟨rfl, hsz, hP, hK, hD0⟩ := hv
  have hx := B.exec
  have hb := B.bytes
  have hr := B.returns
  have hta : ∀ w ∈ aW, w.before _ s = true := fun w h => atoms_spec (ws := ws_M_put) B.pre w (List.mem_cons_of_mem _ h)
  have hown : s.vm.findClass R_M = some m.cls := findClass_of_methodNamed B.named
  have hlocks := B.notSynchronized
  subst hsz
  have hD := hD0.self (sz := s.heap.size)
  generalize hAe : va_A (MW md σ) s.heap.size = A at hD ⊢
  have hA : ∀ q : Nat, s.heap.size ≤ q → A q := fun q h => by rw [← hAe]; exact Or.inr h
  have hS : va_S A s.heap s.heap [] := va_S.rf
  have hP : va_P (mG md) classes (MW md σ) s.heap := hP
  have hl := lv_entry ([.ref (mA md 0), .int x0]) (n := 2) (Nat.le_of_ble_eq_true rfl)
  rw [lg_entry_eq]
  generalize (lg_sl ([.ref (mA md 0), .int x0]) ++ List.replicate (2 - (lg_sl ([.ref (mA md 0), .int x0])).length) Slot.unset).toArray = ls at hl ⊢
  have hl : lv_has ls 2 [(0, .ref (mA md 0)), (1, .int x0)] := hl
  unfold w_M_put at hE
  refine lv_aload_n hx hb d_M_put_0 rfl (lv_at hl 0 rfl) ?_
  refine va_get (D := (mG md)) (ci := 7) (v := .ref (mA md 4)) (C := R_M) (T := F_M) (N := 37) hx hb hta i_M hown hK hP 0 rfl rfl 4 (by decide) (hta _ fl_M_19) (fun _ h9 => h9) rfl d_M_put_1 ?_
  refine lv_aload_n hx hb d_M_put_4 rfl (lv_at hl 0 rfl) ?_
  refine va_get (D := (mG md)) (ci := 7) (v := .int (mp_outs σ)) (C := R_M) (T := F_M) (N := 37) hx hb hta i_M hown hK hP 0 rfl rfl 8 (by decide) (hta _ fl_M_337) (fun _ h9 => h9) rfl d_M_put_5 ?_
  refine lv_iload_n hx hb d_M_put_8 rfl (lv_at hl 1 rfl) ?_
  refine lv_i2b hx hb d_M_put_9 rfl ?_
  obtain ⟨hI10, hE⟩ := hE
  refine va_bast (D := (mG md)) (f := mp_output σ) hx hb hK hP hD hS 4 1 rfl rfl hI10 d_M_put_10 (fun H locs hP hD hS => ?_)
  have hP := mwP_output hP
  have hD := mwD_output hD
  have hE := hE _ rfl
  generalize (ms_output σ (upd (mp_output σ) (mp_outs σ).toNatClampNeg (vp_nar .byte x0.toInt8.toInt32)) : MPS) = σ10 at hP hD hE
  refine lv_aload_n hx hb d_M_put_11 rfl (lv_at hl 0 rfl) ?_
  refine lv_dup hx hb d_M_put_12 rfl ?_
  refine va_get (D := (mG md)) (ci := 7) (v := .int (mp_outs σ10)) (C := R_M) (T := F_M) (N := 37) hx hb hta i_M hown hK hP 0 rfl rfl 8 (by decide) (hta _ fl_M_337) (fun _ h9 => h9) rfl d_M_put_13 ?_
  refine lv_iconst (v := 1) hx hb d_M_put_16 (by decide) ?_
  refine lv_iadd hx hb d_M_put_17 ?_
  refine va_put (D := (mG md)) (ci := 7) (v := .int ((mp_outs σ10) + 1)) (ty := .int) (C := R_M) (T := F_M) (N := 37) hx hb hta i_M t_M t_M_ok n_M hown hK hP hD hS 0 rfl rfl 8 (by decide) (hta _ fl_M_337) (fun _ h9 => h9) rfl (by decide +kernel) rfl rfl (Nat.le_of_ble_eq_true rfl) d_M_put_18 (fun H locs hP hD hS => ?_)
  have hP := mwP_outs hP
  have hD := mwD_outs hD
  have hE := hE _ rfl
  generalize (ms_outs σ10 ((mp_outs σ10) + 1) : MPS) = σ18 at hP hD hE
  exact W.vret hx hb hr (fun t ht hW => ⟨⟨σ18, rfl, hE, by rw [ht]; exact hP, va_K.moved hW.alike hK, hD⟩, hS.F ht⟩) hS.2.2 d_M_put_21
theorem ok_M_340 : okV "PlainPagesModel" 340 R_M y_M_put b_M_put 2 none 1 := ⟨aW_in 1295 (by decide +kernel) rfl, aW_in 1297 (by decide +kernel) rfl, aW_in 79 (by decide +kernel) rfl, aW_in 92 (by decide +kernel) rfl, cd_M_put, rfl, by decide +kernel, by decide +kernel, by decide +kernel⟩
theorem d_M_putWord_0 : decode b_M_putWord 0 = .ok (.iload_n 3, 1) := by decide +kernel
theorem d_M_putWord_1 : decode b_M_putWord 1 = .ok (.iconst 1, 1) := by decide +kernel
theorem d_M_putWord_2 : decode b_M_putWord 2 = .ok (.isub, 1) := by decide +kernel
theorem d_M_putWord_3 : decode b_M_putWord 3 = .ok (.istore 4, 2) := by decide +kernel
theorem d_M_putWord_5 : decode b_M_putWord 5 = .ok (.iload 4, 2) := by decide +kernel
theorem d_M_putWord_7 : decode b_M_putWord 7 = .ok (.ifCond .lt 25, 3) := by decide +kernel
theorem d_M_putWord_10 : decode b_M_putWord 10 = .ok (.aload_n 0, 1) := by decide +kernel
theorem d_M_putWord_11 : decode b_M_putWord 11 = .ok (.lload_n 1, 1) := by decide +kernel
theorem d_M_putWord_12 : decode b_M_putWord 12 = .ok (.bipush 8, 2) := by decide +kernel
theorem d_M_putWord_14 : decode b_M_putWord 14 = .ok (.iload 4, 2) := by decide +kernel
theorem d_M_putWord_16 : decode b_M_putWord 16 = .ok (.imul, 1) := by decide +kernel
theorem d_M_putWord_17 : decode b_M_putWord 17 = .ok (.lshr, 1) := by decide +kernel
theorem d_M_putWord_18 : decode b_M_putWord 18 = .ok (.ldc2_w 99, 3) := by decide +kernel
theorem d_M_putWord_21 : decode b_M_putWord 21 = .ok (.land, 1) := by decide +kernel
theorem d_M_putWord_22 : decode b_M_putWord 22 = .ok (.l2i, 1) := by decide +kernel
theorem d_M_putWord_23 : decode b_M_putWord 23 = .ok (.invokevirtual 340, 3) := by decide +kernel
theorem d_M_putWord_26 : decode b_M_putWord 26 = .ok (.iinc 4 (-1), 3) := by decide +kernel
theorem d_M_putWord_29 : decode b_M_putWord 29 = .ok (.goto (-24), 3) := by decide +kernel
theorem d_M_putWord_32 : decode b_M_putWord 32 = .ok (.return_, 1) := by decide +kernel
def w_M_putWord_L5  (v1 : Int64) (post : MPS → Prop) : Nat → Int32 → MPS → Prop
  | 0, _, _ => False
  | n5 + 1, v4, σ => ((v4 < 0 → post σ) ∧ (¬ v4 < 0 → w_M_put σ (((v1 >>> ((8 * v4).toInt64 &&& 63)) &&& 255).toInt32) (fun σ23 => w_M_putWord_L5 v1 post n5 (v4 + (-1)) σ23)))
def w_M_putWord  (σ : MPS) (x0 : Int64) (x1 : Int32) (post : MPS → Prop) : Prop := (∃ n5, w_M_putWord_L5 x0 post n5 (x1 - 1) σ)
set_option maxHeartbeats 4000000 in
set_option maxRecDepth 100000 in
theorem c_M_putWord (l : Launch) (md : MD) (sz : Nat) (σ : MPS) (x0 : Int64) (x1 : Int32)  (post : MPS → Prop) (hE : w_M_putWord σ x0 x1 post) : Met l y_M_putWord ws_M_putWord { frames := 1, cells := 0, slots := 0, locals := 21 } (va_Pc [.ref (mA md 0), .long x0, .int x1] (gM md σ sz)) (va_Qv post (eM md (va_A (MW md σ) sz)) (va_A (MW md σ) sz)) 0 0 (va_A (MW md σ) sz) := by
  refine Met.ofW (cc := b_M_putWord) (maxL := 5) (ret := none) (by decide) rfl ?_
  intro p e s m args below meth c s₁ B hml hv
  obtain ⟨rfl, hsz, hP, hK, hD0⟩ := hv
  have hx := B.exec
  have hb := B.bytes
  have hr := B.returns
  have hta : ∀ w ∈ aW, w.before _ s = true := fun w h => atoms_spec (ws := ws_M_putWord) B.pre w (List.mem_cons_of_mem _ h)
  have hown : s.vm.findClass R_M = some m.cls := findClass_of_methodNamed B.named
  have hlocks := B.notSynchronized
  subst hsz
  have hD := hD0.self (sz := s.heap.size)
  generalize hAe : va_A (MW md σ) s.heap.size = A at hD ⊢
  have hA : ∀ q : Nat, s.heap.size ≤ q → A q := fun q h => by rw [← hAe]; exact Or.inr h
  have hS : va_S A s.heap s.heap [] := va_S.rf
  have hP : va_P (mG md) classes (MW md σ) s.heap := hP
  have hl := lv_entry ([.ref (mA md 0), .long x0, .int x1]) (n := 5) (Nat.le_of_ble_eq_true rfl)
  rw [lg_entry_eq]
  generalize (lg_sl ([.ref (mA md 0), .long x0, .int x1]) ++ List.replicate (5 - (lg_sl ([.ref (mA md 0), .long x0, .int x1])).length) Slot.unset).toArray = ls at hl ⊢
  have hl : lv_has ls 5 [(0, .ref (mA md 0)), (1, .long x0), (3, .int x1)] := hl
  have L5 : ∀ (v1 : Int64) (n5 : Nat) (v4 : Int32) (σ : MPS) (H : Heap) (locs : List Loc) (hP : va_P (mG md) classes (MW md σ) H) (hD : va_D A (MW md σ)) (hS : va_S A s.heap H locs) (ls : Array Slot) (hl : lv_has ls 5 [(0, .ref (mA md 0)), (1, .long v1), (4, .int v4)]) (hE : w_M_putWord_L5 v1 post n5 v4 σ), W p l e (headSpec ws_M_putWord { frames := 1, cells := 0, slots := 0, locals := 21 }).room s m ([.ref (mA md 0), .long x0, .int x1] : List Value).toArray below meth c H locs 0 0 (MQ below (va_Qv post (eM md A) A) ([.ref (mA md 0), .long x0, .int x1] : List Value).toArray s 0 0 A) (F0 m 5 ls []) := by
    intro v1 n5
    induction n5 with
    | zero => intro v4 σ H locs hP hD hS ls hl hE; exact hE.elim
    | succ n5 ih5 =>
      intro v4 σ H locs hP hD hS ls hl hE
      unfold w_M_putWord_L5 at hE
      refine lv_iload hx hb d_M_putWord_5 (lv_at hl 2 rfl) ?_
      refine lv_if_lt (tgt := 32) hx hb d_M_putWord_7 (by decide) (fun cc7 => ?_) (fun cc7 => ?_)
      · have hE := hE.1 cc7
        exact W.vret hx hb hr (fun t ht hW => ⟨⟨σ, rfl, hE, by rw [ht]; exact hP, va_K.moved hW.alike hK, hD⟩, hS.F ht⟩) hS.2.2 d_M_putWord_32
      · have hE := hE.2 cc7
        refine lv_aload_n hx hb d_M_putWord_10 rfl (lv_at hl 0 rfl) ?_
        refine lv_lload_n hx hb d_M_putWord_11 rfl (lv_at hl 1 rfl) ?_
        refine lv_bipush (v := 8) hx hb d_M_putWord_12 (by decide) ?_
        refine lv_iload hx hb d_M_putWord_14 (lv_at hl 2 rfl) ?_
        refine lv_imul hx hb d_M_putWord_16 ?_
        refine lv_lshr hx hb d_M_putWord_17 rfl ?_
        refine lv_ldc2 hx hb hown (hta _ cl_M_99) d_M_putWord_18 ?_
        refine lv_land hx hb d_M_putWord_21 ?_
        refine lv_l2i hx hb d_M_putWord_22 rfl ?_
        refine mm_v (b0 := (mA md 0)) (As := [.int (((v1 >>> ((8 * v4).toInt64 &&& 63)) &&& 255).toInt32)]) (rest := []) ⟨hx, hb, hml, hown, hta⟩ (c_M_put l md _ σ (((v1 >>> ((8 * v4).toInt64 &&& 63)) &&& 255).toInt32) _ hE) ok_M_340 ⟨Nat.le_of_ble_eq_true rfl, Nat.le_of_ble_eq_true rfl⟩ (va_recv hK hP (ci := 7) (q0 := 0) rfl rfl) hP hK hD hS hA rfl hl.1 rfl (Nat.le_of_ble_eq_true rfl) d_M_putWord_23 ⟨Nat.zero_le _, Nat.zero_le _⟩ (fun σ23 H locs hE hP hD hS => ?_)
        refine lv_iinc (v := v4 + (-1)) (lv' := [(4, .int (v4 + (-1))), (0, .ref (mA md 0)), (1, .long v1)]) hx hb d_M_putWord_26 hl (k := 2) rfl rfl (by decide) rfl (fun ls hl => ?_)
        refine lv_goto (tgt := 5) hx hb d_M_putWord_29 (by decide) ?_
        exact ih5 (v4 + (-1)) σ23 _ _ hP hD hS _ (lv_sub hl [1, 2, 0] rfl) hE
  unfold w_M_putWord at hE
  refine lv_iload_n hx hb d_M_putWord_0 rfl (lv_at hl 2 rfl) ?_
  refine lv_iconst (v := 1) hx hb d_M_putWord_1 (by decide) ?_
  refine lv_isub hx hb d_M_putWord_2 ?_
  refine lv_istore (lv' := [(4, .int (x1 - 1)), (0, .ref (mA md 0)), (1, .long x0), (3, .int x1)]) hx hb d_M_putWord_3 hl (by decide) rfl (fun ls hl => ?_)
  obtain ⟨n5, hE⟩ := hE
  exact L5 x0 n5 (x1 - 1) σ _ _ hP hD hS _ (lv_sub hl [1, 2, 0] rfl) hE
theorem ok_M_343 : okV "PlainPagesModel" 343 R_M y_M_putWord b_M_putWord 5 none 2 := ⟨aW_in 1291 (by decide +kernel) rfl, aW_in 1293 (by decide +kernel) rfl, aW_in 78 (by decide +kernel) rfl, aW_in 92 (by decide +kernel) rfl, cd_M_putWord, rfl, by decide +kernel, by decide +kernel, by decide +kernel⟩
theorem d_M_putCharacter_0 : decode b_M_putCharacter 0 = .ok (.iload_n 2, 1) := by decide +kernel
theorem d_M_putCharacter_1 : decode b_M_putCharacter 1 = .ok (.ifCond .eq 20, 3) := by decide +kernel
theorem d_M_putCharacter_4 : decode b_M_putCharacter 4 = .ok (.iload_n 1, 1) := by decide +kernel
theorem d_M_putCharacter_5 : decode b_M_putCharacter 5 = .ok (.bipush 38, 2) := by decide +kernel
theorem d_M_putCharacter_7 : decode b_M_putCharacter 7 = .ok (.if_icmp .ne 14, 3) := by decide +kernel
theorem d_M_putCharacter_10 : decode b_M_putCharacter 10 = .ok (.aload_n 0, 1) := by decide +kernel
theorem d_M_putCharacter_11 : decode b_M_putCharacter 11 = .ok (.ldc2_w 122, 3) := by decide +kernel
theorem d_M_putCharacter_14 : decode b_M_putCharacter 14 = .ok (.iconst 5, 1) := by decide +kernel
theorem d_M_putCharacter_15 : decode b_M_putCharacter 15 = .ok (.invokevirtual 343, 3) := by decide +kernel
theorem d_M_putCharacter_18 : decode b_M_putCharacter 18 = .ok (.goto 218, 3) := by decide +kernel
theorem d_M_putCharacter_21 : decode b_M_putCharacter 21 = .ok (.iload_n 2, 1) := by decide +kernel
theorem d_M_putCharacter_22 : decode b_M_putCharacter 22 = .ok (.ifCond .eq 20, 3) := by decide +kernel
theorem d_M_putCharacter_25 : decode b_M_putCharacter 25 = .ok (.iload_n 1, 1) := by decide +kernel
theorem d_M_putCharacter_26 : decode b_M_putCharacter 26 = .ok (.bipush 60, 2) := by decide +kernel
theorem d_M_putCharacter_28 : decode b_M_putCharacter 28 = .ok (.if_icmp .ne 14, 3) := by decide +kernel
theorem d_M_putCharacter_31 : decode b_M_putCharacter 31 = .ok (.aload_n 0, 1) := by decide +kernel
theorem d_M_putCharacter_32 : decode b_M_putCharacter 32 = .ok (.ldc2_w 128, 3) := by decide +kernel
theorem d_M_putCharacter_35 : decode b_M_putCharacter 35 = .ok (.iconst 4, 1) := by decide +kernel
theorem d_M_putCharacter_36 : decode b_M_putCharacter 36 = .ok (.invokevirtual 343, 3) := by decide +kernel
theorem d_M_putCharacter_39 : decode b_M_putCharacter 39 = .ok (.goto 197, 3) := by decide +kernel
theorem d_M_putCharacter_42 : decode b_M_putCharacter 42 = .ok (.iload_n 2, 1) := by decide +kernel
theorem d_M_putCharacter_43 : decode b_M_putCharacter 43 = .ok (.ifCond .eq 20, 3) := by decide +kernel
theorem d_M_putCharacter_46 : decode b_M_putCharacter 46 = .ok (.iload_n 1, 1) := by decide +kernel
theorem d_M_putCharacter_47 : decode b_M_putCharacter 47 = .ok (.bipush 62, 2) := by decide +kernel
theorem d_M_putCharacter_49 : decode b_M_putCharacter 49 = .ok (.if_icmp .ne 14, 3) := by decide +kernel
theorem d_M_putCharacter_52 : decode b_M_putCharacter 52 = .ok (.aload_n 0, 1) := by decide +kernel
theorem d_M_putCharacter_53 : decode b_M_putCharacter 53 = .ok (.ldc2_w 130, 3) := by decide +kernel
theorem d_M_putCharacter_56 : decode b_M_putCharacter 56 = .ok (.iconst 4, 1) := by decide +kernel
theorem d_M_putCharacter_57 : decode b_M_putCharacter 57 = .ok (.invokevirtual 343, 3) := by decide +kernel
theorem d_M_putCharacter_60 : decode b_M_putCharacter 60 = .ok (.goto 176, 3) := by decide +kernel
theorem d_M_putCharacter_63 : decode b_M_putCharacter 63 = .ok (.iload_n 2, 1) := by decide +kernel
theorem d_M_putCharacter_64 : decode b_M_putCharacter 64 = .ok (.ifCond .eq 21, 3) := by decide +kernel
theorem d_M_putCharacter_67 : decode b_M_putCharacter 67 = .ok (.iload_n 1, 1) := by decide +kernel
theorem d_M_putCharacter_68 : decode b_M_putCharacter 68 = .ok (.bipush 34, 2) := by decide +kernel
theorem d_M_putCharacter_70 : decode b_M_putCharacter 70 = .ok (.if_icmp .ne 15, 3) := by decide +kernel
theorem d_M_putCharacter_73 : decode b_M_putCharacter 73 = .ok (.aload_n 0, 1) := by decide +kernel
theorem d_M_putCharacter_74 : decode b_M_putCharacter 74 = .ok (.ldc2_w 132, 3) := by decide +kernel
theorem d_M_putCharacter_77 : decode b_M_putCharacter 77 = .ok (.bipush 6, 2) := by decide +kernel
theorem d_M_putCharacter_79 : decode b_M_putCharacter 79 = .ok (.invokevirtual 343, 3) := by decide +kernel
theorem d_M_putCharacter_82 : decode b_M_putCharacter 82 = .ok (.goto 154, 3) := by decide +kernel
theorem d_M_putCharacter_85 : decode b_M_putCharacter 85 = .ok (.iload_n 1, 1) := by decide +kernel
theorem d_M_putCharacter_86 : decode b_M_putCharacter 86 = .ok (.sipush 128, 3) := by decide +kernel
theorem d_M_putCharacter_89 : decode b_M_putCharacter 89 = .ok (.if_icmp .ge 11, 3) := by decide +kernel
theorem d_M_putCharacter_92 : decode b_M_putCharacter 92 = .ok (.aload_n 0, 1) := by decide +kernel
theorem d_M_putCharacter_93 : decode b_M_putCharacter 93 = .ok (.iload_n 1, 1) := by decide +kernel
theorem d_M_putCharacter_94 : decode b_M_putCharacter 94 = .ok (.invokevirtual 340, 3) := by decide +kernel
theorem d_M_putCharacter_97 : decode b_M_putCharacter 97 = .ok (.goto 139, 3) := by decide +kernel
theorem d_M_putCharacter_100 : decode b_M_putCharacter 100 = .ok (.iload_n 1, 1) := by decide +kernel
theorem d_M_putCharacter_101 : decode b_M_putCharacter 101 = .ok (.sipush 2048, 3) := by decide +kernel
theorem d_M_putCharacter_104 : decode b_M_putCharacter 104 = .ok (.if_icmp .ge 30, 3) := by decide +kernel
theorem d_M_putCharacter_107 : decode b_M_putCharacter 107 = .ok (.aload_n 0, 1) := by decide +kernel
theorem d_M_putCharacter_108 : decode b_M_putCharacter 108 = .ok (.sipush 192, 3) := by decide +kernel
theorem d_M_putCharacter_111 : decode b_M_putCharacter 111 = .ok (.iload_n 1, 1) := by decide +kernel
theorem d_M_putCharacter_112 : decode b_M_putCharacter 112 = .ok (.bipush 6, 2) := by decide +kernel
theorem d_M_putCharacter_114 : decode b_M_putCharacter 114 = .ok (.ishr, 1) := by decide +kernel
theorem d_M_putCharacter_115 : decode b_M_putCharacter 115 = .ok (.iadd, 1) := by decide +kernel
theorem d_M_putCharacter_116 : decode b_M_putCharacter 116 = .ok (.invokevirtual 340, 3) := by decide +kernel
theorem d_M_putCharacter_119 : decode b_M_putCharacter 119 = .ok (.aload_n 0, 1) := by decide +kernel
theorem d_M_putCharacter_120 : decode b_M_putCharacter 120 = .ok (.sipush 128, 3) := by decide +kernel
theorem d_M_putCharacter_123 : decode b_M_putCharacter 123 = .ok (.iload_n 1, 1) := by decide +kernel
theorem d_M_putCharacter_124 : decode b_M_putCharacter 124 = .ok (.bipush 63, 2) := by decide +kernel
theorem d_M_putCharacter_126 : decode b_M_putCharacter 126 = .ok (.iand, 1) := by decide +kernel
theorem d_M_putCharacter_127 : decode b_M_putCharacter 127 = .ok (.iadd, 1) := by decide +kernel
theorem d_M_putCharacter_128 : decode b_M_putCharacter 128 = .ok (.invokevirtual 340, 3) := by decide +kernel
theorem d_M_putCharacter_131 : decode b_M_putCharacter 131 = .ok (.goto 105, 3) := by decide +kernel
theorem d_M_putCharacter_134 : decode b_M_putCharacter 134 = .ok (.iload_n 1, 1) := by decide +kernel
theorem d_M_putCharacter_135 : decode b_M_putCharacter 135 = .ok (.ldc 79, 2) := by decide +kernel
theorem d_M_putCharacter_137 : decode b_M_putCharacter 137 = .ok (.if_icmp .ge 45, 3) := by decide +kernel
theorem d_M_putCharacter_140 : decode b_M_putCharacter 140 = .ok (.aload_n 0, 1) := by decide +kernel
theorem d_M_putCharacter_141 : decode b_M_putCharacter 141 = .ok (.sipush 224, 3) := by decide +kernel
theorem d_M_putCharacter_144 : decode b_M_putCharacter 144 = .ok (.iload_n 1, 1) := by decide +kernel
theorem d_M_putCharacter_145 : decode b_M_putCharacter 145 = .ok (.bipush 12, 2) := by decide +kernel
theorem d_M_putCharacter_147 : decode b_M_putCharacter 147 = .ok (.ishr, 1) := by decide +kernel
theorem d_M_putCharacter_148 : decode b_M_putCharacter 148 = .ok (.iadd, 1) := by decide +kernel
theorem d_M_putCharacter_149 : decode b_M_putCharacter 149 = .ok (.invokevirtual 340, 3) := by decide +kernel
theorem d_M_putCharacter_152 : decode b_M_putCharacter 152 = .ok (.aload_n 0, 1) := by decide +kernel
theorem d_M_putCharacter_153 : decode b_M_putCharacter 153 = .ok (.sipush 128, 3) := by decide +kernel
theorem d_M_putCharacter_156 : decode b_M_putCharacter 156 = .ok (.iload_n 1, 1) := by decide +kernel
theorem d_M_putCharacter_157 : decode b_M_putCharacter 157 = .ok (.bipush 6, 2) := by decide +kernel
theorem d_M_putCharacter_159 : decode b_M_putCharacter 159 = .ok (.ishr, 1) := by decide +kernel
theorem d_M_putCharacter_160 : decode b_M_putCharacter 160 = .ok (.bipush 63, 2) := by decide +kernel
theorem d_M_putCharacter_162 : decode b_M_putCharacter 162 = .ok (.iand, 1) := by decide +kernel
theorem d_M_putCharacter_163 : decode b_M_putCharacter 163 = .ok (.iadd, 1) := by decide +kernel
theorem d_M_putCharacter_164 : decode b_M_putCharacter 164 = .ok (.invokevirtual 340, 3) := by decide +kernel
theorem d_M_putCharacter_167 : decode b_M_putCharacter 167 = .ok (.aload_n 0, 1) := by decide +kernel
theorem d_M_putCharacter_168 : decode b_M_putCharacter 168 = .ok (.sipush 128, 3) := by decide +kernel
theorem d_M_putCharacter_171 : decode b_M_putCharacter 171 = .ok (.iload_n 1, 1) := by decide +kernel
theorem d_M_putCharacter_172 : decode b_M_putCharacter 172 = .ok (.bipush 63, 2) := by decide +kernel
theorem d_M_putCharacter_174 : decode b_M_putCharacter 174 = .ok (.iand, 1) := by decide +kernel
theorem d_M_putCharacter_175 : decode b_M_putCharacter 175 = .ok (.iadd, 1) := by decide +kernel
theorem d_M_putCharacter_176 : decode b_M_putCharacter 176 = .ok (.invokevirtual 340, 3) := by decide +kernel
theorem d_M_putCharacter_179 : decode b_M_putCharacter 179 = .ok (.goto 57, 3) := by decide +kernel
theorem d_M_putCharacter_182 : decode b_M_putCharacter 182 = .ok (.aload_n 0, 1) := by decide +kernel
theorem d_M_putCharacter_183 : decode b_M_putCharacter 183 = .ok (.sipush 240, 3) := by decide +kernel
theorem d_M_putCharacter_186 : decode b_M_putCharacter 186 = .ok (.iload_n 1, 1) := by decide +kernel
theorem d_M_putCharacter_187 : decode b_M_putCharacter 187 = .ok (.bipush 18, 2) := by decide +kernel
theorem d_M_putCharacter_189 : decode b_M_putCharacter 189 = .ok (.ishr, 1) := by decide +kernel
theorem d_M_putCharacter_190 : decode b_M_putCharacter 190 = .ok (.iadd, 1) := by decide +kernel
theorem d_M_putCharacter_191 : decode b_M_putCharacter 191 = .ok (.invokevirtual 340, 3) := by decide +kernel
theorem d_M_putCharacter_194 : decode b_M_putCharacter 194 = .ok (.aload_n 0, 1) := by decide +kernel
theorem d_M_putCharacter_195 : decode b_M_putCharacter 195 = .ok (.sipush 128, 3) := by decide +kernel
theorem d_M_putCharacter_198 : decode b_M_putCharacter 198 = .ok (.iload_n 1, 1) := by decide +kernel
theorem d_M_putCharacter_199 : decode b_M_putCharacter 199 = .ok (.bipush 12, 2) := by decide +kernel
theorem d_M_putCharacter_201 : decode b_M_putCharacter 201 = .ok (.ishr, 1) := by decide +kernel
theorem d_M_putCharacter_202 : decode b_M_putCharacter 202 = .ok (.bipush 63, 2) := by decide +kernel
theorem d_M_putCharacter_204 : decode b_M_putCharacter 204 = .ok (.iand, 1) := by decide +kernel
theorem d_M_putCharacter_205 : decode b_M_putCharacter 205 = .ok (.iadd, 1) := by decide +kernel
theorem d_M_putCharacter_206 : decode b_M_putCharacter 206 = .ok (.invokevirtual 340, 3) := by decide +kernel
theorem d_M_putCharacter_209 : decode b_M_putCharacter 209 = .ok (.aload_n 0, 1) := by decide +kernel
theorem d_M_putCharacter_210 : decode b_M_putCharacter 210 = .ok (.sipush 128, 3) := by decide +kernel
theorem d_M_putCharacter_213 : decode b_M_putCharacter 213 = .ok (.iload_n 1, 1) := by decide +kernel
theorem d_M_putCharacter_214 : decode b_M_putCharacter 214 = .ok (.bipush 6, 2) := by decide +kernel
theorem d_M_putCharacter_216 : decode b_M_putCharacter 216 = .ok (.ishr, 1) := by decide +kernel
theorem d_M_putCharacter_217 : decode b_M_putCharacter 217 = .ok (.bipush 63, 2) := by decide +kernel
theorem d_M_putCharacter_219 : decode b_M_putCharacter 219 = .ok (.iand, 1) := by decide +kernel
theorem d_M_putCharacter_220 : decode b_M_putCharacter 220 = .ok (.iadd, 1) := by decide +kernel
theorem d_M_putCharacter_221 : decode b_M_putCharacter 221 = .ok (.invokevirtual 340, 3) := by decide +kernel
theorem d_M_putCharacter_224 : decode b_M_putCharacter 224 = .ok (.aload_n 0, 1) := by decide +kernel
theorem d_M_putCharacter_225 : decode b_M_putCharacter 225 = .ok (.sipush 128, 3) := by decide +kernel
theorem d_M_putCharacter_228 : decode b_M_putCharacter 228 = .ok (.iload_n 1, 1) := by decide +kernel
theorem d_M_putCharacter_229 : decode b_M_putCharacter 229 = .ok (.bipush 63, 2) := by decide +kernel
theorem d_M_putCharacter_231 : decode b_M_putCharacter 231 = .ok (.iand, 1) := by decide +kernel
theorem d_M_putCharacter_232 : decode b_M_putCharacter 232 = .ok (.iadd, 1) := by decide +kernel
theorem d_M_putCharacter_233 : decode b_M_putCharacter 233 = .ok (.invokevirtual 340, 3) := by decide +kernel
theorem d_M_putCharacter_236 : decode b_M_putCharacter 236 = .ok (.return_, 1) := by decide +kernel
def w_M_putCharacter_J85   (post : MPS → Prop) (v1 : Int32) (σ : MPS) : Prop := ((128 ≤ v1 → ((2048 ≤ v1 → ((65536 ≤ v1 → w_M_put σ ((240 : Int32) + (v1 >>> (18 &&& 31))) (fun σ191 => w_M_put σ191 ((128 : Int32) + ((v1 >>> (12 &&& 31)) &&& 63)) (fun σ206 => w_M_put σ206 ((128 : Int32) + ((v1 >>> (6 &&& 31)) &&& 63)) (fun σ221 => w_M_put σ221 (128 + (v1 &&& 63)) (fun σ233 => post σ233))))) ∧ (¬ 65536 ≤ v1 → w_M_put σ ((224 : Int32) + (v1 >>> (12 &&& 31))) (fun σ149 => w_M_put σ149 ((128 : Int32) + ((v1 >>> (6 &&& 31)) &&& 63)) (fun σ164 => w_M_put σ164 (128 + (v1 &&& 63)) (fun σ176 => post σ176)))))) ∧ (¬ 2048 ≤ v1 → w_M_put σ ((192 : Int32) + (v1 >>> (6 &&& 31))) (fun σ116 => w_M_put σ116 (128 + (v1 &&& 63)) (fun σ128 => post σ128))))) ∧ (¬ 128 ≤ v1 → w_M_put σ v1 (fun σ94 => post σ94)))
def w_M_putCharacter_J63   (post : MPS → Prop) (v1 : Int32) (v2 : Int32) (σ : MPS) : Prop := ((v2 = 0 → w_M_putCharacter_J85 post v1 σ) ∧ (¬ v2 = 0 → ((v1 = 34 → w_M_putWord σ 42268743398459 6 (fun σ79 => post σ79)) ∧ (¬ v1 = 34 → w_M_putCharacter_J85 post v1 σ))))
def w_M_putCharacter_J42   (post : MPS → Prop) (v1 : Int32) (v2 : Int32) (σ : MPS) : Prop := ((v2 = 0 → w_M_putCharacter_J63 post v1 v2 σ) ∧ (¬ v2 = 0 → ((v1 = 62 → w_M_putWord σ 644314171 4 (fun σ57 => post σ57)) ∧ (¬ v1 = 62 → w_M_putCharacter_J63 post v1 v2 σ))))
def w_M_putCharacter_J21   (post : MPS → Prop) (v1 : Int32) (v2 : Int32) (σ : MPS) : Prop := ((v2 = 0 → w_M_putCharacter_J42 post v1 v2 σ) ∧ (¬ v2 = 0 → ((v1 = 60 → w_M_putWord σ 644641851 4 (fun σ36 => post σ36)) ∧ (¬ v1 = 60 → w_M_putCharacter_J42 post v1 v2 σ))))
def w_M_putCharacter  (σ : MPS) (x0 : Int32) (x1 : Int32) (post : MPS → Prop) : Prop := ((x1 = 0 → w_M_putCharacter_J21 post x0 x1 σ) ∧ (¬ x1 = 0 → ((x0 = 38 → w_M_putWord σ 164843319355 5 (fun σ15 => post σ15)) ∧ (¬ x0 = 38 → w_M_putCharacter_J21 post x0 x1 σ))))
set_option maxHeartbeats 4000000 in
set_option maxRecDepth 100000 in
theorem c_M_putCharacter (l : Launch) (md : MD) (sz : Nat) (σ : MPS) (x0 : Int32) (x1 : Int32)  (post : MPS → Prop) (hE : w_M_putCharacter σ x0 x1 post) : Met l y_M_putCharacter ws_M_putCharacter { frames := 2, cells := 0, slots := 0, locals := 45 } (va_Pc [.ref (mA md 0), .int x0, .int x1] (gM md σ sz)) (va_Qv post (eM md (va_A (MW md σ) sz)) (va_A (MW md σ) sz)) 0 0 (va_A (MW md σ) sz) := by
  refine Met.ofW (cc := b_M_putCharacter) (maxL := 3) (ret := none) (by decide) rfl ?_
  intro p e s m args below meth c s₁ B hml hv
  obtain ⟨rfl, hsz, hP, hK, hD0⟩ := hv
  have hx := B.exec
  have hb := B.bytes
  have hr := B.returns
  have hta : ∀ w ∈ aW, w.before _ s = true := fun w h => atoms_spec (ws := ws_M_putCharacter) B.pre w (List.mem_cons_of_mem _ h)
  have hown : s.vm.findClass R_M = some m.cls := findClass_of_methodNamed B.named
  have hlocks := B.notSynchronized
  subst hsz
  have hD := hD0.self (sz := s.heap.size)
  generalize hAe : va_A (MW md σ) s.heap.size = A at hD ⊢
  have hA : ∀ q : Nat, s.heap.size ≤ q → A q := fun q h => by rw [← hAe]; exact Or.inr h
  have hS : va_S A s.heap s.heap [] := va_S.rf
  have hP : va_P (mG md) classes (MW md σ) s.heap := hP
  have hl := lv_entry ([.ref (mA md 0), .int x0, .int x1]) (n := 3) (Nat.le_of_ble_eq_true rfl)
  rw [lg_entry_eq]
  generalize (lg_sl ([.ref (mA md 0), .int x0, .int x1]) ++ List.replicate (3 - (lg_sl ([.ref (mA md 0), .int x0, .int x1])).length) Slot.unset).toArray = ls at hl ⊢
  have hl : lv_has ls 3 [(0, .ref (mA md 0)), (1, .int x0), (2, .int x1)] := hl
  have J85 : ∀ (v1 : Int32) (σ : MPS) (H : Heap) (locs : List Loc) (hP : va_P (mG md) classes (MW md σ) H) (hD : va_D A (MW md σ)) (hS : va_S A s.heap H locs) (ls : Array Slot) (hl : lv_has ls 3 [(0, .ref (mA md 0)), (1, .int v1)]) (hE : w_M_putCharacter_J85 post v1 σ), W p l e (headSpec ws_M_putCharacter { frames := 2, cells := 0, slots := 0, locals := 45 }).room s m ([.ref (mA md 0), .int x0, .int x1] : List Value).toArray below meth c H locs 0 0 (MQ below (va_Qv post (eM md A) A) ([.ref (mA md 0), .int x0, .int x1] : List Value).toArray s 0 0 A) (F0 m 85 ls []) := by
    intro  v1 σ H locs hP hD hS ls hl hE
    unfold w_M_putCharacter_J85 at hE
    refine lv_iload_n hx hb d_M_putCharacter_85 rfl (lv_at hl 1 rfl) ?_
    refine lv_sipush (v := 128) hx hb d_M_putCharacter_86 (by decide) ?_
    refine lv_icmp_ge (tgt := 100) hx hb d_M_putCharacter_89 (by decide) (fun cc89 => ?_) (fun cc89 => ?_)
    · have hE := hE.1 cc89
      refine lv_iload_n hx hb d_M_putCharacter_100 rfl (lv_at hl 1 rfl) ?_
      refine lv_sipush (v := 2048) hx hb d_M_putCharacter_101 (by decide) ?_
      refine lv_icmp_ge (tgt := 134) hx hb d_M_putCharacter_104 (by decide) (fun cc104 => ?_) (fun cc104 => ?_)
      · have hE := hE.1 cc104
        refine lv_iload_n hx hb d_M_putCharacter_134 rfl (lv_at hl 1 rfl) ?_
        refine lv_ldc hx hb hown (hta _ ct_M_79) d_M_putCharacter_135 ?_
        refine lv_icmp_ge (tgt := 182) hx hb d_M_putCharacter_137 (by decide) (fun cc137 => ?_) (fun cc137 => ?_)
        · have hE := hE.1 cc137
          refine lv_aload_n hx hb d_M_putCharacter_182 rfl (lv_at hl 0 rfl) ?_
          refine lv_sipush (v := 240) hx hb d_M_putCharacter_183 (by decide) ?_
          refine lv_iload_n hx hb d_M_putCharacter_186 rfl (lv_at hl 1 rfl) ?_
          refine lv_bipush (v := 18) hx hb d_M_putCharacter_187 (by decide) ?_
          refine lv_ishr hx hb d_M_putCharacter_189 ?_
          refine lv_iadd hx hb d_M_putCharacter_190 ?_
          refine mm_v (b0 := (mA md 0)) (As := [.int ((240 : Int32) + (v1 >>> (18 &&& 31)))]) (rest := []) ⟨hx, hb, hml, hown, hta⟩ (c_M_put l md _ σ ((240 : Int32) + (v1 >>> (18 &&& 31))) _ hE) ok_M_340 ⟨Nat.le_of_ble_eq_true rfl, Nat.le_of_ble_eq_true rfl⟩ (va_recv hK hP (ci := 7) (q0 := 0) rfl rfl) hP hK hD hS hA rfl hl.1 rfl (Nat.le_of_ble_eq_true rfl) d_M_putCharacter_191 ⟨Nat.zero_le _, Nat.zero_le _⟩ (fun σ191 H locs hE hP hD hS => ?_)
          refine lv_aload_n hx hb d_M_putCharacter_194 rfl (lv_at hl 0 rfl) ?_
          refine lv_sipush (v := 128) hx hb d_M_putCharacter_195 (by decide) ?_
          refine lv_iload_n hx hb d_M_putCharacter_198 rfl (lv_at hl 1 rfl) ?_
          refine lv_bipush (v := 12) hx hb d_M_putCharacter_199 (by decide) ?_
          refine lv_ishr hx hb d_M_putCharacter_201 ?_
          refine lv_bipush (v := 63) hx hb d_M_putCharacter_202 (by decide) ?_
          refine lv_iand hx hb d_M_putCharacter_204 ?_
          refine lv_iadd hx hb d_M_putCharacter_205 ?_
          refine mm_v (b0 := (mA md 0)) (As := [.int ((128 : Int32) + ((v1 >>> (12 &&& 31)) &&& 63))]) (rest := []) ⟨hx, hb, hml, hown, hta⟩ (c_M_put l md _ σ191 ((128 : Int32) + ((v1 >>> (12 &&& 31)) &&& 63)) _ hE) ok_M_340 ⟨Nat.le_of_ble_eq_true rfl, Nat.le_of_ble_eq_true rfl⟩ (va_recv hK hP (ci := 7) (q0 := 0) rfl rfl) hP hK hD hS hA rfl hl.1 rfl (Nat.le_of_ble_eq_true rfl) d_M_putCharacter_206 ⟨Nat.zero_le _, Nat.zero_le _⟩ (fun σ206 H locs hE hP hD hS => ?_)
          refine lv_aload_n hx hb d_M_putCharacter_209 rfl (lv_at hl 0 rfl) ?_
          refine lv_sipush (v := 128) hx hb d_M_putCharacter_210 (by decide) ?_
          refine lv_iload_n hx hb d_M_putCharacter_213 rfl (lv_at hl 1 rfl) ?_
          refine lv_bipush (v := 6) hx hb d_M_putCharacter_214 (by decide) ?_
          refine lv_ishr hx hb d_M_putCharacter_216 ?_
          refine lv_bipush (v := 63) hx hb d_M_putCharacter_217 (by decide) ?_
          refine lv_iand hx hb d_M_putCharacter_219 ?_
          refine lv_iadd hx hb d_M_putCharacter_220 ?_
          refine mm_v (b0 := (mA md 0)) (As := [.int ((128 : Int32) + ((v1 >>> (6 &&& 31)) &&& 63))]) (rest := []) ⟨hx, hb, hml, hown, hta⟩ (c_M_put l md _ σ206 ((128 : Int32) + ((v1 >>> (6 &&& 31)) &&& 63)) _ hE) ok_M_340 ⟨Nat.le_of_ble_eq_true rfl, Nat.le_of_ble_eq_true rfl⟩ (va_recv hK hP (ci := 7) (q0 := 0) rfl rfl) hP hK hD hS hA rfl hl.1 rfl (Nat.le_of_ble_eq_true rfl) d_M_putCharacter_221 ⟨Nat.zero_le _, Nat.zero_le _⟩ (fun σ221 H locs hE hP hD hS => ?_)
          refine lv_aload_n hx hb d_M_putCharacter_224 rfl (lv_at hl 0 rfl) ?_
          refine lv_sipush (v := 128) hx hb d_M_putCharacter_225 (by decide) ?_
          refine lv_iload_n hx hb d_M_putCharacter_228 rfl (lv_at hl 1 rfl) ?_
          refine lv_bipush (v := 63) hx hb d_M_putCharacter_229 (by decide) ?_
          refine lv_iand hx hb d_M_putCharacter_231 ?_
          refine lv_iadd hx hb d_M_putCharacter_232 ?_
          refine mm_v (b0 := (mA md 0)) (As := [.int (128 + (v1 &&& 63))]) (rest := []) ⟨hx, hb, hml, hown, hta⟩ (c_M_put l md _ σ221 (128 + (v1 &&& 63)) _ hE) ok_M_340 ⟨Nat.le_of_ble_eq_true rfl, Nat.le_of_ble_eq_true rfl⟩ (va_recv hK hP (ci := 7) (q0 := 0) rfl rfl) hP hK hD hS hA rfl hl.1 rfl (Nat.le_of_ble_eq_true rfl) d_M_putCharacter_233 ⟨Nat.zero_le _, Nat.zero_le _⟩ (fun σ233 H locs hE hP hD hS => ?_)
          exact W.vret hx hb hr (fun t ht hW => ⟨⟨σ233, rfl, hE, by rw [ht]; exact hP, va_K.moved hW.alike hK, hD⟩, hS.F ht⟩) hS.2.2 d_M_putCharacter_236
        · have hE := hE.2 cc137
          refine lv_aload_n hx hb d_M_putCharacter_140 rfl (lv_at hl 0 rfl) ?_
          refine lv_sipush (v := 224) hx hb d_M_putCharacter_141 (by decide) ?_
          refine lv_iload_n hx hb d_M_putCharacter_144 rfl (lv_at hl 1 rfl) ?_
          refine lv_bipush (v := 12) hx hb d_M_putCharacter_145 (by decide) ?_
          refine lv_ishr hx hb d_M_putCharacter_147 ?_
          refine lv_iadd hx hb d_M_putCharacter_148 ?_
          refine mm_v (b0 := (mA md 0)) (As := [.int ((224 : Int32) + (v1 >>> (12 &&& 31)))]) (rest := []) ⟨hx, hb, hml, hown, hta⟩ (c_M_put l md _ σ ((224 : Int32) + (v1 >>> (12 &&& 31))) _ hE) ok_M_340 ⟨Nat.le_of_ble_eq_true rfl, Nat.le_of_ble_eq_true rfl⟩ (va_recv hK hP (ci := 7) (q0 := 0) rfl rfl) hP hK hD hS hA rfl hl.1 rfl (Nat.le_of_ble_eq_true rfl) d_M_putCharacter_149 ⟨Nat.zero_le _, Nat.zero_le _⟩ (fun σ149 H locs hE hP hD hS => ?_)
          refine lv_aload_n hx hb d_M_putCharacter_152 rfl (lv_at hl 0 rfl) ?_
          refine lv_sipush (v := 128) hx hb d_M_putCharacter_153 (by decide) ?_
          refine lv_iload_n hx hb d_M_putCharacter_156 rfl (lv_at hl 1 rfl) ?_
          refine lv_bipush (v := 6) hx hb d_M_putCharacter_157 (by decide) ?_
          refine lv_ishr hx hb d_M_putCharacter_159 ?_
          refine lv_bipush (v := 63) hx hb d_M_putCharacter_160 (by decide) ?_
          refine lv_iand hx hb d_M_putCharacter_162 ?_
          refine lv_iadd hx hb d_M_putCharacter_163 ?_
          refine mm_v (b0 := (mA md 0)) (As := [.int ((128 : Int32) + ((v1 >>> (6 &&& 31)) &&& 63))]) (rest := []) ⟨hx, hb, hml, hown, hta⟩ (c_M_put l md _ σ149 ((128 : Int32) + ((v1 >>> (6 &&& 31)) &&& 63)) _ hE) ok_M_340 ⟨Nat.le_of_ble_eq_true rfl, Nat.le_of_ble_eq_true rfl⟩ (va_recv hK hP (ci := 7) (q0 := 0) rfl rfl) hP hK hD hS hA rfl hl.1 rfl (Nat.le_of_ble_eq_true rfl) d_M_putCharacter_164 ⟨Nat.zero_le _, Nat.zero_le _⟩ (fun σ164 H locs hE hP hD hS => ?_)
          refine lv_aload_n hx hb d_M_putCharacter_167 rfl (lv_at hl 0 rfl) ?_
          refine lv_sipush (v := 128) hx hb d_M_putCharacter_168 (by decide) ?_
          refine lv_iload_n hx hb d_M_putCharacter_171 rfl (lv_at hl 1 rfl) ?_
          refine lv_bipush (v := 63) hx hb d_M_putCharacter_172 (by decide) ?_
          refine lv_iand hx hb d_M_putCharacter_174 ?_
          refine lv_iadd hx hb d_M_putCharacter_175 ?_
          refine mm_v (b0 := (mA md 0)) (As := [.int (128 + (v1 &&& 63))]) (rest := []) ⟨hx, hb, hml, hown, hta⟩ (c_M_put l md _ σ164 (128 + (v1 &&& 63)) _ hE) ok_M_340 ⟨Nat.le_of_ble_eq_true rfl, Nat.le_of_ble_eq_true rfl⟩ (va_recv hK hP (ci := 7) (q0 := 0) rfl rfl) hP hK hD hS hA rfl hl.1 rfl (Nat.le_of_ble_eq_true rfl) d_M_putCharacter_176 ⟨Nat.zero_le _, Nat.zero_le _⟩ (fun σ176 H locs hE hP hD hS => ?_)
          refine lv_goto (tgt := 236) hx hb d_M_putCharacter_179 (by decide) ?_
          exact W.vret hx hb hr (fun t ht hW => ⟨⟨σ176, rfl, hE, by rw [ht]; exact hP, va_K.moved hW.alike hK, hD⟩, hS.F ht⟩) hS.2.2 d_M_putCharacter_236
      · have hE := hE.2 cc104
        refine lv_aload_n hx hb d_M_putCharacter_107 rfl (lv_at hl 0 rfl) ?_
        refine lv_sipush (v := 192) hx hb d_M_putCharacter_108 (by decide) ?_
        refine lv_iload_n hx hb d_M_putCharacter_111 rfl (lv_at hl 1 rfl) ?_
        refine lv_bipush (v := 6) hx hb d_M_putCharacter_112 (by decide) ?_
        refine lv_ishr hx hb d_M_putCharacter_114 ?_
        refine lv_iadd hx hb d_M_putCharacter_115 ?_
        refine mm_v (b0 := (mA md 0)) (As := [.int ((192 : Int32) + (v1 >>> (6 &&& 31)))]) (rest := []) ⟨hx, hb, hml, hown, hta⟩ (c_M_put l md _ σ ((192 : Int32) + (v1 >>> (6 &&& 31))) _ hE) ok_M_340 ⟨Nat.le_of_ble_eq_true rfl, Nat.le_of_ble_eq_true rfl⟩ (va_recv hK hP (ci := 7) (q0 := 0) rfl rfl) hP hK hD hS hA rfl hl.1 rfl (Nat.le_of_ble_eq_true rfl) d_M_putCharacter_116 ⟨Nat.zero_le _, Nat.zero_le _⟩ (fun σ116 H locs hE hP hD hS => ?_)
        refine lv_aload_n hx hb d_M_putCharacter_119 rfl (lv_at hl 0 rfl) ?_
        refine lv_sipush (v := 128) hx hb d_M_putCharacter_120 (by decide) ?_
        refine lv_iload_n hx hb d_M_putCharacter_123 rfl (lv_at hl 1 rfl) ?_
        refine lv_bipush (v := 63) hx hb d_M_putCharacter_124 (by decide) ?_
        refine lv_iand hx hb d_M_putCharacter_126 ?_
        refine lv_iadd hx hb d_M_putCharacter_127 ?_
        refine mm_v (b0 := (mA md 0)) (As := [.int (128 + (v1 &&& 63))]) (rest := []) ⟨hx, hb, hml, hown, hta⟩ (c_M_put l md _ σ116 (128 + (v1 &&& 63)) _ hE) ok_M_340 ⟨Nat.le_of_ble_eq_true rfl, Nat.le_of_ble_eq_true rfl⟩ (va_recv hK hP (ci := 7) (q0 := 0) rfl rfl) hP hK hD hS hA rfl hl.1 rfl (Nat.le_of_ble_eq_true rfl) d_M_putCharacter_128 ⟨Nat.zero_le _, Nat.zero_le _⟩ (fun σ128 H locs hE hP hD hS => ?_)
        refine lv_goto (tgt := 236) hx hb d_M_putCharacter_131 (by decide) ?_
        exact W.vret hx hb hr (fun t ht hW => ⟨⟨σ128, rfl, hE, by rw [ht]; exact hP, va_K.moved hW.alike hK, hD⟩, hS.F ht⟩) hS.2.2 d_M_putCharacter_236
    · have hE := hE.2 cc89
      refine lv_aload_n hx hb d_M_putCharacter_92 rfl (lv_at hl 0 rfl) ?_
      refine lv_iload_n hx hb d_M_putCharacter_93 rfl (lv_at hl 1 rfl) ?_
      refine mm_v (b0 := (mA md 0)) (As := [.int v1]) (rest := []) ⟨hx, hb, hml, hown, hta⟩ (c_M_put l md _ σ v1 _ hE) ok_M_340 ⟨Nat.le_of_ble_eq_true rfl, Nat.le_of_ble_eq_true rfl⟩ (va_recv hK hP (ci := 7) (q0 := 0) rfl rfl) hP hK hD hS hA rfl hl.1 rfl (Nat.le_of_ble_eq_true rfl) d_M_putCharacter_94 ⟨Nat.zero_le _, Nat.zero_le _⟩ (fun σ94 H locs hE hP hD hS => ?_)
      refine lv_goto (tgt := 236) hx hb d_M_putCharacter_97 (by decide) ?_
      exact W.vret hx hb hr (fun t ht hW => ⟨⟨σ94, rfl, hE, by rw [ht]; exact hP, va_K.moved hW.alike hK, hD⟩, hS.F ht⟩) hS.2.2 d_M_putCharacter_236
  have J63 : ∀ (v1 : Int32) (v2 : Int32) (σ : MPS) (H : Heap) (locs : List Loc) (hP : va_P (mG md) classes (MW md σ) H) (hD : va_D A (MW md σ)) (hS : va_S A s.heap H locs) (ls : Array Slot) (hl : lv_has ls 3 [(0, .ref (mA md 0)), (1, .int v1), (2, .int v2)]) (hE : w_M_putCharacter_J63 post v1 v2 σ), W p l e (headSpec ws_M_putCharacter { frames := 2, cells := 0, slots := 0, locals := 45 }).room s m ([.ref (mA md 0), .int x0, .int x1] : List Value).toArray below meth c H locs 0 0 (MQ below (va_Qv post (eM md A) A) ([.ref (mA md 0), .int x0, .int x1] : List Value).toArray s 0 0 A) (F0 m 63 ls []) := by
    intro  v1 v2 σ H locs hP hD hS ls hl hE
    unfold w_M_putCharacter_J63 at hE
    refine lv_iload_n hx hb d_M_putCharacter_63 rfl (lv_at hl 2 rfl) ?_
    refine lv_if_eq (tgt := 85) hx hb d_M_putCharacter_64 (by decide) (fun cc64 => ?_) (fun cc64 => ?_)
    · have hE := hE.1 cc64
      exact J85  v1 σ _ _ hP hD hS _ (lv_sub hl [0, 1] rfl) hE
    · have hE := hE.2 cc64
      refine lv_iload_n hx hb d_M_putCharacter_67 rfl (lv_at hl 1 rfl) ?_
      refine lv_bipush (v := 34) hx hb d_M_putCharacter_68 (by decide) ?_
      refine lv_icmp_ne (tgt := 85) hx hb d_M_putCharacter_70 (by decide) (fun cc70 => ?_) (fun cc70 => ?_)
      · have hE := hE.2 cc70
        exact J85  v1 σ _ _ hP hD hS _ (lv_sub hl [0, 1] rfl) hE
      · have hE := hE.1 cc70
        refine lv_aload_n hx hb d_M_putCharacter_73 rfl (lv_at hl 0 rfl) ?_
        refine lv_ldc2 hx hb hown (hta _ cl_M_132) d_M_putCharacter_74 ?_
        refine lv_bipush (v := 6) hx hb d_M_putCharacter_77 (by decide) ?_
        refine mm_v (b0 := (mA md 0)) (As := [.long 42268743398459, .int 6]) (rest := []) ⟨hx, hb, hml, hown, hta⟩ (c_M_putWord l md _ σ 42268743398459 6 _ hE) ok_M_343 ⟨Nat.le_of_ble_eq_true rfl, Nat.le_of_ble_eq_true rfl⟩ (va_recv hK hP (ci := 7) (q0 := 0) rfl rfl) hP hK hD hS hA rfl hl.1 rfl (Nat.le_of_ble_eq_true rfl) d_M_putCharacter_79 ⟨Nat.zero_le _, Nat.zero_le _⟩ (fun σ79 H locs hE hP hD hS => ?_)
        refine lv_goto (tgt := 236) hx hb d_M_putCharacter_82 (by decide) ?_
        exact W.vret hx hb hr (fun t ht hW => ⟨⟨σ79, rfl, hE, by rw [ht]; exact hP, va_K.moved hW.alike hK, hD⟩, hS.F ht⟩) hS.2.2 d_M_putCharacter_236
  have J42 : ∀ (v1 : Int32) (v2 : Int32) (σ : MPS) (H : Heap) (locs : List Loc) (hP : va_P (mG md) classes (MW md σ) H) (hD : va_D A (MW md σ)) (hS : va_S A s.heap H locs) (ls : Array Slot) (hl : lv_has ls 3 [(0, .ref (mA md 0)), (1, .int v1), (2, .int v2)]) (hE : w_M_putCharacter_J42 post v1 v2 σ), W p l e (headSpec ws_M_putCharacter { frames := 2, cells := 0, slots := 0, locals := 45 }).room s m ([.ref (mA md 0), .int x0, .int x1] : List Value).toArray below meth c H locs 0 0 (MQ below (va_Qv post (eM md A) A) ([.ref (mA md 0), .int x0, .int x1] : List Value).toArray s 0 0 A) (F0 m 42 ls []) := by
    intro  v1 v2 σ H locs hP hD hS ls hl hE
    unfold w_M_putCharacter_J42 at hE
    refine lv_iload_n hx hb d_M_putCharacter_42 rfl (lv_at hl 2 rfl) ?_
    refine lv_if_eq (tgt := 63) hx hb d_M_putCharacter_43 (by decide) (fun cc43 => ?_) (fun cc43 => ?_)
    · have hE := hE.1 cc43
      exact J63  v1 v2 σ _ _ hP hD hS _ (lv_sub hl [0, 1, 2] rfl) hE
    · have hE := hE.2 cc43
      refine lv_iload_n hx hb d_M_putCharacter_46 rfl (lv_at hl 1 rfl) ?_
      refine lv_bipush (v := 62) hx hb d_M_putCharacter_47 (by decide) ?_
      refine lv_icmp_ne (tgt := 63) hx hb d_M_putCharacter_49 (by decide) (fun cc49 => ?_) (fun cc49 => ?_)
      · have hE := hE.2 cc49
        exact J63  v1 v2 σ _ _ hP hD hS _ (lv_sub hl [0, 1, 2] rfl) hE
      · have hE := hE.1 cc49
        refine lv_aload_n hx hb d_M_putCharacter_52 rfl (lv_at hl 0 rfl) ?_
        refine lv_ldc2 hx hb hown (hta _ cl_M_130) d_M_putCharacter_53 ?_
        refine lv_iconst (v := 4) hx hb d_M_putCharacter_56 (by decide) ?_
        refine mm_v (b0 := (mA md 0)) (As := [.long 644314171, .int 4]) (rest := []) ⟨hx, hb, hml, hown, hta⟩ (c_M_putWord l md _ σ 644314171 4 _ hE) ok_M_343 ⟨Nat.le_of_ble_eq_true rfl, Nat.le_of_ble_eq_true rfl⟩ (va_recv hK hP (ci := 7) (q0 := 0) rfl rfl) hP hK hD hS hA rfl hl.1 rfl (Nat.le_of_ble_eq_true rfl) d_M_putCharacter_57 ⟨Nat.zero_le _, Nat.zero_le _⟩ (fun σ57 H locs hE hP hD hS => ?_)
        refine lv_goto (tgt := 236) hx hb d_M_putCharacter_60 (by decide) ?_
        exact W.vret hx hb hr (fun t ht hW => ⟨⟨σ57, rfl, hE, by rw [ht]; exact hP, va_K.moved hW.alike hK, hD⟩, hS.F ht⟩) hS.2.2 d_M_putCharacter_236
  have J21 : ∀ (v1 : Int32) (v2 : Int32) (σ : MPS) (H : Heap) (locs : List Loc) (hP : va_P (mG md) classes (MW md σ) H) (hD : va_D A (MW md σ)) (hS : va_S A s.heap H locs) (ls : Array Slot) (hl : lv_has ls 3 [(0, .ref (mA md 0)), (1, .int v1), (2, .int v2)]) (hE : w_M_putCharacter_J21 post v1 v2 σ), W p l e (headSpec ws_M_putCharacter { frames := 2, cells := 0, slots := 0, locals := 45 }).room s m ([.ref (mA md 0), .int x0, .int x1] : List Value).toArray below meth c H locs 0 0 (MQ below (va_Qv post (eM md A) A) ([.ref (mA md 0), .int x0, .int x1] : List Value).toArray s 0 0 A) (F0 m 21 ls []) := by
    intro  v1 v2 σ H locs hP hD hS ls hl hE
    unfold w_M_putCharacter_J21 at hE
    refine lv_iload_n hx hb d_M_putCharacter_21 rfl (lv_at hl 2 rfl) ?_
    refine lv_if_eq (tgt := 42) hx hb d_M_putCharacter_22 (by decide) (fun cc22 => ?_) (fun cc22 => ?_)
    · have hE := hE.1 cc22
      exact J42  v1 v2 σ _ _ hP hD hS _ (lv_sub hl [0, 1, 2] rfl) hE
    · have hE := hE.2 cc22
      refine lv_iload_n hx hb d_M_putCharacter_25 rfl (lv_at hl 1 rfl) ?_
      refine lv_bipush (v := 60) hx hb d_M_putCharacter_26 (by decide) ?_
      refine lv_icmp_ne (tgt := 42) hx hb d_M_putCharacter_28 (by decide) (fun cc28 => ?_) (fun cc28 => ?_)
      · have hE := hE.2 cc28
        exact J42  v1 v2 σ _ _ hP hD hS _ (lv_sub hl [0, 1, 2] rfl) hE
      · have hE := hE.1 cc28
        refine lv_aload_n hx hb d_M_putCharacter_31 rfl (lv_at hl 0 rfl) ?_
        refine lv_ldc2 hx hb hown (hta _ cl_M_128) d_M_putCharacter_32 ?_
        refine lv_iconst (v := 4) hx hb d_M_putCharacter_35 (by decide) ?_
        refine mm_v (b0 := (mA md 0)) (As := [.long 644641851, .int 4]) (rest := []) ⟨hx, hb, hml, hown, hta⟩ (c_M_putWord l md _ σ 644641851 4 _ hE) ok_M_343 ⟨Nat.le_of_ble_eq_true rfl, Nat.le_of_ble_eq_true rfl⟩ (va_recv hK hP (ci := 7) (q0 := 0) rfl rfl) hP hK hD hS hA rfl hl.1 rfl (Nat.le_of_ble_eq_true rfl) d_M_putCharacter_36 ⟨Nat.zero_le _, Nat.zero_le _⟩ (fun σ36 H locs hE hP hD hS => ?_)
        refine lv_goto (tgt := 236) hx hb d_M_putCharacter_39 (by decide) ?_
        exact W.vret hx hb hr (fun t ht hW => ⟨⟨σ36, rfl, hE, by rw [ht]; exact hP, va_K.moved hW.alike hK, hD⟩, hS.F ht⟩) hS.2.2 d_M_putCharacter_236
  unfold w_M_putCharacter at hE
  refine lv_iload_n hx hb d_M_putCharacter_0 rfl (lv_at hl 2 rfl) ?_
  refine lv_if_eq (tgt := 21) hx hb d_M_putCharacter_1 (by decide) (fun cc1 => ?_) (fun cc1 => ?_)
  · have hE := hE.1 cc1
    exact J21  x0 x1 σ _ _ hP hD hS _ (lv_sub hl [0, 1, 2] rfl) hE
  · have hE := hE.2 cc1
    refine lv_iload_n hx hb d_M_putCharacter_4 rfl (lv_at hl 1 rfl) ?_
    refine lv_bipush (v := 38) hx hb d_M_putCharacter_5 (by decide) ?_
    refine lv_icmp_ne (tgt := 21) hx hb d_M_putCharacter_7 (by decide) (fun cc7 => ?_) (fun cc7 => ?_)
    · have hE := hE.2 cc7
      exact J21  x0 x1 σ _ _ hP hD hS _ (lv_sub hl [0, 1, 2] rfl) hE
    · have hE := hE.1 cc7
      refine lv_aload_n hx hb d_M_putCharacter_10 rfl (lv_at hl 0 rfl) ?_
      refine lv_ldc2 hx hb hown (hta _ cl_M_122) d_M_putCharacter_11 ?_
      refine lv_iconst (v := 5) hx hb d_M_putCharacter_14 (by decide) ?_
      refine mm_v (b0 := (mA md 0)) (As := [.long 164843319355, .int 5]) (rest := []) ⟨hx, hb, hml, hown, hta⟩ (c_M_putWord l md _ σ 164843319355 5 _ hE) ok_M_343 ⟨Nat.le_of_ble_eq_true rfl, Nat.le_of_ble_eq_true rfl⟩ (va_recv hK hP (ci := 7) (q0 := 0) rfl rfl) hP hK hD hS hA rfl hl.1 rfl (Nat.le_of_ble_eq_true rfl) d_M_putCharacter_15 ⟨Nat.zero_le _, Nat.zero_le _⟩ (fun σ15 H locs hE hP hD hS => ?_)
      refine lv_goto (tgt := 236) hx hb d_M_putCharacter_18 (by decide) ?_
      exact W.vret hx hb hr (fun t ht hW => ⟨⟨σ15, rfl, hE, by rw [ht]; exact hP, va_K.moved hW.alike hK, hD⟩, hS.F ht⟩) hS.2.2 d_M_putCharacter_236
theorem ok_M_347 : okV "PlainPagesModel" 347 R_M y_M_putCharacter b_M_putCharacter 3 none 2 := ⟨aW_in 1287 (by decide +kernel) rfl, aW_in 1289 (by decide +kernel) rfl, aW_in 77 (by decide +kernel) rfl, aW_in 92 (by decide +kernel) rfl, cd_M_putCharacter, rfl, by decide +kernel, by decide +kernel, by decide +kernel⟩
theorem d_M_putRow_0 : decode b_M_putRow 0 = .ok (.iload_n 1, 1) := by decide +kernel
theorem d_M_putRow_1 : decode b_M_putRow 1 = .ok (.istore 4, 2) := by decide +kernel
theorem d_M_putRow_3 : decode b_M_putRow 3 = .ok (.iload 4, 2) := by decide +kernel
theorem d_M_putRow_5 : decode b_M_putRow 5 = .ok (.iload_n 2, 1) := by decide +kernel
theorem d_M_putRow_6 : decode b_M_putRow 6 = .ok (.if_icmp .ge 26, 3) := by decide +kernel
theorem d_M_putRow_9 : decode b_M_putRow 9 = .ok (.aload_n 0, 1) := by decide +kernel
theorem d_M_putRow_10 : decode b_M_putRow 10 = .ok (.aload_n 0, 1) := by decide +kernel
theorem d_M_putRow_11 : decode b_M_putRow 11 = .ok (.iload 4, 2) := by decide +kernel
theorem d_M_putRow_13 : decode b_M_putRow 13 = .ok (.invokevirtual 139, 3) := by decide +kernel
theorem d_M_putRow_16 : decode b_M_putRow 16 = .ok (.iload_n 3, 1) := by decide +kernel
theorem d_M_putRow_17 : decode b_M_putRow 17 = .ok (.invokevirtual 347, 3) := by decide +kernel
theorem d_M_putRow_20 : decode b_M_putRow 20 = .ok (.iload 4, 2) := by decide +kernel
theorem d_M_putRow_22 : decode b_M_putRow 22 = .ok (.aload_n 0, 1) := by decide +kernel
theorem d_M_putRow_23 : decode b_M_putRow 23 = .ok (.getfield 76, 3) := by decide +kernel
theorem d_M_putRow_26 : decode b_M_putRow 26 = .ok (.iadd, 1) := by decide +kernel
theorem d_M_putRow_27 : decode b_M_putRow 27 = .ok (.istore 4, 2) := by decide +kernel
theorem d_M_putRow_29 : decode b_M_putRow 29 = .ok (.goto (-26), 3) := by decide +kernel
theorem d_M_putRow_32 : decode b_M_putRow 32 = .ok (.return_, 1) := by decide +kernel
def w_M_putRow_L3  (v2 : Int32) (v3 : Int32) (post : MPS → Prop) : Nat → Int32 → MPS → Prop
  | 0, _, _ => False
  | n3 + 1, v4, σ => ((v2 ≤ v4 → post σ) ∧ (¬ v2 ≤ v4 → w_M_characterOf σ v4 (fun r13 σ13 => w_M_putCharacter σ13 r13 v3 (fun σ17 => w_M_putRow_L3 v2 v3 post n3 (v4 + (mp_width σ17)) σ17))))
def w_M_putRow  (σ : MPS) (x0 : Int32) (x1 : Int32) (x2 : Int32) (post : MPS → Prop) : Prop := (∃ n3, w_M_putRow_L3 x1 x2 post n3 x0 σ)
set_option maxHeartbeats 4000000 in
set_option maxRecDepth 100000 in
theorem c_M_putRow (l : Launch) (md : MD) (sz : Nat) (σ : MPS) (x0 : Int32) (x1 : Int32) (x2 : Int32)  (post : MPS → Prop) (hE : w_M_putRow σ x0 x1 x2 post) : Met l y_M_putRow ws_M_putRow { frames := 3, cells := 0, slots := 0, locals := 73 } (va_Pc [.ref (mA md 0), .int x0, .int x1, .int x2] (gM md σ sz)) (va_Qv post (eM md (va_A (MW md σ) sz)) (va_A (MW md σ) sz)) 0 0 (va_A (MW md σ) sz) := by
  refine Met.ofW (cc := b_M_putRow) (maxL := 5) (ret := none) (by decide) rfl ?_
  intro p e s m args below meth c s₁ B hml hv
  obtain ⟨rfl, hsz, hP, hK, hD0⟩ := hv
  have hx := B.exec
  have hb := B.bytes
  have hr := B.returns
  have hta : ∀ w ∈ aW, w.before _ s = true := fun w h => atoms_spec (ws := ws_M_putRow) B.pre w (List.mem_cons_of_mem _ h)
  have hown : s.vm.findClass R_M = some m.cls := findClass_of_methodNamed B.named
  have hlocks := B.notSynchronized
  subst hsz
  have hD := hD0.self (sz := s.heap.size)
  generalize hAe : va_A (MW md σ) s.heap.size = A at hD ⊢
  have hA : ∀ q : Nat, s.heap.size ≤ q → A q := fun q h => by rw [← hAe]; exact Or.inr h
  have hS : va_S A s.heap s.heap [] := va_S.rf
  have hP : va_P (mG md) classes (MW md σ) s.heap := hP
  have hl := lv_entry ([.ref (mA md 0), .int x0, .int x1, .int x2]) (n := 5) (Nat.le_of_ble_eq_true rfl)
  rw [lg_entry_eq]
  generalize (lg_sl ([.ref (mA md 0), .int x0, .int x1, .int x2]) ++ List.replicate (5 - (lg_sl ([.ref (mA md 0), .int x0, .int x1, .int x2])).length) Slot.unset).toArray = ls at hl ⊢
  have hl : lv_has ls 5 [(0, .ref (mA md 0)), (1, .int x0), (2, .int x1), (3, .int x2)] := hl
  have L3 : ∀ (v2 : Int32) (v3 : Int32) (n3 : Nat) (v4 : Int32) (σ : MPS) (H : Heap) (locs : List Loc) (hP : va_P (mG md) classes (MW md σ) H) (hD : va_D A (MW md σ)) (hS : va_S A s.heap H locs) (ls : Array Slot) (hl : lv_has ls 5 [(0, .ref (mA md 0)), (2, .int v2), (3, .int v3), (4, .int v4)]) (hE : w_M_putRow_L3 v2 v3 post n3 v4 σ), W p l e (headSpec ws_M_putRow { frames := 3, cells := 0, slots := 0, locals := 73 }).room s m ([.ref (mA md 0), .int x0, .int x1, .int x2] : List Value).toArray below meth c H locs 0 0 (MQ below (va_Qv post (eM md A) A) ([.ref (mA md 0), .int x0, .int x1, .int x2] : List Value).toArray s 0 0 A) (F0 m 3 ls []) := by
    intro v2 v3 n3
    induction n3 with
    | zero => intro v4 σ H locs hP hD hS ls hl hE; exact hE.elim
    | succ n3 ih3 =>
      intro v4 σ H locs hP hD hS ls hl hE
      unfold w_M_putRow_L3 at hE
      refine lv_iload hx hb d_M_putRow_3 (lv_at hl 3 rfl) ?_
      refine lv_iload_n hx hb d_M_putRow_5 rfl (lv_at hl 1 rfl) ?_
      refine lv_icmp_ge (tgt := 32) hx hb d_M_putRow_6 (by decide) (fun cc6 => ?_) (fun cc6 => ?_)
      · have hE := hE.1 cc6
        exact W.vret hx hb hr (fun t ht hW => ⟨⟨σ, rfl, hE, by rw [ht]; exact hP, va_K.moved hW.alike hK, hD⟩, hS.F ht⟩) hS.2.2 d_M_putRow_32
      · have hE := hE.2 cc6
        refine lv_aload_n hx hb d_M_putRow_9 rfl (lv_at hl 0 rfl) ?_
        refine lv_aload_n hx hb d_M_putRow_10 rfl (lv_at hl 0 rfl) ?_
        refine lv_iload hx hb d_M_putRow_11 (lv_at hl 3 rfl) ?_
        refine mm_i (b0 := (mA md 0)) (As := [.int v4]) (rest := [.ref (mA md 0)]) ⟨hx, hb, hml, hown, hta⟩ (c_M_characterOf l md _ σ v4 _ hE) ok_M_139 ⟨Nat.le_of_ble_eq_true rfl, Nat.le_of_ble_eq_true rfl⟩ (va_recv hK hP (ci := 7) (q0 := 0) rfl rfl) hP hK hD hS hA rfl hl.1 rfl (Nat.le_of_ble_eq_true rfl) d_M_putRow_13 ⟨Nat.zero_le _, Nat.zero_le _⟩ (fun r13 σ13 H locs hE hP hD hS => ?_)
        refine lv_iload_n hx hb d_M_putRow_16 rfl (lv_at hl 2 rfl) ?_
        refine mm_v (b0 := (mA md 0)) (As := [.int r13, .int v3]) (rest := []) ⟨hx, hb, hml, hown, hta⟩ (c_M_putCharacter l md _ σ13 r13 v3 _ hE) ok_M_347 ⟨Nat.le_of_ble_eq_true rfl, Nat.le_of_ble_eq_true rfl⟩ (va_recv hK hP (ci := 7) (q0 := 0) rfl rfl) hP hK hD hS hA rfl hl.1 rfl (Nat.le_of_ble_eq_true rfl) d_M_putRow_17 ⟨Nat.zero_le _, Nat.zero_le _⟩ (fun σ17 H locs hE hP hD hS => ?_)
        refine lv_iload hx hb d_M_putRow_20 (lv_at hl 3 rfl) ?_
        refine lv_aload_n hx hb d_M_putRow_22 rfl (lv_at hl 0 rfl) ?_
        refine va_get (D := (mG md)) (ci := 7) (v := .int (mp_width σ17)) (C := R_M) (T := F_M) (N := 37) hx hb hta i_M hown hK hP 0 rfl rfl 12 (by decide) (hta _ fl_M_76) (fun _ h9 => h9) rfl d_M_putRow_23 ?_
        refine lv_iadd hx hb d_M_putRow_26 ?_
        refine lv_istore (lv' := [(4, .int (v4 + (mp_width σ17))), (0, .ref (mA md 0)), (2, .int v2), (3, .int v3)]) hx hb d_M_putRow_27 hl (by decide) rfl (fun ls hl => ?_)
        refine lv_goto (tgt := 3) hx hb d_M_putRow_29 (by decide) ?_
        exact ih3 (v4 + (mp_width σ17)) σ17 _ _ hP hD hS _ (lv_sub hl [1, 2, 3, 0] rfl) hE
  unfold w_M_putRow at hE
  refine lv_iload_n hx hb d_M_putRow_0 rfl (lv_at hl 1 rfl) ?_
  refine lv_istore (lv' := [(4, .int x0), (0, .ref (mA md 0)), (1, .int x0), (2, .int x1), (3, .int x2)]) hx hb d_M_putRow_1 hl (by decide) rfl (fun ls hl => ?_)
  obtain ⟨n3, hE⟩ := hE
  exact L3 x1 x2 n3 x0 σ _ _ hP hD hS _ (lv_sub hl [1, 3, 4, 0] rfl) hE
