-- printed by wip/gen: the reference
theorem fl_M_70 : Cond.fieldLink "PlainPagesModel" 70 "PlainPagesModel" "thrown" "I" ∈ aW := aW_in 904 (by decide +kernel) rfl
theorem d_M_thrown_0 : decode b_M_thrown 0 = .ok (.aload_n 0, 1) := by decide +kernel
theorem d_M_thrown_1 : decode b_M_thrown 1 = .ok (.getfield 70, 3) := by decide +kernel
theorem d_M_thrown_4 : decode b_M_thrown 4 = .ok (.ireturn, 1) := by decide +kernel
def w_M_thrown  (σ : MPS)  (post : Int32 → Prop) : Prop := post (mp_thrown σ)
set_option maxHeartbeats 4000000 in
set_option maxRecDepth 100000 in
theorem c_M_thrown (l : Launch) (md : MD) (σ : MPS)   (post : Int32 → Prop) (hE : w_M_thrown σ post) : Met l y_M_thrown ws_M_thrown { frames := 0, cells := 0, slots := 0, locals := 0 } (va_Pc [.ref (mA md 0)] (rM md σ)) (vp_Si post) 0 0 (fun _ => False) := by
  refine Met.ofW (cc := b_M_thrown) (maxL := 1) (ret := (some .int)) (by decide) rfl ?_
  intro p e s m args below meth c s₁ B hml hv
  obtain ⟨rfl, hP, hK⟩ := hv
  have hS : va_S (fun _ : Nat => False) s.heap s.heap [] := va_S.rf
  have hx := B.exec
  have hb := B.bytes
  have hr := B.returns
  have hta : ∀ w ∈ aW, w.before _ s = true := fun w h => atoms_spec (ws := ws_M_thrown) B.pre w (List.mem_cons_of_mem _ h)
  have hown : s.vm.findClass R_M = some m.cls := findClass_of_methodNamed B.named
  have hlocks := B.notSynchronized
  have hl := lv_entry ([.ref (mA md 0)]) (n := 1) (Nat.le_of_ble_eq_true rfl)
  rw [lg_entry_eq]
  generalize (lg_sl ([.ref (mA md 0)]) ++ List.replicate (1 - (lg_sl ([.ref (mA md 0)])).length) Slot.unset).toArray = ls at hl ⊢
  have hl : lv_has ls 1 [(0, .ref (mA md 0))] := hl
  unfold w_M_thrown at hE
  refine lv_aload_n hx hb d_M_thrown_0 rfl (lv_at hl 0 rfl) ?_
  refine va_get (D := (mG md)) (ci := 7) (v := .int (mp_thrown σ)) (C := R_M) (T := F_M) (N := 37) hx hb hta i_M hown hK hP 0 rfl rfl 0 (by decide) (hta _ fl_M_70) (fun _ h9 => h9) rfl d_M_thrown_1 ?_
  exact W.iret (v := mp_thrown σ) hx hb hr (fun t ht hW => ⟨_, rfl, hE, ht⟩) (fun q h => by cases h) d_M_thrown_4
theorem fl_M_92 : Cond.fieldLink "PlainPagesModel" 92 "PlainPagesModel" "size" "I" ∈ aW := aW_in 911 (by decide +kernel) rfl
theorem fl_M_13 : Cond.fieldLink "PlainPagesModel" 13 "PlainPagesModel" "text" "[B" ∈ aW := aW_in 906 (by decide +kernel) rfl
theorem d_M_x_0 : decode b_M_x 0 = .ok (.iload_n 1, 1) := by decide +kernel
theorem d_M_x_1 : decode b_M_x 1 = .ok (.aload_n 0, 1) := by decide +kernel
theorem d_M_x_2 : decode b_M_x 2 = .ok (.getfield 92, 3) := by decide +kernel
theorem d_M_x_5 : decode b_M_x 5 = .ok (.if_icmp .ge 16, 3) := by decide +kernel
theorem d_M_x_8 : decode b_M_x 8 = .ok (.aload_n 0, 1) := by decide +kernel
theorem d_M_x_9 : decode b_M_x 9 = .ok (.getfield 13, 3) := by decide +kernel
theorem d_M_x_12 : decode b_M_x 12 = .ok (.iload_n 1, 1) := by decide +kernel
theorem d_M_x_13 : decode b_M_x 13 = .ok (.baload, 1) := by decide +kernel
theorem d_M_x_14 : decode b_M_x 14 = .ok (.sipush 255, 3) := by decide +kernel
theorem d_M_x_17 : decode b_M_x 17 = .ok (.iand, 1) := by decide +kernel
theorem d_M_x_18 : decode b_M_x 18 = .ok (.goto 4, 3) := by decide +kernel
theorem d_M_x_21 : decode b_M_x 21 = .ok (.iconst (-1), 1) := by decide +kernel
theorem d_M_x_22 : decode b_M_x 22 = .ok (.ireturn, 1) := by decide +kernel
def w_M_x  (σ : MPS) (x0 : Int32) (post : Int32 → Prop) : Prop := (((mp_size σ) ≤ x0 → post (-1)) ∧ (¬ (mp_size σ) ≤ x0 → (vp_in x0 4000 ∧ post (((mp_text σ) x0.toNatClampNeg) &&& 255))))
set_option maxHeartbeats 4000000 in
set_option maxRecDepth 100000 in
theorem c_M_x (l : Launch) (md : MD) (σ : MPS) (x0 : Int32)  (post : Int32 → Prop) (hE : w_M_x σ x0 post) : Met l y_M_x ws_M_x { frames := 0, cells := 0, slots := 0, locals := 0 } (va_Pc [.ref (mA md 0), .int x0] (rM md σ)) (vp_Si post) 0 0 (fun _ => False) := by
  refine Met.ofW (cc := b_M_x) (maxL := 2) (ret := (some .int)) (by decide) rfl ?_
  intro p e s m args below meth c s₁ B hml hv
  obtain ⟨rfl, hP, hK⟩ := hv
  have hS : va_S (fun _ : Nat => False) s.heap s.heap [] := va_S.rf
  have hx := B.exec
  have hb := B.bytes
  have hr := B.returns
  have hta : ∀ w ∈ aW, w.before _ s = true := fun w h => atoms_spec (ws := ws_M_x) B.pre w (List.mem_cons_of_mem _ h)
  have hown : s.vm.findClass R_M = some m.cls := findClass_of_methodNamed B.named
  have hlocks := B.notSynchronized
  have hl := lv_entry ([.ref (mA md 0), .int x0]) (n := 2) (Nat.le_of_ble_eq_true rfl)
  rw [lg_entry_eq]
  generalize (lg_sl ([.ref (mA md 0), .int x0]) ++ List.replicate (2 - (lg_sl ([.ref (mA md 0), .int x0])).length) Slot.unset).toArray = ls at hl ⊢
  have hl : lv_has ls 2 [(0, .ref (mA md 0)), (1, .int x0)] := hl
  unfold w_M_x at hE
  refine lv_iload_n hx hb d_M_x_0 rfl (lv_at hl 1 rfl) ?_
  refine lv_aload_n hx hb d_M_x_1 rfl (lv_at hl 0 rfl) ?_
  refine va_get (D := (mG md)) (ci := 7) (v := .int (mp_size σ)) (C := R_M) (T := F_M) (N := 37) hx hb hta i_M hown hK hP 0 rfl rfl 7 (by decide) (hta _ fl_M_92) (fun _ h9 => h9) rfl d_M_x_2 ?_
  refine lv_icmp_ge (tgt := 21) hx hb d_M_x_5 (by decide) (fun cc5 => ?_) (fun cc5 => ?_)
  · have hE := hE.1 cc5
    refine lv_iconst (v := -1) hx hb d_M_x_21 (by decide) ?_
    exact W.iret (v := (-1)) hx hb hr (fun t ht hW => ⟨_, rfl, hE, ht⟩) (fun q h => by cases h) d_M_x_22
  · have hE := hE.2 cc5
    refine lv_aload_n hx hb d_M_x_8 rfl (lv_at hl 0 rfl) ?_
    refine va_get (D := (mG md)) (ci := 7) (v := .ref (mA md 2)) (C := R_M) (T := F_M) (N := 37) hx hb hta i_M hown hK hP 0 rfl rfl 2 (by decide) (hta _ fl_M_13) (fun _ h9 => h9) rfl d_M_x_9 ?_
    refine lv_iload_n hx hb d_M_x_12 rfl (lv_at hl 1 rfl) ?_
    obtain ⟨hI13, hE⟩ := hE
    refine va_bald (D := (mG md)) (f := mp_text σ) hx hb hK hP 2 1 rfl rfl hI13 d_M_x_13 ?_
    refine lv_sipush (v := 255) hx hb d_M_x_14 (by decide) ?_
    refine lv_iand hx hb d_M_x_17 ?_
    refine lv_goto (tgt := 22) hx hb d_M_x_18 (by decide) ?_
    exact W.iret (v := ((mp_text σ) x0.toNatClampNeg) &&& 255) hx hb hr (fun t ht hW => ⟨_, rfl, hE, ht⟩) (fun q h => by cases h) d_M_x_22
theorem ok_M_95 : okV "PlainPagesModel" 95 R_M y_M_x b_M_x 2 (some .int) 1 := ⟨aW_in 1045 (by decide +kernel) rfl, aW_in 1047 (by decide +kernel) rfl, aW_in 42 (by decide +kernel) rfl, aW_in 92 (by decide +kernel) rfl, cd_M_x, rfl, by decide +kernel, by decide +kernel, by decide +kernel⟩
theorem cl_M_99 : Cond.constantLong "PlainPagesModel" 99 (255) ∈ aW := aW_in 1123 (by decide +kernel) rfl
theorem d_M_says_0 : decode b_M_says 0 = .ok (.iconst 1, 1) := by decide +kernel
theorem d_M_says_1 : decode b_M_says 1 = .ok (.istore 5, 2) := by decide +kernel
theorem d_M_says_3 : decode b_M_says 3 = .ok (.iconst 0, 1) := by decide +kernel
theorem d_M_says_4 : decode b_M_says 4 = .ok (.istore 6, 2) := by decide +kernel
theorem d_M_says_6 : decode b_M_says 6 = .ok (.iload 6, 2) := by decide +kernel
theorem d_M_says_8 : decode b_M_says 8 = .ok (.iload 4, 2) := by decide +kernel
theorem d_M_says_10 : decode b_M_says 10 = .ok (.if_icmp .ge 49, 3) := by decide +kernel
theorem d_M_says_13 : decode b_M_says 13 = .ok (.iload 5, 2) := by decide +kernel
theorem d_M_says_15 : decode b_M_says 15 = .ok (.ifCond .eq 44, 3) := by decide +kernel
theorem d_M_says_18 : decode b_M_says 18 = .ok (.aload_n 0, 1) := by decide +kernel
theorem d_M_says_19 : decode b_M_says 19 = .ok (.iload_n 1, 1) := by decide +kernel
theorem d_M_says_20 : decode b_M_says 20 = .ok (.iload 6, 2) := by decide +kernel
theorem d_M_says_22 : decode b_M_says 22 = .ok (.iadd, 1) := by decide +kernel
theorem d_M_says_23 : decode b_M_says 23 = .ok (.invokevirtual 95, 3) := by decide +kernel
theorem d_M_says_26 : decode b_M_says 26 = .ok (.lload_n 2, 1) := by decide +kernel
theorem d_M_says_27 : decode b_M_says 27 = .ok (.bipush 8, 2) := by decide +kernel
theorem d_M_says_29 : decode b_M_says 29 = .ok (.iload 4, 2) := by decide +kernel
theorem d_M_says_31 : decode b_M_says 31 = .ok (.iconst 1, 1) := by decide +kernel
theorem d_M_says_32 : decode b_M_says 32 = .ok (.isub, 1) := by decide +kernel
theorem d_M_says_33 : decode b_M_says 33 = .ok (.iload 6, 2) := by decide +kernel
theorem d_M_says_35 : decode b_M_says 35 = .ok (.isub, 1) := by decide +kernel
theorem d_M_says_36 : decode b_M_says 36 = .ok (.imul, 1) := by decide +kernel
theorem d_M_says_37 : decode b_M_says 37 = .ok (.lshr, 1) := by decide +kernel
theorem d_M_says_38 : decode b_M_says 38 = .ok (.ldc2_w 99, 3) := by decide +kernel
theorem d_M_says_41 : decode b_M_says 41 = .ok (.land, 1) := by decide +kernel
theorem d_M_says_42 : decode b_M_says 42 = .ok (.l2i, 1) := by decide +kernel
theorem d_M_says_43 : decode b_M_says 43 = .ok (.if_icmp .ne 7, 3) := by decide +kernel
theorem d_M_says_46 : decode b_M_says 46 = .ok (.iconst 1, 1) := by decide +kernel
theorem d_M_says_47 : decode b_M_says 47 = .ok (.goto 4, 3) := by decide +kernel
theorem d_M_says_50 : decode b_M_says 50 = .ok (.iconst 0, 1) := by decide +kernel
theorem d_M_says_51 : decode b_M_says 51 = .ok (.istore 5, 2) := by decide +kernel
theorem d_M_says_53 : decode b_M_says 53 = .ok (.iinc 6 1, 3) := by decide +kernel
theorem d_M_says_56 : decode b_M_says 56 = .ok (.goto (-50), 3) := by decide +kernel
theorem d_M_says_59 : decode b_M_says 59 = .ok (.iload 5, 2) := by decide +kernel
theorem d_M_says_61 : decode b_M_says 61 = .ok (.ireturn, 1) := by decide +kernel
def w_M_says_J51  (σ : MPS) (v1 : Int32) (v2 : Int64) (v4 : Int32) (K : Int32 → Int32 → Prop) (post : Int32 → Prop) (v6 : Int32) (t0 : Int32) : Prop := K t0 (v6 + 1)
def w_M_says_L6  (σ : MPS) (v1 : Int32) (v2 : Int64) (v4 : Int32) (post : Int32 → Prop) : Nat → Int32 → Int32 → Prop
  | 0, _, _ => False
  | n + 1, v5, v6 => ((v4 ≤ v6 → (narrow .boolean (.int v5) = .int v5 ∧ post v5)) ∧ (¬ v4 ≤ v6 → ((v5 = 0 → (narrow .boolean (.int v5) = .int v5 ∧ post v5)) ∧ (¬ v5 = 0 → w_M_x σ (v1 + v6) (fun r23 => ((r23 = (((v2 >>> ((8 * ((v4 - 1) - v6)).toInt64 &&& 63)) &&& 255).toInt32) → w_M_says_J51 σ v1 v2 v4 (w_M_says_L6 σ v1 v2 v4 post n) post v6 1) ∧ (¬ r23 = (((v2 >>> ((8 * ((v4 - 1) - v6)).toInt64 &&& 63)) &&& 255).toInt32) → w_M_says_J51 σ v1 v2 v4 (w_M_says_L6 σ v1 v2 v4 post n) post v6 0)))))))
def w_M_says  (σ : MPS) (x0 : Int32) (x1 : Int64) (x2 : Int32) (post : Int32 → Prop) : Prop := (∃ n, w_M_says_L6 σ x0 x1 x2 post n 1 0)
set_option maxHeartbeats 4000000 in
set_option maxRecDepth 100000 in
theorem c_M_says (l : Launch) (md : MD) (σ : MPS) (x0 : Int32) (x1 : Int64) (x2 : Int32)  (post : Int32 → Prop) (hE : w_M_says σ x0 x1 x2 post) : Met l y_M_says ws_M_says { frames := 1, cells := 0, slots := 0, locals := 21 } (va_Pc [.ref (mA md 0), .int x0, .long x1, .int x2] (rM md σ)) (vp_Si post) 0 0 (fun _ => False) := by
  refine Met.ofW (cc := b_M_says) (maxL := 7) (ret := (some .boolean)) (by decide) rfl ?_
  intro p e s m args below meth c s₁ B hml hv
  obtain ⟨rfl, hP, hK⟩ := hv
  have hS : va_S (fun _ : Nat => False) s.heap s.heap [] := va_S.rf
  have hx := B.exec
  have hb := B.bytes
  have hr := B.returns
  have hta : ∀ w ∈ aW, w.before _ s = true := fun w h => atoms_spec (ws := ws_M_says) B.pre w (List.mem_cons_of_mem _ h)
  have hown : s.vm.findClass R_M = some m.cls := findClass_of_methodNamed B.named
  have hlocks := B.notSynchronized
  have hl := lv_entry ([.ref (mA md 0), .int x0, .long x1, .int x2]) (n := 7) (Nat.le_of_ble_eq_true rfl)
  rw [lg_entry_eq]
  generalize (lg_sl ([.ref (mA md 0), .int x0, .long x1, .int x2]) ++ List.replicate (7 - (lg_sl ([.ref (mA md 0), .int x0, .long x1, .int x2])).length) Slot.unset).toArray = ls at hl ⊢
  have hl : lv_has ls 7 [(0, .ref (mA md 0)), (1, .int x0), (2, .long x1), (4, .int x2)] := hl
  have L6 : ∀ (v1 : Int32) (v2 : Int64) (v4 : Int32) (n : Nat) (v5 : Int32) (v6 : Int32) (ls : Array Slot) (hl : lv_has ls 7 [(0, .ref (mA md 0)), (1, .int v1), (2, .long v2), (4, .int v4), (5, .int v5), (6, .int v6)]) (hE : w_M_says_L6 σ v1 v2 v4 post n v5 v6), W p l e (headSpec ws_M_says { frames := 1, cells := 0, slots := 0, locals := 21 }).room s m ([.ref (mA md 0), .int x0, .long x1, .int x2] : List Value).toArray below meth c s.heap [] 0 0 (MQ below (vp_Si post) ([.ref (mA md 0), .int x0, .long x1, .int x2] : List Value).toArray s 0 0 (fun _ => False)) (F0 m 6 ls []) := by
    intro v1 v2 v4 n
    induction n with
    | zero => intro v5 v6 ls hl hE; exact hE.elim
    | succ n ih6 =>
      have J51 : ∀ (v6 : Int32) (t0 : Int32) (ls : Array Slot) (hl : lv_has ls 7 [(0, .ref (mA md 0)), (1, .int v1), (2, .long v2), (4, .int v4), (6, .int v6)]) (hE : w_M_says_J51 σ v1 v2 v4 (w_M_says_L6 σ v1 v2 v4 post n) post v6 t0), W p l e (headSpec ws_M_says { frames := 1, cells := 0, slots := 0, locals := 21 }).room s m ([.ref (mA md 0), .int x0, .long x1, .int x2] : List Value).toArray below meth c s.heap [] 0 0 (MQ below (vp_Si post) ([.ref (mA md 0), .int x0, .long x1, .int x2] : List Value).toArray s 0 0 (fun _ => False)) (F0 m 51 ls [.int t0]) := by
        intro  v6 t0 ls hl hE
        unfold w_M_says_J51 at hE
        refine lv_istore (lv' := [(5, .int t0), (0, .ref (mA md 0)), (1, .int v1), (2, .long v2), (4, .int v4), (6, .int v6)]) hx hb d_M_says_51 hl (by decide) rfl (fun ls hl => ?_)
        refine lv_iinc (v := v6 + 1) (lv' := [(6, .int (v6 + 1)), (5, .int t0), (0, .ref (mA md 0)), (1, .int v1), (2, .long v2), (4, .int v4)]) hx hb d_M_says_53 hl (k := 5) rfl rfl (by decide) rfl (fun ls hl => ?_)
        refine lv_goto (tgt := 6) hx hb d_M_says_56 (by decide) ?_
        exact ih6 t0 (v6 + 1) _ (lv_sub hl [2, 3, 4, 5, 1, 0] rfl) hE
      intro v5 v6 ls hl hE
      unfold w_M_says_L6 at hE
      refine lv_iload hx hb d_M_says_6 (lv_at hl 5 rfl) ?_
      refine lv_iload hx hb d_M_says_8 (lv_at hl 3 rfl) ?_
      refine lv_icmp_ge (tgt := 59) hx hb d_M_says_10 (by decide) (fun cc10 => ?_) (fun cc10 => ?_)
      · have hE := hE.1 cc10
        refine lv_iload hx hb d_M_says_59 (lv_at hl 4 rfl) ?_
        obtain ⟨hN, hE⟩ := hE
        exact W.zret (v := v5) hx hb hr hN (fun t ht hW => ⟨_, rfl, hE, ht⟩) (fun q h => by cases h) d_M_says_61
      · have hE := hE.2 cc10
        refine lv_iload hx hb d_M_says_13 (lv_at hl 4 rfl) ?_
        refine lv_if_eq (tgt := 59) hx hb d_M_says_15 (by decide) (fun cc15 => ?_) (fun cc15 => ?_)
        · have hE := hE.1 cc15
          refine lv_iload hx hb d_M_says_59 (lv_at hl 4 rfl) ?_
          obtain ⟨hN, hE⟩ := hE
          exact W.zret (v := v5) hx hb hr hN (fun t ht hW => ⟨_, rfl, hE, ht⟩) (fun q h => by cases h) d_M_says_61
        · have hE := hE.2 cc15
          refine lv_aload_n hx hb d_M_says_18 rfl (lv_at hl 0 rfl) ?_
          refine lv_iload_n hx hb d_M_says_19 rfl (lv_at hl 1 rfl) ?_
          refine lv_iload hx hb d_M_says_20 (lv_at hl 5 rfl) ?_
          refine lv_iadd hx hb d_M_says_22 ?_
          refine ro_V (b0 := (mA md 0)) (As := [.int (v1 + v6)]) (rest := []) ⟨hx, hb, hml, hown, hta⟩ (c_M_x l md σ (v1 + v6)  _ hE) ok_M_95 ⟨Nat.le_of_ble_eq_true rfl, Nat.le_of_ble_eq_true rfl⟩ blind_rM (va_recv hK hP (ci := 7) (q0 := 0) rfl rfl) (rM_of hP hK) rfl hl.1 rfl (Nat.le_of_ble_eq_true rfl) d_M_says_23 ⟨Nat.zero_le _, Nat.zero_le _⟩ (fun r23 hE => ?_)
          refine lv_lload_n hx hb d_M_says_26 rfl (lv_at hl 2 rfl) ?_
          refine lv_bipush (v := 8) hx hb d_M_says_27 (by decide) ?_
          refine lv_iload hx hb d_M_says_29 (lv_at hl 3 rfl) ?_
          refine lv_iconst (v := 1) hx hb d_M_says_31 (by decide) ?_
          refine lv_isub hx hb d_M_says_32 ?_
          refine lv_iload hx hb d_M_says_33 (lv_at hl 5 rfl) ?_
          refine lv_isub hx hb d_M_says_35 ?_
          refine lv_imul hx hb d_M_says_36 ?_
          refine lv_lshr hx hb d_M_says_37 rfl ?_
          refine lv_ldc2 hx hb hown (hta _ cl_M_99) d_M_says_38 ?_
          refine lv_land hx hb d_M_says_41 ?_
          refine lv_l2i hx hb d_M_says_42 rfl ?_
          refine lv_icmp_ne (tgt := 50) hx hb d_M_says_43 (by decide) (fun cc43 => ?_) (fun cc43 => ?_)
          · have hE := hE.2 cc43
            refine lv_iconst (v := 0) hx hb d_M_says_50 (by decide) ?_
            exact J51  v6 0 _ (lv_sub hl [0, 1, 2, 3, 5] rfl) hE
          · have hE := hE.1 cc43
            refine lv_iconst (v := 1) hx hb d_M_says_46 (by decide) ?_
            refine lv_goto (tgt := 51) hx hb d_M_says_47 (by decide) ?_
            exact J51  v6 1 _ (lv_sub hl [0, 1, 2, 3, 5] rfl) hE
  unfold w_M_says at hE
  refine lv_iconst (v := 1) hx hb d_M_says_0 (by decide) ?_
  refine lv_istore (lv' := [(5, .int 1), (0, .ref (mA md 0)), (1, .int x0), (2, .long x1), (4, .int x2)]) hx hb d_M_says_1 hl (by decide) rfl (fun ls hl => ?_)
  refine lv_iconst (v := 0) hx hb d_M_says_3 (by decide) ?_
  refine lv_istore (lv' := [(6, .int 0), (5, .int 1), (0, .ref (mA md 0)), (1, .int x0), (2, .long x1), (4, .int x2)]) hx hb d_M_says_4 hl (by decide) rfl (fun ls hl => ?_)
  obtain ⟨n, hE⟩ := hE
  exact L6 x0 x1 x2 n 1 0 _ (lv_sub hl [2, 3, 4, 5, 1, 0] rfl) hE
theorem fl_M_22 : Cond.fieldLink "PlainPagesModel" 22 "PlainPagesModel" "declaration" "[B" ∈ aW := aW_in 909 (by decide +kernel) rfl
theorem d_M_isDeclared_0 : decode b_M_isDeclared 0 = .ok (.iconst 1, 1) := by decide +kernel
theorem d_M_isDeclared_1 : decode b_M_isDeclared 1 = .ok (.istore_n 1, 1) := by decide +kernel
theorem d_M_isDeclared_2 : decode b_M_isDeclared 2 = .ok (.iconst 0, 1) := by decide +kernel
theorem d_M_isDeclared_3 : decode b_M_isDeclared 3 = .ok (.istore_n 2, 1) := by decide +kernel
theorem d_M_isDeclared_4 : decode b_M_isDeclared 4 = .ok (.iload_n 2, 1) := by decide +kernel
theorem d_M_isDeclared_5 : decode b_M_isDeclared 5 = .ok (.aload_n 0, 1) := by decide +kernel
theorem d_M_isDeclared_6 : decode b_M_isDeclared 6 = .ok (.getfield 22, 3) := by decide +kernel
theorem d_M_isDeclared_9 : decode b_M_isDeclared 9 = .ok (.arraylength, 1) := by decide +kernel
theorem d_M_isDeclared_10 : decode b_M_isDeclared 10 = .ok (.if_icmp .ge 33, 3) := by decide +kernel
theorem d_M_isDeclared_13 : decode b_M_isDeclared 13 = .ok (.iload_n 1, 1) := by decide +kernel
theorem d_M_isDeclared_14 : decode b_M_isDeclared 14 = .ok (.ifCond .eq 29, 3) := by decide +kernel
theorem d_M_isDeclared_17 : decode b_M_isDeclared 17 = .ok (.aload_n 0, 1) := by decide +kernel
theorem d_M_isDeclared_18 : decode b_M_isDeclared 18 = .ok (.iload_n 2, 1) := by decide +kernel
theorem d_M_isDeclared_19 : decode b_M_isDeclared 19 = .ok (.invokevirtual 95, 3) := by decide +kernel
theorem d_M_isDeclared_22 : decode b_M_isDeclared 22 = .ok (.aload_n 0, 1) := by decide +kernel
theorem d_M_isDeclared_23 : decode b_M_isDeclared 23 = .ok (.getfield 22, 3) := by decide +kernel
theorem d_M_isDeclared_26 : decode b_M_isDeclared 26 = .ok (.iload_n 2, 1) := by decide +kernel
theorem d_M_isDeclared_27 : decode b_M_isDeclared 27 = .ok (.baload, 1) := by decide +kernel
theorem d_M_isDeclared_28 : decode b_M_isDeclared 28 = .ok (.if_icmp .ne 7, 3) := by decide +kernel
theorem d_M_isDeclared_31 : decode b_M_isDeclared 31 = .ok (.iconst 1, 1) := by decide +kernel
theorem d_M_isDeclared_32 : decode b_M_isDeclared 32 = .ok (.goto 4, 3) := by decide +kernel
theorem d_M_isDeclared_35 : decode b_M_isDeclared 35 = .ok (.iconst 0, 1) := by decide +kernel
theorem d_M_isDeclared_36 : decode b_M_isDeclared 36 = .ok (.istore_n 1, 1) := by decide +kernel
theorem d_M_isDeclared_37 : decode b_M_isDeclared 37 = .ok (.iinc 2 1, 3) := by decide +kernel
theorem d_M_isDeclared_40 : decode b_M_isDeclared 40 = .ok (.goto (-36), 3) := by decide +kernel
theorem d_M_isDeclared_43 : decode b_M_isDeclared 43 = .ok (.iload_n 1, 1) := by decide +kernel
theorem d_M_isDeclared_44 : decode b_M_isDeclared 44 = .ok (.ireturn, 1) := by decide +kernel
def w_M_isDeclared_J36  (σ : MPS) (K : Int32 → Int32 → Prop) (post : Int32 → Prop) (v2 : Int32) (t0 : Int32) : Prop := K t0 (v2 + 1)
def w_M_isDeclared_L4  (σ : MPS) (post : Int32 → Prop) : Nat → Int32 → Int32 → Prop
  | 0, _, _ => False
  | n + 1, v1, v2 => (((nI 38) ≤ v2 → (narrow .boolean (.int v1) = .int v1 ∧ post v1)) ∧ (¬ (nI 38) ≤ v2 → ((v1 = 0 → (narrow .boolean (.int v1) = .int v1 ∧ post v1)) ∧ (¬ v1 = 0 → w_M_x σ v2 (fun r19 => (vp_in v2 38 ∧ ((r19 = ((mp_declaration σ) v2.toNatClampNeg) → w_M_isDeclared_J36 σ (w_M_isDeclared_L4 σ post n) post v2 1) ∧ (¬ r19 = ((mp_declaration σ) v2.toNatClampNeg) → w_M_isDeclared_J36 σ (w_M_isDeclared_L4 σ post n) post v2 0))))))))
def w_M_isDeclared  (σ : MPS)  (post : Int32 → Prop) : Prop := (∃ n, w_M_isDeclared_L4 σ post n 1 0)
set_option maxHeartbeats 4000000 in
set_option maxRecDepth 100000 in
theorem c_M_isDeclared (l : Launch) (md : MD) (σ : MPS)   (post : Int32 → Prop) (hE : w_M_isDeclared σ post) : Met l y_M_isDeclared ws_M_isDeclared { frames := 1, cells := 0, slots := 0, locals := 21 } (va_Pc [.ref (mA md 0)] (rM md σ)) (vp_Si post) 0 0 (fun _ => False) := by
  refine Met.ofW (cc := b_M_isDeclared) (maxL := 3) (ret := (some .boolean)) (by decide) rfl ?_
  intro p e s m args below meth c s₁ B hml hv
  obtain ⟨rfl, hP, hK⟩ := hv
  have hS : va_S (fun _ : Nat => False) s.heap s.heap [] := va_S.rf
  have hx := B.exec
  have hb := B.bytes
  have hr := B.returns
  have hta : ∀ w ∈ aW, w.before _ s = true := fun w h => atoms_spec (ws := ws_M_isDeclared) B.pre w (List.mem_cons_of_mem _ h)
  have hown : s.vm.findClass R_M = some m.cls := findClass_of_methodNamed B.named
  have hlocks := B.notSynchronized
  have hl := lv_entry ([.ref (mA md 0)]) (n := 3) (Nat.le_of_ble_eq_true rfl)
  rw [lg_entry_eq]
  generalize (lg_sl ([.ref (mA md 0)]) ++ List.replicate (3 - (lg_sl ([.ref (mA md 0)])).length) Slot.unset).toArray = ls at hl ⊢
  have hl : lv_has ls 3 [(0, .ref (mA md 0))] := hl
  have L4 : ∀ (n : Nat) (v1 : Int32) (v2 : Int32) (ls : Array Slot) (hl : lv_has ls 3 [(0, .ref (mA md 0)), (1, .int v1), (2, .int v2)]) (hE : w_M_isDeclared_L4 σ post n v1 v2), W p l e (headSpec ws_M_isDeclared { frames := 1, cells := 0, slots := 0, locals := 21 }).room s m ([.ref (mA md 0)] : List Value).toArray below meth c s.heap [] 0 0 (MQ below (vp_Si post) ([.ref (mA md 0)] : List Value).toArray s 0 0 (fun _ => False)) (F0 m 4 ls []) := by
    intro n
    induction n with
    | zero => intro v1 v2 ls hl hE; exact hE.elim
    | succ n ih4 =>
      have J36 : ∀ (v2 : Int32) (t0 : Int32) (ls : Array Slot) (hl : lv_has ls 3 [(0, .ref (mA md 0)), (2, .int v2)]) (hE : w_M_isDeclared_J36 σ (w_M_isDeclared_L4 σ post n) post v2 t0), W p l e (headSpec ws_M_isDeclared { frames := 1, cells := 0, slots := 0, locals := 21 }).room s m ([.ref (mA md 0)] : List Value).toArray below meth c s.heap [] 0 0 (MQ below (vp_Si post) ([.ref (mA md 0)] : List Value).toArray s 0 0 (fun _ => False)) (F0 m 36 ls [.int t0]) := by
        intro  v2 t0 ls hl hE
        unfold w_M_isDeclared_J36 at hE
        refine lv_istore_n (lv' := [(1, .int t0), (0, .ref (mA md 0)), (2, .int v2)]) hx hb d_M_isDeclared_36 rfl hl (by decide) rfl (fun ls hl => ?_)
        refine lv_iinc (v := v2 + 1) (lv' := [(2, .int (v2 + 1)), (1, .int t0), (0, .ref (mA md 0))]) hx hb d_M_isDeclared_37 hl (k := 2) rfl rfl (by decide) rfl (fun ls hl => ?_)
        refine lv_goto (tgt := 4) hx hb d_M_isDeclared_40 (by decide) ?_
        exact ih4 t0 (v2 + 1) _ (lv_sub hl [2, 1, 0] rfl) hE
      intro v1 v2 ls hl hE
      unfold w_M_isDeclared_L4 at hE
      refine lv_iload_n hx hb d_M_isDeclared_4 rfl (lv_at hl 2 rfl) ?_
      refine lv_aload_n hx hb d_M_isDeclared_5 rfl (lv_at hl 0 rfl) ?_
      refine va_get (D := (mG md)) (ci := 7) (v := .ref (mA md 5)) (C := R_M) (T := F_M) (N := 37) hx hb hta i_M hown hK hP 0 rfl rfl 5 (by decide) (hta _ fl_M_22) (fun _ h9 => h9) rfl d_M_isDeclared_6 ?_
      refine va_alen (D := (mG md)) (v := nI 38) hx hb hK hP 5 1 rfl rfl rfl d_M_isDeclared_9 ?_
      refine lv_icmp_ge (tgt := 43) hx hb d_M_isDeclared_10 (by decide) (fun cc10 => ?_) (fun cc10 => ?_)
      · have hE := hE.1 cc10
        refine lv_iload_n hx hb d_M_isDeclared_43 rfl (lv_at hl 1 rfl) ?_
        obtain ⟨hN, hE⟩ := hE
        exact W.zret (v := v1) hx hb hr hN (fun t ht hW => ⟨_, rfl, hE, ht⟩) (fun q h => by cases h) d_M_isDeclared_44
      · have hE := hE.2 cc10
        refine lv_iload_n hx hb d_M_isDeclared_13 rfl (lv_at hl 1 rfl) ?_
        refine lv_if_eq (tgt := 43) hx hb d_M_isDeclared_14 (by decide) (fun cc14 => ?_) (fun cc14 => ?_)
        · have hE := hE.1 cc14
          refine lv_iload_n hx hb d_M_isDeclared_43 rfl (lv_at hl 1 rfl) ?_
          obtain ⟨hN, hE⟩ := hE
          exact W.zret (v := v1) hx hb hr hN (fun t ht hW => ⟨_, rfl, hE, ht⟩) (fun q h => by cases h) d_M_isDeclared_44
        · have hE := hE.2 cc14
          refine lv_aload_n hx hb d_M_isDeclared_17 rfl (lv_at hl 0 rfl) ?_
          refine lv_iload_n hx hb d_M_isDeclared_18 rfl (lv_at hl 2 rfl) ?_
          refine ro_V (b0 := (mA md 0)) (As := [.int v2]) (rest := []) ⟨hx, hb, hml, hown, hta⟩ (c_M_x l md σ v2  _ hE) ok_M_95 ⟨Nat.le_of_ble_eq_true rfl, Nat.le_of_ble_eq_true rfl⟩ blind_rM (va_recv hK hP (ci := 7) (q0 := 0) rfl rfl) (rM_of hP hK) rfl hl.1 rfl (Nat.le_of_ble_eq_true rfl) d_M_isDeclared_19 ⟨Nat.zero_le _, Nat.zero_le _⟩ (fun r19 hE => ?_)
          refine lv_aload_n hx hb d_M_isDeclared_22 rfl (lv_at hl 0 rfl) ?_
          refine va_get (D := (mG md)) (ci := 7) (v := .ref (mA md 5)) (C := R_M) (T := F_M) (N := 37) hx hb hta i_M hown hK hP 0 rfl rfl 5 (by decide) (hta _ fl_M_22) (fun _ h9 => h9) rfl d_M_isDeclared_23 ?_
          refine lv_iload_n hx hb d_M_isDeclared_26 rfl (lv_at hl 2 rfl) ?_
          obtain ⟨hI27, hE⟩ := hE
          refine va_bald (D := (mG md)) (f := mp_declaration σ) hx hb hK hP 5 1 rfl rfl hI27 d_M_isDeclared_27 ?_
          refine lv_icmp_ne (tgt := 35) hx hb d_M_isDeclared_28 (by decide) (fun cc28 => ?_) (fun cc28 => ?_)
          · have hE := hE.2 cc28
            refine lv_iconst (v := 0) hx hb d_M_isDeclared_35 (by decide) ?_
            exact J36  v2 0 _ (lv_sub hl [0, 2] rfl) hE
          · have hE := hE.1 cc28
            refine lv_iconst (v := 1) hx hb d_M_isDeclared_31 (by decide) ?_
            refine lv_goto (tgt := 36) hx hb d_M_isDeclared_32 (by decide) ?_
            exact J36  v2 1 _ (lv_sub hl [0, 2] rfl) hE
  unfold w_M_isDeclared at hE
  refine lv_iconst (v := 1) hx hb d_M_isDeclared_0 (by decide) ?_
  refine lv_istore_n (lv' := [(1, .int 1), (0, .ref (mA md 0))]) hx hb d_M_isDeclared_1 rfl hl (by decide) rfl (fun ls hl => ?_)
  refine lv_iconst (v := 0) hx hb d_M_isDeclared_2 (by decide) ?_
  refine lv_istore_n (lv' := [(2, .int 0), (1, .int 1), (0, .ref (mA md 0))]) hx hb d_M_isDeclared_3 rfl hl (by decide) rfl (fun ls hl => ?_)
  obtain ⟨n, hE⟩ := hE
  exact L4  n 1 0 _ (lv_sub hl [2, 1, 0] rfl) hE

theorem d_M_areAlike_0 : decode b_M_areAlike 0 = .ok (.iconst 1, 1) := by decide +kernel
theorem d_M_areAlike_1 : decode b_M_areAlike 1 = .ok (.istore 4, 2) := by decide +kernel
theorem d_M_areAlike_3 : decode b_M_areAlike 3 = .ok (.iconst 0, 1) := by decide +kernel
theorem d_M_areAlike_4 : decode b_M_areAlike 4 = .ok (.istore 5, 2) := by decide +kernel
theorem d_M_areAlike_6 : decode b_M_areAlike 6 = .ok (.iload 5, 2) := by decide +kernel
theorem d_M_areAlike_8 : decode b_M_areAlike 8 = .ok (.iload_n 3, 1) := by decide +kernel
theorem d_M_areAlike_9 : decode b_M_areAlike 9 = .ok (.if_icmp .ge 42, 3) := by decide +kernel
theorem d_M_areAlike_12 : decode b_M_areAlike 12 = .ok (.iload 4, 2) := by decide +kernel
theorem d_M_areAlike_14 : decode b_M_areAlike 14 = .ok (.ifCond .eq 37, 3) := by decide +kernel
theorem d_M_areAlike_17 : decode b_M_areAlike 17 = .ok (.aload_n 0, 1) := by decide +kernel
theorem d_M_areAlike_18 : decode b_M_areAlike 18 = .ok (.getfield 13, 3) := by decide +kernel
theorem d_M_areAlike_21 : decode b_M_areAlike 21 = .ok (.iload_n 1, 1) := by decide +kernel
theorem d_M_areAlike_22 : decode b_M_areAlike 22 = .ok (.iload 5, 2) := by decide +kernel
theorem d_M_areAlike_24 : decode b_M_areAlike 24 = .ok (.iadd, 1) := by decide +kernel
theorem d_M_areAlike_25 : decode b_M_areAlike 25 = .ok (.baload, 1) := by decide +kernel
theorem d_M_areAlike_26 : decode b_M_areAlike 26 = .ok (.aload_n 0, 1) := by decide +kernel
theorem d_M_areAlike_27 : decode b_M_areAlike 27 = .ok (.getfield 13, 3) := by decide +kernel
theorem d_M_areAlike_30 : decode b_M_areAlike 30 = .ok (.iload_n 2, 1) := by decide +kernel
theorem d_M_areAlike_31 : decode b_M_areAlike 31 = .ok (.iload 5, 2) := by decide +kernel
theorem d_M_areAlike_33 : decode b_M_areAlike 33 = .ok (.iadd, 1) := by decide +kernel
theorem d_M_areAlike_34 : decode b_M_areAlike 34 = .ok (.baload, 1) := by decide +kernel
theorem d_M_areAlike_35 : decode b_M_areAlike 35 = .ok (.if_icmp .ne 7, 3) := by decide +kernel
theorem d_M_areAlike_38 : decode b_M_areAlike 38 = .ok (.iconst 1, 1) := by decide +kernel
theorem d_M_areAlike_39 : decode b_M_areAlike 39 = .ok (.goto 4, 3) := by decide +kernel
theorem d_M_areAlike_42 : decode b_M_areAlike 42 = .ok (.iconst 0, 1) := by decide +kernel
theorem d_M_areAlike_43 : decode b_M_areAlike 43 = .ok (.istore 4, 2) := by decide +kernel
theorem d_M_areAlike_45 : decode b_M_areAlike 45 = .ok (.iinc 5 1, 3) := by decide +kernel
theorem d_M_areAlike_48 : decode b_M_areAlike 48 = .ok (.goto (-42), 3) := by decide +kernel
theorem d_M_areAlike_51 : decode b_M_areAlike 51 = .ok (.iload 4, 2) := by decide +kernel
theorem d_M_areAlike_53 : decode b_M_areAlike 53 = .ok (.ireturn, 1) := by decide +kernel
def w_M_areAlike_J43  (σ : MPS) (v1 : Int32) (v2 : Int32) (v3 : Int32) (K : Int32 → Int32 → Prop) (post : Int32 → Prop) (v5 : Int32) (t0 : Int32) : Prop := K t0 (v5 + 1)
def w_M_areAlike_L6  (σ : MPS) (v1 : Int32) (v2 : Int32) (v3 : Int32) (post : Int32 → Prop) : Nat → Int32 → Int32 → Prop
  | 0, _, _ => False
  | n + 1, v4, v5 => ((v3 ≤ v5 → (narrow .boolean (.int v4) = .int v4 ∧ post v4)) ∧ (¬ v3 ≤ v5 → ((v4 = 0 → (narrow .boolean (.int v4) = .int v4 ∧ post v4)) ∧ (¬ v4 = 0 → (vp_in (v1 + v5) 4000 ∧ (vp_in (v2 + v5) 4000 ∧ ((((mp_text σ) (v1 + v5).toNatClampNeg) = ((mp_text σ) (v2 + v5).toNatClampNeg) → w_M_areAlike_J43 σ v1 v2 v3 (w_M_areAlike_L6 σ v1 v2 v3 post n) post v5 1) ∧ (¬ ((mp_text σ) (v1 + v5).toNatClampNeg) = ((mp_text σ) (v2 + v5).toNatClampNeg) → w_M_areAlike_J43 σ v1 v2 v3 (w_M_areAlike_L6 σ v1 v2 v3 post n) post v5 0))))))))
def w_M_areAlike  (σ : MPS) (x0 : Int32) (x1 : Int32) (x2 : Int32) (post : Int32 → Prop) : Prop := (∃ n, w_M_areAlike_L6 σ x0 x1 x2 post n 1 0)
set_option maxHeartbeats 4000000 in
set_option maxRecDepth 100000 in
theorem c_M_areAlike (l : Launch) (md : MD) (σ : MPS) (x0 : Int32) (x1 : Int32) (x2 : Int32)  (post : Int32 → Prop) (hE : w_M_areAlike σ x0 x1 x2 post) : Met l y_M_areAlike ws_M_areAlike { frames := 0, cells := 0, slots := 0, locals := 0 } (va_Pc [.ref (mA md 0), .int x0, .int x1, .int x2] (rM md σ)) (vp_Si post) 0 0 (fun _ => False) := by
  refine Met.ofW (cc := b_M_areAlike) (maxL := 6) (ret := (some .boolean)) (by decide) rfl ?_
  intro p e s m args below meth c s₁ B hml hv
  obtain ⟨rfl, hP, hK⟩ := hv
  have hS : va_S (fun _ : Nat => False) s.heap s.heap [] := va_S.rf
  have hx := B.exec
  have hb := B.bytes
  have hr := B.returns
  have hta : ∀ w ∈ aW, w.before _ s = true := fun w h => atoms_spec (ws := ws_M_areAlike) B.pre w (List.mem_cons_of_mem _ h)
  have hown : s.vm.findClass R_M = some m.cls := findClass_of_methodNamed B.named
  have hlocks := B.notSynchronized
  have hl := lv_entry ([.ref (mA md 0), .int x0, .int x1, .int x2]) (n := 6) (Nat.le_of_ble_eq_true rfl)
  rw [lg_entry_eq]
  generalize (lg_sl ([.ref (mA md 0), .int x0, .int x1, .int x2]) ++ List.replicate (6 - (lg_sl ([.ref (mA md 0), .int x0, .int x1, .int x2])).length) Slot.unset).toArray = ls at hl ⊢
  have hl : lv_has ls 6 [(0, .ref (mA md 0)), (1, .int x0), (2, .int x1), (3, .int x2)] := hl
  have L6 : ∀ (v1 : Int32) (v2 : Int32) (v3 : Int32) (n : Nat) (v4 : Int32) (v5 : Int32) (ls : Array Slot) (hl : lv_has ls 6 [(0, .ref (mA md 0)), (1, .int v1), (2, .int v2), (3, .int v3), (4, .int v4), (5, .int v5)]) (hE : w_M_areAlike_L6 σ v1 v2 v3 post n v4 v5), W p l e (headSpec ws_M_areAlike { frames := 0, cells := 0, slots := 0, locals := 0 }).room s m ([.ref (mA md 0), .int x0, .int x1, .int x2] : List Value).toArray below meth c s.heap [] 0 0 (MQ below (vp_Si post) ([.ref (mA md 0), .int x0, .int x1, .int x2] : List Value).toArray s 0 0 (fun _ => False)) (F0 m 6 ls []) := by
    intro v1 v2 v3 n
    induction n with
    | zero => intro v4 v5 ls hl hE; exact hE.elim
    | succ n ih6 =>
      have J43 : ∀ (v5 : Int32) (t0 : Int32) (ls : Array Slot) (hl : lv_has ls 6 [(0, .ref (mA md 0)), (1, .int v1), (2, .int v2), (3, .int v3), (5, .int v5)]) (hE : w_M_areAlike_J43 σ v1 v2 v3 (w_M_areAlike_L6 σ v1 v2 v3 post n) post v5 t0), W p l e (headSpec ws_M_areAlike { frames := 0, cells := 0, slots := 0, locals := 0 }).room s m ([.ref (mA md 0), .int x0, .int x1, .int x2] : List Value).toArray below meth c s.heap [] 0 0 (MQ below (vp_Si post) ([.ref (mA md 0), .int x0, .int x1, .int x2] : List Value).toArray s 0 0 (fun _ => False)) (F0 m 43 ls [.int t0]) := by
        intro  v5 t0 ls hl hE
        unfold w_M_areAlike_J43 at hE
        refine lv_istore (lv' := [(4, .int t0), (0, .ref (mA md 0)), (1, .int v1), (2, .int v2), (3, .int v3), (5, .int v5)]) hx hb d_M_areAlike_43 hl (by decide) rfl (fun ls hl => ?_)
        refine lv_iinc (v := v5 + 1) (lv' := [(5, .int (v5 + 1)), (4, .int t0), (0, .ref (mA md 0)), (1, .int v1), (2, .int v2), (3, .int v3)]) hx hb d_M_areAlike_45 hl (k := 5) rfl rfl (by decide) rfl (fun ls hl => ?_)
        refine lv_goto (tgt := 6) hx hb d_M_areAlike_48 (by decide) ?_
        exact ih6 t0 (v5 + 1) _ (lv_sub hl [2, 3, 4, 5, 1, 0] rfl) hE
      intro v4 v5 ls hl hE
      unfold w_M_areAlike_L6 at hE
      refine lv_iload hx hb d_M_areAlike_6 (lv_at hl 5 rfl) ?_
      refine lv_iload_n hx hb d_M_areAlike_8 rfl (lv_at hl 3 rfl) ?_
      refine lv_icmp_ge (tgt := 51) hx hb d_M_areAlike_9 (by decide) (fun cc9 => ?_) (fun cc9 => ?_)
      · have hE := hE.1 cc9
        refine lv_iload hx hb d_M_areAlike_51 (lv_at hl 4 rfl) ?_
        obtain ⟨hN, hE⟩ := hE
        exact W.zret (v := v4) hx hb hr hN (fun t ht hW => ⟨_, rfl, hE, ht⟩) (fun q h => by cases h) d_M_areAlike_53
      · have hE := hE.2 cc9
        refine lv_iload hx hb d_M_areAlike_12 (lv_at hl 4 rfl) ?_
        refine lv_if_eq (tgt := 51) hx hb d_M_areAlike_14 (by decide) (fun cc14 => ?_) (fun cc14 => ?_)
        · have hE := hE.1 cc14
          refine lv_iload hx hb d_M_areAlike_51 (lv_at hl 4 rfl) ?_
          obtain ⟨hN, hE⟩ := hE
          exact W.zret (v := v4) hx hb hr hN (fun t ht hW => ⟨_, rfl, hE, ht⟩) (fun q h => by cases h) d_M_areAlike_53
        · have hE := hE.2 cc14
          refine lv_aload_n hx hb d_M_areAlike_17 rfl (lv_at hl 0 rfl) ?_
          refine va_get (D := (mG md)) (ci := 7) (v := .ref (mA md 2)) (C := R_M) (T := F_M) (N := 37) hx hb hta i_M hown hK hP 0 rfl rfl 2 (by decide) (hta _ fl_M_13) (fun _ h9 => h9) rfl d_M_areAlike_18 ?_
          refine lv_iload_n hx hb d_M_areAlike_21 rfl (lv_at hl 1 rfl) ?_
          refine lv_iload hx hb d_M_areAlike_22 (lv_at hl 5 rfl) ?_
          refine lv_iadd hx hb d_M_areAlike_24 ?_
          obtain ⟨hI25, hE⟩ := hE
          refine va_bald (D := (mG md)) (f := mp_text σ) hx hb hK hP 2 1 rfl rfl hI25 d_M_areAlike_25 ?_
          refine lv_aload_n hx hb d_M_areAlike_26 rfl (lv_at hl 0 rfl) ?_
          refine va_get (D := (mG md)) (ci := 7) (v := .ref (mA md 2)) (C := R_M) (T := F_M) (N := 37) hx hb hta i_M hown hK hP 0 rfl rfl 2 (by decide) (hta _ fl_M_13) (fun _ h9 => h9) rfl d_M_areAlike_27 ?_
          refine lv_iload_n hx hb d_M_areAlike_30 rfl (lv_at hl 2 rfl) ?_
          refine lv_iload hx hb d_M_areAlike_31 (lv_at hl 5 rfl) ?_
          refine lv_iadd hx hb d_M_areAlike_33 ?_
          obtain ⟨hI34, hE⟩ := hE
          refine va_bald (D := (mG md)) (f := mp_text σ) hx hb hK hP 2 1 rfl rfl hI34 d_M_areAlike_34 ?_
          refine lv_icmp_ne (tgt := 42) hx hb d_M_areAlike_35 (by decide) (fun cc35 => ?_) (fun cc35 => ?_)
          · have hE := hE.2 cc35
            refine lv_iconst (v := 0) hx hb d_M_areAlike_42 (by decide) ?_
            exact J43  v5 0 _ (lv_sub hl [0, 1, 2, 3, 5] rfl) hE
          · have hE := hE.1 cc35
            refine lv_iconst (v := 1) hx hb d_M_areAlike_38 (by decide) ?_
            refine lv_goto (tgt := 43) hx hb d_M_areAlike_39 (by decide) ?_
            exact J43  v5 1 _ (lv_sub hl [0, 1, 2, 3, 5] rfl) hE
  unfold w_M_areAlike at hE
  refine lv_iconst (v := 1) hx hb d_M_areAlike_0 (by decide) ?_
  refine lv_istore (lv' := [(4, .int 1), (0, .ref (mA md 0)), (1, .int x0), (2, .int x1), (3, .int x2)]) hx hb d_M_areAlike_1 hl (by decide) rfl (fun ls hl => ?_)
  refine lv_iconst (v := 0) hx hb d_M_areAlike_3 (by decide) ?_
  refine lv_istore (lv' := [(5, .int 0), (4, .int 1), (0, .ref (mA md 0)), (1, .int x0), (2, .int x1), (3, .int x2)]) hx hb d_M_areAlike_4 hl (by decide) rfl (fun ls hl => ?_)
  obtain ⟨n, hE⟩ := hE
  exact L6 x0 x1 x2 n 1 0 _ (lv_sub hl [2, 3, 4, 5, 1, 0] rfl) hE
theorem ok_M_107 : okS "PlainPagesModel" 107 y_M_isNameSign b_M_isNameSign 2 (some .boolean) 2 := ⟨aW_in 1064 (by decide +kernel) rfl, aW_in 1065 (by decide +kernel) rfl, aW_in 92 (by decide +kernel) rfl, cd_M_isNameSign, by decide +kernel, by decide +kernel, by decide +kernel⟩
theorem d_M_behindName_0 : decode b_M_behindName 0 = .ok (.iload_n 1, 1) := by decide +kernel
theorem d_M_behindName_1 : decode b_M_behindName 1 = .ok (.iconst 1, 1) := by decide +kernel
theorem d_M_behindName_2 : decode b_M_behindName 2 = .ok (.iadd, 1) := by decide +kernel
theorem d_M_behindName_3 : decode b_M_behindName 3 = .ok (.istore_n 2, 1) := by decide +kernel
theorem d_M_behindName_4 : decode b_M_behindName 4 = .ok (.aload_n 0, 1) := by decide +kernel
theorem d_M_behindName_5 : decode b_M_behindName 5 = .ok (.iload_n 2, 1) := by decide +kernel
theorem d_M_behindName_6 : decode b_M_behindName 6 = .ok (.invokevirtual 95, 3) := by decide +kernel
theorem d_M_behindName_9 : decode b_M_behindName 9 = .ok (.iconst 0, 1) := by decide +kernel
theorem d_M_behindName_10 : decode b_M_behindName 10 = .ok (.invokestatic 107, 3) := by decide +kernel
theorem d_M_behindName_13 : decode b_M_behindName 13 = .ok (.ifCond .eq 9, 3) := by decide +kernel
theorem d_M_behindName_16 : decode b_M_behindName 16 = .ok (.iinc 2 1, 3) := by decide +kernel
theorem d_M_behindName_19 : decode b_M_behindName 19 = .ok (.goto (-15), 3) := by decide +kernel
theorem d_M_behindName_22 : decode b_M_behindName 22 = .ok (.iload_n 2, 1) := by decide +kernel
theorem d_M_behindName_23 : decode b_M_behindName 23 = .ok (.ireturn, 1) := by decide +kernel
def w_M_behindName_L4  (σ : MPS) (post : Int32 → Prop) : Nat → Int32 → Prop
  | 0, _ => False
  | n + 1, v2 => w_M_x σ v2 (fun r6 => w_M_isNameSign  r6 0 (fun r10 => ((r10 = 0 → post v2) ∧ (¬ r10 = 0 → w_M_behindName_L4 σ post n (v2 + 1)))))
def w_M_behindName  (σ : MPS) (x0 : Int32) (post : Int32 → Prop) : Prop := (∃ n, w_M_behindName_L4 σ post n (x0 + 1))
set_option maxHeartbeats 4000000 in
set_option maxRecDepth 100000 in
theorem c_M_behindName (l : Launch) (md : MD) (σ : MPS) (x0 : Int32)  (post : Int32 → Prop) (hE : w_M_behindName σ x0 post) : Met l y_M_behindName ws_M_behindName { frames := 2, cells := 0, slots := 0, locals := 41 } (va_Pc [.ref (mA md 0), .int x0] (rM md σ)) (vp_Si post) 0 0 (fun _ => False) := by
  refine Met.ofW (cc := b_M_behindName) (maxL := 3) (ret := (some .int)) (by decide) rfl ?_
  intro p e s m args below meth c s₁ B hml hv
  obtain ⟨rfl, hP, hK⟩ := hv
  have hS : va_S (fun _ : Nat => False) s.heap s.heap [] := va_S.rf
  have hx := B.exec
  have hb := B.bytes
  have hr := B.returns
  have hta : ∀ w ∈ aW, w.before _ s = true := fun w h => atoms_spec (ws := ws_M_behindName) B.pre w (List.mem_cons_of_mem _ h)
  have hown : s.vm.findClass R_M = some m.cls := findClass_of_methodNamed B.named
  have hlocks := B.notSynchronized
  have hl := lv_entry ([.ref (mA md 0), .int x0]) (n := 3) (Nat.le_of_ble_eq_true rfl)
  rw [lg_entry_eq]
  generalize (lg_sl ([.ref (mA md 0), .int x0]) ++ List.replicate (3 - (lg_sl ([.ref (mA md 0), .int x0])).length) Slot.unset).toArray = ls at hl ⊢
  have hl : lv_has ls 3 [(0, .ref (mA md 0)), (1, .int x0)] := hl
  have L4 : ∀ (n : Nat) (v2 : Int32) (ls : Array Slot) (hl : lv_has ls 3 [(0, .ref (mA md 0)), (2, .int v2)]) (hE : w_M_behindName_L4 σ post n v2), W p l e (headSpec ws_M_behindName { frames := 2, cells := 0, slots := 0, locals := 41 }).room s m ([.ref (mA md 0), .int x0] : List Value).toArray below meth c s.heap [] 0 0 (MQ below (vp_Si post) ([.ref (mA md 0), .int x0] : List Value).toArray s 0 0 (fun _ => False)) (F0 m 4 ls []) := by
    intro n
    induction n with
    | zero => intro v2 ls hl hE; exact hE.elim
    | succ n ih4 =>
      intro v2 ls hl hE
      unfold w_M_behindName_L4 at hE
      refine lv_aload_n hx hb d_M_behindName_4 rfl (lv_at hl 0 rfl) ?_
      refine lv_iload_n hx hb d_M_behindName_5 rfl (lv_at hl 1 rfl) ?_
      refine ro_V (b0 := (mA md 0)) (As := [.int v2]) (rest := []) ⟨hx, hb, hml, hown, hta⟩ (c_M_x l md σ v2  _ hE) ok_M_95 ⟨Nat.le_of_ble_eq_true rfl, Nat.le_of_ble_eq_true rfl⟩ blind_rM (va_recv hK hP (ci := 7) (q0 := 0) rfl rfl) (rM_of hP hK) rfl hl.1 rfl (Nat.le_of_ble_eq_true rfl) d_M_behindName_6 ⟨Nat.zero_le _, Nat.zero_le _⟩ (fun r6 hE => ?_)
      refine lv_iconst (v := 0) hx hb d_M_behindName_9 (by decide) ?_
      refine ro_S  (As := [.int r6, .int 0]) (rest := []) ⟨hx, hb, hml, hown, hta⟩ (c_M_isNameSign l r6 0  _ hE) ok_M_107 ⟨Nat.le_of_ble_eq_true rfl, Nat.le_of_ble_eq_true rfl⟩ blind_true  (fun _ _ _ => trivial) rfl hl.1 rfl (Nat.le_of_ble_eq_true rfl) d_M_behindName_10 ⟨Nat.zero_le _, Nat.zero_le _⟩ (fun r10 hE => ?_)
      refine lv_if_eq (tgt := 22) hx hb d_M_behindName_13 (by decide) (fun cc13 => ?_) (fun cc13 => ?_)
      · have hE := hE.1 cc13
        refine lv_iload_n hx hb d_M_behindName_22 rfl (lv_at hl 1 rfl) ?_
        exact W.iret (v := v2) hx hb hr (fun t ht hW => ⟨_, rfl, hE, ht⟩) (fun q h => by cases h) d_M_behindName_23
      · have hE := hE.2 cc13
        refine lv_iinc (v := v2 + 1) (lv' := [(2, .int (v2 + 1)), (0, .ref (mA md 0))]) hx hb d_M_behindName_16 hl (k := 1) rfl rfl (by decide) rfl (fun ls hl => ?_)
        refine lv_goto (tgt := 4) hx hb d_M_behindName_19 (by decide) ?_
        exact ih4 (v2 + 1) _ (lv_sub hl [1, 0] rfl) hE
  unfold w_M_behindName at hE
  refine lv_iload_n hx hb d_M_behindName_0 rfl (lv_at hl 1 rfl) ?_
  refine lv_iconst (v := 1) hx hb d_M_behindName_1 (by decide) ?_
  refine lv_iadd hx hb d_M_behindName_2 ?_
  refine lv_istore_n (lv' := [(2, .int (x0 + 1)), (0, .ref (mA md 0)), (1, .int x0)]) hx hb d_M_behindName_3 rfl hl (by decide) rfl (fun ls hl => ?_)
  obtain ⟨n, hE⟩ := hE
  exact L4  n (x0 + 1) _ (lv_sub hl [1, 0] rfl) hE
theorem fl_M_40 : Cond.fieldLink "PlainPagesModel" 40 "PlainPagesModel" "begins" "[I" ∈ aW := aW_in 928 (by decide +kernel) rfl
theorem ok_M_154 : okV "PlainPagesModel" 154 R_M y_M_behindName b_M_behindName 3 (some .int) 1 := ⟨aW_in 1085 (by decide +kernel) rfl, aW_in 1087 (by decide +kernel) rfl, aW_in 49 (by decide +kernel) rfl, aW_in 92 (by decide +kernel) rfl, cd_M_behindName, rfl, by decide +kernel, by decide +kernel, by decide +kernel⟩
theorem d_M_nameSize_0 : decode b_M_nameSize 0 = .ok (.aload_n 0, 1) := by decide +kernel
theorem d_M_nameSize_1 : decode b_M_nameSize 1 = .ok (.aload_n 0, 1) := by decide +kernel
theorem d_M_nameSize_2 : decode b_M_nameSize 2 = .ok (.getfield 40, 3) := by decide +kernel
theorem d_M_nameSize_5 : decode b_M_nameSize 5 = .ok (.iload_n 1, 1) := by decide +kernel
theorem d_M_nameSize_6 : decode b_M_nameSize 6 = .ok (.iaload, 1) := by decide +kernel
theorem d_M_nameSize_7 : decode b_M_nameSize 7 = .ok (.invokevirtual 154, 3) := by decide +kernel
theorem d_M_nameSize_10 : decode b_M_nameSize 10 = .ok (.aload_n 0, 1) := by decide +kernel
theorem d_M_nameSize_11 : decode b_M_nameSize 11 = .ok (.getfield 40, 3) := by decide +kernel
theorem d_M_nameSize_14 : decode b_M_nameSize 14 = .ok (.iload_n 1, 1) := by decide +kernel
theorem d_M_nameSize_15 : decode b_M_nameSize 15 = .ok (.iaload, 1) := by decide +kernel
theorem d_M_nameSize_16 : decode b_M_nameSize 16 = .ok (.isub, 1) := by decide +kernel
theorem d_M_nameSize_17 : decode b_M_nameSize 17 = .ok (.iconst 1, 1) := by decide +kernel
theorem d_M_nameSize_18 : decode b_M_nameSize 18 = .ok (.isub, 1) := by decide +kernel
theorem d_M_nameSize_19 : decode b_M_nameSize 19 = .ok (.ireturn, 1) := by decide +kernel
def w_M_nameSize  (σ : MPS) (x0 : Int32) (post : Int32 → Prop) : Prop := (vp_in x0 1000 ∧ w_M_behindName σ ((mp_begins σ) x0.toNatClampNeg) (fun r7 => (vp_in x0 1000 ∧ post ((r7 - ((mp_begins σ) x0.toNatClampNeg)) - 1))))
set_option maxHeartbeats 4000000 in
set_option maxRecDepth 100000 in
theorem c_M_nameSize (l : Launch) (md : MD) (σ : MPS) (x0 : Int32)  (post : Int32 → Prop) (hE : w_M_nameSize σ x0 post) : Met l y_M_nameSize ws_M_nameSize { frames := 3, cells := 0, slots := 0, locals := 63 } (va_Pc [.ref (mA md 0), .int x0] (rM md σ)) (vp_Si post) 0 0 (fun _ => False) := by
  refine Met.ofW (cc := b_M_nameSize) (maxL := 2) (ret := (some .int)) (by decide) rfl ?_
  intro p e s m args below meth c s₁ B hml hv
  obtain ⟨rfl, hP, hK⟩ := hv
  have hS : va_S (fun _ : Nat => False) s.heap s.heap [] := va_S.rf
  have hx := B.exec
  have hb := B.bytes
  have hr := B.returns
  have hta : ∀ w ∈ aW, w.before _ s = true := fun w h => atoms_spec (ws := ws_M_nameSize) B.pre w (List.mem_cons_of_mem _ h)
  have hown : s.vm.findClass R_M = some m.cls := findClass_of_methodNamed B.named
  have hlocks := B.notSynchronized
  have hl := lv_entry ([.ref (mA md 0), .int x0]) (n := 2) (Nat.le_of_ble_eq_true rfl)
  rw [lg_entry_eq]
  generalize (lg_sl ([.ref (mA md 0), .int x0]) ++ List.replicate (2 - (lg_sl ([.ref (mA md 0), .int x0])).length) Slot.unset).toArray = ls at hl ⊢
  have hl : lv_has ls 2 [(0, .ref (mA md 0)), (1, .int x0)] := hl
  unfold w_M_nameSize at hE
  refine lv_aload_n hx hb d_M_nameSize_0 rfl (lv_at hl 0 rfl) ?_
  refine lv_aload_n hx hb d_M_nameSize_1 rfl (lv_at hl 0 rfl) ?_
  refine va_get (D := (mG md)) (ci := 7) (v := .ref (mA md 9)) (C := R_M) (T := F_M) (N := 37) hx hb hta i_M hown hK hP 0 rfl rfl 24 (by decide) (hta _ fl_M_40) (fun _ h9 => h9) rfl d_M_nameSize_2 ?_
  refine lv_iload_n hx hb d_M_nameSize_5 rfl (lv_at hl 1 rfl) ?_
  obtain ⟨hI6, hE⟩ := hE
  refine va_iald (D := (mG md)) (f := mp_begins σ) hx hb hK hP 9 0 rfl rfl hI6 d_M_nameSize_6 ?_
  refine ro_V (b0 := (mA md 0)) (As := [.int ((mp_begins σ) x0.toNatClampNeg)]) (rest := []) ⟨hx, hb, hml, hown, hta⟩ (c_M_behindName l md σ ((mp_begins σ) x0.toNatClampNeg)  _ hE) ok_M_154 ⟨Nat.le_of_ble_eq_true rfl, Nat.le_of_ble_eq_true rfl⟩ blind_rM (va_recv hK hP (ci := 7) (q0 := 0) rfl rfl) (rM_of hP hK) rfl hl.1 rfl (Nat.le_of_ble_eq_true rfl) d_M_nameSize_7 ⟨Nat.zero_le _, Nat.zero_le _⟩ (fun r7 hE => ?_)
  refine lv_aload_n hx hb d_M_nameSize_10 rfl (lv_at hl 0 rfl) ?_
  refine va_get (D := (mG md)) (ci := 7) (v := .ref (mA md 9)) (C := R_M) (T := F_M) (N := 37) hx hb hta i_M hown hK hP 0 rfl rfl 24 (by decide) (hta _ fl_M_40) (fun _ h9 => h9) rfl d_M_nameSize_11 ?_
  refine lv_iload_n hx hb d_M_nameSize_14 rfl (lv_at hl 1 rfl) ?_
  obtain ⟨hI15, hE⟩ := hE
  refine va_iald (D := (mG md)) (f := mp_begins σ) hx hb hK hP 9 0 rfl rfl hI15 d_M_nameSize_15 ?_
  refine lv_isub hx hb d_M_nameSize_16 ?_
  refine lv_iconst (v := 1) hx hb d_M_nameSize_17 (by decide) ?_
  refine lv_isub hx hb d_M_nameSize_18 ?_
  exact W.iret (v := (r7 - ((mp_begins σ) x0.toNatClampNeg)) - 1) hx hb hr (fun t ht hW => ⟨_, rfl, hE, ht⟩) (fun q h => by cases h) d_M_nameSize_19
theorem fl_M_36 : Cond.fieldLink "PlainPagesModel" 36 "PlainPagesModel" "isElement" "[Z" ∈ aW := aW_in 927 (by decide +kernel) rfl
theorem ok_M_221 : okV "PlainPagesModel" 221 R_M y_M_nameSize b_M_nameSize 2 (some .int) 1 := ⟨aW_in 1151 (by decide +kernel) rfl, aW_in 1153 (by decide +kernel) rfl, aW_in 60 (by decide +kernel) rfl, aW_in 92 (by decide +kernel) rfl, cd_M_nameSize, rfl, by decide +kernel, by decide +kernel, by decide +kernel⟩
theorem ok_M_124 : okV "PlainPagesModel" 124 R_M y_M_says b_M_says 7 (some .boolean) 3 := ⟨aW_in 1119 (by decide +kernel) rfl, aW_in 1121 (by decide +kernel) rfl, aW_in 55 (by decide +kernel) rfl, aW_in 92 (by decide +kernel) rfl, cd_M_says, rfl, by decide +kernel, by decide +kernel, by decide +kernel⟩
theorem d_M_isNamed_0 : decode b_M_isNamed 0 = .ok (.aload_n 0, 1) := by decide +kernel
theorem d_M_isNamed_1 : decode b_M_isNamed 1 = .ok (.getfield 36, 3) := by decide +kernel
theorem d_M_isNamed_4 : decode b_M_isNamed 4 = .ok (.iload_n 1, 1) := by decide +kernel
theorem d_M_isNamed_5 : decode b_M_isNamed 5 = .ok (.baload, 1) := by decide +kernel
theorem d_M_isNamed_6 : decode b_M_isNamed 6 = .ok (.ifCond .eq 35, 3) := by decide +kernel
theorem d_M_isNamed_9 : decode b_M_isNamed 9 = .ok (.aload_n 0, 1) := by decide +kernel
theorem d_M_isNamed_10 : decode b_M_isNamed 10 = .ok (.iload_n 1, 1) := by decide +kernel
theorem d_M_isNamed_11 : decode b_M_isNamed 11 = .ok (.invokevirtual 221, 3) := by decide +kernel
theorem d_M_isNamed_14 : decode b_M_isNamed 14 = .ok (.iload 4, 2) := by decide +kernel
theorem d_M_isNamed_16 : decode b_M_isNamed 16 = .ok (.if_icmp .ne 25, 3) := by decide +kernel
theorem d_M_isNamed_19 : decode b_M_isNamed 19 = .ok (.aload_n 0, 1) := by decide +kernel
theorem d_M_isNamed_20 : decode b_M_isNamed 20 = .ok (.aload_n 0, 1) := by decide +kernel
theorem d_M_isNamed_21 : decode b_M_isNamed 21 = .ok (.getfield 40, 3) := by decide +kernel
theorem d_M_isNamed_24 : decode b_M_isNamed 24 = .ok (.iload_n 1, 1) := by decide +kernel
theorem d_M_isNamed_25 : decode b_M_isNamed 25 = .ok (.iaload, 1) := by decide +kernel
theorem d_M_isNamed_26 : decode b_M_isNamed 26 = .ok (.iconst 1, 1) := by decide +kernel
theorem d_M_isNamed_27 : decode b_M_isNamed 27 = .ok (.iadd, 1) := by decide +kernel
theorem d_M_isNamed_28 : decode b_M_isNamed 28 = .ok (.lload_n 2, 1) := by decide +kernel
theorem d_M_isNamed_29 : decode b_M_isNamed 29 = .ok (.iload 4, 2) := by decide +kernel
theorem d_M_isNamed_31 : decode b_M_isNamed 31 = .ok (.invokevirtual 124, 3) := by decide +kernel
theorem d_M_isNamed_34 : decode b_M_isNamed 34 = .ok (.ifCond .eq 7, 3) := by decide +kernel
theorem d_M_isNamed_37 : decode b_M_isNamed 37 = .ok (.iconst 1, 1) := by decide +kernel
theorem d_M_isNamed_38 : decode b_M_isNamed 38 = .ok (.goto 4, 3) := by decide +kernel
theorem d_M_isNamed_41 : decode b_M_isNamed 41 = .ok (.iconst 0, 1) := by decide +kernel
theorem d_M_isNamed_42 : decode b_M_isNamed 42 = .ok (.ireturn, 1) := by decide +kernel
def w_M_isNamed  (σ : MPS) (x0 : Int32) (x1 : Int64) (x2 : Int32) (post : Int32 → Prop) : Prop := (vp_in x0 1000 ∧ ((((mp_isElement σ) x0.toNatClampNeg) = 0 → post 0) ∧ (¬ ((mp_isElement σ) x0.toNatClampNeg) = 0 → w_M_nameSize σ x0 (fun r11 => ((r11 = x2 → (vp_in x0 1000 ∧ w_M_says σ (((mp_begins σ) x0.toNatClampNeg) + 1) x1 x2 (fun r31 => ((r31 = 0 → post 0) ∧ (¬ r31 = 0 → post 1))))) ∧ (¬ r11 = x2 → post 0))))))
set_option maxHeartbeats 4000000 in
set_option maxRecDepth 100000 in
theorem c_M_isNamed (l : Launch) (md : MD) (σ : MPS) (x0 : Int32) (x1 : Int64) (x2 : Int32)  (post : Int32 → Prop) (hE : w_M_isNamed σ x0 x1 x2 post) : Met l y_M_isNamed ws_M_isNamed { frames := 4, cells := 0, slots := 0, locals := 84 } (va_Pc [.ref (mA md 0), .int x0, .long x1, .int x2] (rM md σ)) (vp_Si post) 0 0 (fun _ => False) := by
  refine Met.ofW (cc := b_M_isNamed) (maxL := 5) (ret := (some .boolean)) (by decide) rfl ?_
  intro p e s m args below meth c s₁ B hml hv
  obtain ⟨rfl, hP, hK⟩ := hv
  have hS : va_S (fun _ : Nat => False) s.heap s.heap [] := va_S.rf
  have hx := B.exec
  have hb := B.bytes
  have hr := B.returns
  have hta : ∀ w ∈ aW, w.before _ s = true := fun w h => atoms_spec (ws := ws_M_isNamed) B.pre w (List.mem_cons_of_mem _ h)
  have hown : s.vm.findClass R_M = some m.cls := findClass_of_methodNamed B.named
  have hlocks := B.notSynchronized
  have hl := lv_entry ([.ref (mA md 0), .int x0, .long x1, .int x2]) (n := 5) (Nat.le_of_ble_eq_true rfl)
  rw [lg_entry_eq]
  generalize (lg_sl ([.ref (mA md 0), .int x0, .long x1, .int x2]) ++ List.replicate (5 - (lg_sl ([.ref (mA md 0), .int x0, .long x1, .int x2])).length) Slot.unset).toArray = ls at hl ⊢
  have hl : lv_has ls 5 [(0, .ref (mA md 0)), (1, .int x0), (2, .long x1), (4, .int x2)] := hl
  unfold w_M_isNamed at hE
  refine lv_aload_n hx hb d_M_isNamed_0 rfl (lv_at hl 0 rfl) ?_
  refine va_get (D := (mG md)) (ci := 7) (v := .ref (mA md 8)) (C := R_M) (T := F_M) (N := 37) hx hb hta i_M hown hK hP 0 rfl rfl 23 (by decide) (hta _ fl_M_36) (fun _ h9 => h9) rfl d_M_isNamed_1 ?_
  refine lv_iload_n hx hb d_M_isNamed_4 rfl (lv_at hl 1 rfl) ?_
  obtain ⟨hI5, hE⟩ := hE
  refine va_zald (D := (mG md)) (f := mp_isElement σ) hx hb hK hP 8 2 rfl rfl hI5 d_M_isNamed_5 ?_
  refine lv_if_eq (tgt := 41) hx hb d_M_isNamed_6 (by decide) (fun cc6 => ?_) (fun cc6 => ?_)
  · have hE := hE.1 cc6
    refine lv_iconst (v := 0) hx hb d_M_isNamed_41 (by decide) ?_
    exact W.zret (v := 0) hx hb hr rfl (fun t ht hW => ⟨_, rfl, hE, ht⟩) (fun q h => by cases h) d_M_isNamed_42
  · have hE := hE.2 cc6
    refine lv_aload_n hx hb d_M_isNamed_9 rfl (lv_at hl 0 rfl) ?_
    refine lv_iload_n hx hb d_M_isNamed_10 rfl (lv_at hl 1 rfl) ?_
    refine ro_V (b0 := (mA md 0)) (As := [.int x0]) (rest := []) ⟨hx, hb, hml, hown, hta⟩ (c_M_nameSize l md σ x0  _ hE) ok_M_221 ⟨Nat.le_of_ble_eq_true rfl, Nat.le_of_ble_eq_true rfl⟩ blind_rM (va_recv hK hP (ci := 7) (q0 := 0) rfl rfl) (rM_of hP hK) rfl hl.1 rfl (Nat.le_of_ble_eq_true rfl) d_M_isNamed_11 ⟨Nat.zero_le _, Nat.zero_le _⟩ (fun r11 hE => ?_)
    refine lv_iload hx hb d_M_isNamed_14 (lv_at hl 3 rfl) ?_
    refine lv_icmp_ne (tgt := 41) hx hb d_M_isNamed_16 (by decide) (fun cc16 => ?_) (fun cc16 => ?_)
    · have hE := hE.2 cc16
      refine lv_iconst (v := 0) hx hb d_M_isNamed_41 (by decide) ?_
      exact W.zret (v := 0) hx hb hr rfl (fun t ht hW => ⟨_, rfl, hE, ht⟩) (fun q h => by cases h) d_M_isNamed_42
    · have hE := hE.1 cc16
      refine lv_aload_n hx hb d_M_isNamed_19 rfl (lv_at hl 0 rfl) ?_
      refine lv_aload_n hx hb d_M_isNamed_20 rfl (lv_at hl 0 rfl) ?_
      refine va_get (D := (mG md)) (ci := 7) (v := .ref (mA md 9)) (C := R_M) (T := F_M) (N := 37) hx hb hta i_M hown hK hP 0 rfl rfl 24 (by decide) (hta _ fl_M_40) (fun _ h9 => h9) rfl d_M_isNamed_21 ?_
      refine lv_iload_n hx hb d_M_isNamed_24 rfl (lv_at hl 1 rfl) ?_
      obtain ⟨hI25, hE⟩ := hE
      refine va_iald (D := (mG md)) (f := mp_begins σ) hx hb hK hP 9 0 rfl rfl hI25 d_M_isNamed_25 ?_
      refine lv_iconst (v := 1) hx hb d_M_isNamed_26 (by decide) ?_
      refine lv_iadd hx hb d_M_isNamed_27 ?_
      refine lv_lload_n hx hb d_M_isNamed_28 rfl (lv_at hl 2 rfl) ?_
      refine lv_iload hx hb d_M_isNamed_29 (lv_at hl 3 rfl) ?_
      refine ro_V (b0 := (mA md 0)) (As := [.int (((mp_begins σ) x0.toNatClampNeg) + 1), .long x1, .int x2]) (rest := []) ⟨hx, hb, hml, hown, hta⟩ (c_M_says l md σ (((mp_begins σ) x0.toNatClampNeg) + 1) x1 x2  _ hE) ok_M_124 ⟨Nat.le_of_ble_eq_true rfl, Nat.le_of_ble_eq_true rfl⟩ blind_rM (va_recv hK hP (ci := 7) (q0 := 0) rfl rfl) (rM_of hP hK) rfl hl.1 rfl (Nat.le_of_ble_eq_true rfl) d_M_isNamed_31 ⟨Nat.zero_le _, Nat.zero_le _⟩ (fun r31 hE => ?_)
      refine lv_if_eq (tgt := 41) hx hb d_M_isNamed_34 (by decide) (fun cc34 => ?_) (fun cc34 => ?_)
      · have hE := hE.1 cc34
        refine lv_iconst (v := 0) hx hb d_M_isNamed_41 (by decide) ?_
        exact W.zret (v := 0) hx hb hr rfl (fun t ht hW => ⟨_, rfl, hE, ht⟩) (fun q h => by cases h) d_M_isNamed_42
      · have hE := hE.2 cc34
        refine lv_iconst (v := 1) hx hb d_M_isNamed_37 (by decide) ?_
        refine lv_goto (tgt := 42) hx hb d_M_isNamed_38 (by decide) ?_
        exact W.zret (v := 1) hx hb hr rfl (fun t ht hW => ⟨_, rfl, hE, ht⟩) (fun q h => by cases h) d_M_isNamed_42
theorem cl_M_224 : Cond.constantLong "PlainPagesModel" 224 (7092165985996731759) ∈ aW := aW_in 1155 (by decide +kernel) rfl
theorem cl_M_226 : Cond.constantLong "PlainPagesModel" 226 (29797) ∈ aW := aW_in 1156 (by decide +kernel) rfl
theorem cl_M_228 : Cond.constantLong "PlainPagesModel" 228 (1752460652) ∈ aW := aW_in 1157 (by decide +kernel) rfl
theorem ok_M_230 : okV "PlainPagesModel" 230 R_M y_M_isNamed b_M_isNamed 5 (some .boolean) 3 := ⟨aW_in 1158 (by decide +kernel) rfl, aW_in 1160 (by decide +kernel) rfl, aW_in 61 (by decide +kernel) rfl, aW_in 92 (by decide +kernel) rfl, cd_M_isNamed, rfl, by decide +kernel, by decide +kernel, by decide +kernel⟩
theorem cl_M_233 : Cond.constantLong "PlainPagesModel" 233 (1751474532) ∈ aW := aW_in 1162 (by decide +kernel) rfl
theorem cl_M_235 : Cond.constantLong "PlainPagesModel" 235 (499985443941) ∈ aW := aW_in 1163 (by decide +kernel) rfl
theorem cl_M_237 : Cond.constantLong "PlainPagesModel" 237 (1651467385) ∈ aW := aW_in 1164 (by decide +kernel) rfl
theorem cl_M_239 : Cond.constantLong "PlainPagesModel" 239 (30060) ∈ aW := aW_in 1165 (by decide +kernel) rfl
theorem cl_M_241 : Cond.constantLong "PlainPagesModel" 241 (28524) ∈ aW := aW_in 1166 (by decide +kernel) rfl
theorem cl_M_243 : Cond.constantLong "PlainPagesModel" 243 (27753) ∈ aW := aW_in 1167 (by decide +kernel) rfl
theorem cl_M_245 : Cond.constantLong "PlainPagesModel" 245 (112) ∈ aW := aW_in 1168 (by decide +kernel) rfl
theorem cl_M_247 : Cond.constantLong "PlainPagesModel" 247 (25965) ∈ aW := aW_in 1169 (by decide +kernel) rfl
theorem cl_M_249 : Cond.constantLong "PlainPagesModel" 249 (126943973305959) ∈ aW := aW_in 1170 (by decide +kernel) rfl
theorem cl_M_251 : Cond.constantLong "PlainPagesModel" 251 (97) ∈ aW := aW_in 1171 (by decide +kernel) rfl
theorem cl_M_253 : Cond.constantLong "PlainPagesModel" 253 (7369317) ∈ aW := aW_in 1172 (by decide +kernel) rfl
theorem cl_M_255 : Cond.constantLong "PlainPagesModel" 255 (1668244581) ∈ aW := aW_in 1173 (by decide +kernel) rfl
theorem cl_M_257 : Cond.constantLong "PlainPagesModel" 257 (26738) ∈ aW := aW_in 1174 (by decide +kernel) rfl
theorem cl_M_259 : Cond.constantLong "PlainPagesModel" 259 (25202) ∈ aW := aW_in 1175 (by decide +kernel) rfl
theorem cl_M_261 : Cond.constantLong "PlainPagesModel" 261 (6909287) ∈ aW := aW_in 1176 (by decide +kernel) rfl
theorem d_M_kindOf_0 : decode b_M_kindOf 0 = .ok (.aload_n 0, 1) := by decide +kernel
theorem d_M_kindOf_1 : decode b_M_kindOf 1 = .ok (.iload_n 1, 1) := by decide +kernel
theorem d_M_kindOf_2 : decode b_M_kindOf 2 = .ok (.invokevirtual 221, 3) := by decide +kernel
theorem d_M_kindOf_5 : decode b_M_kindOf 5 = .ok (.istore_n 2, 1) := by decide +kernel
theorem d_M_kindOf_6 : decode b_M_kindOf 6 = .ok (.aload_n 0, 1) := by decide +kernel
theorem d_M_kindOf_7 : decode b_M_kindOf 7 = .ok (.getfield 40, 3) := by decide +kernel
theorem d_M_kindOf_10 : decode b_M_kindOf 10 = .ok (.iload_n 1, 1) := by decide +kernel
theorem d_M_kindOf_11 : decode b_M_kindOf 11 = .ok (.iaload, 1) := by decide +kernel
theorem d_M_kindOf_12 : decode b_M_kindOf 12 = .ok (.iconst 1, 1) := by decide +kernel
theorem d_M_kindOf_13 : decode b_M_kindOf 13 = .ok (.iadd, 1) := by decide +kernel
theorem d_M_kindOf_14 : decode b_M_kindOf 14 = .ok (.istore_n 3, 1) := by decide +kernel
theorem d_M_kindOf_15 : decode b_M_kindOf 15 = .ok (.iload_n 2, 1) := by decide +kernel
theorem d_M_kindOf_16 : decode b_M_kindOf 16 = .ok (.iconst 2, 1) := by decide +kernel
theorem d_M_kindOf_17 : decode b_M_kindOf 17 = .ok (.if_icmp .ne 51, 3) := by decide +kernel
theorem d_M_kindOf_20 : decode b_M_kindOf 20 = .ok (.aload_n 0, 1) := by decide +kernel
theorem d_M_kindOf_21 : decode b_M_kindOf 21 = .ok (.iload_n 3, 1) := by decide +kernel
theorem d_M_kindOf_22 : decode b_M_kindOf 22 = .ok (.invokevirtual 95, 3) := by decide +kernel
theorem d_M_kindOf_25 : decode b_M_kindOf 25 = .ok (.bipush 104, 2) := by decide +kernel
theorem d_M_kindOf_27 : decode b_M_kindOf 27 = .ok (.if_icmp .ne 41, 3) := by decide +kernel
theorem d_M_kindOf_30 : decode b_M_kindOf 30 = .ok (.aload_n 0, 1) := by decide +kernel
theorem d_M_kindOf_31 : decode b_M_kindOf 31 = .ok (.iload_n 3, 1) := by decide +kernel
theorem d_M_kindOf_32 : decode b_M_kindOf 32 = .ok (.iconst 1, 1) := by decide +kernel
theorem d_M_kindOf_33 : decode b_M_kindOf 33 = .ok (.iadd, 1) := by decide +kernel
theorem d_M_kindOf_34 : decode b_M_kindOf 34 = .ok (.invokevirtual 95, 3) := by decide +kernel
theorem d_M_kindOf_37 : decode b_M_kindOf 37 = .ok (.bipush 49, 2) := by decide +kernel
theorem d_M_kindOf_39 : decode b_M_kindOf 39 = .ok (.if_icmp .lt 29, 3) := by decide +kernel
theorem d_M_kindOf_42 : decode b_M_kindOf 42 = .ok (.aload_n 0, 1) := by decide +kernel
theorem d_M_kindOf_43 : decode b_M_kindOf 43 = .ok (.iload_n 3, 1) := by decide +kernel
theorem d_M_kindOf_44 : decode b_M_kindOf 44 = .ok (.iconst 1, 1) := by decide +kernel
theorem d_M_kindOf_45 : decode b_M_kindOf 45 = .ok (.iadd, 1) := by decide +kernel
theorem d_M_kindOf_46 : decode b_M_kindOf 46 = .ok (.invokevirtual 95, 3) := by decide +kernel
theorem d_M_kindOf_49 : decode b_M_kindOf 49 = .ok (.bipush 54, 2) := by decide +kernel
theorem d_M_kindOf_51 : decode b_M_kindOf 51 = .ok (.if_icmp .gt 17, 3) := by decide +kernel
theorem d_M_kindOf_54 : decode b_M_kindOf 54 = .ok (.bipush 10, 2) := by decide +kernel
theorem d_M_kindOf_56 : decode b_M_kindOf 56 = .ok (.aload_n 0, 1) := by decide +kernel
theorem d_M_kindOf_57 : decode b_M_kindOf 57 = .ok (.iload_n 3, 1) := by decide +kernel
theorem d_M_kindOf_58 : decode b_M_kindOf 58 = .ok (.iconst 1, 1) := by decide +kernel
theorem d_M_kindOf_59 : decode b_M_kindOf 59 = .ok (.iadd, 1) := by decide +kernel
theorem d_M_kindOf_60 : decode b_M_kindOf 60 = .ok (.invokevirtual 95, 3) := by decide +kernel
theorem d_M_kindOf_63 : decode b_M_kindOf 63 = .ok (.iadd, 1) := by decide +kernel
theorem d_M_kindOf_64 : decode b_M_kindOf 64 = .ok (.bipush 49, 2) := by decide +kernel
theorem d_M_kindOf_66 : decode b_M_kindOf 66 = .ok (.isub, 1) := by decide +kernel
theorem d_M_kindOf_67 : decode b_M_kindOf 67 = .ok (.ireturn, 1) := by decide +kernel
theorem d_M_kindOf_68 : decode b_M_kindOf 68 = .ok (.iload_n 2, 1) := by decide +kernel
theorem d_M_kindOf_69 : decode b_M_kindOf 69 = .ok (.bipush 10, 2) := by decide +kernel
theorem d_M_kindOf_71 : decode b_M_kindOf 71 = .ok (.if_icmp .ne 33, 3) := by decide +kernel
theorem d_M_kindOf_74 : decode b_M_kindOf 74 = .ok (.aload_n 0, 1) := by decide +kernel
theorem d_M_kindOf_75 : decode b_M_kindOf 75 = .ok (.iload_n 3, 1) := by decide +kernel
theorem d_M_kindOf_76 : decode b_M_kindOf 76 = .ok (.ldc2_w 224, 3) := by decide +kernel
theorem d_M_kindOf_79 : decode b_M_kindOf 79 = .ok (.bipush 8, 2) := by decide +kernel
theorem d_M_kindOf_81 : decode b_M_kindOf 81 = .ok (.invokevirtual 124, 3) := by decide +kernel
theorem d_M_kindOf_84 : decode b_M_kindOf 84 = .ok (.ifCond .eq 20, 3) := by decide +kernel
theorem d_M_kindOf_87 : decode b_M_kindOf 87 = .ok (.aload_n 0, 1) := by decide +kernel
theorem d_M_kindOf_88 : decode b_M_kindOf 88 = .ok (.iload_n 3, 1) := by decide +kernel
theorem d_M_kindOf_89 : decode b_M_kindOf 89 = .ok (.bipush 8, 2) := by decide +kernel
theorem d_M_kindOf_91 : decode b_M_kindOf 91 = .ok (.iadd, 1) := by decide +kernel
theorem d_M_kindOf_92 : decode b_M_kindOf 92 = .ok (.ldc2_w 226, 3) := by decide +kernel
theorem d_M_kindOf_95 : decode b_M_kindOf 95 = .ok (.iconst 2, 1) := by decide +kernel
theorem d_M_kindOf_96 : decode b_M_kindOf 96 = .ok (.invokevirtual 124, 3) := by decide +kernel
theorem d_M_kindOf_99 : decode b_M_kindOf 99 = .ok (.ifCond .eq 5, 3) := by decide +kernel
theorem d_M_kindOf_102 : decode b_M_kindOf 102 = .ok (.iconst 5, 1) := by decide +kernel
theorem d_M_kindOf_103 : decode b_M_kindOf 103 = .ok (.ireturn, 1) := by decide +kernel
theorem d_M_kindOf_104 : decode b_M_kindOf 104 = .ok (.aload_n 0, 1) := by decide +kernel
theorem d_M_kindOf_105 : decode b_M_kindOf 105 = .ok (.iload_n 1, 1) := by decide +kernel
theorem d_M_kindOf_106 : decode b_M_kindOf 106 = .ok (.ldc2_w 228, 3) := by decide +kernel
theorem d_M_kindOf_109 : decode b_M_kindOf 109 = .ok (.iconst 4, 1) := by decide +kernel
theorem d_M_kindOf_110 : decode b_M_kindOf 110 = .ok (.invokevirtual 230, 3) := by decide +kernel
theorem d_M_kindOf_113 : decode b_M_kindOf 113 = .ok (.ifCond .eq 5, 3) := by decide +kernel
theorem d_M_kindOf_116 : decode b_M_kindOf 116 = .ok (.iconst 1, 1) := by decide +kernel
theorem d_M_kindOf_117 : decode b_M_kindOf 117 = .ok (.ireturn, 1) := by decide +kernel
theorem d_M_kindOf_118 : decode b_M_kindOf 118 = .ok (.aload_n 0, 1) := by decide +kernel
theorem d_M_kindOf_119 : decode b_M_kindOf 119 = .ok (.iload_n 1, 1) := by decide +kernel
theorem d_M_kindOf_120 : decode b_M_kindOf 120 = .ok (.ldc2_w 233, 3) := by decide +kernel
theorem d_M_kindOf_123 : decode b_M_kindOf 123 = .ok (.iconst 4, 1) := by decide +kernel
theorem d_M_kindOf_124 : decode b_M_kindOf 124 = .ok (.invokevirtual 230, 3) := by decide +kernel
theorem d_M_kindOf_127 : decode b_M_kindOf 127 = .ok (.ifCond .eq 5, 3) := by decide +kernel
theorem d_M_kindOf_130 : decode b_M_kindOf 130 = .ok (.iconst 2, 1) := by decide +kernel
theorem d_M_kindOf_131 : decode b_M_kindOf 131 = .ok (.ireturn, 1) := by decide +kernel
theorem d_M_kindOf_132 : decode b_M_kindOf 132 = .ok (.aload_n 0, 1) := by decide +kernel
theorem d_M_kindOf_133 : decode b_M_kindOf 133 = .ok (.iload_n 1, 1) := by decide +kernel
theorem d_M_kindOf_134 : decode b_M_kindOf 134 = .ok (.ldc2_w 235, 3) := by decide +kernel
theorem d_M_kindOf_137 : decode b_M_kindOf 137 = .ok (.iconst 5, 1) := by decide +kernel
theorem d_M_kindOf_138 : decode b_M_kindOf 138 = .ok (.invokevirtual 230, 3) := by decide +kernel
theorem d_M_kindOf_141 : decode b_M_kindOf 141 = .ok (.ifCond .eq 5, 3) := by decide +kernel
theorem d_M_kindOf_144 : decode b_M_kindOf 144 = .ok (.iconst 3, 1) := by decide +kernel
theorem d_M_kindOf_145 : decode b_M_kindOf 145 = .ok (.ireturn, 1) := by decide +kernel
theorem d_M_kindOf_146 : decode b_M_kindOf 146 = .ok (.aload_n 0, 1) := by decide +kernel
theorem d_M_kindOf_147 : decode b_M_kindOf 147 = .ok (.iload_n 1, 1) := by decide +kernel
theorem d_M_kindOf_148 : decode b_M_kindOf 148 = .ok (.ldc2_w 237, 3) := by decide +kernel
theorem d_M_kindOf_151 : decode b_M_kindOf 151 = .ok (.iconst 4, 1) := by decide +kernel
theorem d_M_kindOf_152 : decode b_M_kindOf 152 = .ok (.invokevirtual 230, 3) := by decide +kernel
theorem d_M_kindOf_155 : decode b_M_kindOf 155 = .ok (.ifCond .eq 5, 3) := by decide +kernel
theorem d_M_kindOf_158 : decode b_M_kindOf 158 = .ok (.iconst 4, 1) := by decide +kernel
theorem d_M_kindOf_159 : decode b_M_kindOf 159 = .ok (.ireturn, 1) := by decide +kernel
theorem d_M_kindOf_160 : decode b_M_kindOf 160 = .ok (.aload_n 0, 1) := by decide +kernel
theorem d_M_kindOf_161 : decode b_M_kindOf 161 = .ok (.iload_n 1, 1) := by decide +kernel
theorem d_M_kindOf_162 : decode b_M_kindOf 162 = .ok (.ldc2_w 239, 3) := by decide +kernel
theorem d_M_kindOf_165 : decode b_M_kindOf 165 = .ok (.iconst 2, 1) := by decide +kernel
theorem d_M_kindOf_166 : decode b_M_kindOf 166 = .ok (.invokevirtual 230, 3) := by decide +kernel
theorem d_M_kindOf_169 : decode b_M_kindOf 169 = .ok (.ifCond .eq 6, 3) := by decide +kernel
theorem d_M_kindOf_172 : decode b_M_kindOf 172 = .ok (.bipush 6, 2) := by decide +kernel
theorem d_M_kindOf_174 : decode b_M_kindOf 174 = .ok (.ireturn, 1) := by decide +kernel
theorem d_M_kindOf_175 : decode b_M_kindOf 175 = .ok (.aload_n 0, 1) := by decide +kernel
theorem d_M_kindOf_176 : decode b_M_kindOf 176 = .ok (.iload_n 1, 1) := by decide +kernel
theorem d_M_kindOf_177 : decode b_M_kindOf 177 = .ok (.ldc2_w 241, 3) := by decide +kernel
theorem d_M_kindOf_180 : decode b_M_kindOf 180 = .ok (.iconst 2, 1) := by decide +kernel
theorem d_M_kindOf_181 : decode b_M_kindOf 181 = .ok (.invokevirtual 230, 3) := by decide +kernel
theorem d_M_kindOf_184 : decode b_M_kindOf 184 = .ok (.ifCond .eq 6, 3) := by decide +kernel
theorem d_M_kindOf_187 : decode b_M_kindOf 187 = .ok (.bipush 7, 2) := by decide +kernel
theorem d_M_kindOf_189 : decode b_M_kindOf 189 = .ok (.ireturn, 1) := by decide +kernel
theorem d_M_kindOf_190 : decode b_M_kindOf 190 = .ok (.aload_n 0, 1) := by decide +kernel
theorem d_M_kindOf_191 : decode b_M_kindOf 191 = .ok (.iload_n 1, 1) := by decide +kernel
theorem d_M_kindOf_192 : decode b_M_kindOf 192 = .ok (.ldc2_w 243, 3) := by decide +kernel
theorem d_M_kindOf_195 : decode b_M_kindOf 195 = .ok (.iconst 2, 1) := by decide +kernel
theorem d_M_kindOf_196 : decode b_M_kindOf 196 = .ok (.invokevirtual 230, 3) := by decide +kernel
theorem d_M_kindOf_199 : decode b_M_kindOf 199 = .ok (.ifCond .eq 6, 3) := by decide +kernel
theorem d_M_kindOf_202 : decode b_M_kindOf 202 = .ok (.bipush 8, 2) := by decide +kernel
theorem d_M_kindOf_204 : decode b_M_kindOf 204 = .ok (.ireturn, 1) := by decide +kernel
theorem d_M_kindOf_205 : decode b_M_kindOf 205 = .ok (.aload_n 0, 1) := by decide +kernel
theorem d_M_kindOf_206 : decode b_M_kindOf 206 = .ok (.iload_n 1, 1) := by decide +kernel
theorem d_M_kindOf_207 : decode b_M_kindOf 207 = .ok (.ldc2_w 245, 3) := by decide +kernel
theorem d_M_kindOf_210 : decode b_M_kindOf 210 = .ok (.iconst 1, 1) := by decide +kernel
theorem d_M_kindOf_211 : decode b_M_kindOf 211 = .ok (.invokevirtual 230, 3) := by decide +kernel
theorem d_M_kindOf_214 : decode b_M_kindOf 214 = .ok (.ifCond .eq 6, 3) := by decide +kernel
theorem d_M_kindOf_217 : decode b_M_kindOf 217 = .ok (.bipush 9, 2) := by decide +kernel
theorem d_M_kindOf_219 : decode b_M_kindOf 219 = .ok (.ireturn, 1) := by decide +kernel
theorem d_M_kindOf_220 : decode b_M_kindOf 220 = .ok (.aload_n 0, 1) := by decide +kernel
theorem d_M_kindOf_221 : decode b_M_kindOf 221 = .ok (.iload_n 1, 1) := by decide +kernel
theorem d_M_kindOf_222 : decode b_M_kindOf 222 = .ok (.ldc2_w 247, 3) := by decide +kernel
theorem d_M_kindOf_225 : decode b_M_kindOf 225 = .ok (.iconst 2, 1) := by decide +kernel
theorem d_M_kindOf_226 : decode b_M_kindOf 226 = .ok (.invokevirtual 230, 3) := by decide +kernel
theorem d_M_kindOf_229 : decode b_M_kindOf 229 = .ok (.ifCond .eq 6, 3) := by decide +kernel
theorem d_M_kindOf_232 : decode b_M_kindOf 232 = .ok (.bipush 16, 2) := by decide +kernel
theorem d_M_kindOf_234 : decode b_M_kindOf 234 = .ok (.ireturn, 1) := by decide +kernel
theorem d_M_kindOf_235 : decode b_M_kindOf 235 = .ok (.aload_n 0, 1) := by decide +kernel
theorem d_M_kindOf_236 : decode b_M_kindOf 236 = .ok (.iload_n 1, 1) := by decide +kernel
theorem d_M_kindOf_237 : decode b_M_kindOf 237 = .ok (.ldc2_w 249, 3) := by decide +kernel
theorem d_M_kindOf_240 : decode b_M_kindOf 240 = .ok (.bipush 6, 2) := by decide +kernel
theorem d_M_kindOf_242 : decode b_M_kindOf 242 = .ok (.invokevirtual 230, 3) := by decide +kernel
theorem d_M_kindOf_245 : decode b_M_kindOf 245 = .ok (.ifCond .eq 6, 3) := by decide +kernel
theorem d_M_kindOf_248 : decode b_M_kindOf 248 = .ok (.bipush 17, 2) := by decide +kernel
theorem d_M_kindOf_250 : decode b_M_kindOf 250 = .ok (.ireturn, 1) := by decide +kernel
theorem d_M_kindOf_251 : decode b_M_kindOf 251 = .ok (.aload_n 0, 1) := by decide +kernel
theorem d_M_kindOf_252 : decode b_M_kindOf 252 = .ok (.iload_n 1, 1) := by decide +kernel
theorem d_M_kindOf_253 : decode b_M_kindOf 253 = .ok (.ldc2_w 251, 3) := by decide +kernel
theorem d_M_kindOf_256 : decode b_M_kindOf 256 = .ok (.iconst 1, 1) := by decide +kernel
theorem d_M_kindOf_257 : decode b_M_kindOf 257 = .ok (.invokevirtual 230, 3) := by decide +kernel
theorem d_M_kindOf_260 : decode b_M_kindOf 260 = .ok (.ifCond .eq 6, 3) := by decide +kernel
theorem d_M_kindOf_263 : decode b_M_kindOf 263 = .ok (.bipush 18, 2) := by decide +kernel
theorem d_M_kindOf_265 : decode b_M_kindOf 265 = .ok (.ireturn, 1) := by decide +kernel
theorem d_M_kindOf_266 : decode b_M_kindOf 266 = .ok (.aload_n 0, 1) := by decide +kernel
theorem d_M_kindOf_267 : decode b_M_kindOf 267 = .ok (.iload_n 1, 1) := by decide +kernel
theorem d_M_kindOf_268 : decode b_M_kindOf 268 = .ok (.ldc2_w 253, 3) := by decide +kernel
theorem d_M_kindOf_271 : decode b_M_kindOf 271 = .ok (.iconst 3, 1) := by decide +kernel
theorem d_M_kindOf_272 : decode b_M_kindOf 272 = .ok (.invokevirtual 230, 3) := by decide +kernel
theorem d_M_kindOf_275 : decode b_M_kindOf 275 = .ok (.ifCond .eq 6, 3) := by decide +kernel
theorem d_M_kindOf_278 : decode b_M_kindOf 278 = .ok (.bipush 19, 2) := by decide +kernel
theorem d_M_kindOf_280 : decode b_M_kindOf 280 = .ok (.ireturn, 1) := by decide +kernel
theorem d_M_kindOf_281 : decode b_M_kindOf 281 = .ok (.aload_n 0, 1) := by decide +kernel
theorem d_M_kindOf_282 : decode b_M_kindOf 282 = .ok (.iload_n 1, 1) := by decide +kernel
theorem d_M_kindOf_283 : decode b_M_kindOf 283 = .ok (.ldc2_w 255, 3) := by decide +kernel
theorem d_M_kindOf_286 : decode b_M_kindOf 286 = .ok (.iconst 4, 1) := by decide +kernel
theorem d_M_kindOf_287 : decode b_M_kindOf 287 = .ok (.invokevirtual 230, 3) := by decide +kernel
theorem d_M_kindOf_290 : decode b_M_kindOf 290 = .ok (.ifCond .eq 6, 3) := by decide +kernel
theorem d_M_kindOf_293 : decode b_M_kindOf 293 = .ok (.bipush 20, 2) := by decide +kernel
theorem d_M_kindOf_295 : decode b_M_kindOf 295 = .ok (.ireturn, 1) := by decide +kernel
theorem d_M_kindOf_296 : decode b_M_kindOf 296 = .ok (.aload_n 0, 1) := by decide +kernel
theorem d_M_kindOf_297 : decode b_M_kindOf 297 = .ok (.iload_n 1, 1) := by decide +kernel
theorem d_M_kindOf_298 : decode b_M_kindOf 298 = .ok (.ldc2_w 257, 3) := by decide +kernel
theorem d_M_kindOf_301 : decode b_M_kindOf 301 = .ok (.iconst 2, 1) := by decide +kernel
theorem d_M_kindOf_302 : decode b_M_kindOf 302 = .ok (.invokevirtual 230, 3) := by decide +kernel
theorem d_M_kindOf_305 : decode b_M_kindOf 305 = .ok (.ifCond .eq 6, 3) := by decide +kernel
theorem d_M_kindOf_308 : decode b_M_kindOf 308 = .ok (.bipush 21, 2) := by decide +kernel
theorem d_M_kindOf_310 : decode b_M_kindOf 310 = .ok (.ireturn, 1) := by decide +kernel
theorem d_M_kindOf_311 : decode b_M_kindOf 311 = .ok (.aload_n 0, 1) := by decide +kernel
theorem d_M_kindOf_312 : decode b_M_kindOf 312 = .ok (.iload_n 1, 1) := by decide +kernel
theorem d_M_kindOf_313 : decode b_M_kindOf 313 = .ok (.ldc2_w 259, 3) := by decide +kernel
theorem d_M_kindOf_316 : decode b_M_kindOf 316 = .ok (.iconst 2, 1) := by decide +kernel
theorem d_M_kindOf_317 : decode b_M_kindOf 317 = .ok (.invokevirtual 230, 3) := by decide +kernel
theorem d_M_kindOf_320 : decode b_M_kindOf 320 = .ok (.ifCond .eq 6, 3) := by decide +kernel
theorem d_M_kindOf_323 : decode b_M_kindOf 323 = .ok (.bipush 22, 2) := by decide +kernel
theorem d_M_kindOf_325 : decode b_M_kindOf 325 = .ok (.ireturn, 1) := by decide +kernel
theorem d_M_kindOf_326 : decode b_M_kindOf 326 = .ok (.aload_n 0, 1) := by decide +kernel
theorem d_M_kindOf_327 : decode b_M_kindOf 327 = .ok (.iload_n 1, 1) := by decide +kernel
theorem d_M_kindOf_328 : decode b_M_kindOf 328 = .ok (.ldc2_w 261, 3) := by decide +kernel
theorem d_M_kindOf_331 : decode b_M_kindOf 331 = .ok (.iconst 3, 1) := by decide +kernel
theorem d_M_kindOf_332 : decode b_M_kindOf 332 = .ok (.invokevirtual 230, 3) := by decide +kernel
theorem d_M_kindOf_335 : decode b_M_kindOf 335 = .ok (.ifCond .eq 6, 3) := by decide +kernel
theorem d_M_kindOf_338 : decode b_M_kindOf 338 = .ok (.bipush 23, 2) := by decide +kernel
theorem d_M_kindOf_340 : decode b_M_kindOf 340 = .ok (.ireturn, 1) := by decide +kernel
theorem d_M_kindOf_341 : decode b_M_kindOf 341 = .ok (.iconst 0, 1) := by decide +kernel
theorem d_M_kindOf_342 : decode b_M_kindOf 342 = .ok (.ireturn, 1) := by decide +kernel
def w_M_kindOf_J104  (σ : MPS) (post : Int32 → Prop) (v1 : Int32) : Prop := w_M_isNamed σ v1 1752460652 4 (fun r110 => ((r110 = 0 → w_M_isNamed σ v1 1751474532 4 (fun r124 => ((r124 = 0 → w_M_isNamed σ v1 499985443941 5 (fun r138 => ((r138 = 0 → w_M_isNamed σ v1 1651467385 4 (fun r152 => ((r152 = 0 → w_M_isNamed σ v1 30060 2 (fun r166 => ((r166 = 0 → w_M_isNamed σ v1 28524 2 (fun r181 => ((r181 = 0 → w_M_isNamed σ v1 27753 2 (fun r196 => ((r196 = 0 → w_M_isNamed σ v1 112 1 (fun r211 => ((r211 = 0 → w_M_isNamed σ v1 25965 2 (fun r226 => ((r226 = 0 → w_M_isNamed σ v1 126943973305959 6 (fun r242 => ((r242 = 0 → w_M_isNamed σ v1 97 1 (fun r257 => ((r257 = 0 → w_M_isNamed σ v1 7369317 3 (fun r272 => ((r272 = 0 → w_M_isNamed σ v1 1668244581 4 (fun r287 => ((r287 = 0 → w_M_isNamed σ v1 26738 2 (fun r302 => ((r302 = 0 → w_M_isNamed σ v1 25202 2 (fun r317 => ((r317 = 0 → w_M_isNamed σ v1 6909287 3 (fun r332 => ((r332 = 0 → post 0) ∧ (¬ r332 = 0 → post 23)))) ∧ (¬ r317 = 0 → post 22)))) ∧ (¬ r302 = 0 → post 21)))) ∧ (¬ r287 = 0 → post 20)))) ∧ (¬ r272 = 0 → post 19)))) ∧ (¬ r257 = 0 → post 18)))) ∧ (¬ r242 = 0 → post 17)))) ∧ (¬ r226 = 0 → post 16)))) ∧ (¬ r211 = 0 → post 9)))) ∧ (¬ r196 = 0 → post 8)))) ∧ (¬ r181 = 0 → post 7)))) ∧ (¬ r166 = 0 → post 6)))) ∧ (¬ r152 = 0 → post 4)))) ∧ (¬ r138 = 0 → post 3)))) ∧ (¬ r124 = 0 → post 2)))) ∧ (¬ r110 = 0 → post 1)))
def w_M_kindOf_J68  (σ : MPS) (post : Int32 → Prop) (v1 : Int32) (v2 : Int32) (v3 : Int32) : Prop := ((v2 = 10 → w_M_says σ v3 7092165985996731759 8 (fun r81 => ((r81 = 0 → w_M_kindOf_J104 σ post v1) ∧ (¬ r81 = 0 → w_M_says σ (v3 + 8) 29797 2 (fun r96 => ((r96 = 0 → w_M_kindOf_J104 σ post v1) ∧ (¬ r96 = 0 → post 5))))))) ∧ (¬ v2 = 10 → w_M_kindOf_J104 σ post v1))
def w_M_kindOf  (σ : MPS) (x0 : Int32) (post : Int32 → Prop) : Prop := w_M_nameSize σ x0 (fun r2 => (vp_in x0 1000 ∧ ((r2 = 2 → w_M_x σ (((mp_begins σ) x0.toNatClampNeg) + 1) (fun r22 => ((r22 = 104 → w_M_x σ ((((mp_begins σ) x0.toNatClampNeg) + 1) + 1) (fun r34 => ((r34 < 49 → w_M_kindOf_J68 σ post x0 r2 (((mp_begins σ) x0.toNatClampNeg) + 1)) ∧ (¬ r34 < 49 → w_M_x σ ((((mp_begins σ) x0.toNatClampNeg) + 1) + 1) (fun r46 => ((54 < r46 → w_M_kindOf_J68 σ post x0 r2 (((mp_begins σ) x0.toNatClampNeg) + 1)) ∧ (¬ 54 < r46 → w_M_x σ ((((mp_begins σ) x0.toNatClampNeg) + 1) + 1) (fun r60 => post ((10 + r60) - 49))))))))) ∧ (¬ r22 = 104 → w_M_kindOf_J68 σ post x0 r2 (((mp_begins σ) x0.toNatClampNeg) + 1))))) ∧ (¬ r2 = 2 → w_M_kindOf_J68 σ post x0 r2 (((mp_begins σ) x0.toNatClampNeg) + 1)))))
set_option maxHeartbeats 4000000 in
set_option maxRecDepth 100000 in
theorem c_M_kindOf (l : Launch) (md : MD) (σ : MPS) (x0 : Int32)  (post : Int32 → Prop) (hE : w_M_kindOf σ x0 post) : Met l y_M_kindOf ws_M_kindOf { frames := 5, cells := 0, slots := 0, locals := 108 } (va_Pc [.ref (mA md 0), .int x0] (rM md σ)) (vp_Si post) 0 0 (fun _ => False) := by
  refine Met.ofW (cc := b_M_kindOf) (maxL := 4) (ret := (some .int)) (by decide) rfl ?_
  intro p e s m args below meth c s₁ B hml hv
  obtain ⟨rfl, hP, hK⟩ := hv
  have hS : va_S (fun _ : Nat => False) s.heap s.heap [] := va_S.rf
  have hx := B.exec
  have hb := B.bytes
  have hr := B.returns
  have hta : ∀ w ∈ aW, w.before _ s = true := fun w h => atoms_spec (ws := ws_M_kindOf) B.pre w (List.mem_cons_of_mem _ h)
  have hown : s.vm.findClass R_M = some m.cls := findClass_of_methodNamed B.named
  have hlocks := B.notSynchronized
  have hl := lv_entry ([.ref (mA md 0), .int x0]) (n := 4) (Nat.le_of_ble_eq_true rfl)
  rw [lg_entry_eq]
  generalize (lg_sl ([.ref (mA md 0), .int x0]) ++ List.replicate (4 - (lg_sl ([.ref (mA md 0), .int x0])).length) Slot.unset).toArray = ls at hl ⊢
  have hl : lv_has ls 4 [(0, .ref (mA md 0)), (1, .int x0)] := hl
  have J104 : ∀ (v1 : Int32) (ls : Array Slot) (hl : lv_has ls 4 [(0, .ref (mA md 0)), (1, .int v1)]) (hE : w_M_kindOf_J104 σ post v1), W p l e (headSpec ws_M_kindOf { frames := 5, cells := 0, slots := 0, locals := 108 }).room s m ([.ref (mA md 0), .int x0] : List Value).toArray below meth c s.heap [] 0 0 (MQ below (vp_Si post) ([.ref (mA md 0), .int x0] : List Value).toArray s 0 0 (fun _ => False)) (F0 m 104 ls []) := by
    intro  v1 ls hl hE
    unfold w_M_kindOf_J104 at hE
    refine lv_aload_n hx hb d_M_kindOf_104 rfl (lv_at hl 0 rfl) ?_
    refine lv_iload_n hx hb d_M_kindOf_105 rfl (lv_at hl 1 rfl) ?_
    refine lv_ldc2 hx hb hown (hta _ cl_M_228) d_M_kindOf_106 ?_
    refine lv_iconst (v := 4) hx hb d_M_kindOf_109 (by decide) ?_
    refine ro_V (b0 := (mA md 0)) (As := [.int v1, .long 1752460652, .int 4]) (rest := []) ⟨hx, hb, hml, hown, hta⟩ (c_M_isNamed l md σ v1 1752460652 4  _ hE) ok_M_230 ⟨Nat.le_of_ble_eq_true rfl, Nat.le_of_ble_eq_true rfl⟩ blind_rM (va_recv hK hP (ci := 7) (q0 := 0) rfl rfl) (rM_of hP hK) rfl hl.1 rfl (Nat.le_of_ble_eq_true rfl) d_M_kindOf_110 ⟨Nat.zero_le _, Nat.zero_le _⟩ (fun r110 hE => ?_)
    refine lv_if_eq (tgt := 118) hx hb d_M_kindOf_113 (by decide) (fun cc113 => ?_) (fun cc113 => ?_)
    · have hE := hE.1 cc113
      refine lv_aload_n hx hb d_M_kindOf_118 rfl (lv_at hl 0 rfl) ?_
      refine lv_iload_n hx hb d_M_kindOf_119 rfl (lv_at hl 1 rfl) ?_
      refine lv_ldc2 hx hb hown (hta _ cl_M_233) d_M_kindOf_120 ?_
      refine lv_iconst (v := 4) hx hb d_M_kindOf_123 (by decide) ?_
      refine ro_V (b0 := (mA md 0)) (As := [.int v1, .long 1751474532, .int 4]) (rest := []) ⟨hx, hb, hml, hown, hta⟩ (c_M_isNamed l md σ v1 1751474532 4  _ hE) ok_M_230 ⟨Nat.le_of_ble_eq_true rfl, Nat.le_of_ble_eq_true rfl⟩ blind_rM (va_recv hK hP (ci := 7) (q0 := 0) rfl rfl) (rM_of hP hK) rfl hl.1 rfl (Nat.le_of_ble_eq_true rfl) d_M_kindOf_124 ⟨Nat.zero_le _, Nat.zero_le _⟩ (fun r124 hE => ?_)
      refine lv_if_eq (tgt := 132) hx hb d_M_kindOf_127 (by decide) (fun cc127 => ?_) (fun cc127 => ?_)
      · have hE := hE.1 cc127
        refine lv_aload_n hx hb d_M_kindOf_132 rfl (lv_at hl 0 rfl) ?_
        refine lv_iload_n hx hb d_M_kindOf_133 rfl (lv_at hl 1 rfl) ?_
        refine lv_ldc2 hx hb hown (hta _ cl_M_235) d_M_kindOf_134 ?_
        refine lv_iconst (v := 5) hx hb d_M_kindOf_137 (by decide) ?_
        refine ro_V (b0 := (mA md 0)) (As := [.int v1, .long 499985443941, .int 5]) (rest := []) ⟨hx, hb, hml, hown, hta⟩ (c_M_isNamed l md σ v1 499985443941 5  _ hE) ok_M_230 ⟨Nat.le_of_ble_eq_true rfl, Nat.le_of_ble_eq_true rfl⟩ blind_rM (va_recv hK hP (ci := 7) (q0 := 0) rfl rfl) (rM_of hP hK) rfl hl.1 rfl (Nat.le_of_ble_eq_true rfl) d_M_kindOf_138 ⟨Nat.zero_le _, Nat.zero_le _⟩ (fun r138 hE => ?_)
        refine lv_if_eq (tgt := 146) hx hb d_M_kindOf_141 (by decide) (fun cc141 => ?_) (fun cc141 => ?_)
        · have hE := hE.1 cc141
          refine lv_aload_n hx hb d_M_kindOf_146 rfl (lv_at hl 0 rfl) ?_
          refine lv_iload_n hx hb d_M_kindOf_147 rfl (lv_at hl 1 rfl) ?_
          refine lv_ldc2 hx hb hown (hta _ cl_M_237) d_M_kindOf_148 ?_
          refine lv_iconst (v := 4) hx hb d_M_kindOf_151 (by decide) ?_
          refine ro_V (b0 := (mA md 0)) (As := [.int v1, .long 1651467385, .int 4]) (rest := []) ⟨hx, hb, hml, hown, hta⟩ (c_M_isNamed l md σ v1 1651467385 4  _ hE) ok_M_230 ⟨Nat.le_of_ble_eq_true rfl, Nat.le_of_ble_eq_true rfl⟩ blind_rM (va_recv hK hP (ci := 7) (q0 := 0) rfl rfl) (rM_of hP hK) rfl hl.1 rfl (Nat.le_of_ble_eq_true rfl) d_M_kindOf_152 ⟨Nat.zero_le _, Nat.zero_le _⟩ (fun r152 hE => ?_)
          refine lv_if_eq (tgt := 160) hx hb d_M_kindOf_155 (by decide) (fun cc155 => ?_) (fun cc155 => ?_)
          · have hE := hE.1 cc155
            refine lv_aload_n hx hb d_M_kindOf_160 rfl (lv_at hl 0 rfl) ?_
            refine lv_iload_n hx hb d_M_kindOf_161 rfl (lv_at hl 1 rfl) ?_
            refine lv_ldc2 hx hb hown (hta _ cl_M_239) d_M_kindOf_162 ?_
            refine lv_iconst (v := 2) hx hb d_M_kindOf_165 (by decide) ?_
            refine ro_V (b0 := (mA md 0)) (As := [.int v1, .long 30060, .int 2]) (rest := []) ⟨hx, hb, hml, hown, hta⟩ (c_M_isNamed l md σ v1 30060 2  _ hE) ok_M_230 ⟨Nat.le_of_ble_eq_true rfl, Nat.le_of_ble_eq_true rfl⟩ blind_rM (va_recv hK hP (ci := 7) (q0 := 0) rfl rfl) (rM_of hP hK) rfl hl.1 rfl (Nat.le_of_ble_eq_true rfl) d_M_kindOf_166 ⟨Nat.zero_le _, Nat.zero_le _⟩ (fun r166 hE => ?_)
            refine lv_if_eq (tgt := 175) hx hb d_M_kindOf_169 (by decide) (fun cc169 => ?_) (fun cc169 => ?_)
            · have hE := hE.1 cc169
              refine lv_aload_n hx hb d_M_kindOf_175 rfl (lv_at hl 0 rfl) ?_
              refine lv_iload_n hx hb d_M_kindOf_176 rfl (lv_at hl 1 rfl) ?_
              refine lv_ldc2 hx hb hown (hta _ cl_M_241) d_M_kindOf_177 ?_
              refine lv_iconst (v := 2) hx hb d_M_kindOf_180 (by decide) ?_
              refine ro_V (b0 := (mA md 0)) (As := [.int v1, .long 28524, .int 2]) (rest := []) ⟨hx, hb, hml, hown, hta⟩ (c_M_isNamed l md σ v1 28524 2  _ hE) ok_M_230 ⟨Nat.le_of_ble_eq_true rfl, Nat.le_of_ble_eq_true rfl⟩ blind_rM (va_recv hK hP (ci := 7) (q0 := 0) rfl rfl) (rM_of hP hK) rfl hl.1 rfl (Nat.le_of_ble_eq_true rfl) d_M_kindOf_181 ⟨Nat.zero_le _, Nat.zero_le _⟩ (fun r181 hE => ?_)
              refine lv_if_eq (tgt := 190) hx hb d_M_kindOf_184 (by decide) (fun cc184 => ?_) (fun cc184 => ?_)
              · have hE := hE.1 cc184
                refine lv_aload_n hx hb d_M_kindOf_190 rfl (lv_at hl 0 rfl) ?_
                refine lv_iload_n hx hb d_M_kindOf_191 rfl (lv_at hl 1 rfl) ?_
                refine lv_ldc2 hx hb hown (hta _ cl_M_243) d_M_kindOf_192 ?_
                refine lv_iconst (v := 2) hx hb d_M_kindOf_195 (by decide) ?_
                refine ro_V (b0 := (mA md 0)) (As := [.int v1, .long 27753, .int 2]) (rest := []) ⟨hx, hb, hml, hown, hta⟩ (c_M_isNamed l md σ v1 27753 2  _ hE) ok_M_230 ⟨Nat.le_of_ble_eq_true rfl, Nat.le_of_ble_eq_true rfl⟩ blind_rM (va_recv hK hP (ci := 7) (q0 := 0) rfl rfl) (rM_of hP hK) rfl hl.1 rfl (Nat.le_of_ble_eq_true rfl) d_M_kindOf_196 ⟨Nat.zero_le _, Nat.zero_le _⟩ (fun r196 hE => ?_)
                refine lv_if_eq (tgt := 205) hx hb d_M_kindOf_199 (by decide) (fun cc199 => ?_) (fun cc199 => ?_)
                · have hE := hE.1 cc199
                  refine lv_aload_n hx hb d_M_kindOf_205 rfl (lv_at hl 0 rfl) ?_
                  refine lv_iload_n hx hb d_M_kindOf_206 rfl (lv_at hl 1 rfl) ?_
                  refine lv_ldc2 hx hb hown (hta _ cl_M_245) d_M_kindOf_207 ?_
                  refine lv_iconst (v := 1) hx hb d_M_kindOf_210 (by decide) ?_
                  refine ro_V (b0 := (mA md 0)) (As := [.int v1, .long 112, .int 1]) (rest := []) ⟨hx, hb, hml, hown, hta⟩ (c_M_isNamed l md σ v1 112 1  _ hE) ok_M_230 ⟨Nat.le_of_ble_eq_true rfl, Nat.le_of_ble_eq_true rfl⟩ blind_rM (va_recv hK hP (ci := 7) (q0 := 0) rfl rfl) (rM_of hP hK) rfl hl.1 rfl (Nat.le_of_ble_eq_true rfl) d_M_kindOf_211 ⟨Nat.zero_le _, Nat.zero_le _⟩ (fun r211 hE => ?_)
                  refine lv_if_eq (tgt := 220) hx hb d_M_kindOf_214 (by decide) (fun cc214 => ?_) (fun cc214 => ?_)
                  · have hE := hE.1 cc214
                    refine lv_aload_n hx hb d_M_kindOf_220 rfl (lv_at hl 0 rfl) ?_
                    refine lv_iload_n hx hb d_M_kindOf_221 rfl (lv_at hl 1 rfl) ?_
                    refine lv_ldc2 hx hb hown (hta _ cl_M_247) d_M_kindOf_222 ?_
                    refine lv_iconst (v := 2) hx hb d_M_kindOf_225 (by decide) ?_
                    refine ro_V (b0 := (mA md 0)) (As := [.int v1, .long 25965, .int 2]) (rest := []) ⟨hx, hb, hml, hown, hta⟩ (c_M_isNamed l md σ v1 25965 2  _ hE) ok_M_230 ⟨Nat.le_of_ble_eq_true rfl, Nat.le_of_ble_eq_true rfl⟩ blind_rM (va_recv hK hP (ci := 7) (q0 := 0) rfl rfl) (rM_of hP hK) rfl hl.1 rfl (Nat.le_of_ble_eq_true rfl) d_M_kindOf_226 ⟨Nat.zero_le _, Nat.zero_le _⟩ (fun r226 hE => ?_)
                    refine lv_if_eq (tgt := 235) hx hb d_M_kindOf_229 (by decide) (fun cc229 => ?_) (fun cc229 => ?_)
                    · have hE := hE.1 cc229
                      refine lv_aload_n hx hb d_M_kindOf_235 rfl (lv_at hl 0 rfl) ?_
                      refine lv_iload_n hx hb d_M_kindOf_236 rfl (lv_at hl 1 rfl) ?_
                      refine lv_ldc2 hx hb hown (hta _ cl_M_249) d_M_kindOf_237 ?_
                      refine lv_bipush (v := 6) hx hb d_M_kindOf_240 (by decide) ?_
                      refine ro_V (b0 := (mA md 0)) (As := [.int v1, .long 126943973305959, .int 6]) (rest := []) ⟨hx, hb, hml, hown, hta⟩ (c_M_isNamed l md σ v1 126943973305959 6  _ hE) ok_M_230 ⟨Nat.le_of_ble_eq_true rfl, Nat.le_of_ble_eq_true rfl⟩ blind_rM (va_recv hK hP (ci := 7) (q0 := 0) rfl rfl) (rM_of hP hK) rfl hl.1 rfl (Nat.le_of_ble_eq_true rfl) d_M_kindOf_242 ⟨Nat.zero_le _, Nat.zero_le _⟩ (fun r242 hE => ?_)
                      refine lv_if_eq (tgt := 251) hx hb d_M_kindOf_245 (by decide) (fun cc245 => ?_) (fun cc245 => ?_)
                      · have hE := hE.1 cc245
                        refine lv_aload_n hx hb d_M_kindOf_251 rfl (lv_at hl 0 rfl) ?_
                        refine lv_iload_n hx hb d_M_kindOf_252 rfl (lv_at hl 1 rfl) ?_
                        refine lv_ldc2 hx hb hown (hta _ cl_M_251) d_M_kindOf_253 ?_
                        refine lv_iconst (v := 1) hx hb d_M_kindOf_256 (by decide) ?_
                        refine ro_V (b0 := (mA md 0)) (As := [.int v1, .long 97, .int 1]) (rest := []) ⟨hx, hb, hml, hown, hta⟩ (c_M_isNamed l md σ v1 97 1  _ hE) ok_M_230 ⟨Nat.le_of_ble_eq_true rfl, Nat.le_of_ble_eq_true rfl⟩ blind_rM (va_recv hK hP (ci := 7) (q0 := 0) rfl rfl) (rM_of hP hK) rfl hl.1 rfl (Nat.le_of_ble_eq_true rfl) d_M_kindOf_257 ⟨Nat.zero_le _, Nat.zero_le _⟩ (fun r257 hE => ?_)
                        refine lv_if_eq (tgt := 266) hx hb d_M_kindOf_260 (by decide) (fun cc260 => ?_) (fun cc260 => ?_)
                        · have hE := hE.1 cc260
                          refine lv_aload_n hx hb d_M_kindOf_266 rfl (lv_at hl 0 rfl) ?_
                          refine lv_iload_n hx hb d_M_kindOf_267 rfl (lv_at hl 1 rfl) ?_
                          refine lv_ldc2 hx hb hown (hta _ cl_M_253) d_M_kindOf_268 ?_
                          refine lv_iconst (v := 3) hx hb d_M_kindOf_271 (by decide) ?_
                          refine ro_V (b0 := (mA md 0)) (As := [.int v1, .long 7369317, .int 3]) (rest := []) ⟨hx, hb, hml, hown, hta⟩ (c_M_isNamed l md σ v1 7369317 3  _ hE) ok_M_230 ⟨Nat.le_of_ble_eq_true rfl, Nat.le_of_ble_eq_true rfl⟩ blind_rM (va_recv hK hP (ci := 7) (q0 := 0) rfl rfl) (rM_of hP hK) rfl hl.1 rfl (Nat.le_of_ble_eq_true rfl) d_M_kindOf_272 ⟨Nat.zero_le _, Nat.zero_le _⟩ (fun r272 hE => ?_)
                          refine lv_if_eq (tgt := 281) hx hb d_M_kindOf_275 (by decide) (fun cc275 => ?_) (fun cc275 => ?_)
                          · have hE := hE.1 cc275
                            refine lv_aload_n hx hb d_M_kindOf_281 rfl (lv_at hl 0 rfl) ?_
                            refine lv_iload_n hx hb d_M_kindOf_282 rfl (lv_at hl 1 rfl) ?_
                            refine lv_ldc2 hx hb hown (hta _ cl_M_255) d_M_kindOf_283 ?_
                            refine lv_iconst (v := 4) hx hb d_M_kindOf_286 (by decide) ?_
                            refine ro_V (b0 := (mA md 0)) (As := [.int v1, .long 1668244581, .int 4]) (rest := []) ⟨hx, hb, hml, hown, hta⟩ (c_M_isNamed l md σ v1 1668244581 4  _ hE) ok_M_230 ⟨Nat.le_of_ble_eq_true rfl, Nat.le_of_ble_eq_true rfl⟩ blind_rM (va_recv hK hP (ci := 7) (q0 := 0) rfl rfl) (rM_of hP hK) rfl hl.1 rfl (Nat.le_of_ble_eq_true rfl) d_M_kindOf_287 ⟨Nat.zero_le _, Nat.zero_le _⟩ (fun r287 hE => ?_)
                            refine lv_if_eq (tgt := 296) hx hb d_M_kindOf_290 (by decide) (fun cc290 => ?_) (fun cc290 => ?_)
                            · have hE := hE.1 cc290
                              refine lv_aload_n hx hb d_M_kindOf_296 rfl (lv_at hl 0 rfl) ?_
                              refine lv_iload_n hx hb d_M_kindOf_297 rfl (lv_at hl 1 rfl) ?_
                              refine lv_ldc2 hx hb hown (hta _ cl_M_257) d_M_kindOf_298 ?_
                              refine lv_iconst (v := 2) hx hb d_M_kindOf_301 (by decide) ?_
                              refine ro_V (b0 := (mA md 0)) (As := [.int v1, .long 26738, .int 2]) (rest := []) ⟨hx, hb, hml, hown, hta⟩ (c_M_isNamed l md σ v1 26738 2  _ hE) ok_M_230 ⟨Nat.le_of_ble_eq_true rfl, Nat.le_of_ble_eq_true rfl⟩ blind_rM (va_recv hK hP (ci := 7) (q0 := 0) rfl rfl) (rM_of hP hK) rfl hl.1 rfl (Nat.le_of_ble_eq_true rfl) d_M_kindOf_302 ⟨Nat.zero_le _, Nat.zero_le _⟩ (fun r302 hE => ?_)
                              refine lv_if_eq (tgt := 311) hx hb d_M_kindOf_305 (by decide) (fun cc305 => ?_) (fun cc305 => ?_)
                              · have hE := hE.1 cc305
                                refine lv_aload_n hx hb d_M_kindOf_311 rfl (lv_at hl 0 rfl) ?_
                                refine lv_iload_n hx hb d_M_kindOf_312 rfl (lv_at hl 1 rfl) ?_
                                refine lv_ldc2 hx hb hown (hta _ cl_M_259) d_M_kindOf_313 ?_
                                refine lv_iconst (v := 2) hx hb d_M_kindOf_316 (by decide) ?_
                                refine ro_V (b0 := (mA md 0)) (As := [.int v1, .long 25202, .int 2]) (rest := []) ⟨hx, hb, hml, hown, hta⟩ (c_M_isNamed l md σ v1 25202 2  _ hE) ok_M_230 ⟨Nat.le_of_ble_eq_true rfl, Nat.le_of_ble_eq_true rfl⟩ blind_rM (va_recv hK hP (ci := 7) (q0 := 0) rfl rfl) (rM_of hP hK) rfl hl.1 rfl (Nat.le_of_ble_eq_true rfl) d_M_kindOf_317 ⟨Nat.zero_le _, Nat.zero_le _⟩ (fun r317 hE => ?_)
                                refine lv_if_eq (tgt := 326) hx hb d_M_kindOf_320 (by decide) (fun cc320 => ?_) (fun cc320 => ?_)
                                · have hE := hE.1 cc320
                                  refine lv_aload_n hx hb d_M_kindOf_326 rfl (lv_at hl 0 rfl) ?_
                                  refine lv_iload_n hx hb d_M_kindOf_327 rfl (lv_at hl 1 rfl) ?_
                                  refine lv_ldc2 hx hb hown (hta _ cl_M_261) d_M_kindOf_328 ?_
                                  refine lv_iconst (v := 3) hx hb d_M_kindOf_331 (by decide) ?_
                                  refine ro_V (b0 := (mA md 0)) (As := [.int v1, .long 6909287, .int 3]) (rest := []) ⟨hx, hb, hml, hown, hta⟩ (c_M_isNamed l md σ v1 6909287 3  _ hE) ok_M_230 ⟨Nat.le_of_ble_eq_true rfl, Nat.le_of_ble_eq_true rfl⟩ blind_rM (va_recv hK hP (ci := 7) (q0 := 0) rfl rfl) (rM_of hP hK) rfl hl.1 rfl (Nat.le_of_ble_eq_true rfl) d_M_kindOf_332 ⟨Nat.zero_le _, Nat.zero_le _⟩ (fun r332 hE => ?_)
                                  refine lv_if_eq (tgt := 341) hx hb d_M_kindOf_335 (by decide) (fun cc335 => ?_) (fun cc335 => ?_)
                                  · have hE := hE.1 cc335
                                    refine lv_iconst (v := 0) hx hb d_M_kindOf_341 (by decide) ?_
                                    exact W.iret (v := 0) hx hb hr (fun t ht hW => ⟨_, rfl, hE, ht⟩) (fun q h => by cases h) d_M_kindOf_342
                                  · have hE := hE.2 cc335
                                    refine lv_bipush (v := 23) hx hb d_M_kindOf_338 (by decide) ?_
                                    exact W.iret (v := 23) hx hb hr (fun t ht hW => ⟨_, rfl, hE, ht⟩) (fun q h => by cases h) d_M_kindOf_340
                                · have hE := hE.2 cc320
                                  refine lv_bipush (v := 22) hx hb d_M_kindOf_323 (by decide) ?_
                                  exact W.iret (v := 22) hx hb hr (fun t ht hW => ⟨_, rfl, hE, ht⟩) (fun q h => by cases h) d_M_kindOf_325
                              · have hE := hE.2 cc305
                                refine lv_bipush (v := 21) hx hb d_M_kindOf_308 (by decide) ?_
                                exact W.iret (v := 21) hx hb hr (fun t ht hW => ⟨_, rfl, hE, ht⟩) (fun q h => by cases h) d_M_kindOf_310
                            · have hE := hE.2 cc290
                              refine lv_bipush (v := 20) hx hb d_M_kindOf_293 (by decide) ?_
                              exact W.iret (v := 20) hx hb hr (fun t ht hW => ⟨_, rfl, hE, ht⟩) (fun q h => by cases h) d_M_kindOf_295
                          · have hE := hE.2 cc275
                            refine lv_bipush (v := 19) hx hb d_M_kindOf_278 (by decide) ?_
                            exact W.iret (v := 19) hx hb hr (fun t ht hW => ⟨_, rfl, hE, ht⟩) (fun q h => by cases h) d_M_kindOf_280
                        · have hE := hE.2 cc260
                          refine lv_bipush (v := 18) hx hb d_M_kindOf_263 (by decide) ?_
                          exact W.iret (v := 18) hx hb hr (fun t ht hW => ⟨_, rfl, hE, ht⟩) (fun q h => by cases h) d_M_kindOf_265
                      · have hE := hE.2 cc245
                        refine lv_bipush (v := 17) hx hb d_M_kindOf_248 (by decide) ?_
                        exact W.iret (v := 17) hx hb hr (fun t ht hW => ⟨_, rfl, hE, ht⟩) (fun q h => by cases h) d_M_kindOf_250
                    · have hE := hE.2 cc229
                      refine lv_bipush (v := 16) hx hb d_M_kindOf_232 (by decide) ?_
                      exact W.iret (v := 16) hx hb hr (fun t ht hW => ⟨_, rfl, hE, ht⟩) (fun q h => by cases h) d_M_kindOf_234
                  · have hE := hE.2 cc214
                    refine lv_bipush (v := 9) hx hb d_M_kindOf_217 (by decide) ?_
                    exact W.iret (v := 9) hx hb hr (fun t ht hW => ⟨_, rfl, hE, ht⟩) (fun q h => by cases h) d_M_kindOf_219
                · have hE := hE.2 cc199
                  refine lv_bipush (v := 8) hx hb d_M_kindOf_202 (by decide) ?_
                  exact W.iret (v := 8) hx hb hr (fun t ht hW => ⟨_, rfl, hE, ht⟩) (fun q h => by cases h) d_M_kindOf_204
              · have hE := hE.2 cc184
                refine lv_bipush (v := 7) hx hb d_M_kindOf_187 (by decide) ?_
                exact W.iret (v := 7) hx hb hr (fun t ht hW => ⟨_, rfl, hE, ht⟩) (fun q h => by cases h) d_M_kindOf_189
            · have hE := hE.2 cc169
              refine lv_bipush (v := 6) hx hb d_M_kindOf_172 (by decide) ?_
              exact W.iret (v := 6) hx hb hr (fun t ht hW => ⟨_, rfl, hE, ht⟩) (fun q h => by cases h) d_M_kindOf_174
          · have hE := hE.2 cc155
            refine lv_iconst (v := 4) hx hb d_M_kindOf_158 (by decide) ?_
            exact W.iret (v := 4) hx hb hr (fun t ht hW => ⟨_, rfl, hE, ht⟩) (fun q h => by cases h) d_M_kindOf_159
        · have hE := hE.2 cc141
          refine lv_iconst (v := 3) hx hb d_M_kindOf_144 (by decide) ?_
          exact W.iret (v := 3) hx hb hr (fun t ht hW => ⟨_, rfl, hE, ht⟩) (fun q h => by cases h) d_M_kindOf_145
      · have hE := hE.2 cc127
        refine lv_iconst (v := 2) hx hb d_M_kindOf_130 (by decide) ?_
        exact W.iret (v := 2) hx hb hr (fun t ht hW => ⟨_, rfl, hE, ht⟩) (fun q h => by cases h) d_M_kindOf_131
    · have hE := hE.2 cc113
      refine lv_iconst (v := 1) hx hb d_M_kindOf_116 (by decide) ?_
      exact W.iret (v := 1) hx hb hr (fun t ht hW => ⟨_, rfl, hE, ht⟩) (fun q h => by cases h) d_M_kindOf_117
  have J68 : ∀ (v1 : Int32) (v2 : Int32) (v3 : Int32) (ls : Array Slot) (hl : lv_has ls 4 [(0, .ref (mA md 0)), (1, .int v1), (2, .int v2), (3, .int v3)]) (hE : w_M_kindOf_J68 σ post v1 v2 v3), W p l e (headSpec ws_M_kindOf { frames := 5, cells := 0, slots := 0, locals := 108 }).room s m ([.ref (mA md 0), .int x0] : List Value).toArray below meth c s.heap [] 0 0 (MQ below (vp_Si post) ([.ref (mA md 0), .int x0] : List Value).toArray s 0 0 (fun _ => False)) (F0 m 68 ls []) := by
    intro  v1 v2 v3 ls hl hE
    unfold w_M_kindOf_J68 at hE
    refine lv_iload_n hx hb d_M_kindOf_68 rfl (lv_at hl 2 rfl) ?_
    refine lv_bipush (v := 10) hx hb d_M_kindOf_69 (by decide) ?_
    refine lv_icmp_ne (tgt := 104) hx hb d_M_kindOf_71 (by decide) (fun cc71 => ?_) (fun cc71 => ?_)
    · have hE := hE.2 cc71
      exact J104  v1 _ (lv_sub hl [0, 1] rfl) hE
    · have hE := hE.1 cc71
      refine lv_aload_n hx hb d_M_kindOf_74 rfl (lv_at hl 0 rfl) ?_
      refine lv_iload_n hx hb d_M_kindOf_75 rfl (lv_at hl 3 rfl) ?_
      refine lv_ldc2 hx hb hown (hta _ cl_M_224) d_M_kindOf_76 ?_
      refine lv_bipush (v := 8) hx hb d_M_kindOf_79 (by decide) ?_
      refine ro_V (b0 := (mA md 0)) (As := [.int v3, .long 7092165985996731759, .int 8]) (rest := []) ⟨hx, hb, hml, hown, hta⟩ (c_M_says l md σ v3 7092165985996731759 8  _ hE) ok_M_124 ⟨Nat.le_of_ble_eq_true rfl, Nat.le_of_ble_eq_true rfl⟩ blind_rM (va_recv hK hP (ci := 7) (q0 := 0) rfl rfl) (rM_of hP hK) rfl hl.1 rfl (Nat.le_of_ble_eq_true rfl) d_M_kindOf_81 ⟨Nat.zero_le _, Nat.zero_le _⟩ (fun r81 hE => ?_)
      refine lv_if_eq (tgt := 104) hx hb d_M_kindOf_84 (by decide) (fun cc84 => ?_) (fun cc84 => ?_)
      · have hE := hE.1 cc84
        exact J104  v1 _ (lv_sub hl [0, 1] rfl) hE
      · have hE := hE.2 cc84
        refine lv_aload_n hx hb d_M_kindOf_87 rfl (lv_at hl 0 rfl) ?_
        refine lv_iload_n hx hb d_M_kindOf_88 rfl (lv_at hl 3 rfl) ?_
        refine lv_bipush (v := 8) hx hb d_M_kindOf_89 (by decide) ?_
        refine lv_iadd hx hb d_M_kindOf_91 ?_
        refine lv_ldc2 hx hb hown (hta _ cl_M_226) d_M_kindOf_92 ?_
        refine lv_iconst (v := 2) hx hb d_M_kindOf_95 (by decide) ?_
        refine ro_V (b0 := (mA md 0)) (As := [.int (v3 + 8), .long 29797, .int 2]) (rest := []) ⟨hx, hb, hml, hown, hta⟩ (c_M_says l md σ (v3 + 8) 29797 2  _ hE) ok_M_124 ⟨Nat.le_of_ble_eq_true rfl, Nat.le_of_ble_eq_true rfl⟩ blind_rM (va_recv hK hP (ci := 7) (q0 := 0) rfl rfl) (rM_of hP hK) rfl hl.1 rfl (Nat.le_of_ble_eq_true rfl) d_M_kindOf_96 ⟨Nat.zero_le _, Nat.zero_le _⟩ (fun r96 hE => ?_)
        refine lv_if_eq (tgt := 104) hx hb d_M_kindOf_99 (by decide) (fun cc99 => ?_) (fun cc99 => ?_)
        · have hE := hE.1 cc99
          exact J104  v1 _ (lv_sub hl [0, 1] rfl) hE
        · have hE := hE.2 cc99
          refine lv_iconst (v := 5) hx hb d_M_kindOf_102 (by decide) ?_
          exact W.iret (v := 5) hx hb hr (fun t ht hW => ⟨_, rfl, hE, ht⟩) (fun q h => by cases h) d_M_kindOf_103
  unfold w_M_kindOf at hE
  refine lv_aload_n hx hb d_M_kindOf_0 rfl (lv_at hl 0 rfl) ?_
  refine lv_iload_n hx hb d_M_kindOf_1 rfl (lv_at hl 1 rfl) ?_
  refine ro_V (b0 := (mA md 0)) (As := [.int x0]) (rest := []) ⟨hx, hb, hml, hown, hta⟩ (c_M_nameSize l md σ x0  _ hE) ok_M_221 ⟨Nat.le_of_ble_eq_true rfl, Nat.le_of_ble_eq_true rfl⟩ blind_rM (va_recv hK hP (ci := 7) (q0 := 0) rfl rfl) (rM_of hP hK) rfl hl.1 rfl (Nat.le_of_ble_eq_true rfl) d_M_kindOf_2 ⟨Nat.zero_le _, Nat.zero_le _⟩ (fun r2 hE => ?_)
  refine lv_istore_n (lv' := [(2, .int r2), (0, .ref (mA md 0)), (1, .int x0)]) hx hb d_M_kindOf_5 rfl hl (by decide) rfl (fun ls hl => ?_)
  refine lv_aload_n hx hb d_M_kindOf_6 rfl (lv_at hl 1 rfl) ?_
  refine va_get (D := (mG md)) (ci := 7) (v := .ref (mA md 9)) (C := R_M) (T := F_M) (N := 37) hx hb hta i_M hown hK hP 0 rfl rfl 24 (by decide) (hta _ fl_M_40) (fun _ h9 => h9) rfl d_M_kindOf_7 ?_
  refine lv_iload_n hx hb d_M_kindOf_10 rfl (lv_at hl 2 rfl) ?_
  obtain ⟨hI11, hE⟩ := hE
  refine va_iald (D := (mG md)) (f := mp_begins σ) hx hb hK hP 9 0 rfl rfl hI11 d_M_kindOf_11 ?_
  refine lv_iconst (v := 1) hx hb d_M_kindOf_12 (by decide) ?_
  refine lv_iadd hx hb d_M_kindOf_13 ?_
  refine lv_istore_n (lv' := [(3, .int (((mp_begins σ) x0.toNatClampNeg) + 1)), (2, .int r2), (0, .ref (mA md 0)), (1, .int x0)]) hx hb d_M_kindOf_14 rfl hl (by decide) rfl (fun ls hl => ?_)
  refine lv_iload_n hx hb d_M_kindOf_15 rfl (lv_at hl 1 rfl) ?_
  refine lv_iconst (v := 2) hx hb d_M_kindOf_16 (by decide) ?_
  refine lv_icmp_ne (tgt := 68) hx hb d_M_kindOf_17 (by decide) (fun cc17 => ?_) (fun cc17 => ?_)
  · have hE := hE.2 cc17
    exact J68  x0 r2 (((mp_begins σ) x0.toNatClampNeg) + 1) _ (lv_sub hl [2, 3, 1, 0] rfl) hE
  · have hE := hE.1 cc17
    refine lv_aload_n hx hb d_M_kindOf_20 rfl (lv_at hl 2 rfl) ?_
    refine lv_iload_n hx hb d_M_kindOf_21 rfl (lv_at hl 0 rfl) ?_
    refine ro_V (b0 := (mA md 0)) (As := [.int (((mp_begins σ) x0.toNatClampNeg) + 1)]) (rest := []) ⟨hx, hb, hml, hown, hta⟩ (c_M_x l md σ (((mp_begins σ) x0.toNatClampNeg) + 1)  _ hE) ok_M_95 ⟨Nat.le_of_ble_eq_true rfl, Nat.le_of_ble_eq_true rfl⟩ blind_rM (va_recv hK hP (ci := 7) (q0 := 0) rfl rfl) (rM_of hP hK) rfl hl.1 rfl (Nat.le_of_ble_eq_true rfl) d_M_kindOf_22 ⟨Nat.zero_le _, Nat.zero_le _⟩ (fun r22 hE => ?_)
    refine lv_bipush (v := 104) hx hb d_M_kindOf_25 (by decide) ?_
    refine lv_icmp_ne (tgt := 68) hx hb d_M_kindOf_27 (by decide) (fun cc27 => ?_) (fun cc27 => ?_)
    · have hE := hE.2 cc27
      exact J68  x0 r2 (((mp_begins σ) x0.toNatClampNeg) + 1) _ (lv_sub hl [2, 3, 1, 0] rfl) hE
    · have hE := hE.1 cc27
      refine lv_aload_n hx hb d_M_kindOf_30 rfl (lv_at hl 2 rfl) ?_
      refine lv_iload_n hx hb d_M_kindOf_31 rfl (lv_at hl 0 rfl) ?_
      refine lv_iconst (v := 1) hx hb d_M_kindOf_32 (by decide) ?_
      refine lv_iadd hx hb d_M_kindOf_33 ?_
      refine ro_V (b0 := (mA md 0)) (As := [.int ((((mp_begins σ) x0.toNatClampNeg) + 1) + 1)]) (rest := []) ⟨hx, hb, hml, hown, hta⟩ (c_M_x l md σ ((((mp_begins σ) x0.toNatClampNeg) + 1) + 1)  _ hE) ok_M_95 ⟨Nat.le_of_ble_eq_true rfl, Nat.le_of_ble_eq_true rfl⟩ blind_rM (va_recv hK hP (ci := 7) (q0 := 0) rfl rfl) (rM_of hP hK) rfl hl.1 rfl (Nat.le_of_ble_eq_true rfl) d_M_kindOf_34 ⟨Nat.zero_le _, Nat.zero_le _⟩ (fun r34 hE => ?_)
      refine lv_bipush (v := 49) hx hb d_M_kindOf_37 (by decide) ?_
      refine lv_icmp_lt (tgt := 68) hx hb d_M_kindOf_39 (by decide) (fun cc39 => ?_) (fun cc39 => ?_)
      · have hE := hE.1 cc39
        exact J68  x0 r2 (((mp_begins σ) x0.toNatClampNeg) + 1) _ (lv_sub hl [2, 3, 1, 0] rfl) hE
      · have hE := hE.2 cc39
        refine lv_aload_n hx hb d_M_kindOf_42 rfl (lv_at hl 2 rfl) ?_
        refine lv_iload_n hx hb d_M_kindOf_43 rfl (lv_at hl 0 rfl) ?_
        refine lv_iconst (v := 1) hx hb d_M_kindOf_44 (by decide) ?_
        refine lv_iadd hx hb d_M_kindOf_45 ?_
        refine ro_V (b0 := (mA md 0)) (As := [.int ((((mp_begins σ) x0.toNatClampNeg) + 1) + 1)]) (rest := []) ⟨hx, hb, hml, hown, hta⟩ (c_M_x l md σ ((((mp_begins σ) x0.toNatClampNeg) + 1) + 1)  _ hE) ok_M_95 ⟨Nat.le_of_ble_eq_true rfl, Nat.le_of_ble_eq_true rfl⟩ blind_rM (va_recv hK hP (ci := 7) (q0 := 0) rfl rfl) (rM_of hP hK) rfl hl.1 rfl (Nat.le_of_ble_eq_true rfl) d_M_kindOf_46 ⟨Nat.zero_le _, Nat.zero_le _⟩ (fun r46 hE => ?_)
        refine lv_bipush (v := 54) hx hb d_M_kindOf_49 (by decide) ?_
        refine lv_icmp_gt (tgt := 68) hx hb d_M_kindOf_51 (by decide) (fun cc51 => ?_) (fun cc51 => ?_)
        · have hE := hE.1 cc51
          exact J68  x0 r2 (((mp_begins σ) x0.toNatClampNeg) + 1) _ (lv_sub hl [2, 3, 1, 0] rfl) hE
        · have hE := hE.2 cc51
          refine lv_bipush (v := 10) hx hb d_M_kindOf_54 (by decide) ?_
          refine lv_aload_n hx hb d_M_kindOf_56 rfl (lv_at hl 2 rfl) ?_
          refine lv_iload_n hx hb d_M_kindOf_57 rfl (lv_at hl 0 rfl) ?_
          refine lv_iconst (v := 1) hx hb d_M_kindOf_58 (by decide) ?_
          refine lv_iadd hx hb d_M_kindOf_59 ?_
          refine ro_V (b0 := (mA md 0)) (As := [.int ((((mp_begins σ) x0.toNatClampNeg) + 1) + 1)]) (rest := [.int 10]) ⟨hx, hb, hml, hown, hta⟩ (c_M_x l md σ ((((mp_begins σ) x0.toNatClampNeg) + 1) + 1)  _ hE) ok_M_95 ⟨Nat.le_of_ble_eq_true rfl, Nat.le_of_ble_eq_true rfl⟩ blind_rM (va_recv hK hP (ci := 7) (q0 := 0) rfl rfl) (rM_of hP hK) rfl hl.1 rfl (Nat.le_of_ble_eq_true rfl) d_M_kindOf_60 ⟨Nat.zero_le _, Nat.zero_le _⟩ (fun r60 hE => ?_)
          refine lv_iadd hx hb d_M_kindOf_63 ?_
          refine lv_bipush (v := 49) hx hb d_M_kindOf_64 (by decide) ?_
          refine lv_isub hx hb d_M_kindOf_66 ?_
          exact W.iret (v := (10 + r60) - 49) hx hb hr (fun t ht hW => ⟨_, rfl, hE, ht⟩) (fun q h => by cases h) d_M_kindOf_67
theorem fl_M_46 : Cond.fieldLink "PlainPagesModel" 46 "PlainPagesModel" "up" "[I" ∈ aW := aW_in 930 (by decide +kernel) rfl
theorem ok_M_302 : okV "PlainPagesModel" 302 R_M y_M_kindOf b_M_kindOf 4 (some .int) 1 := ⟨aW_in 1147 (by decide +kernel) rfl, aW_in 1149 (by decide +kernel) rfl, aW_in 59 (by decide +kernel) rfl, aW_in 92 (by decide +kernel) rfl, cd_M_kindOf, rfl, by decide +kernel, by decide +kernel, by decide +kernel⟩
theorem d_M_isInAnchor_0 : decode b_M_isInAnchor 0 = .ok (.aload_n 0, 1) := by decide +kernel
theorem d_M_isInAnchor_1 : decode b_M_isInAnchor 1 = .ok (.getfield 46, 3) := by decide +kernel
theorem d_M_isInAnchor_4 : decode b_M_isInAnchor 4 = .ok (.iload_n 1, 1) := by decide +kernel
theorem d_M_isInAnchor_5 : decode b_M_isInAnchor 5 = .ok (.iaload, 1) := by decide +kernel
theorem d_M_isInAnchor_6 : decode b_M_isInAnchor 6 = .ok (.istore_n 2, 1) := by decide +kernel
theorem d_M_isInAnchor_7 : decode b_M_isInAnchor 7 = .ok (.iload_n 2, 1) := by decide +kernel
theorem d_M_isInAnchor_8 : decode b_M_isInAnchor 8 = .ok (.ifCond .lt 23, 3) := by decide +kernel
theorem d_M_isInAnchor_11 : decode b_M_isInAnchor 11 = .ok (.aload_n 0, 1) := by decide +kernel
theorem d_M_isInAnchor_12 : decode b_M_isInAnchor 12 = .ok (.iload_n 2, 1) := by decide +kernel
theorem d_M_isInAnchor_13 : decode b_M_isInAnchor 13 = .ok (.invokevirtual 302, 3) := by decide +kernel
theorem d_M_isInAnchor_16 : decode b_M_isInAnchor 16 = .ok (.bipush 18, 2) := by decide +kernel
theorem d_M_isInAnchor_18 : decode b_M_isInAnchor 18 = .ok (.if_icmp .eq 13, 3) := by decide +kernel
theorem d_M_isInAnchor_21 : decode b_M_isInAnchor 21 = .ok (.aload_n 0, 1) := by decide +kernel
theorem d_M_isInAnchor_22 : decode b_M_isInAnchor 22 = .ok (.getfield 46, 3) := by decide +kernel
theorem d_M_isInAnchor_25 : decode b_M_isInAnchor 25 = .ok (.iload_n 2, 1) := by decide +kernel
theorem d_M_isInAnchor_26 : decode b_M_isInAnchor 26 = .ok (.iaload, 1) := by decide +kernel
theorem d_M_isInAnchor_27 : decode b_M_isInAnchor 27 = .ok (.istore_n 2, 1) := by decide +kernel
theorem d_M_isInAnchor_28 : decode b_M_isInAnchor 28 = .ok (.goto (-21), 3) := by decide +kernel
theorem d_M_isInAnchor_31 : decode b_M_isInAnchor 31 = .ok (.iload_n 2, 1) := by decide +kernel
theorem d_M_isInAnchor_32 : decode b_M_isInAnchor 32 = .ok (.ifCond .lt 7, 3) := by decide +kernel
theorem d_M_isInAnchor_35 : decode b_M_isInAnchor 35 = .ok (.iconst 1, 1) := by decide +kernel
theorem d_M_isInAnchor_36 : decode b_M_isInAnchor 36 = .ok (.goto 4, 3) := by decide +kernel
theorem d_M_isInAnchor_39 : decode b_M_isInAnchor 39 = .ok (.iconst 0, 1) := by decide +kernel
theorem d_M_isInAnchor_40 : decode b_M_isInAnchor 40 = .ok (.ireturn, 1) := by decide +kernel
def w_M_isInAnchor_J31  (σ : MPS) (post : Int32 → Prop) (v2 : Int32) : Prop := ((v2 < 0 → post 0) ∧ (¬ v2 < 0 → post 1))
def w_M_isInAnchor_L7  (σ : MPS) (post : Int32 → Prop) : Nat → Int32 → Prop
  | 0, _ => False
  | n + 1, v2 => ((v2 < 0 → w_M_isInAnchor_J31 σ post v2) ∧ (¬ v2 < 0 → w_M_kindOf σ v2 (fun r13 => ((r13 = 18 → w_M_isInAnchor_J31 σ post v2) ∧ (¬ r13 = 18 → (vp_in v2 1000 ∧ w_M_isInAnchor_L7 σ post n ((mp_up σ) v2.toNatClampNeg)))))))
def w_M_isInAnchor  (σ : MPS) (x0 : Int32) (post : Int32 → Prop) : Prop := (vp_in x0 1000 ∧ (∃ n, w_M_isInAnchor_L7 σ post n ((mp_up σ) x0.toNatClampNeg)))
set_option maxHeartbeats 4000000 in
set_option maxRecDepth 100000 in
theorem c_M_isInAnchor (l : Launch) (md : MD) (σ : MPS) (x0 : Int32)  (post : Int32 → Prop) (hE : w_M_isInAnchor σ x0 post) : Met l y_M_isInAnchor ws_M_isInAnchor { frames := 6, cells := 0, slots := 0, locals := 131 } (va_Pc [.ref (mA md 0), .int x0] (rM md σ)) (vp_Si post) 0 0 (fun _ => False) := by
  refine Met.ofW (cc := b_M_isInAnchor) (maxL := 3) (ret := (some .boolean)) (by decide) rfl ?_
  intro p e s m args below meth c s₁ B hml hv
  obtain ⟨rfl, hP, hK⟩ := hv
  have hS : va_S (fun _ : Nat => False) s.heap s.heap [] := va_S.rf
  have hx := B.exec
  have hb := B.bytes
  have hr := B.returns
  have hta : ∀ w ∈ aW, w.before _ s = true := fun w h => atoms_spec (ws := ws_M_isInAnchor) B.pre w (List.mem_cons_of_mem _ h)
  have hown : s.vm.findClass R_M = some m.cls := findClass_of_methodNamed B.named
  have hlocks := B.notSynchronized
  have hl := lv_entry ([.ref (mA md 0), .int x0]) (n := 3) (Nat.le_of_ble_eq_true rfl)
  rw [lg_entry_eq]
  generalize (lg_sl ([.ref (mA md 0), .int x0]) ++ List.replicate (3 - (lg_sl ([.ref (mA md 0), .int x0])).length) Slot.unset).toArray = ls at hl ⊢
  have hl : lv_has ls 3 [(0, .ref (mA md 0)), (1, .int x0)] := hl
  have J31 : ∀ (v2 : Int32) (ls : Array Slot) (hl : lv_has ls 3 [(2, .int v2)]) (hE : w_M_isInAnchor_J31 σ post v2), W p l e (headSpec ws_M_isInAnchor { frames := 6, cells := 0, slots := 0, locals := 131 }).room s m ([.ref (mA md 0), .int x0] : List Value).toArray below meth c s.heap [] 0 0 (MQ below (vp_Si post) ([.ref (mA md 0), .int x0] : List Value).toArray s 0 0 (fun _ => False)) (F0 m 31 ls []) := by
    intro  v2 ls hl hE
    unfold w_M_isInAnchor_J31 at hE
    refine lv_iload_n hx hb d_M_isInAnchor_31 rfl (lv_at hl 0 rfl) ?_
    refine lv_if_lt (tgt := 39) hx hb d_M_isInAnchor_32 (by decide) (fun cc32 => ?_) (fun cc32 => ?_)
    · have hE := hE.1 cc32
      refine lv_iconst (v := 0) hx hb d_M_isInAnchor_39 (by decide) ?_
      exact W.zret (v := 0) hx hb hr rfl (fun t ht hW => ⟨_, rfl, hE, ht⟩) (fun q h => by cases h) d_M_isInAnchor_40
    · have hE := hE.2 cc32
      refine lv_iconst (v := 1) hx hb d_M_isInAnchor_35 (by decide) ?_
      refine lv_goto (tgt := 40) hx hb d_M_isInAnchor_36 (by decide) ?_
      exact W.zret (v := 1) hx hb hr rfl (fun t ht hW => ⟨_, rfl, hE, ht⟩) (fun q h => by cases h) d_M_isInAnchor_40
  have L7 : ∀ (n : Nat) (v2 : Int32) (ls : Array Slot) (hl : lv_has ls 3 [(0, .ref (mA md 0)), (2, .int v2)]) (hE : w_M_isInAnchor_L7 σ post n v2), W p l e (headSpec ws_M_isInAnchor { frames := 6, cells := 0, slots := 0, locals := 131 }).room s m ([.ref (mA md 0), .int x0] : List Value).toArray below meth c s.heap [] 0 0 (MQ below (vp_Si post) ([.ref (mA md 0), .int x0] : List Value).toArray s 0 0 (fun _ => False)) (F0 m 7 ls []) := by
    intro n
    induction n with
    | zero => intro v2 ls hl hE; exact hE.elim
    | succ n ih7 =>
      intro v2 ls hl hE
      unfold w_M_isInAnchor_L7 at hE
      refine lv_iload_n hx hb d_M_isInAnchor_7 rfl (lv_at hl 1 rfl) ?_
      refine lv_if_lt (tgt := 31) hx hb d_M_isInAnchor_8 (by decide) (fun cc8 => ?_) (fun cc8 => ?_)
      · have hE := hE.1 cc8
        exact J31  v2 _ (lv_sub hl [1] rfl) hE
      · have hE := hE.2 cc8
        refine lv_aload_n hx hb d_M_isInAnchor_11 rfl (lv_at hl 0 rfl) ?_
        refine lv_iload_n hx hb d_M_isInAnchor_12 rfl (lv_at hl 1 rfl) ?_
        refine ro_V (b0 := (mA md 0)) (As := [.int v2]) (rest := []) ⟨hx, hb, hml, hown, hta⟩ (c_M_kindOf l md σ v2  _ hE) ok_M_302 ⟨Nat.le_of_ble_eq_true rfl, Nat.le_of_ble_eq_true rfl⟩ blind_rM (va_recv hK hP (ci := 7) (q0 := 0) rfl rfl) (rM_of hP hK) rfl hl.1 rfl (Nat.le_of_ble_eq_true rfl) d_M_isInAnchor_13 ⟨Nat.zero_le _, Nat.zero_le _⟩ (fun r13 hE => ?_)
        refine lv_bipush (v := 18) hx hb d_M_isInAnchor_16 (by decide) ?_
        refine lv_icmp_eq (tgt := 31) hx hb d_M_isInAnchor_18 (by decide) (fun cc18 => ?_) (fun cc18 => ?_)
        · have hE := hE.1 cc18
          exact J31  v2 _ (lv_sub hl [1] rfl) hE
        · have hE := hE.2 cc18
          refine lv_aload_n hx hb d_M_isInAnchor_21 rfl (lv_at hl 0 rfl) ?_
          refine va_get (D := (mG md)) (ci := 7) (v := .ref (mA md 11)) (C := R_M) (T := F_M) (N := 37) hx hb hta i_M hown hK hP 0 rfl rfl 26 (by decide) (hta _ fl_M_46) (fun _ h9 => h9) rfl d_M_isInAnchor_22 ?_
          refine lv_iload_n hx hb d_M_isInAnchor_25 rfl (lv_at hl 1 rfl) ?_
          obtain ⟨hI26, hE⟩ := hE
          refine va_iald (D := (mG md)) (f := mp_up σ) hx hb hK hP 11 0 rfl rfl hI26 d_M_isInAnchor_26 ?_
          refine lv_istore_n (lv' := [(2, .int ((mp_up σ) v2.toNatClampNeg)), (0, .ref (mA md 0))]) hx hb d_M_isInAnchor_27 rfl hl (by decide) rfl (fun ls hl => ?_)
          refine lv_goto (tgt := 7) hx hb d_M_isInAnchor_28 (by decide) ?_
          exact ih7 ((mp_up σ) v2.toNatClampNeg) _ (lv_sub hl [1, 0] rfl) hE
  unfold w_M_isInAnchor at hE
  refine lv_aload_n hx hb d_M_isInAnchor_0 rfl (lv_at hl 0 rfl) ?_
  refine va_get (D := (mG md)) (ci := 7) (v := .ref (mA md 11)) (C := R_M) (T := F_M) (N := 37) hx hb hta i_M hown hK hP 0 rfl rfl 26 (by decide) (hta _ fl_M_46) (fun _ h9 => h9) rfl d_M_isInAnchor_1 ?_
  refine lv_iload_n hx hb d_M_isInAnchor_4 rfl (lv_at hl 1 rfl) ?_
  obtain ⟨hI5, hE⟩ := hE
  refine va_iald (D := (mG md)) (f := mp_up σ) hx hb hK hP 11 0 rfl rfl hI5 d_M_isInAnchor_5 ?_
  refine lv_istore_n (lv' := [(2, .int ((mp_up σ) x0.toNatClampNeg)), (0, .ref (mA md 0)), (1, .int x0)]) hx hb d_M_isInAnchor_6 rfl hl (by decide) rfl (fun ls hl => ?_)
  obtain ⟨n, hE⟩ := hE
  exact L7  n ((mp_up σ) x0.toNatClampNeg) _ (lv_sub hl [1, 0] rfl) hE
theorem fl_M_49 : Cond.fieldLink "PlainPagesModel" 49 "PlainPagesModel" "first" "[I" ∈ aW := aW_in 931 (by decide +kernel) rfl
theorem fl_M_52 : Cond.fieldLink "PlainPagesModel" 52 "PlainPagesModel" "next" "[I" ∈ aW := aW_in 932 (by decide +kernel) rfl
theorem d_M_holdsAll_0 : decode b_M_holdsAll 0 = .ok (.iload_n 2, 1) := by decide +kernel
theorem d_M_holdsAll_1 : decode b_M_holdsAll 1 = .ok (.iconst 1, 1) := by decide +kernel
theorem d_M_holdsAll_2 : decode b_M_holdsAll 2 = .ok (.if_icmp .eq 16, 3) := by decide +kernel
theorem d_M_holdsAll_5 : decode b_M_holdsAll 5 = .ok (.iload_n 2, 1) := by decide +kernel
theorem d_M_holdsAll_6 : decode b_M_holdsAll 6 = .ok (.iconst 2, 1) := by decide +kernel
theorem d_M_holdsAll_7 : decode b_M_holdsAll 7 = .ok (.if_icmp .eq 11, 3) := by decide +kernel
theorem d_M_holdsAll_10 : decode b_M_holdsAll 10 = .ok (.iload_n 2, 1) := by decide +kernel
theorem d_M_holdsAll_11 : decode b_M_holdsAll 11 = .ok (.bipush 19, 2) := by decide +kernel
theorem d_M_holdsAll_13 : decode b_M_holdsAll 13 = .ok (.if_icmp .eq 5, 3) := by decide +kernel
theorem d_M_holdsAll_16 : decode b_M_holdsAll 16 = .ok (.iconst 1, 1) := by decide +kernel
theorem d_M_holdsAll_17 : decode b_M_holdsAll 17 = .ok (.ireturn, 1) := by decide +kernel
theorem d_M_holdsAll_18 : decode b_M_holdsAll 18 = .ok (.iconst 0, 1) := by decide +kernel
theorem d_M_holdsAll_19 : decode b_M_holdsAll 19 = .ok (.istore_n 3, 1) := by decide +kernel
theorem d_M_holdsAll_20 : decode b_M_holdsAll 20 = .ok (.iconst 1, 1) := by decide +kernel
theorem d_M_holdsAll_21 : decode b_M_holdsAll 21 = .ok (.istore 4, 2) := by decide +kernel
theorem d_M_holdsAll_23 : decode b_M_holdsAll 23 = .ok (.aload_n 0, 1) := by decide +kernel
theorem d_M_holdsAll_24 : decode b_M_holdsAll 24 = .ok (.getfield 49, 3) := by decide +kernel
theorem d_M_holdsAll_27 : decode b_M_holdsAll 27 = .ok (.iload_n 1, 1) := by decide +kernel
theorem d_M_holdsAll_28 : decode b_M_holdsAll 28 = .ok (.iaload, 1) := by decide +kernel
theorem d_M_holdsAll_29 : decode b_M_holdsAll 29 = .ok (.istore 5, 2) := by decide +kernel
theorem d_M_holdsAll_31 : decode b_M_holdsAll 31 = .ok (.iload 5, 2) := by decide +kernel
theorem d_M_holdsAll_33 : decode b_M_holdsAll 33 = .ok (.ifCond .lt 119, 3) := by decide +kernel
theorem d_M_holdsAll_36 : decode b_M_holdsAll 36 = .ok (.iload 4, 2) := by decide +kernel
theorem d_M_holdsAll_38 : decode b_M_holdsAll 38 = .ok (.ifCond .eq 114, 3) := by decide +kernel
theorem d_M_holdsAll_41 : decode b_M_holdsAll 41 = .ok (.aload_n 0, 1) := by decide +kernel
theorem d_M_holdsAll_42 : decode b_M_holdsAll 42 = .ok (.getfield 36, 3) := by decide +kernel
theorem d_M_holdsAll_45 : decode b_M_holdsAll 45 = .ok (.iload 5, 2) := by decide +kernel
theorem d_M_holdsAll_47 : decode b_M_holdsAll 47 = .ok (.baload, 1) := by decide +kernel
theorem d_M_holdsAll_48 : decode b_M_holdsAll 48 = .ok (.ifCond .ne 6, 3) := by decide +kernel
theorem d_M_holdsAll_51 : decode b_M_holdsAll 51 = .ok (.goto 89, 3) := by decide +kernel
theorem d_M_holdsAll_54 : decode b_M_holdsAll 54 = .ok (.aload_n 0, 1) := by decide +kernel
theorem d_M_holdsAll_55 : decode b_M_holdsAll 55 = .ok (.iload 5, 2) := by decide +kernel
theorem d_M_holdsAll_57 : decode b_M_holdsAll 57 = .ok (.invokevirtual 302, 3) := by decide +kernel
theorem d_M_holdsAll_60 : decode b_M_holdsAll 60 = .ok (.istore 6, 2) := by decide +kernel
theorem d_M_holdsAll_62 : decode b_M_holdsAll 62 = .ok (.iload_n 2, 1) := by decide +kernel
theorem d_M_holdsAll_63 : decode b_M_holdsAll 63 = .ok (.iconst 1, 1) := by decide +kernel
theorem d_M_holdsAll_64 : decode b_M_holdsAll 64 = .ok (.if_icmp .ne 32, 3) := by decide +kernel
theorem d_M_holdsAll_67 : decode b_M_holdsAll 67 = .ok (.iload_n 3, 1) := by decide +kernel
theorem d_M_holdsAll_68 : decode b_M_holdsAll 68 = .ok (.ifCond .ne 9, 3) := by decide +kernel
theorem d_M_holdsAll_71 : decode b_M_holdsAll 71 = .ok (.iload 6, 2) := by decide +kernel
theorem d_M_holdsAll_73 : decode b_M_holdsAll 73 = .ok (.iconst 2, 1) := by decide +kernel
theorem d_M_holdsAll_74 : decode b_M_holdsAll 74 = .ok (.if_icmp .eq 14, 3) := by decide +kernel
theorem d_M_holdsAll_77 : decode b_M_holdsAll 77 = .ok (.iload_n 3, 1) := by decide +kernel
theorem d_M_holdsAll_78 : decode b_M_holdsAll 78 = .ok (.iconst 1, 1) := by decide +kernel
theorem d_M_holdsAll_79 : decode b_M_holdsAll 79 = .ok (.if_icmp .ne 13, 3) := by decide +kernel
theorem d_M_holdsAll_82 : decode b_M_holdsAll 82 = .ok (.iload 6, 2) := by decide +kernel
theorem d_M_holdsAll_84 : decode b_M_holdsAll 84 = .ok (.iconst 4, 1) := by decide +kernel
theorem d_M_holdsAll_85 : decode b_M_holdsAll 85 = .ok (.if_icmp .ne 7, 3) := by decide +kernel
theorem d_M_holdsAll_88 : decode b_M_holdsAll 88 = .ok (.iconst 1, 1) := by decide +kernel
theorem d_M_holdsAll_89 : decode b_M_holdsAll 89 = .ok (.goto 46, 3) := by decide +kernel
theorem d_M_holdsAll_92 : decode b_M_holdsAll 92 = .ok (.iconst 0, 1) := by decide +kernel
theorem d_M_holdsAll_93 : decode b_M_holdsAll 93 = .ok (.goto 42, 3) := by decide +kernel
theorem d_M_holdsAll_96 : decode b_M_holdsAll 96 = .ok (.iload_n 2, 1) := by decide +kernel
theorem d_M_holdsAll_97 : decode b_M_holdsAll 97 = .ok (.iconst 2, 1) := by decide +kernel
theorem d_M_holdsAll_98 : decode b_M_holdsAll 98 = .ok (.if_icmp .ne 21, 3) := by decide +kernel
theorem d_M_holdsAll_101 : decode b_M_holdsAll 101 = .ok (.iload_n 3, 1) := by decide +kernel
theorem d_M_holdsAll_102 : decode b_M_holdsAll 102 = .ok (.ifCond .ne 13, 3) := by decide +kernel
theorem d_M_holdsAll_105 : decode b_M_holdsAll 105 = .ok (.iload 6, 2) := by decide +kernel
theorem d_M_holdsAll_107 : decode b_M_holdsAll 107 = .ok (.iconst 3, 1) := by decide +kernel
theorem d_M_holdsAll_108 : decode b_M_holdsAll 108 = .ok (.if_icmp .ne 7, 3) := by decide +kernel
theorem d_M_holdsAll_111 : decode b_M_holdsAll 111 = .ok (.iconst 1, 1) := by decide +kernel
theorem d_M_holdsAll_112 : decode b_M_holdsAll 112 = .ok (.goto 23, 3) := by decide +kernel
theorem d_M_holdsAll_115 : decode b_M_holdsAll 115 = .ok (.iconst 0, 1) := by decide +kernel
theorem d_M_holdsAll_116 : decode b_M_holdsAll 116 = .ok (.goto 19, 3) := by decide +kernel
theorem d_M_holdsAll_119 : decode b_M_holdsAll 119 = .ok (.iload_n 3, 1) := by decide +kernel
theorem d_M_holdsAll_120 : decode b_M_holdsAll 120 = .ok (.ifCond .ne 14, 3) := by decide +kernel
theorem d_M_holdsAll_123 : decode b_M_holdsAll 123 = .ok (.iload 6, 2) := by decide +kernel
theorem d_M_holdsAll_125 : decode b_M_holdsAll 125 = .ok (.bipush 20, 2) := by decide +kernel
theorem d_M_holdsAll_127 : decode b_M_holdsAll 127 = .ok (.if_icmp .ne 7, 3) := by decide +kernel
theorem d_M_holdsAll_130 : decode b_M_holdsAll 130 = .ok (.iconst 1, 1) := by decide +kernel
theorem d_M_holdsAll_131 : decode b_M_holdsAll 131 = .ok (.goto 4, 3) := by decide +kernel
theorem d_M_holdsAll_134 : decode b_M_holdsAll 134 = .ok (.iconst 0, 1) := by decide +kernel
theorem d_M_holdsAll_135 : decode b_M_holdsAll 135 = .ok (.istore 4, 2) := by decide +kernel
theorem d_M_holdsAll_137 : decode b_M_holdsAll 137 = .ok (.iinc 3 1, 3) := by decide +kernel
theorem d_M_holdsAll_140 : decode b_M_holdsAll 140 = .ok (.aload_n 0, 1) := by decide +kernel
theorem d_M_holdsAll_141 : decode b_M_holdsAll 141 = .ok (.getfield 52, 3) := by decide +kernel
theorem d_M_holdsAll_144 : decode b_M_holdsAll 144 = .ok (.iload 5, 2) := by decide +kernel
theorem d_M_holdsAll_146 : decode b_M_holdsAll 146 = .ok (.iaload, 1) := by decide +kernel
theorem d_M_holdsAll_147 : decode b_M_holdsAll 147 = .ok (.istore 5, 2) := by decide +kernel
theorem d_M_holdsAll_149 : decode b_M_holdsAll 149 = .ok (.goto (-118), 3) := by decide +kernel
theorem d_M_holdsAll_152 : decode b_M_holdsAll 152 = .ok (.iload 4, 2) := by decide +kernel
theorem d_M_holdsAll_154 : decode b_M_holdsAll 154 = .ok (.ifCond .eq 21, 3) := by decide +kernel
theorem d_M_holdsAll_157 : decode b_M_holdsAll 157 = .ok (.iload_n 3, 1) := by decide +kernel
theorem d_M_holdsAll_158 : decode b_M_holdsAll 158 = .ok (.iload_n 2, 1) := by decide +kernel
theorem d_M_holdsAll_159 : decode b_M_holdsAll 159 = .ok (.iconst 1, 1) := by decide +kernel
theorem d_M_holdsAll_160 : decode b_M_holdsAll 160 = .ok (.if_icmp .ne 7, 3) := by decide +kernel
theorem d_M_holdsAll_163 : decode b_M_holdsAll 163 = .ok (.iconst 2, 1) := by decide +kernel
theorem d_M_holdsAll_164 : decode b_M_holdsAll 164 = .ok (.goto 4, 3) := by decide +kernel
theorem d_M_holdsAll_167 : decode b_M_holdsAll 167 = .ok (.iconst 1, 1) := by decide +kernel
theorem d_M_holdsAll_168 : decode b_M_holdsAll 168 = .ok (.if_icmp .ne 7, 3) := by decide +kernel
theorem d_M_holdsAll_171 : decode b_M_holdsAll 171 = .ok (.iconst 1, 1) := by decide +kernel
theorem d_M_holdsAll_172 : decode b_M_holdsAll 172 = .ok (.goto 4, 3) := by decide +kernel
theorem d_M_holdsAll_175 : decode b_M_holdsAll 175 = .ok (.iconst 0, 1) := by decide +kernel
theorem d_M_holdsAll_176 : decode b_M_holdsAll 176 = .ok (.ireturn, 1) := by decide +kernel
def w_M_holdsAll_J168  (σ : MPS) (post : Int32 → Prop) (t0 : Int32) (t1 : Int32) : Prop := ((t1 = t0 → post 1) ∧ (¬ t1 = t0 → post 0))
def w_M_holdsAll_J152  (σ : MPS) (post : Int32 → Prop) (v2 : Int32) (v3 : Int32) (v4 : Int32) : Prop := ((v4 = 0 → post 0) ∧ (¬ v4 = 0 → ((v2 = 1 → w_M_holdsAll_J168 σ post 2 v3) ∧ (¬ v2 = 1 → w_M_holdsAll_J168 σ post 1 v3))))
def w_M_holdsAll_J140  (σ : MPS) (v2 : Int32) (K : Int32 → Int32 → Int32 → Prop) (post : Int32 → Prop) (v3 : Int32) (v4 : Int32) (v5 : Int32) : Prop := (vp_in v5 1000 ∧ K v3 v4 ((mp_next σ) v5.toNatClampNeg))
def w_M_holdsAll_J135  (σ : MPS) (v2 : Int32) (K : Int32 → Int32 → Int32 → Prop) (post : Int32 → Prop) (v3 : Int32) (v5 : Int32) (t0 : Int32) : Prop := w_M_holdsAll_J140 σ v2 (K) post (v3 + 1) t0 v5
def w_M_holdsAll_J134  (σ : MPS) (v2 : Int32) (K : Int32 → Int32 → Int32 → Prop) (post : Int32 → Prop) (v3 : Int32) (v5 : Int32) : Prop := w_M_holdsAll_J135 σ v2 (K) post v3 v5 0
def w_M_holdsAll_J115  (σ : MPS) (v2 : Int32) (K : Int32 → Int32 → Int32 → Prop) (post : Int32 → Prop) (v3 : Int32) (v5 : Int32) : Prop := w_M_holdsAll_J135 σ v2 (K) post v3 v5 0
def w_M_holdsAll_J92  (σ : MPS) (v2 : Int32) (K : Int32 → Int32 → Int32 → Prop) (post : Int32 → Prop) (v3 : Int32) (v5 : Int32) : Prop := w_M_holdsAll_J135 σ v2 (K) post v3 v5 0
def w_M_holdsAll_J88  (σ : MPS) (v2 : Int32) (K : Int32 → Int32 → Int32 → Prop) (post : Int32 → Prop) (v3 : Int32) (v5 : Int32) : Prop := w_M_holdsAll_J135 σ v2 (K) post v3 v5 1
def w_M_holdsAll_J77  (σ : MPS) (v2 : Int32) (K : Int32 → Int32 → Int32 → Prop) (post : Int32 → Prop) (v3 : Int32) (v5 : Int32) (v6 : Int32) : Prop := ((v3 = 1 → ((v6 = 4 → w_M_holdsAll_J88 σ v2 (K) post v3 v5) ∧ (¬ v6 = 4 → w_M_holdsAll_J92 σ v2 (K) post v3 v5))) ∧ (¬ v3 = 1 → w_M_holdsAll_J92 σ v2 (K) post v3 v5))
def w_M_holdsAll_L31  (σ : MPS) (v2 : Int32) (post : Int32 → Prop) : Nat → Int32 → Int32 → Int32 → Prop
  | 0, _, _, _ => False
  | n + 1, v3, v4, v5 => ((v5 < 0 → w_M_holdsAll_J152 σ post v2 v3 v4) ∧ (¬ v5 < 0 → ((v4 = 0 → w_M_holdsAll_J152 σ post v2 v3 v4) ∧ (¬ v4 = 0 → (vp_in v5 1000 ∧ ((((mp_isElement σ) v5.toNatClampNeg) = 0 → w_M_holdsAll_J140 σ v2 (w_M_holdsAll_L31 σ v2 post n) post v3 v4 v5) ∧ (¬ ((mp_isElement σ) v5.toNatClampNeg) = 0 → w_M_kindOf σ v5 (fun r57 => ((v2 = 1 → ((v3 = 0 → ((r57 = 2 → w_M_holdsAll_J88 σ v2 (w_M_holdsAll_L31 σ v2 post n) post v3 v5) ∧ (¬ r57 = 2 → w_M_holdsAll_J77 σ v2 (w_M_holdsAll_L31 σ v2 post n) post v3 v5 r57))) ∧ (¬ v3 = 0 → w_M_holdsAll_J77 σ v2 (w_M_holdsAll_L31 σ v2 post n) post v3 v5 r57))) ∧ (¬ v2 = 1 → ((v2 = 2 → ((v3 = 0 → ((r57 = 3 → w_M_holdsAll_J135 σ v2 (w_M_holdsAll_L31 σ v2 post n) post v3 v5 1) ∧ (¬ r57 = 3 → w_M_holdsAll_J115 σ v2 (w_M_holdsAll_L31 σ v2 post n) post v3 v5))) ∧ (¬ v3 = 0 → w_M_holdsAll_J115 σ v2 (w_M_holdsAll_L31 σ v2 post n) post v3 v5))) ∧ (¬ v2 = 2 → ((v3 = 0 → ((r57 = 20 → w_M_holdsAll_J135 σ v2 (w_M_holdsAll_L31 σ v2 post n) post v3 v5 1) ∧ (¬ r57 = 20 → w_M_holdsAll_J134 σ v2 (w_M_holdsAll_L31 σ v2 post n) post v3 v5))) ∧ (¬ v3 = 0 → w_M_holdsAll_J134 σ v2 (w_M_holdsAll_L31 σ v2 post n) post v3 v5))))))))))))))
def w_M_holdsAll_J18  (σ : MPS) (post : Int32 → Prop) (v1 : Int32) (v2 : Int32) : Prop := (vp_in v1 1000 ∧ (∃ n, w_M_holdsAll_L31 σ v2 post n 0 1 ((mp_first σ) v1.toNatClampNeg)))
def w_M_holdsAll  (σ : MPS) (x0 : Int32) (x1 : Int32) (post : Int32 → Prop) : Prop := ((x1 = 1 → w_M_holdsAll_J18 σ post x0 x1) ∧ (¬ x1 = 1 → ((x1 = 2 → w_M_holdsAll_J18 σ post x0 x1) ∧ (¬ x1 = 2 → ((x1 = 19 → w_M_holdsAll_J18 σ post x0 x1) ∧ (¬ x1 = 19 → post 1))))))
set_option maxHeartbeats 4000000 in
set_option maxRecDepth 100000 in
theorem c_M_holdsAll (l : Launch) (md : MD) (σ : MPS) (x0 : Int32) (x1 : Int32)  (post : Int32 → Prop) (hE : w_M_holdsAll σ x0 x1 post) : Met l y_M_holdsAll ws_M_holdsAll { frames := 6, cells := 0, slots := 0, locals := 131 } (va_Pc [.ref (mA md 0), .int x0, .int x1] (rM md σ)) (vp_Si post) 0 0 (fun _ => False) := by
  refine Met.ofW (cc := b_M_holdsAll) (maxL := 7) (ret := (some .boolean)) (by decide) rfl ?_
  intro p e s m args below meth c s₁ B hml hv
  obtain ⟨rfl, hP, hK⟩ := hv
  have hS : va_S (fun _ : Nat => False) s.heap s.heap [] := va_S.rf
  have hx := B.exec
  have hb := B.bytes
  have hr := B.returns
  have hta : ∀ w ∈ aW, w.before _ s = true := fun w h => atoms_spec (ws := ws_M_holdsAll) B.pre w (List.mem_cons_of_mem _ h)
  have hown : s.vm.findClass R_M = some m.cls := findClass_of_methodNamed B.named
  have hlocks := B.notSynchronized
  have hl := lv_entry ([.ref (mA md 0), .int x0, .int x1]) (n := 7) (Nat.le_of_ble_eq_true rfl)
  rw [lg_entry_eq]
  generalize (lg_sl ([.ref (mA md 0), .int x0, .int x1]) ++ List.replicate (7 - (lg_sl ([.ref (mA md 0), .int x0, .int x1])).length) Slot.unset).toArray = ls at hl ⊢
  have hl : lv_has ls 7 [(0, .ref (mA md 0)), (1, .int x0), (2, .int x1)] := hl
  have J168 : ∀ (t0 : Int32) (t1 : Int32) (ls : Array Slot) (hl : lv_has ls 7 []) (hE : w_M_holdsAll_J168 σ post t0 t1), W p l e (headSpec ws_M_holdsAll { frames := 6, cells := 0, slots := 0, locals := 131 }).room s m ([.ref (mA md 0), .int x0, .int x1] : List Value).toArray below meth c s.heap [] 0 0 (MQ below (vp_Si post) ([.ref (mA md 0), .int x0, .int x1] : List Value).toArray s 0 0 (fun _ => False)) (F0 m 168 ls [.int t0, .int t1]) := by
    intro  t0 t1 ls hl hE
    unfold w_M_holdsAll_J168 at hE
    refine lv_icmp_ne (tgt := 175) hx hb d_M_holdsAll_168 (by decide) (fun cc168 => ?_) (fun cc168 => ?_)
    · have hE := hE.2 cc168
      refine lv_iconst (v := 0) hx hb d_M_holdsAll_175 (by decide) ?_
      exact W.zret (v := 0) hx hb hr rfl (fun t ht hW => ⟨_, rfl, hE, ht⟩) (fun q h => by cases h) d_M_holdsAll_176
    · have hE := hE.1 cc168
      refine lv_iconst (v := 1) hx hb d_M_holdsAll_171 (by decide) ?_
      refine lv_goto (tgt := 176) hx hb d_M_holdsAll_172 (by decide) ?_
      exact W.zret (v := 1) hx hb hr rfl (fun t ht hW => ⟨_, rfl, hE, ht⟩) (fun q h => by cases h) d_M_holdsAll_176
  have J152 : ∀ (v2 : Int32) (v3 : Int32) (v4 : Int32) (ls : Array Slot) (hl : lv_has ls 7 [(2, .int v2), (3, .int v3), (4, .int v4)]) (hE : w_M_holdsAll_J152 σ post v2 v3 v4), W p l e (headSpec ws_M_holdsAll { frames := 6, cells := 0, slots := 0, locals := 131 }).room s m ([.ref (mA md 0), .int x0, .int x1] : List Value).toArray below meth c s.heap [] 0 0 (MQ below (vp_Si post) ([.ref (mA md 0), .int x0, .int x1] : List Value).toArray s 0 0 (fun _ => False)) (F0 m 152 ls []) := by
    intro  v2 v3 v4 ls hl hE
    unfold w_M_holdsAll_J152 at hE
    refine lv_iload hx hb d_M_holdsAll_152 (lv_at hl 2 rfl) ?_
    refine lv_if_eq (tgt := 175) hx hb d_M_holdsAll_154 (by decide) (fun cc154 => ?_) (fun cc154 => ?_)
    · have hE := hE.1 cc154
      refine lv_iconst (v := 0) hx hb d_M_holdsAll_175 (by decide) ?_
      exact W.zret (v := 0) hx hb hr rfl (fun t ht hW => ⟨_, rfl, hE, ht⟩) (fun q h => by cases h) d_M_holdsAll_176
    · have hE := hE.2 cc154
      refine lv_iload_n hx hb d_M_holdsAll_157 rfl (lv_at hl 1 rfl) ?_
      refine lv_iload_n hx hb d_M_holdsAll_158 rfl (lv_at hl 0 rfl) ?_
      refine lv_iconst (v := 1) hx hb d_M_holdsAll_159 (by decide) ?_
      refine lv_icmp_ne (tgt := 167) hx hb d_M_holdsAll_160 (by decide) (fun cc160 => ?_) (fun cc160 => ?_)
      · have hE := hE.2 cc160
        refine lv_iconst (v := 1) hx hb d_M_holdsAll_167 (by decide) ?_
        exact J168  1 v3 _ (lv_sub hl [] rfl) hE
      · have hE := hE.1 cc160
        refine lv_iconst (v := 2) hx hb d_M_holdsAll_163 (by decide) ?_
        refine lv_goto (tgt := 168) hx hb d_M_holdsAll_164 (by decide) ?_
        exact J168  2 v3 _ (lv_sub hl [] rfl) hE
  have L31 : ∀ (v2 : Int32) (n : Nat) (v3 : Int32) (v4 : Int32) (v5 : Int32) (ls : Array Slot) (hl : lv_has ls 7 [(0, .ref (mA md 0)), (2, .int v2), (3, .int v3), (4, .int v4), (5, .int v5)]) (hE : w_M_holdsAll_L31 σ v2 post n v3 v4 v5), W p l e (headSpec ws_M_holdsAll { frames := 6, cells := 0, slots := 0, locals := 131 }).room s m ([.ref (mA md 0), .int x0, .int x1] : List Value).toArray below meth c s.heap [] 0 0 (MQ below (vp_Si post) ([.ref (mA md 0), .int x0, .int x1] : List Value).toArray s 0 0 (fun _ => False)) (F0 m 31 ls []) := by
    intro v2 n
    induction n with
    | zero => intro v3 v4 v5 ls hl hE; exact hE.elim
    | succ n ih31 =>
      have J140 : ∀ (v3 : Int32) (v4 : Int32) (v5 : Int32) (ls : Array Slot) (hl : lv_has ls 7 [(0, .ref (mA md 0)), (2, .int v2), (3, .int v3), (4, .int v4), (5, .int v5)]) (hE : w_M_holdsAll_J140 σ v2 (w_M_holdsAll_L31 σ v2 post n) post v3 v4 v5), W p l e (headSpec ws_M_holdsAll { frames := 6, cells := 0, slots := 0, locals := 131 }).room s m ([.ref (mA md 0), .int x0, .int x1] : List Value).toArray below meth c s.heap [] 0 0 (MQ below (vp_Si post) ([.ref (mA md 0), .int x0, .int x1] : List Value).toArray s 0 0 (fun _ => False)) (F0 m 140 ls []) := by
        intro  v3 v4 v5 ls hl hE
        unfold w_M_holdsAll_J140 at hE
        refine lv_aload_n hx hb d_M_holdsAll_140 rfl (lv_at hl 0 rfl) ?_
        refine va_get (D := (mG md)) (ci := 7) (v := .ref (mA md 13)) (C := R_M) (T := F_M) (N := 37) hx hb hta i_M hown hK hP 0 rfl rfl 28 (by decide) (hta _ fl_M_52) (fun _ h9 => h9) rfl d_M_holdsAll_141 ?_
        refine lv_iload hx hb d_M_holdsAll_144 (lv_at hl 4 rfl) ?_
        obtain ⟨hI146, hE⟩ := hE
        refine va_iald (D := (mG md)) (f := mp_next σ) hx hb hK hP 13 0 rfl rfl hI146 d_M_holdsAll_146 ?_
        refine lv_istore (lv' := [(5, .int ((mp_next σ) v5.toNatClampNeg)), (0, .ref (mA md 0)), (2, .int v2), (3, .int v3), (4, .int v4)]) hx hb d_M_holdsAll_147 hl (by decide) rfl (fun ls hl => ?_)
        refine lv_goto (tgt := 31) hx hb d_M_holdsAll_149 (by decide) ?_
        exact ih31 v3 v4 ((mp_next σ) v5.toNatClampNeg) _ (lv_sub hl [1, 2, 3, 4, 0] rfl) hE
      have J135 : ∀ (v3 : Int32) (v5 : Int32) (t0 : Int32) (ls : Array Slot) (hl : lv_has ls 7 [(0, .ref (mA md 0)), (2, .int v2), (3, .int v3), (5, .int v5)]) (hE : w_M_holdsAll_J135 σ v2 (w_M_holdsAll_L31 σ v2 post n) post v3 v5 t0), W p l e (headSpec ws_M_holdsAll { frames := 6, cells := 0, slots := 0, locals := 131 }).room s m ([.ref (mA md 0), .int x0, .int x1] : List Value).toArray below meth c s.heap [] 0 0 (MQ below (vp_Si post) ([.ref (mA md 0), .int x0, .int x1] : List Value).toArray s 0 0 (fun _ => False)) (F0 m 135 ls [.int t0]) := by
        intro  v3 v5 t0 ls hl hE
        unfold w_M_holdsAll_J135 at hE
        refine lv_istore (lv' := [(4, .int t0), (0, .ref (mA md 0)), (2, .int v2), (3, .int v3), (5, .int v5)]) hx hb d_M_holdsAll_135 hl (by decide) rfl (fun ls hl => ?_)
        refine lv_iinc (v := v3 + 1) (lv' := [(3, .int (v3 + 1)), (4, .int t0), (0, .ref (mA md 0)), (2, .int v2), (5, .int v5)]) hx hb d_M_holdsAll_137 hl (k := 3) rfl rfl (by decide) rfl (fun ls hl => ?_)
        exact J140  (v3 + 1) t0 v5 _ (lv_sub hl [2, 3, 0, 1, 4] rfl) hE
      have J134 : ∀ (v3 : Int32) (v5 : Int32) (ls : Array Slot) (hl : lv_has ls 7 [(0, .ref (mA md 0)), (2, .int v2), (3, .int v3), (5, .int v5)]) (hE : w_M_holdsAll_J134 σ v2 (w_M_holdsAll_L31 σ v2 post n) post v3 v5), W p l e (headSpec ws_M_holdsAll { frames := 6, cells := 0, slots := 0, locals := 131 }).room s m ([.ref (mA md 0), .int x0, .int x1] : List Value).toArray below meth c s.heap [] 0 0 (MQ below (vp_Si post) ([.ref (mA md 0), .int x0, .int x1] : List Value).toArray s 0 0 (fun _ => False)) (F0 m 134 ls []) := by
        intro  v3 v5 ls hl hE
        unfold w_M_holdsAll_J134 at hE
        refine lv_iconst (v := 0) hx hb d_M_holdsAll_134 (by decide) ?_
        exact J135  v3 v5 0 _ (lv_sub hl [0, 1, 2, 3] rfl) hE
      have J115 : ∀ (v3 : Int32) (v5 : Int32) (ls : Array Slot) (hl : lv_has ls 7 [(0, .ref (mA md 0)), (2, .int v2), (3, .int v3), (5, .int v5)]) (hE : w_M_holdsAll_J115 σ v2 (w_M_holdsAll_L31 σ v2 post n) post v3 v5), W p l e (headSpec ws_M_holdsAll { frames := 6, cells := 0, slots := 0, locals := 131 }).room s m ([.ref (mA md 0), .int x0, .int x1] : List Value).toArray below meth c s.heap [] 0 0 (MQ below (vp_Si post) ([.ref (mA md 0), .int x0, .int x1] : List Value).toArray s 0 0 (fun _ => False)) (F0 m 115 ls []) := by
        intro  v3 v5 ls hl hE
        unfold w_M_holdsAll_J115 at hE
        refine lv_iconst (v := 0) hx hb d_M_holdsAll_115 (by decide) ?_
        refine lv_goto (tgt := 135) hx hb d_M_holdsAll_116 (by decide) ?_
        exact J135  v3 v5 0 _ (lv_sub hl [0, 1, 2, 3] rfl) hE
      have J92 : ∀ (v3 : Int32) (v5 : Int32) (ls : Array Slot) (hl : lv_has ls 7 [(0, .ref (mA md 0)), (2, .int v2), (3, .int v3), (5, .int v5)]) (hE : w_M_holdsAll_J92 σ v2 (w_M_holdsAll_L31 σ v2 post n) post v3 v5), W p l e (headSpec ws_M_holdsAll { frames := 6, cells := 0, slots := 0, locals := 131 }).room s m ([.ref (mA md 0), .int x0, .int x1] : List Value).toArray below meth c s.heap [] 0 0 (MQ below (vp_Si post) ([.ref (mA md 0), .int x0, .int x1] : List Value).toArray s 0 0 (fun _ => False)) (F0 m 92 ls []) := by
        intro  v3 v5 ls hl hE
        unfold w_M_holdsAll_J92 at hE
        refine lv_iconst (v := 0) hx hb d_M_holdsAll_92 (by decide) ?_
        refine lv_goto (tgt := 135) hx hb d_M_holdsAll_93 (by decide) ?_
        exact J135  v3 v5 0 _ (lv_sub hl [0, 1, 2, 3] rfl) hE
      have J88 : ∀ (v3 : Int32) (v5 : Int32) (ls : Array Slot) (hl : lv_has ls 7 [(0, .ref (mA md 0)), (2, .int v2), (3, .int v3), (5, .int v5)]) (hE : w_M_holdsAll_J88 σ v2 (w_M_holdsAll_L31 σ v2 post n) post v3 v5), W p l e (headSpec ws_M_holdsAll { frames := 6, cells := 0, slots := 0, locals := 131 }).room s m ([.ref (mA md 0), .int x0, .int x1] : List Value).toArray below meth c s.heap [] 0 0 (MQ below (vp_Si post) ([.ref (mA md 0), .int x0, .int x1] : List Value).toArray s 0 0 (fun _ => False)) (F0 m 88 ls []) := by
        intro  v3 v5 ls hl hE
        unfold w_M_holdsAll_J88 at hE
        refine lv_iconst (v := 1) hx hb d_M_holdsAll_88 (by decide) ?_
        refine lv_goto (tgt := 135) hx hb d_M_holdsAll_89 (by decide) ?_
        exact J135  v3 v5 1 _ (lv_sub hl [0, 1, 2, 3] rfl) hE
      have J77 : ∀ (v3 : Int32) (v5 : Int32) (v6 : Int32) (ls : Array Slot) (hl : lv_has ls 7 [(0, .ref (mA md 0)), (2, .int v2), (3, .int v3), (5, .int v5), (6, .int v6)]) (hE : w_M_holdsAll_J77 σ v2 (w_M_holdsAll_L31 σ v2 post n) post v3 v5 v6), W p l e (headSpec ws_M_holdsAll { frames := 6, cells := 0, slots := 0, locals := 131 }).room s m ([.ref (mA md 0), .int x0, .int x1] : List Value).toArray below meth c s.heap [] 0 0 (MQ below (vp_Si post) ([.ref (mA md 0), .int x0, .int x1] : List Value).toArray s 0 0 (fun _ => False)) (F0 m 77 ls []) := by
        intro  v3 v5 v6 ls hl hE
        unfold w_M_holdsAll_J77 at hE
        refine lv_iload_n hx hb d_M_holdsAll_77 rfl (lv_at hl 2 rfl) ?_
        refine lv_iconst (v := 1) hx hb d_M_holdsAll_78 (by decide) ?_
        refine lv_icmp_ne (tgt := 92) hx hb d_M_holdsAll_79 (by decide) (fun cc79 => ?_) (fun cc79 => ?_)
        · have hE := hE.2 cc79
          exact J92  v3 v5 _ (lv_sub hl [0, 1, 2, 3] rfl) hE
        · have hE := hE.1 cc79
          refine lv_iload hx hb d_M_holdsAll_82 (lv_at hl 4 rfl) ?_
          refine lv_iconst (v := 4) hx hb d_M_holdsAll_84 (by decide) ?_
          refine lv_icmp_ne (tgt := 92) hx hb d_M_holdsAll_85 (by decide) (fun cc85 => ?_) (fun cc85 => ?_)
          · have hE := hE.2 cc85
            exact J92  v3 v5 _ (lv_sub hl [0, 1, 2, 3] rfl) hE
          · have hE := hE.1 cc85
            exact J88  v3 v5 _ (lv_sub hl [0, 1, 2, 3] rfl) hE
      intro v3 v4 v5 ls hl hE
      unfold w_M_holdsAll_L31 at hE
      refine lv_iload hx hb d_M_holdsAll_31 (lv_at hl 4 rfl) ?_
      refine lv_if_lt (tgt := 152) hx hb d_M_holdsAll_33 (by decide) (fun cc33 => ?_) (fun cc33 => ?_)
      · have hE := hE.1 cc33
        exact J152  v2 v3 v4 _ (lv_sub hl [1, 2, 3] rfl) hE
      · have hE := hE.2 cc33
        refine lv_iload hx hb d_M_holdsAll_36 (lv_at hl 3 rfl) ?_
        refine lv_if_eq (tgt := 152) hx hb d_M_holdsAll_38 (by decide) (fun cc38 => ?_) (fun cc38 => ?_)
        · have hE := hE.1 cc38
          exact J152  v2 v3 v4 _ (lv_sub hl [1, 2, 3] rfl) hE
        · have hE := hE.2 cc38
          refine lv_aload_n hx hb d_M_holdsAll_41 rfl (lv_at hl 0 rfl) ?_
          refine va_get (D := (mG md)) (ci := 7) (v := .ref (mA md 8)) (C := R_M) (T := F_M) (N := 37) hx hb hta i_M hown hK hP 0 rfl rfl 23 (by decide) (hta _ fl_M_36) (fun _ h9 => h9) rfl d_M_holdsAll_42 ?_
          refine lv_iload hx hb d_M_holdsAll_45 (lv_at hl 4 rfl) ?_
          obtain ⟨hI47, hE⟩ := hE
          refine va_zald (D := (mG md)) (f := mp_isElement σ) hx hb hK hP 8 2 rfl rfl hI47 d_M_holdsAll_47 ?_
          refine lv_if_ne (tgt := 54) hx hb d_M_holdsAll_48 (by decide) (fun cc48 => ?_) (fun cc48 => ?_)
          · have hE := hE.2 cc48
            refine lv_aload_n hx hb d_M_holdsAll_54 rfl (lv_at hl 0 rfl) ?_
            refine lv_iload hx hb d_M_holdsAll_55 (lv_at hl 4 rfl) ?_
            refine ro_V (b0 := (mA md 0)) (As := [.int v5]) (rest := []) ⟨hx, hb, hml, hown, hta⟩ (c_M_kindOf l md σ v5  _ hE) ok_M_302 ⟨Nat.le_of_ble_eq_true rfl, Nat.le_of_ble_eq_true rfl⟩ blind_rM (va_recv hK hP (ci := 7) (q0 := 0) rfl rfl) (rM_of hP hK) rfl hl.1 rfl (Nat.le_of_ble_eq_true rfl) d_M_holdsAll_57 ⟨Nat.zero_le _, Nat.zero_le _⟩ (fun r57 hE => ?_)
            refine lv_istore (lv' := [(6, .int r57), (0, .ref (mA md 0)), (2, .int v2), (3, .int v3), (4, .int v4), (5, .int v5)]) hx hb d_M_holdsAll_60 hl (by decide) rfl (fun ls hl => ?_)
            refine lv_iload_n hx hb d_M_holdsAll_62 rfl (lv_at hl 2 rfl) ?_
            refine lv_iconst (v := 1) hx hb d_M_holdsAll_63 (by decide) ?_
            refine lv_icmp_ne (tgt := 96) hx hb d_M_holdsAll_64 (by decide) (fun cc64 => ?_) (fun cc64 => ?_)
            · have hE := hE.2 cc64
              refine lv_iload_n hx hb d_M_holdsAll_96 rfl (lv_at hl 2 rfl) ?_
              refine lv_iconst (v := 2) hx hb d_M_holdsAll_97 (by decide) ?_
              refine lv_icmp_ne (tgt := 119) hx hb d_M_holdsAll_98 (by decide) (fun cc98 => ?_) (fun cc98 => ?_)
              · have hE := hE.2 cc98
                refine lv_iload_n hx hb d_M_holdsAll_119 rfl (lv_at hl 3 rfl) ?_
                refine lv_if_ne (tgt := 134) hx hb d_M_holdsAll_120 (by decide) (fun cc120 => ?_) (fun cc120 => ?_)
                · have hE := hE.2 cc120
                  exact J134  v3 v5 _ (lv_sub hl [1, 2, 3, 5] rfl) hE
                · have hE := hE.1 cc120
                  refine lv_iload hx hb d_M_holdsAll_123 (lv_at hl 0 rfl) ?_
                  refine lv_bipush (v := 20) hx hb d_M_holdsAll_125 (by decide) ?_
                  refine lv_icmp_ne (tgt := 134) hx hb d_M_holdsAll_127 (by decide) (fun cc127 => ?_) (fun cc127 => ?_)
                  · have hE := hE.2 cc127
                    exact J134  v3 v5 _ (lv_sub hl [1, 2, 3, 5] rfl) hE
                  · have hE := hE.1 cc127
                    refine lv_iconst (v := 1) hx hb d_M_holdsAll_130 (by decide) ?_
                    refine lv_goto (tgt := 135) hx hb d_M_holdsAll_131 (by decide) ?_
                    exact J135  v3 v5 1 _ (lv_sub hl [1, 2, 3, 5] rfl) hE
              · have hE := hE.1 cc98
                refine lv_iload_n hx hb d_M_holdsAll_101 rfl (lv_at hl 3 rfl) ?_
                refine lv_if_ne (tgt := 115) hx hb d_M_holdsAll_102 (by decide) (fun cc102 => ?_) (fun cc102 => ?_)
                · have hE := hE.2 cc102
                  exact J115  v3 v5 _ (lv_sub hl [1, 2, 3, 5] rfl) hE
                · have hE := hE.1 cc102
                  refine lv_iload hx hb d_M_holdsAll_105 (lv_at hl 0 rfl) ?_
                  refine lv_iconst (v := 3) hx hb d_M_holdsAll_107 (by decide) ?_
                  refine lv_icmp_ne (tgt := 115) hx hb d_M_holdsAll_108 (by decide) (fun cc108 => ?_) (fun cc108 => ?_)
                  · have hE := hE.2 cc108
                    exact J115  v3 v5 _ (lv_sub hl [1, 2, 3, 5] rfl) hE
                  · have hE := hE.1 cc108
                    refine lv_iconst (v := 1) hx hb d_M_holdsAll_111 (by decide) ?_
                    refine lv_goto (tgt := 135) hx hb d_M_holdsAll_112 (by decide) ?_
                    exact J135  v3 v5 1 _ (lv_sub hl [1, 2, 3, 5] rfl) hE
            · have hE := hE.1 cc64
              refine lv_iload_n hx hb d_M_holdsAll_67 rfl (lv_at hl 3 rfl) ?_
              refine lv_if_ne (tgt := 77) hx hb d_M_holdsAll_68 (by decide) (fun cc68 => ?_) (fun cc68 => ?_)
              · have hE := hE.2 cc68
                exact J77  v3 v5 r57 _ (lv_sub hl [1, 2, 3, 5, 0] rfl) hE
              · have hE := hE.1 cc68
                refine lv_iload hx hb d_M_holdsAll_71 (lv_at hl 0 rfl) ?_
                refine lv_iconst (v := 2) hx hb d_M_holdsAll_73 (by decide) ?_
                refine lv_icmp_eq (tgt := 88) hx hb d_M_holdsAll_74 (by decide) (fun cc74 => ?_) (fun cc74 => ?_)
                · have hE := hE.1 cc74
                  exact J88  v3 v5 _ (lv_sub hl [1, 2, 3, 5] rfl) hE
                · have hE := hE.2 cc74
                  exact J77  v3 v5 r57 _ (lv_sub hl [1, 2, 3, 5, 0] rfl) hE
          · have hE := hE.1 cc48
            refine lv_goto (tgt := 140) hx hb d_M_holdsAll_51 (by decide) ?_
            exact J140  v3 v4 v5 _ (lv_sub hl [0, 1, 2, 3, 4] rfl) hE
  have J18 : ∀ (v1 : Int32) (v2 : Int32) (ls : Array Slot) (hl : lv_has ls 7 [(0, .ref (mA md 0)), (1, .int v1), (2, .int v2)]) (hE : w_M_holdsAll_J18 σ post v1 v2), W p l e (headSpec ws_M_holdsAll { frames := 6, cells := 0, slots := 0, locals := 131 }).room s m ([.ref (mA md 0), .int x0, .int x1] : List Value).toArray below meth c s.heap [] 0 0 (MQ below (vp_Si post) ([.ref (mA md 0), .int x0, .int x1] : List Value).toArray s 0 0 (fun _ => False)) (F0 m 18 ls []) := by
    intro  v1 v2 ls hl hE
    unfold w_M_holdsAll_J18 at hE
    refine lv_iconst (v := 0) hx hb d_M_holdsAll_18 (by decide) ?_
    refine lv_istore_n (lv' := [(3, .int 0), (0, .ref (mA md 0)), (1, .int v1), (2, .int v2)]) hx hb d_M_holdsAll_19 rfl hl (by decide) rfl (fun ls hl => ?_)
    refine lv_iconst (v := 1) hx hb d_M_holdsAll_20 (by decide) ?_
    refine lv_istore (lv' := [(4, .int 1), (3, .int 0), (0, .ref (mA md 0)), (1, .int v1), (2, .int v2)]) hx hb d_M_holdsAll_21 hl (by decide) rfl (fun ls hl => ?_)
    refine lv_aload_n hx hb d_M_holdsAll_23 rfl (lv_at hl 2 rfl) ?_
    refine va_get (D := (mG md)) (ci := 7) (v := .ref (mA md 12)) (C := R_M) (T := F_M) (N := 37) hx hb hta i_M hown hK hP 0 rfl rfl 27 (by decide) (hta _ fl_M_49) (fun _ h9 => h9) rfl d_M_holdsAll_24 ?_
    refine lv_iload_n hx hb d_M_holdsAll_27 rfl (lv_at hl 3 rfl) ?_
    obtain ⟨hI28, hE⟩ := hE
    refine va_iald (D := (mG md)) (f := mp_first σ) hx hb hK hP 12 0 rfl rfl hI28 d_M_holdsAll_28 ?_
    refine lv_istore (lv' := [(5, .int ((mp_first σ) v1.toNatClampNeg)), (4, .int 1), (3, .int 0), (0, .ref (mA md 0)), (1, .int v1), (2, .int v2)]) hx hb d_M_holdsAll_29 hl (by decide) rfl (fun ls hl => ?_)
    obtain ⟨n, hE⟩ := hE
    exact L31 v2 n 0 1 ((mp_first σ) v1.toNatClampNeg) _ (lv_sub hl [3, 5, 2, 1, 0] rfl) hE
  unfold w_M_holdsAll at hE
  refine lv_iload_n hx hb d_M_holdsAll_0 rfl (lv_at hl 2 rfl) ?_
  refine lv_iconst (v := 1) hx hb d_M_holdsAll_1 (by decide) ?_
  refine lv_icmp_eq (tgt := 18) hx hb d_M_holdsAll_2 (by decide) (fun cc2 => ?_) (fun cc2 => ?_)
  · have hE := hE.1 cc2
    exact J18  x0 x1 _ (lv_sub hl [0, 1, 2] rfl) hE
  · have hE := hE.2 cc2
    refine lv_iload_n hx hb d_M_holdsAll_5 rfl (lv_at hl 2 rfl) ?_
    refine lv_iconst (v := 2) hx hb d_M_holdsAll_6 (by decide) ?_
    refine lv_icmp_eq (tgt := 18) hx hb d_M_holdsAll_7 (by decide) (fun cc7 => ?_) (fun cc7 => ?_)
    · have hE := hE.1 cc7
      exact J18  x0 x1 _ (lv_sub hl [0, 1, 2] rfl) hE
    · have hE := hE.2 cc7
      refine lv_iload_n hx hb d_M_holdsAll_10 rfl (lv_at hl 2 rfl) ?_
      refine lv_bipush (v := 19) hx hb d_M_holdsAll_11 (by decide) ?_
      refine lv_icmp_eq (tgt := 18) hx hb d_M_holdsAll_13 (by decide) (fun cc13 => ?_) (fun cc13 => ?_)
      · have hE := hE.1 cc13
        exact J18  x0 x1 _ (lv_sub hl [0, 1, 2] rfl) hE
      · have hE := hE.2 cc13
        refine lv_iconst (v := 1) hx hb d_M_holdsAll_16 (by decide) ?_
        exact W.zret (v := 1) hx hb hr rfl (fun t ht hW => ⟨_, rfl, hE, ht⟩) (fun q h => by cases h) d_M_holdsAll_17
theorem fl_M_214 : Cond.fieldLink "PlainPagesModel" 214 "PlainPagesModel" "known" "Z" ∈ aW := aW_in 915 (by decide +kernel) rfl
theorem fl_M_175 : Cond.fieldLink "PlainPagesModel" 175 "PlainPagesModel" "nodes" "I" ∈ aW := aW_in 936 (by decide +kernel) rfl
theorem d_M_isNode_0 : decode b_M_isNode 0 = .ok (.aload_n 0, 1) := by decide +kernel
theorem d_M_isNode_1 : decode b_M_isNode 1 = .ok (.getfield 214, 3) := by decide +kernel
theorem d_M_isNode_4 : decode b_M_isNode 4 = .ok (.ifCond .eq 19, 3) := by decide +kernel
theorem d_M_isNode_7 : decode b_M_isNode 7 = .ok (.iload_n 1, 1) := by decide +kernel
theorem d_M_isNode_8 : decode b_M_isNode 8 = .ok (.ifCond .lt 15, 3) := by decide +kernel
theorem d_M_isNode_11 : decode b_M_isNode 11 = .ok (.iload_n 1, 1) := by decide +kernel
theorem d_M_isNode_12 : decode b_M_isNode 12 = .ok (.aload_n 0, 1) := by decide +kernel
theorem d_M_isNode_13 : decode b_M_isNode 13 = .ok (.getfield 175, 3) := by decide +kernel
theorem d_M_isNode_16 : decode b_M_isNode 16 = .ok (.if_icmp .ge 7, 3) := by decide +kernel
theorem d_M_isNode_19 : decode b_M_isNode 19 = .ok (.iconst 1, 1) := by decide +kernel
theorem d_M_isNode_20 : decode b_M_isNode 20 = .ok (.goto 4, 3) := by decide +kernel
theorem d_M_isNode_23 : decode b_M_isNode 23 = .ok (.iconst 0, 1) := by decide +kernel
theorem d_M_isNode_24 : decode b_M_isNode 24 = .ok (.ireturn, 1) := by decide +kernel
def w_M_isNode  (σ : MPS) (x0 : Int32) (post : Int32 → Prop) : Prop := (((mp_known σ) = 0 → post 0) ∧ (¬ (mp_known σ) = 0 → ((x0 < 0 → post 0) ∧ (¬ x0 < 0 → (((mp_nodes σ) ≤ x0 → post 0) ∧ (¬ (mp_nodes σ) ≤ x0 → post 1))))))
set_option maxHeartbeats 4000000 in
set_option maxRecDepth 100000 in
theorem c_M_isNode (l : Launch) (md : MD) (σ : MPS) (x0 : Int32)  (post : Int32 → Prop) (hE : w_M_isNode σ x0 post) : Met l y_M_isNode ws_M_isNode { frames := 0, cells := 0, slots := 0, locals := 0 } (va_Pc [.ref (mA md 0), .int x0] (rM md σ)) (vp_Si post) 0 0 (fun _ => False) := by
  refine Met.ofW (cc := b_M_isNode) (maxL := 2) (ret := (some .boolean)) (by decide) rfl ?_
  intro p e s m args below meth c s₁ B hml hv
  obtain ⟨rfl, hP, hK⟩ := hv
  have hS : va_S (fun _ : Nat => False) s.heap s.heap [] := va_S.rf
  have hx := B.exec
  have hb := B.bytes
  have hr := B.returns
  have hta : ∀ w ∈ aW, w.before _ s = true := fun w h => atoms_spec (ws := ws_M_isNode) B.pre w (List.mem_cons_of_mem _ h)
  have hown : s.vm.findClass R_M = some m.cls := findClass_of_methodNamed B.named
  have hlocks := B.notSynchronized
  have hl := lv_entry ([.ref (mA md 0), .int x0]) (n := 2) (Nat.le_of_ble_eq_true rfl)
  rw [lg_entry_eq]
  generalize (lg_sl ([.ref (mA md 0), .int x0]) ++ List.replicate (2 - (lg_sl ([.ref (mA md 0), .int x0])).length) Slot.unset).toArray = ls at hl ⊢
  have hl : lv_has ls 2 [(0, .ref (mA md 0)), (1, .int x0)] := hl
  unfold w_M_isNode at hE
  refine lv_aload_n hx hb d_M_isNode_0 rfl (lv_at hl 0 rfl) ?_
  refine va_get (D := (mG md)) (ci := 7) (v := .int (mp_known σ)) (C := R_M) (T := F_M) (N := 37) hx hb hta i_M hown hK hP 0 rfl rfl 11 (by decide) (hta _ fl_M_214) (fun _ h9 => h9) rfl d_M_isNode_1 ?_
  refine lv_if_eq (tgt := 23) hx hb d_M_isNode_4 (by decide) (fun cc4 => ?_) (fun cc4 => ?_)
  · have hE := hE.1 cc4
    refine lv_iconst (v := 0) hx hb d_M_isNode_23 (by decide) ?_
    exact W.zret (v := 0) hx hb hr rfl (fun t ht hW => ⟨_, rfl, hE, ht⟩) (fun q h => by cases h) d_M_isNode_24
  · have hE := hE.2 cc4
    refine lv_iload_n hx hb d_M_isNode_7 rfl (lv_at hl 1 rfl) ?_
    refine lv_if_lt (tgt := 23) hx hb d_M_isNode_8 (by decide) (fun cc8 => ?_) (fun cc8 => ?_)
    · have hE := hE.1 cc8
      refine lv_iconst (v := 0) hx hb d_M_isNode_23 (by decide) ?_
      exact W.zret (v := 0) hx hb hr rfl (fun t ht hW => ⟨_, rfl, hE, ht⟩) (fun q h => by cases h) d_M_isNode_24
    · have hE := hE.2 cc8
      refine lv_iload_n hx hb d_M_isNode_11 rfl (lv_at hl 1 rfl) ?_
      refine lv_aload_n hx hb d_M_isNode_12 rfl (lv_at hl 0 rfl) ?_
      refine va_get (D := (mG md)) (ci := 7) (v := .int (mp_nodes σ)) (C := R_M) (T := F_M) (N := 37) hx hb hta i_M hown hK hP 0 rfl rfl 32 (by decide) (hta _ fl_M_175) (fun _ h9 => h9) rfl d_M_isNode_13 ?_
      refine lv_icmp_ge (tgt := 23) hx hb d_M_isNode_16 (by decide) (fun cc16 => ?_) (fun cc16 => ?_)
      · have hE := hE.1 cc16
        refine lv_iconst (v := 0) hx hb d_M_isNode_23 (by decide) ?_
        exact W.zret (v := 0) hx hb hr rfl (fun t ht hW => ⟨_, rfl, hE, ht⟩) (fun q h => by cases h) d_M_isNode_24
      · have hE := hE.2 cc16
        refine lv_iconst (v := 1) hx hb d_M_isNode_19 (by decide) ?_
        refine lv_goto (tgt := 24) hx hb d_M_isNode_20 (by decide) ?_
        exact W.zret (v := 1) hx hb hr rfl (fun t ht hW => ⟨_, rfl, hE, ht⟩) (fun q h => by cases h) d_M_isNode_24
theorem fl_M_55 : Cond.fieldLink "PlainPagesModel" 55 "PlainPagesModel" "depth" "[I" ∈ aW := aW_in 933 (by decide +kernel) rfl
theorem d_M_lastIn_0 : decode b_M_lastIn 0 = .ok (.iload_n 1, 1) := by decide +kernel
theorem d_M_lastIn_1 : decode b_M_lastIn 1 = .ok (.istore_n 2, 1) := by decide +kernel
theorem d_M_lastIn_2 : decode b_M_lastIn 2 = .ok (.iload_n 2, 1) := by decide +kernel
theorem d_M_lastIn_3 : decode b_M_lastIn 3 = .ok (.iconst 1, 1) := by decide +kernel
theorem d_M_lastIn_4 : decode b_M_lastIn 4 = .ok (.iadd, 1) := by decide +kernel
theorem d_M_lastIn_5 : decode b_M_lastIn 5 = .ok (.aload_n 0, 1) := by decide +kernel
theorem d_M_lastIn_6 : decode b_M_lastIn 6 = .ok (.getfield 175, 3) := by decide +kernel
theorem d_M_lastIn_9 : decode b_M_lastIn 9 = .ok (.if_icmp .ge 26, 3) := by decide +kernel
theorem d_M_lastIn_12 : decode b_M_lastIn 12 = .ok (.aload_n 0, 1) := by decide +kernel
theorem d_M_lastIn_13 : decode b_M_lastIn 13 = .ok (.getfield 55, 3) := by decide +kernel
theorem d_M_lastIn_16 : decode b_M_lastIn 16 = .ok (.iload_n 2, 1) := by decide +kernel
theorem d_M_lastIn_17 : decode b_M_lastIn 17 = .ok (.iconst 1, 1) := by decide +kernel
theorem d_M_lastIn_18 : decode b_M_lastIn 18 = .ok (.iadd, 1) := by decide +kernel
theorem d_M_lastIn_19 : decode b_M_lastIn 19 = .ok (.iaload, 1) := by decide +kernel
theorem d_M_lastIn_20 : decode b_M_lastIn 20 = .ok (.aload_n 0, 1) := by decide +kernel
theorem d_M_lastIn_21 : decode b_M_lastIn 21 = .ok (.getfield 55, 3) := by decide +kernel
theorem d_M_lastIn_24 : decode b_M_lastIn 24 = .ok (.iload_n 1, 1) := by decide +kernel
theorem d_M_lastIn_25 : decode b_M_lastIn 25 = .ok (.iaload, 1) := by decide +kernel
theorem d_M_lastIn_26 : decode b_M_lastIn 26 = .ok (.if_icmp .le 9, 3) := by decide +kernel
theorem d_M_lastIn_29 : decode b_M_lastIn 29 = .ok (.iinc 2 1, 3) := by decide +kernel
theorem d_M_lastIn_32 : decode b_M_lastIn 32 = .ok (.goto (-30), 3) := by decide +kernel
theorem d_M_lastIn_35 : decode b_M_lastIn 35 = .ok (.iload_n 2, 1) := by decide +kernel
theorem d_M_lastIn_36 : decode b_M_lastIn 36 = .ok (.ireturn, 1) := by decide +kernel
def w_M_lastIn_L2  (σ : MPS) (v1 : Int32) (post : Int32 → Prop) : Nat → Int32 → Prop
  | 0, _ => False
  | n + 1, v2 => (((mp_nodes σ) ≤ (v2 + 1) → post v2) ∧ (¬ (mp_nodes σ) ≤ (v2 + 1) → (vp_in (v2 + 1) 1000 ∧ (vp_in v1 1000 ∧ ((((mp_depth σ) (v2 + 1).toNatClampNeg) ≤ ((mp_depth σ) v1.toNatClampNeg) → post v2) ∧ (¬ ((mp_depth σ) (v2 + 1).toNatClampNeg) ≤ ((mp_depth σ) v1.toNatClampNeg) → w_M_lastIn_L2 σ v1 post n (v2 + 1)))))))
def w_M_lastIn  (σ : MPS) (x0 : Int32) (post : Int32 → Prop) : Prop := (∃ n, w_M_lastIn_L2 σ x0 post n x0)
set_option maxHeartbeats 4000000 in
set_option maxRecDepth 100000 in
theorem c_M_lastIn (l : Launch) (md : MD) (σ : MPS) (x0 : Int32)  (post : Int32 → Prop) (hE : w_M_lastIn σ x0 post) : Met l y_M_lastIn ws_M_lastIn { frames := 0, cells := 0, slots := 0, locals := 0 } (va_Pc [.ref (mA md 0), .int x0] (rM md σ)) (vp_Si post) 0 0 (fun _ => False) := by
  refine Met.ofW (cc := b_M_lastIn) (maxL := 3) (ret := (some .int)) (by decide) rfl ?_
  intro p e s m args below meth c s₁ B hml hv
  obtain ⟨rfl, hP, hK⟩ := hv
  have hS : va_S (fun _ : Nat => False) s.heap s.heap [] := va_S.rf
  have hx := B.exec
  have hb := B.bytes
  have hr := B.returns
  have hta : ∀ w ∈ aW, w.before _ s = true := fun w h => atoms_spec (ws := ws_M_lastIn) B.pre w (List.mem_cons_of_mem _ h)
  have hown : s.vm.findClass R_M = some m.cls := findClass_of_methodNamed B.named
  have hlocks := B.notSynchronized
  have hl := lv_entry ([.ref (mA md 0), .int x0]) (n := 3) (Nat.le_of_ble_eq_true rfl)
  rw [lg_entry_eq]
  generalize (lg_sl ([.ref (mA md 0), .int x0]) ++ List.replicate (3 - (lg_sl ([.ref (mA md 0), .int x0])).length) Slot.unset).toArray = ls at hl ⊢
  have hl : lv_has ls 3 [(0, .ref (mA md 0)), (1, .int x0)] := hl
  have L2 : ∀ (v1 : Int32) (n : Nat) (v2 : Int32) (ls : Array Slot) (hl : lv_has ls 3 [(0, .ref (mA md 0)), (1, .int v1), (2, .int v2)]) (hE : w_M_lastIn_L2 σ v1 post n v2), W p l e (headSpec ws_M_lastIn { frames := 0, cells := 0, slots := 0, locals := 0 }).room s m ([.ref (mA md 0), .int x0] : List Value).toArray below meth c s.heap [] 0 0 (MQ below (vp_Si post) ([.ref (mA md 0), .int x0] : List Value).toArray s 0 0 (fun _ => False)) (F0 m 2 ls []) := by
    intro v1 n
    induction n with
    | zero => intro v2 ls hl hE; exact hE.elim
    | succ n ih2 =>
      intro v2 ls hl hE
      unfold w_M_lastIn_L2 at hE
      refine lv_iload_n hx hb d_M_lastIn_2 rfl (lv_at hl 2 rfl) ?_
      refine lv_iconst (v := 1) hx hb d_M_lastIn_3 (by decide) ?_
      refine lv_iadd hx hb d_M_lastIn_4 ?_
      refine lv_aload_n hx hb d_M_lastIn_5 rfl (lv_at hl 0 rfl) ?_
      refine va_get (D := (mG md)) (ci := 7) (v := .int (mp_nodes σ)) (C := R_M) (T := F_M) (N := 37) hx hb hta i_M hown hK hP 0 rfl rfl 32 (by decide) (hta _ fl_M_175) (fun _ h9 => h9) rfl d_M_lastIn_6 ?_
      refine lv_icmp_ge (tgt := 35) hx hb d_M_lastIn_9 (by decide) (fun cc9 => ?_) (fun cc9 => ?_)
      · have hE := hE.1 cc9
        refine lv_iload_n hx hb d_M_lastIn_35 rfl (lv_at hl 2 rfl) ?_
        exact W.iret (v := v2) hx hb hr (fun t ht hW => ⟨_, rfl, hE, ht⟩) (fun q h => by cases h) d_M_lastIn_36
      · have hE := hE.2 cc9
        refine lv_aload_n hx hb d_M_lastIn_12 rfl (lv_at hl 0 rfl) ?_
        refine va_get (D := (mG md)) (ci := 7) (v := .ref (mA md 14)) (C := R_M) (T := F_M) (N := 37) hx hb hta i_M hown hK hP 0 rfl rfl 29 (by decide) (hta _ fl_M_55) (fun _ h9 => h9) rfl d_M_lastIn_13 ?_
        refine lv_iload_n hx hb d_M_lastIn_16 rfl (lv_at hl 2 rfl) ?_
        refine lv_iconst (v := 1) hx hb d_M_lastIn_17 (by decide) ?_
        refine lv_iadd hx hb d_M_lastIn_18 ?_
        obtain ⟨hI19, hE⟩ := hE
        refine va_iald (D := (mG md)) (f := mp_depth σ) hx hb hK hP 14 0 rfl rfl hI19 d_M_lastIn_19 ?_
        refine lv_aload_n hx hb d_M_lastIn_20 rfl (lv_at hl 0 rfl) ?_
        refine va_get (D := (mG md)) (ci := 7) (v := .ref (mA md 14)) (C := R_M) (T := F_M) (N := 37) hx hb hta i_M hown hK hP 0 rfl rfl 29 (by decide) (hta _ fl_M_55) (fun _ h9 => h9) rfl d_M_lastIn_21 ?_
        refine lv_iload_n hx hb d_M_lastIn_24 rfl (lv_at hl 1 rfl) ?_
        obtain ⟨hI25, hE⟩ := hE
        refine va_iald (D := (mG md)) (f := mp_depth σ) hx hb hK hP 14 0 rfl rfl hI25 d_M_lastIn_25 ?_
        refine lv_icmp_le (tgt := 35) hx hb d_M_lastIn_26 (by decide) (fun cc26 => ?_) (fun cc26 => ?_)
        · have hE := hE.1 cc26
          refine lv_iload_n hx hb d_M_lastIn_35 rfl (lv_at hl 2 rfl) ?_
          exact W.iret (v := v2) hx hb hr (fun t ht hW => ⟨_, rfl, hE, ht⟩) (fun q h => by cases h) d_M_lastIn_36
        · have hE := hE.2 cc26
          refine lv_iinc (v := v2 + 1) (lv' := [(2, .int (v2 + 1)), (0, .ref (mA md 0)), (1, .int v1)]) hx hb d_M_lastIn_29 hl (k := 2) rfl rfl (by decide) rfl (fun ls hl => ?_)
          refine lv_goto (tgt := 2) hx hb d_M_lastIn_32 (by decide) ?_
          exact ih2 (v2 + 1) _ (lv_sub hl [1, 2, 0] rfl) hE
  unfold w_M_lastIn at hE
  refine lv_iload_n hx hb d_M_lastIn_0 rfl (lv_at hl 1 rfl) ?_
  refine lv_istore_n (lv' := [(2, .int x0), (0, .ref (mA md 0)), (1, .int x0)]) hx hb d_M_lastIn_1 rfl hl (by decide) rfl (fun ls hl => ?_)
  obtain ⟨n, hE⟩ := hE
  exact L2 x0 n x0 _ (lv_sub hl [1, 2, 0] rfl) hE
theorem fl_M_16 : Cond.fieldLink "PlainPagesModel" 16 "PlainPagesModel" "ready" "[B" ∈ aW := aW_in 907 (by decide +kernel) rfl
theorem d_M_feed_0 : decode b_M_feed 0 = .ok (.aload_n 0, 1) := by decide +kernel
theorem d_M_feed_1 : decode b_M_feed 1 = .ok (.iconst 0, 1) := by decide +kernel
theorem d_M_feed_2 : decode b_M_feed 2 = .ok (.putfield 70, 3) := by decide +kernel
theorem d_M_feed_5 : decode b_M_feed 5 = .ok (.iconst 0, 1) := by decide +kernel
theorem d_M_feed_6 : decode b_M_feed 6 = .ok (.istore 6, 2) := by decide +kernel
theorem d_M_feed_8 : decode b_M_feed 8 = .ok (.iload 6, 2) := by decide +kernel
theorem d_M_feed_10 : decode b_M_feed 10 = .ok (.iconst 4, 1) := by decide +kernel
theorem d_M_feed_11 : decode b_M_feed 11 = .ok (.if_icmp .ge 92, 3) := by decide +kernel
theorem d_M_feed_14 : decode b_M_feed 14 = .ok (.bipush 24, 2) := by decide +kernel
theorem d_M_feed_16 : decode b_M_feed 16 = .ok (.bipush 8, 2) := by decide +kernel
theorem d_M_feed_18 : decode b_M_feed 18 = .ok (.iload 6, 2) := by decide +kernel
theorem d_M_feed_20 : decode b_M_feed 20 = .ok (.imul, 1) := by decide +kernel
theorem d_M_feed_21 : decode b_M_feed 21 = .ok (.isub, 1) := by decide +kernel
theorem d_M_feed_22 : decode b_M_feed 22 = .ok (.istore 7, 2) := by decide +kernel
theorem d_M_feed_24 : decode b_M_feed 24 = .ok (.aload_n 0, 1) := by decide +kernel
theorem d_M_feed_25 : decode b_M_feed 25 = .ok (.getfield 16, 3) := by decide +kernel
theorem d_M_feed_28 : decode b_M_feed 28 = .ok (.iload 6, 2) := by decide +kernel
theorem d_M_feed_30 : decode b_M_feed 30 = .ok (.iload_n 1, 1) := by decide +kernel
theorem d_M_feed_31 : decode b_M_feed 31 = .ok (.iload 7, 2) := by decide +kernel
theorem d_M_feed_33 : decode b_M_feed 33 = .ok (.ishr, 1) := by decide +kernel
theorem d_M_feed_34 : decode b_M_feed 34 = .ok (.i2b, 1) := by decide +kernel
theorem d_M_feed_35 : decode b_M_feed 35 = .ok (.bastore, 1) := by decide +kernel
theorem d_M_feed_36 : decode b_M_feed 36 = .ok (.aload_n 0, 1) := by decide +kernel
theorem d_M_feed_37 : decode b_M_feed 37 = .ok (.getfield 16, 3) := by decide +kernel
theorem d_M_feed_40 : decode b_M_feed 40 = .ok (.iconst 4, 1) := by decide +kernel
theorem d_M_feed_41 : decode b_M_feed 41 = .ok (.iload 6, 2) := by decide +kernel
theorem d_M_feed_43 : decode b_M_feed 43 = .ok (.iadd, 1) := by decide +kernel
theorem d_M_feed_44 : decode b_M_feed 44 = .ok (.iload_n 2, 1) := by decide +kernel
theorem d_M_feed_45 : decode b_M_feed 45 = .ok (.iload 7, 2) := by decide +kernel
theorem d_M_feed_47 : decode b_M_feed 47 = .ok (.ishr, 1) := by decide +kernel
theorem d_M_feed_48 : decode b_M_feed 48 = .ok (.i2b, 1) := by decide +kernel
theorem d_M_feed_49 : decode b_M_feed 49 = .ok (.bastore, 1) := by decide +kernel
theorem d_M_feed_50 : decode b_M_feed 50 = .ok (.aload_n 0, 1) := by decide +kernel
theorem d_M_feed_51 : decode b_M_feed 51 = .ok (.getfield 16, 3) := by decide +kernel
theorem d_M_feed_54 : decode b_M_feed 54 = .ok (.bipush 8, 2) := by decide +kernel
theorem d_M_feed_56 : decode b_M_feed 56 = .ok (.iload 6, 2) := by decide +kernel
theorem d_M_feed_58 : decode b_M_feed 58 = .ok (.iadd, 1) := by decide +kernel
theorem d_M_feed_59 : decode b_M_feed 59 = .ok (.iload_n 3, 1) := by decide +kernel
theorem d_M_feed_60 : decode b_M_feed 60 = .ok (.iload 7, 2) := by decide +kernel
theorem d_M_feed_62 : decode b_M_feed 62 = .ok (.ishr, 1) := by decide +kernel
theorem d_M_feed_63 : decode b_M_feed 63 = .ok (.i2b, 1) := by decide +kernel
theorem d_M_feed_64 : decode b_M_feed 64 = .ok (.bastore, 1) := by decide +kernel
theorem d_M_feed_65 : decode b_M_feed 65 = .ok (.aload_n 0, 1) := by decide +kernel
theorem d_M_feed_66 : decode b_M_feed 66 = .ok (.getfield 16, 3) := by decide +kernel
theorem d_M_feed_69 : decode b_M_feed 69 = .ok (.bipush 12, 2) := by decide +kernel
theorem d_M_feed_71 : decode b_M_feed 71 = .ok (.iload 6, 2) := by decide +kernel
theorem d_M_feed_73 : decode b_M_feed 73 = .ok (.iadd, 1) := by decide +kernel
theorem d_M_feed_74 : decode b_M_feed 74 = .ok (.iload 4, 2) := by decide +kernel
theorem d_M_feed_76 : decode b_M_feed 76 = .ok (.iload 7, 2) := by decide +kernel
theorem d_M_feed_78 : decode b_M_feed 78 = .ok (.ishr, 1) := by decide +kernel
theorem d_M_feed_79 : decode b_M_feed 79 = .ok (.i2b, 1) := by decide +kernel
theorem d_M_feed_80 : decode b_M_feed 80 = .ok (.bastore, 1) := by decide +kernel
theorem d_M_feed_81 : decode b_M_feed 81 = .ok (.aload_n 0, 1) := by decide +kernel
theorem d_M_feed_82 : decode b_M_feed 82 = .ok (.getfield 16, 3) := by decide +kernel
theorem d_M_feed_85 : decode b_M_feed 85 = .ok (.bipush 16, 2) := by decide +kernel
theorem d_M_feed_87 : decode b_M_feed 87 = .ok (.iload 6, 2) := by decide +kernel
theorem d_M_feed_89 : decode b_M_feed 89 = .ok (.iadd, 1) := by decide +kernel
theorem d_M_feed_90 : decode b_M_feed 90 = .ok (.iload 5, 2) := by decide +kernel
theorem d_M_feed_92 : decode b_M_feed 92 = .ok (.iload 7, 2) := by decide +kernel
theorem d_M_feed_94 : decode b_M_feed 94 = .ok (.ishr, 1) := by decide +kernel
theorem d_M_feed_95 : decode b_M_feed 95 = .ok (.i2b, 1) := by decide +kernel
theorem d_M_feed_96 : decode b_M_feed 96 = .ok (.bastore, 1) := by decide +kernel
theorem d_M_feed_97 : decode b_M_feed 97 = .ok (.iinc 6 1, 3) := by decide +kernel
theorem d_M_feed_100 : decode b_M_feed 100 = .ok (.goto (-92), 3) := by decide +kernel
theorem d_M_feed_103 : decode b_M_feed 103 = .ok (.return_, 1) := by decide +kernel
def w_M_feed_L8  (v1 : Int32) (v2 : Int32) (v3 : Int32) (v4 : Int32) (v5 : Int32) (post : MPS → Prop) : Nat → Int32 → MPS → Prop
  | 0, _, _ => False
  | n + 1, v6, σ => ((4 ≤ v6 → post σ) ∧ (¬ 4 ≤ v6 → (vp_in v6 20 ∧ (∀ σ35 : MPS, σ35 = ms_ready σ (upd (mp_ready σ) v6.toNatClampNeg (vp_nar .byte ((v1 >>> ((24 - (8 * v6)) &&& 31)).toInt8.toInt32))) → (vp_in (4 + v6) 20 ∧ (∀ σ49 : MPS, σ49 = ms_ready σ35 (upd (mp_ready σ35) (4 + v6).toNatClampNeg (vp_nar .byte ((v2 >>> ((24 - (8 * v6)) &&& 31)).toInt8.toInt32))) → (vp_in (8 + v6) 20 ∧ (∀ σ64 : MPS, σ64 = ms_ready σ49 (upd (mp_ready σ49) (8 + v6).toNatClampNeg (vp_nar .byte ((v3 >>> ((24 - (8 * v6)) &&& 31)).toInt8.toInt32))) → (vp_in (12 + v6) 20 ∧ (∀ σ80 : MPS, σ80 = ms_ready σ64 (upd (mp_ready σ64) (12 + v6).toNatClampNeg (vp_nar .byte ((v4 >>> ((24 - (8 * v6)) &&& 31)).toInt8.toInt32))) → (vp_in (16 + v6) 20 ∧ (∀ σ96 : MPS, σ96 = ms_ready σ80 (upd (mp_ready σ80) (16 + v6).toNatClampNeg (vp_nar .byte ((v5 >>> ((24 - (8 * v6)) &&& 31)).toInt8.toInt32))) → w_M_feed_L8 v1 v2 v3 v4 v5 post n (v6 + 1) σ96))))))))))))
def w_M_feed  (σ : MPS) (x0 : Int32) (x1 : Int32) (x2 : Int32) (x3 : Int32) (x4 : Int32) (post : MPS → Prop) : Prop := (∀ σ2 : MPS, σ2 = ms_thrown σ 0 → (∃ n, w_M_feed_L8 x0 x1 x2 x3 x4 post n 0 σ2))
set_option maxHeartbeats 4000000 in
set_option maxRecDepth 100000 in
theorem c_M_feed (l : Launch) (md : MD) (sz : Nat) (σ : MPS) (x0 : Int32) (x1 : Int32) (x2 : Int32) (x3 : Int32) (x4 : Int32)  (post : MPS → Prop) (hE : w_M_feed σ x0 x1 x2 x3 x4 post) : Met l y_M_feed ws_M_feed { frames := 0, cells := 0, slots := 0, locals := 0 } (va_Pc [.ref (mA md 0), .int x0, .int x1, .int x2, .int x3, .int x4] (gM md σ sz)) (va_Qv post (eM md (va_A (MW md σ) sz)) (va_A (MW md σ) sz)) 0 0 (va_A (MW md σ) sz) := by
  refine Met.ofW (cc := b_M_feed) (maxL := 8) (ret := none) (by decide) rfl ?_
  intro p e s m args below meth c s₁ B hml hv
  obtain ⟨rfl, hsz, hP, hK, hD0⟩ := hv
  have hx := B.exec
  have hb := B.bytes
  have hr := B.returns
  have hta : ∀ w ∈ aW, w.before _ s = true := fun w h => atoms_spec (ws := ws_M_feed) B.pre w (List.mem_cons_of_mem _ h)
  have hown : s.vm.findClass R_M = some m.cls := findClass_of_methodNamed B.named
  have hlocks := B.notSynchronized
  subst hsz
  have hD := hD0.self (sz := s.heap.size)
  generalize hAe : va_A (MW md σ) s.heap.size = A at hD ⊢
  have hA : ∀ q : Nat, s.heap.size ≤ q → A q := fun q h => by rw [← hAe]; exact Or.inr h
  have hS : va_S A s.heap s.heap [] := va_S.rf
  have hP : va_P (mG md) classes (MW md σ) s.heap := hP
  have hl := lv_entry ([.ref (mA md 0), .int x0, .int x1, .int x2, .int x3, .int x4]) (n := 8) (Nat.le_of_ble_eq_true rfl)
  rw [lg_entry_eq]
  generalize (lg_sl ([.ref (mA md 0), .int x0, .int x1, .int x2, .int x3, .int x4]) ++ List.replicate (8 - (lg_sl ([.ref (mA md 0), .int x0, .int x1, .int x2, .int x3, .int x4])).length) Slot.unset).toArray = ls at hl ⊢
  have hl : lv_has ls 8 [(0, .ref (mA md 0)), (1, .int x0), (2, .int x1), (3, .int x2), (4, .int x3), (5, .int x4)] := hl
  have L8 : ∀ (v1 : Int32) (v2 : Int32) (v3 : Int32) (v4 : Int32) (v5 : Int32) (n : Nat) (v6 : Int32) (σ : MPS) (H : Heap) (locs : List Loc) (hP : va_P (mG md) classes (MW md σ) H) (hD : va_D A (MW md σ)) (hS : va_S A s.heap H locs) (ls : Array Slot) (hl : lv_has ls 8 [(0, .ref (mA md 0)), (1, .int v1), (2, .int v2), (3, .int v3), (4, .int v4), (5, .int v5), (6, .int v6)]) (hE : w_M_feed_L8 v1 v2 v3 v4 v5 post n v6 σ), W p l e (headSpec ws_M_feed { frames := 0, cells := 0, slots := 0, locals := 0 }).room s m ([.ref (mA md 0), .int x0, .int x1, .int x2, .int x3, .int x4] : List Value).toArray below meth c H locs 0 0 (MQ below (va_Qv post (eM md A) A) ([.ref (mA md 0), .int x0, .int x1, .int x2, .int x3, .int x4] : List Value).toArray s 0 0 A) (F0 m 8 ls []) := by
    intro v1 v2 v3 v4 v5 n
    induction n with
    | zero => intro v6 σ H locs hP hD hS ls hl hE; exact hE.elim
    | succ n ih8 =>
      intro v6 σ H locs hP hD hS ls hl hE
      unfold w_M_feed_L8 at hE
      refine lv_iload hx hb d_M_feed_8 (lv_at hl 6 rfl) ?_
      refine lv_iconst (v := 4) hx hb d_M_feed_10 (by decide) ?_
      refine lv_icmp_ge (tgt := 103) hx hb d_M_feed_11 (by decide) (fun cc11 => ?_) (fun cc11 => ?_)
      · have hE := hE.1 cc11
        exact W.vret hx hb hr (fun t ht hW => ⟨⟨σ, rfl, hE, by rw [ht]; exact hP, va_K.moved hW.alike hK, hD⟩, hS.F ht⟩) hS.2.2 d_M_feed_103
      · have hE := hE.2 cc11
        refine lv_bipush (v := 24) hx hb d_M_feed_14 (by decide) ?_
        refine lv_bipush (v := 8) hx hb d_M_feed_16 (by decide) ?_
        refine lv_iload hx hb d_M_feed_18 (lv_at hl 6 rfl) ?_
        refine lv_imul hx hb d_M_feed_20 ?_
        refine lv_isub hx hb d_M_feed_21 ?_
        refine lv_istore (lv' := [(7, .int (24 - (8 * v6))), (0, .ref (mA md 0)), (1, .int v1), (2, .int v2), (3, .int v3), (4, .int v4), (5, .int v5), (6, .int v6)]) hx hb d_M_feed_22 hl (by decide) rfl (fun ls hl => ?_)
        refine lv_aload_n hx hb d_M_feed_24 rfl (lv_at hl 1 rfl) ?_
        refine va_get (D := (mG md)) (ci := 7) (v := .ref (mA md 3)) (C := R_M) (T := F_M) (N := 37) hx hb hta i_M hown hK hP 0 rfl rfl 3 (by decide) (hta _ fl_M_16) (fun _ h9 => h9) rfl d_M_feed_25 ?_
        refine lv_iload hx hb d_M_feed_28 (lv_at hl 7 rfl) ?_
        refine lv_iload_n hx hb d_M_feed_30 rfl (lv_at hl 2 rfl) ?_
        refine lv_iload hx hb d_M_feed_31 (lv_at hl 0 rfl) ?_
        refine lv_ishr hx hb d_M_feed_33 ?_
        refine lv_i2b hx hb d_M_feed_34 rfl ?_
        obtain ⟨hI35, hE⟩ := hE
        refine va_bast (D := (mG md)) (f := mp_ready σ) hx hb hK hP hD hS 3 1 rfl rfl hI35 d_M_feed_35 (fun H locs hP hD hS => ?_)
        have hP : va_P (mG md) classes (MW md (ms_ready σ (upd (mp_ready σ) v6.toNatClampNeg (vp_nar .byte ((v1 >>> ((24 - (8 * v6)) &&& 31)).toInt8.toInt32))))) H := hP
        have hD : va_D A (MW md (ms_ready σ (upd (mp_ready σ) v6.toNatClampNeg (vp_nar .byte ((v1 >>> ((24 - (8 * v6)) &&& 31)).toInt8.toInt32))))) := hD
        have hE := hE _ rfl
        generalize (ms_ready σ (upd (mp_ready σ) v6.toNatClampNeg (vp_nar .byte ((v1 >>> ((24 - (8 * v6)) &&& 31)).toInt8.toInt32))) : MPS) = σ35 at hP hD hE
        refine lv_aload_n hx hb d_M_feed_36 rfl (lv_at hl 1 rfl) ?_
        refine va_get (D := (mG md)) (ci := 7) (v := .ref (mA md 3)) (C := R_M) (T := F_M) (N := 37) hx hb hta i_M hown hK hP 0 rfl rfl 3 (by decide) (hta _ fl_M_16) (fun _ h9 => h9) rfl d_M_feed_37 ?_
        refine lv_iconst (v := 4) hx hb d_M_feed_40 (by decide) ?_
        refine lv_iload hx hb d_M_feed_41 (lv_at hl 7 rfl) ?_
        refine lv_iadd hx hb d_M_feed_43 ?_
        refine lv_iload_n hx hb d_M_feed_44 rfl (lv_at hl 3 rfl) ?_
        refine lv_iload hx hb d_M_feed_45 (lv_at hl 0 rfl) ?_
        refine lv_ishr hx hb d_M_feed_47 ?_
        refine lv_i2b hx hb d_M_feed_48 rfl ?_
        obtain ⟨hI49, hE⟩ := hE
        refine va_bast (D := (mG md)) (f := mp_ready σ35) hx hb hK hP hD hS 3 1 rfl rfl hI49 d_M_feed_49 (fun H locs hP hD hS => ?_)
        have hP : va_P (mG md) classes (MW md (ms_ready σ35 (upd (mp_ready σ35) (4 + v6).toNatClampNeg (vp_nar .byte ((v2 >>> ((24 - (8 * v6)) &&& 31)).toInt8.toInt32))))) H := hP
        have hD : va_D A (MW md (ms_ready σ35 (upd (mp_ready σ35) (4 + v6).toNatClampNeg (vp_nar .byte ((v2 >>> ((24 - (8 * v6)) &&& 31)).toInt8.toInt32))))) := hD
        have hE := hE _ rfl
        generalize (ms_ready σ35 (upd (mp_ready σ35) (4 + v6).toNatClampNeg (vp_nar .byte ((v2 >>> ((24 - (8 * v6)) &&& 31)).toInt8.toInt32))) : MPS) = σ49 at hP hD hE
        refine lv_aload_n hx hb d_M_feed_50 rfl (lv_at hl 1 rfl) ?_
        refine va_get (D := (mG md)) (ci := 7) (v := .ref (mA md 3)) (C := R_M) (T := F_M) (N := 37) hx hb hta i_M hown hK hP 0 rfl rfl 3 (by decide) (hta _ fl_M_16) (fun _ h9 => h9) rfl d_M_feed_51 ?_
        refine lv_bipush (v := 8) hx hb d_M_feed_54 (by decide) ?_
        refine lv_iload hx hb d_M_feed_56 (lv_at hl 7 rfl) ?_
        refine lv_iadd hx hb d_M_feed_58 ?_
        refine lv_iload_n hx hb d_M_feed_59 rfl (lv_at hl 4 rfl) ?_
        refine lv_iload hx hb d_M_feed_60 (lv_at hl 0 rfl) ?_
        refine lv_ishr hx hb d_M_feed_62 ?_
        refine lv_i2b hx hb d_M_feed_63 rfl ?_
        obtain ⟨hI64, hE⟩ := hE
        refine va_bast (D := (mG md)) (f := mp_ready σ49) hx hb hK hP hD hS 3 1 rfl rfl hI64 d_M_feed_64 (fun H locs hP hD hS => ?_)
        have hP : va_P (mG md) classes (MW md (ms_ready σ49 (upd (mp_ready σ49) (8 + v6).toNatClampNeg (vp_nar .byte ((v3 >>> ((24 - (8 * v6)) &&& 31)).toInt8.toInt32))))) H := hP
        have hD : va_D A (MW md (ms_ready σ49 (upd (mp_ready σ49) (8 + v6).toNatClampNeg (vp_nar .byte ((v3 >>> ((24 - (8 * v6)) &&& 31)).toInt8.toInt32))))) := hD
        have hE := hE _ rfl
        generalize (ms_ready σ49 (upd (mp_ready σ49) (8 + v6).toNatClampNeg (vp_nar .byte ((v3 >>> ((24 - (8 * v6)) &&& 31)).toInt8.toInt32))) : MPS) = σ64 at hP hD hE
        refine lv_aload_n hx hb d_M_feed_65 rfl (lv_at hl 1 rfl) ?_
        refine va_get (D := (mG md)) (ci := 7) (v := .ref (mA md 3)) (C := R_M) (T := F_M) (N := 37) hx hb hta i_M hown hK hP 0 rfl rfl 3 (by decide) (hta _ fl_M_16) (fun _ h9 => h9) rfl d_M_feed_66 ?_
        refine lv_bipush (v := 12) hx hb d_M_feed_69 (by decide) ?_
        refine lv_iload hx hb d_M_feed_71 (lv_at hl 7 rfl) ?_
        refine lv_iadd hx hb d_M_feed_73 ?_
        refine lv_iload hx hb d_M_feed_74 (lv_at hl 5 rfl) ?_
        refine lv_iload hx hb d_M_feed_76 (lv_at hl 0 rfl) ?_
        refine lv_ishr hx hb d_M_feed_78 ?_
        refine lv_i2b hx hb d_M_feed_79 rfl ?_
        obtain ⟨hI80, hE⟩ := hE
        refine va_bast (D := (mG md)) (f := mp_ready σ64) hx hb hK hP hD hS 3 1 rfl rfl hI80 d_M_feed_80 (fun H locs hP hD hS => ?_)
        have hP : va_P (mG md) classes (MW md (ms_ready σ64 (upd (mp_ready σ64) (12 + v6).toNatClampNeg (vp_nar .byte ((v4 >>> ((24 - (8 * v6)) &&& 31)).toInt8.toInt32))))) H := hP
        have hD : va_D A (MW md (ms_ready σ64 (upd (mp_ready σ64) (12 + v6).toNatClampNeg (vp_nar .byte ((v4 >>> ((24 - (8 * v6)) &&& 31)).toInt8.toInt32))))) := hD
        have hE := hE _ rfl
        generalize (ms_ready σ64 (upd (mp_ready σ64) (12 + v6).toNatClampNeg (vp_nar .byte ((v4 >>> ((24 - (8 * v6)) &&& 31)).toInt8.toInt32))) : MPS) = σ80 at hP hD hE
        refine lv_aload_n hx hb d_M_feed_81 rfl (lv_at hl 1 rfl) ?_
        refine va_get (D := (mG md)) (ci := 7) (v := .ref (mA md 3)) (C := R_M) (T := F_M) (N := 37) hx hb hta i_M hown hK hP 0 rfl rfl 3 (by decide) (hta _ fl_M_16) (fun _ h9 => h9) rfl d_M_feed_82 ?_
        refine lv_bipush (v := 16) hx hb d_M_feed_85 (by decide) ?_
        refine lv_iload hx hb d_M_feed_87 (lv_at hl 7 rfl) ?_
        refine lv_iadd hx hb d_M_feed_89 ?_
        refine lv_iload hx hb d_M_feed_90 (lv_at hl 6 rfl) ?_
        refine lv_iload hx hb d_M_feed_92 (lv_at hl 0 rfl) ?_
        refine lv_ishr hx hb d_M_feed_94 ?_
        refine lv_i2b hx hb d_M_feed_95 rfl ?_
        obtain ⟨hI96, hE⟩ := hE
        refine va_bast (D := (mG md)) (f := mp_ready σ80) hx hb hK hP hD hS 3 1 rfl rfl hI96 d_M_feed_96 (fun H locs hP hD hS => ?_)
        have hP : va_P (mG md) classes (MW md (ms_ready σ80 (upd (mp_ready σ80) (16 + v6).toNatClampNeg (vp_nar .byte ((v5 >>> ((24 - (8 * v6)) &&& 31)).toInt8.toInt32))))) H := hP
        have hD : va_D A (MW md (ms_ready σ80 (upd (mp_ready σ80) (16 + v6).toNatClampNeg (vp_nar .byte ((v5 >>> ((24 - (8 * v6)) &&& 31)).toInt8.toInt32))))) := hD
        have hE := hE _ rfl
        generalize (ms_ready σ80 (upd (mp_ready σ80) (16 + v6).toNatClampNeg (vp_nar .byte ((v5 >>> ((24 - (8 * v6)) &&& 31)).toInt8.toInt32))) : MPS) = σ96 at hP hD hE
        refine lv_iinc (v := v6 + 1) (lv' := [(6, .int (v6 + 1)), (7, .int (24 - (8 * v6))), (0, .ref (mA md 0)), (1, .int v1), (2, .int v2), (3, .int v3), (4, .int v4), (5, .int v5)]) hx hb d_M_feed_97 hl (k := 7) rfl rfl (by decide) rfl (fun ls hl => ?_)
        refine lv_goto (tgt := 8) hx hb d_M_feed_100 (by decide) ?_
        exact ih8 (v6 + 1) σ96 _ _ hP hD hS _ (lv_sub hl [2, 3, 4, 5, 6, 7, 0] rfl) hE
  unfold w_M_feed at hE
  refine lv_aload_n hx hb d_M_feed_0 rfl (lv_at hl 0 rfl) ?_
  refine lv_iconst (v := 0) hx hb d_M_feed_1 (by decide) ?_
  refine va_put (D := (mG md)) (ci := 7) (v := .int 0) (ty := .int) (C := R_M) (T := F_M) (N := 37) hx hb hta i_M t_M t_M_ok n_M hown hK hP hD hS 0 rfl rfl 0 (by decide) (hta _ fl_M_70) (fun _ h9 => h9) rfl (by decide +kernel) rfl rfl (Nat.le_of_ble_eq_true rfl) d_M_feed_2 (fun H locs hP hD hS => ?_)
  have hP : va_P (mG md) classes (MW md (ms_thrown σ 0)) H := hP
  have hD : va_D A (MW md (ms_thrown σ 0)) := hD
  have hE := hE _ rfl
  generalize (ms_thrown σ 0 : MPS) = σ2 at hP hD hE
  refine lv_iconst (v := 0) hx hb d_M_feed_5 (by decide) ?_
  refine lv_istore (lv' := [(6, .int 0), (0, .ref (mA md 0)), (1, .int x0), (2, .int x1), (3, .int x2), (4, .int x3), (5, .int x4)]) hx hb d_M_feed_6 hl (by decide) rfl (fun ls hl => ?_)
  obtain ⟨n, hE⟩ := hE
  exact L8 x0 x1 x2 x3 x4 n 0 σ2 _ _ hP hD hS _ (lv_sub hl [1, 2, 3, 4, 5, 6, 0] rfl) hE
theorem fl_M_73 : Cond.fieldLink "PlainPagesModel" 73 "PlainPagesModel" "taped" "I" ∈ aW := aW_in 910 (by decide +kernel) rfl
theorem fl_M_7 : Cond.fieldLink "PlainPagesModel" 7 "PlainPagesModel" "tape" "[B" ∈ aW := aW_in 905 (by decide +kernel) rfl
theorem d_M_end_0 : decode b_M_end 0 = .ok (.aload_n 0, 1) := by decide +kernel
theorem d_M_end_1 : decode b_M_end 1 = .ok (.iconst 0, 1) := by decide +kernel
theorem d_M_end_2 : decode b_M_end 2 = .ok (.putfield 70, 3) := by decide +kernel
theorem d_M_end_5 : decode b_M_end 5 = .ok (.iload_n 1, 1) := by decide +kernel
theorem d_M_end_6 : decode b_M_end 6 = .ok (.ifCond .lt 21, 3) := by decide +kernel
theorem d_M_end_9 : decode b_M_end 9 = .ok (.iload_n 1, 1) := by decide +kernel
theorem d_M_end_10 : decode b_M_end 10 = .ok (.bipush 20, 2) := by decide +kernel
theorem d_M_end_12 : decode b_M_end 12 = .ok (.if_icmp .gt 15, 3) := by decide +kernel
theorem d_M_end_15 : decode b_M_end 15 = .ok (.aload_n 0, 1) := by decide +kernel
theorem d_M_end_16 : decode b_M_end 16 = .ok (.getfield 73, 3) := by decide +kernel
theorem d_M_end_19 : decode b_M_end 19 = .ok (.iload_n 1, 1) := by decide +kernel
theorem d_M_end_20 : decode b_M_end 20 = .ok (.iadd, 1) := by decide +kernel
theorem d_M_end_21 : decode b_M_end 21 = .ok (.sipush 4000, 3) := by decide +kernel
theorem d_M_end_24 : decode b_M_end 24 = .ok (.if_icmp .le 5, 3) := by decide +kernel
theorem d_M_end_27 : decode b_M_end 27 = .ok (.iconst (-1), 1) := by decide +kernel
theorem d_M_end_28 : decode b_M_end 28 = .ok (.ireturn, 1) := by decide +kernel
theorem d_M_end_29 : decode b_M_end 29 = .ok (.iconst 0, 1) := by decide +kernel
theorem d_M_end_30 : decode b_M_end 30 = .ok (.istore_n 2, 1) := by decide +kernel
theorem d_M_end_31 : decode b_M_end 31 = .ok (.iload_n 2, 1) := by decide +kernel
theorem d_M_end_32 : decode b_M_end 32 = .ok (.iload_n 1, 1) := by decide +kernel
theorem d_M_end_33 : decode b_M_end 33 = .ok (.if_icmp .ge 26, 3) := by decide +kernel
theorem d_M_end_36 : decode b_M_end 36 = .ok (.aload_n 0, 1) := by decide +kernel
theorem d_M_end_37 : decode b_M_end 37 = .ok (.getfield 7, 3) := by decide +kernel
theorem d_M_end_40 : decode b_M_end 40 = .ok (.aload_n 0, 1) := by decide +kernel
theorem d_M_end_41 : decode b_M_end 41 = .ok (.getfield 73, 3) := by decide +kernel
theorem d_M_end_44 : decode b_M_end 44 = .ok (.iload_n 2, 1) := by decide +kernel
theorem d_M_end_45 : decode b_M_end 45 = .ok (.iadd, 1) := by decide +kernel
theorem d_M_end_46 : decode b_M_end 46 = .ok (.aload_n 0, 1) := by decide +kernel
theorem d_M_end_47 : decode b_M_end 47 = .ok (.getfield 16, 3) := by decide +kernel
theorem d_M_end_50 : decode b_M_end 50 = .ok (.iload_n 2, 1) := by decide +kernel
theorem d_M_end_51 : decode b_M_end 51 = .ok (.baload, 1) := by decide +kernel
theorem d_M_end_52 : decode b_M_end 52 = .ok (.bastore, 1) := by decide +kernel
theorem d_M_end_53 : decode b_M_end 53 = .ok (.iinc 2 1, 3) := by decide +kernel
theorem d_M_end_56 : decode b_M_end 56 = .ok (.goto (-25), 3) := by decide +kernel
theorem d_M_end_59 : decode b_M_end 59 = .ok (.aload_n 0, 1) := by decide +kernel
theorem d_M_end_60 : decode b_M_end 60 = .ok (.dup, 1) := by decide +kernel
theorem d_M_end_61 : decode b_M_end 61 = .ok (.getfield 73, 3) := by decide +kernel
theorem d_M_end_64 : decode b_M_end 64 = .ok (.iload_n 1, 1) := by decide +kernel
theorem d_M_end_65 : decode b_M_end 65 = .ok (.iadd, 1) := by decide +kernel
theorem d_M_end_66 : decode b_M_end 66 = .ok (.putfield 73, 3) := by decide +kernel
theorem d_M_end_69 : decode b_M_end 69 = .ok (.iconst 0, 1) := by decide +kernel
theorem d_M_end_70 : decode b_M_end 70 = .ok (.istore_n 2, 1) := by decide +kernel
theorem d_M_end_71 : decode b_M_end 71 = .ok (.iload_n 2, 1) := by decide +kernel
theorem d_M_end_72 : decode b_M_end 72 = .ok (.bipush 20, 2) := by decide +kernel
theorem d_M_end_74 : decode b_M_end 74 = .ok (.if_icmp .ge 16, 3) := by decide +kernel
theorem d_M_end_77 : decode b_M_end 77 = .ok (.aload_n 0, 1) := by decide +kernel
theorem d_M_end_78 : decode b_M_end 78 = .ok (.getfield 16, 3) := by decide +kernel
theorem d_M_end_81 : decode b_M_end 81 = .ok (.iload_n 2, 1) := by decide +kernel
theorem d_M_end_82 : decode b_M_end 82 = .ok (.iconst 0, 1) := by decide +kernel
theorem d_M_end_83 : decode b_M_end 83 = .ok (.bastore, 1) := by decide +kernel
theorem d_M_end_84 : decode b_M_end 84 = .ok (.iinc 2 1, 3) := by decide +kernel
theorem d_M_end_87 : decode b_M_end 87 = .ok (.goto (-16), 3) := by decide +kernel
theorem d_M_end_90 : decode b_M_end 90 = .ok (.aload_n 0, 1) := by decide +kernel
theorem d_M_end_91 : decode b_M_end 91 = .ok (.getfield 73, 3) := by decide +kernel
theorem d_M_end_94 : decode b_M_end 94 = .ok (.ireturn, 1) := by decide +kernel
def w_M_end_L71   (post : Int32 → MPS → Prop) : Nat → Int32 → MPS → Prop
  | 0, _, _ => False
  | n + 1, v2, σ => ((20 ≤ v2 → post (mp_taped σ) σ) ∧ (¬ 20 ≤ v2 → (vp_in v2 20 ∧ (∀ σ83 : MPS, σ83 = ms_ready σ (upd (mp_ready σ) v2.toNatClampNeg (vp_nar .byte 0)) → w_M_end_L71 post n (v2 + 1) σ83))))
def w_M_end_L31  (v1 : Int32) (post : Int32 → MPS → Prop) : Nat → Int32 → MPS → Prop
  | 0, _, _ => False
  | n + 1, v2, σ => ((v1 ≤ v2 → (∀ σ66 : MPS, σ66 = ms_taped σ ((mp_taped σ) + v1) → (∃ n, w_M_end_L71 post n 0 σ66))) ∧ (¬ v1 ≤ v2 → (vp_in v2 20 ∧ (vp_in ((mp_taped σ) + v2) 4000 ∧ (∀ σ52 : MPS, σ52 = ms_tape σ (upd (mp_tape σ) ((mp_taped σ) + v2).toNatClampNeg (vp_nar .byte ((mp_ready σ) v2.toNatClampNeg))) → w_M_end_L31 v1 post n (v2 + 1) σ52)))))
def w_M_end  (σ : MPS) (x0 : Int32) (post : Int32 → MPS → Prop) : Prop := (∀ σ2 : MPS, σ2 = ms_thrown σ 0 → ((x0 < 0 → post (-1) σ2) ∧ (¬ x0 < 0 → ((20 < x0 → post (-1) σ2) ∧ (¬ 20 < x0 → ((((mp_taped σ2) + x0) ≤ 4000 → (∃ n, w_M_end_L31 x0 post n 0 σ2)) ∧ (¬ ((mp_taped σ2) + x0) ≤ 4000 → post (-1) σ2)))))))
set_option maxHeartbeats 4000000 in
set_option maxRecDepth 100000 in
theorem c_M_end (l : Launch) (md : MD) (sz : Nat) (σ : MPS) (x0 : Int32)  (post : Int32 → MPS → Prop) (hE : w_M_end σ x0 post) : Met l y_M_end ws_M_end { frames := 0, cells := 0, slots := 0, locals := 0 } (va_Pc [.ref (mA md 0), .int x0] (gM md σ sz)) (va_Qi post (eM md (va_A (MW md σ) sz)) (va_A (MW md σ) sz)) 0 0 (va_A (MW md σ) sz) := by
  refine Met.ofW (cc := b_M_end) (maxL := 3) (ret := (some .int)) (by decide) rfl ?_
  intro p e s m args below meth c s₁ B hml hv
  obtain ⟨rfl, hsz, hP, hK, hD0⟩ := hv
  have hx := B.exec
  have hb := B.bytes
  have hr := B.returns
  have hta : ∀ w ∈ aW, w.before _ s = true := fun w h => atoms_spec (ws := ws_M_end) B.pre w (List.mem_cons_of_mem _ h)
  have hown : s.vm.findClass R_M = some m.cls := findClass_of_methodNamed B.named
  have hlocks := B.notSynchronized
  subst hsz
  have hD := hD0.self (sz := s.heap.size)
  generalize hAe : va_A (MW md σ) s.heap.size = A at hD ⊢
  have hA : ∀ q : Nat, s.heap.size ≤ q → A q := fun q h => by rw [← hAe]; exact Or.inr h
  have hS : va_S A s.heap s.heap [] := va_S.rf
  have hP : va_P (mG md) classes (MW md σ) s.heap := hP
  have hl := lv_entry ([.ref (mA md 0), .int x0]) (n := 3) (Nat.le_of_ble_eq_true rfl)
  rw [lg_entry_eq]
  generalize (lg_sl ([.ref (mA md 0), .int x0]) ++ List.replicate (3 - (lg_sl ([.ref (mA md 0), .int x0])).length) Slot.unset).toArray = ls at hl ⊢
  have hl : lv_has ls 3 [(0, .ref (mA md 0)), (1, .int x0)] := hl
  have L71 : ∀ (n : Nat) (v2 : Int32) (σ : MPS) (H : Heap) (locs : List Loc) (hP : va_P (mG md) classes (MW md σ) H) (hD : va_D A (MW md σ)) (hS : va_S A s.heap H locs) (ls : Array Slot) (hl : lv_has ls 3 [(0, .ref (mA md 0)), (2, .int v2)]) (hE : w_M_end_L71 post n v2 σ), W p l e (headSpec ws_M_end { frames := 0, cells := 0, slots := 0, locals := 0 }).room s m ([.ref (mA md 0), .int x0] : List Value).toArray below meth c H locs 0 0 (MQ below (va_Qi post (eM md A) A) ([.ref (mA md 0), .int x0] : List Value).toArray s 0 0 A) (F0 m 71 ls []) := by
    intro n
    induction n with
    | zero => intro v2 σ H locs hP hD hS ls hl hE; exact hE.elim
    | succ n ih71 =>
      intro v2 σ H locs hP hD hS ls hl hE
      unfold w_M_end_L71 at hE
      refine lv_iload_n hx hb d_M_end_71 rfl (lv_at hl 1 rfl) ?_
      refine lv_bipush (v := 20) hx hb d_M_end_72 (by decide) ?_
      refine lv_icmp_ge (tgt := 90) hx hb d_M_end_74 (by decide) (fun cc74 => ?_) (fun cc74 => ?_)
      · have hE := hE.1 cc74
        refine lv_aload_n hx hb d_M_end_90 rfl (lv_at hl 0 rfl) ?_
        refine va_get (D := (mG md)) (ci := 7) (v := .int (mp_taped σ)) (C := R_M) (T := F_M) (N := 37) hx hb hta i_M hown hK hP 0 rfl rfl 6 (by decide) (hta _ fl_M_73) (fun _ h9 => h9) rfl d_M_end_91 ?_
        exact W.iret (v := mp_taped σ) hx hb hr (fun t ht hW => ⟨⟨_, σ, rfl, hE, by rw [ht]; exact hP, va_K.moved hW.alike hK, hD⟩, hS.F ht⟩) hS.2.2 d_M_end_94
      · have hE := hE.2 cc74
        refine lv_aload_n hx hb d_M_end_77 rfl (lv_at hl 0 rfl) ?_
        refine va_get (D := (mG md)) (ci := 7) (v := .ref (mA md 3)) (C := R_M) (T := F_M) (N := 37) hx hb hta i_M hown hK hP 0 rfl rfl 3 (by decide) (hta _ fl_M_16) (fun _ h9 => h9) rfl d_M_end_78 ?_
        refine lv_iload_n hx hb d_M_end_81 rfl (lv_at hl 1 rfl) ?_
        refine lv_iconst (v := 0) hx hb d_M_end_82 (by decide) ?_
        obtain ⟨hI83, hE⟩ := hE
        refine va_bast (D := (mG md)) (f := mp_ready σ) hx hb hK hP hD hS 3 1 rfl rfl hI83 d_M_end_83 (fun H locs hP hD hS => ?_)
        have hP : va_P (mG md) classes (MW md (ms_ready σ (upd (mp_ready σ) v2.toNatClampNeg (vp_nar .byte 0)))) H := hP
        have hD : va_D A (MW md (ms_ready σ (upd (mp_ready σ) v2.toNatClampNeg (vp_nar .byte 0)))) := hD
        have hE := hE _ rfl
        generalize (ms_ready σ (upd (mp_ready σ) v2.toNatClampNeg (vp_nar .byte 0)) : MPS) = σ83 at hP hD hE
        refine lv_iinc (v := v2 + 1) (lv' := [(2, .int (v2 + 1)), (0, .ref (mA md 0))]) hx hb d_M_end_84 hl (k := 1) rfl rfl (by decide) rfl (fun ls hl => ?_)
        refine lv_goto (tgt := 71) hx hb d_M_end_87 (by decide) ?_
        exact ih71 (v2 + 1) σ83 _ _ hP hD hS _ (lv_sub hl [1, 0] rfl) hE
  have L31 : ∀ (v1 : Int32) (n : Nat) (v2 : Int32) (σ : MPS) (H : Heap) (locs : List Loc) (hP : va_P (mG md) classes (MW md σ) H) (hD : va_D A (MW md σ)) (hS : va_S A s.heap H locs) (ls : Array Slot) (hl : lv_has ls 3 [(0, .ref (mA md 0)), (1, .int v1), (2, .int v2)]) (hE : w_M_end_L31 v1 post n v2 σ), W p l e (headSpec ws_M_end { frames := 0, cells := 0, slots := 0, locals := 0 }).room s m ([.ref (mA md 0), .int x0] : List Value).toArray below meth c H locs 0 0 (MQ below (va_Qi post (eM md A) A) ([.ref (mA md 0), .int x0] : List Value).toArray s 0 0 A) (F0 m 31 ls []) := by
    intro v1 n
    induction n with
    | zero => intro v2 σ H locs hP hD hS ls hl hE; exact hE.elim
    | succ n ih31 =>
      intro v2 σ H locs hP hD hS ls hl hE
      unfold w_M_end_L31 at hE
      refine lv_iload_n hx hb d_M_end_31 rfl (lv_at hl 2 rfl) ?_
      refine lv_iload_n hx hb d_M_end_32 rfl (lv_at hl 1 rfl) ?_
      refine lv_icmp_ge (tgt := 59) hx hb d_M_end_33 (by decide) (fun cc33 => ?_) (fun cc33 => ?_)
      · have hE := hE.1 cc33
        refine lv_aload_n hx hb d_M_end_59 rfl (lv_at hl 0 rfl) ?_
        refine lv_dup hx hb d_M_end_60 rfl ?_
        refine va_get (D := (mG md)) (ci := 7) (v := .int (mp_taped σ)) (C := R_M) (T := F_M) (N := 37) hx hb hta i_M hown hK hP 0 rfl rfl 6 (by decide) (hta _ fl_M_73) (fun _ h9 => h9) rfl d_M_end_61 ?_
        refine lv_iload_n hx hb d_M_end_64 rfl (lv_at hl 1 rfl) ?_
        refine lv_iadd hx hb d_M_end_65 ?_
        refine va_put (D := (mG md)) (ci := 7) (v := .int ((mp_taped σ) + v1)) (ty := .int) (C := R_M) (T := F_M) (N := 37) hx hb hta i_M t_M t_M_ok n_M hown hK hP hD hS 0 rfl rfl 6 (by decide) (hta _ fl_M_73) (fun _ h9 => h9) rfl (by decide +kernel) rfl rfl (Nat.le_of_ble_eq_true rfl) d_M_end_66 (fun H locs hP hD hS => ?_)
        have hP : va_P (mG md) classes (MW md (ms_taped σ ((mp_taped σ) + v1))) H := hP
        have hD : va_D A (MW md (ms_taped σ ((mp_taped σ) + v1))) := hD
        have hE := hE _ rfl
        generalize (ms_taped σ ((mp_taped σ) + v1) : MPS) = σ66 at hP hD hE
        refine lv_iconst (v := 0) hx hb d_M_end_69 (by decide) ?_
        refine lv_istore_n (lv' := [(2, .int 0), (0, .ref (mA md 0)), (1, .int v1)]) hx hb d_M_end_70 rfl hl (by decide) rfl (fun ls hl => ?_)
        obtain ⟨n, hE⟩ := hE
        exact L71  n 0 σ66 _ _ hP hD hS _ (lv_sub hl [1, 0] rfl) hE
      · have hE := hE.2 cc33
        refine lv_aload_n hx hb d_M_end_36 rfl (lv_at hl 0 rfl) ?_
        refine va_get (D := (mG md)) (ci := 7) (v := .ref (mA md 1)) (C := R_M) (T := F_M) (N := 37) hx hb hta i_M hown hK hP 0 rfl rfl 1 (by decide) (hta _ fl_M_7) (fun _ h9 => h9) rfl d_M_end_37 ?_
        refine lv_aload_n hx hb d_M_end_40 rfl (lv_at hl 0 rfl) ?_
        refine va_get (D := (mG md)) (ci := 7) (v := .int (mp_taped σ)) (C := R_M) (T := F_M) (N := 37) hx hb hta i_M hown hK hP 0 rfl rfl 6 (by decide) (hta _ fl_M_73) (fun _ h9 => h9) rfl d_M_end_41 ?_
        refine lv_iload_n hx hb d_M_end_44 rfl (lv_at hl 2 rfl) ?_
        refine lv_iadd hx hb d_M_end_45 ?_
        refine lv_aload_n hx hb d_M_end_46 rfl (lv_at hl 0 rfl) ?_
        refine va_get (D := (mG md)) (ci := 7) (v := .ref (mA md 3)) (C := R_M) (T := F_M) (N := 37) hx hb hta i_M hown hK hP 0 rfl rfl 3 (by decide) (hta _ fl_M_16) (fun _ h9 => h9) rfl d_M_end_47 ?_
        refine lv_iload_n hx hb d_M_end_50 rfl (lv_at hl 2 rfl) ?_
        obtain ⟨hI51, hE⟩ := hE
        refine va_bald (D := (mG md)) (f := mp_ready σ) hx hb hK hP 3 1 rfl rfl hI51 d_M_end_51 ?_
        obtain ⟨hI52, hE⟩ := hE
        refine va_bast (D := (mG md)) (f := mp_tape σ) hx hb hK hP hD hS 1 1 rfl rfl hI52 d_M_end_52 (fun H locs hP hD hS => ?_)
        have hP : va_P (mG md) classes (MW md (ms_tape σ (upd (mp_tape σ) ((mp_taped σ) + v2).toNatClampNeg (vp_nar .byte ((mp_ready σ) v2.toNatClampNeg))))) H := hP
        have hD : va_D A (MW md (ms_tape σ (upd (mp_tape σ) ((mp_taped σ) + v2).toNatClampNeg (vp_nar .byte ((mp_ready σ) v2.toNatClampNeg))))) := hD
        have hE := hE _ rfl
        generalize (ms_tape σ (upd (mp_tape σ) ((mp_taped σ) + v2).toNatClampNeg (vp_nar .byte ((mp_ready σ) v2.toNatClampNeg))) : MPS) = σ52 at hP hD hE
        refine lv_iinc (v := v2 + 1) (lv' := [(2, .int (v2 + 1)), (0, .ref (mA md 0)), (1, .int v1)]) hx hb d_M_end_53 hl (k := 2) rfl rfl (by decide) rfl (fun ls hl => ?_)
        refine lv_goto (tgt := 31) hx hb d_M_end_56 (by decide) ?_
        exact ih31 (v2 + 1) σ52 _ _ hP hD hS _ (lv_sub hl [1, 2, 0] rfl) hE
  unfold w_M_end at hE
  refine lv_aload_n hx hb d_M_end_0 rfl (lv_at hl 0 rfl) ?_
  refine lv_iconst (v := 0) hx hb d_M_end_1 (by decide) ?_
  refine va_put (D := (mG md)) (ci := 7) (v := .int 0) (ty := .int) (C := R_M) (T := F_M) (N := 37) hx hb hta i_M t_M t_M_ok n_M hown hK hP hD hS 0 rfl rfl 0 (by decide) (hta _ fl_M_70) (fun _ h9 => h9) rfl (by decide +kernel) rfl rfl (Nat.le_of_ble_eq_true rfl) d_M_end_2 (fun H locs hP hD hS => ?_)
  have hP : va_P (mG md) classes (MW md (ms_thrown σ 0)) H := hP
  have hD : va_D A (MW md (ms_thrown σ 0)) := hD
  have hE := hE _ rfl
  generalize (ms_thrown σ 0 : MPS) = σ2 at hP hD hE
  refine lv_iload_n hx hb d_M_end_5 rfl (lv_at hl 1 rfl) ?_
  refine lv_if_lt (tgt := 27) hx hb d_M_end_6 (by decide) (fun cc6 => ?_) (fun cc6 => ?_)
  · have hE := hE.1 cc6
    refine lv_iconst (v := -1) hx hb d_M_end_27 (by decide) ?_
    exact W.iret (v := (-1)) hx hb hr (fun t ht hW => ⟨⟨_, σ2, rfl, hE, by rw [ht]; exact hP, va_K.moved hW.alike hK, hD⟩, hS.F ht⟩) hS.2.2 d_M_end_28
  · have hE := hE.2 cc6
    refine lv_iload_n hx hb d_M_end_9 rfl (lv_at hl 1 rfl) ?_
    refine lv_bipush (v := 20) hx hb d_M_end_10 (by decide) ?_
    refine lv_icmp_gt (tgt := 27) hx hb d_M_end_12 (by decide) (fun cc12 => ?_) (fun cc12 => ?_)
    · have hE := hE.1 cc12
      refine lv_iconst (v := -1) hx hb d_M_end_27 (by decide) ?_
      exact W.iret (v := (-1)) hx hb hr (fun t ht hW => ⟨⟨_, σ2, rfl, hE, by rw [ht]; exact hP, va_K.moved hW.alike hK, hD⟩, hS.F ht⟩) hS.2.2 d_M_end_28
    · have hE := hE.2 cc12
      refine lv_aload_n hx hb d_M_end_15 rfl (lv_at hl 0 rfl) ?_
      refine va_get (D := (mG md)) (ci := 7) (v := .int (mp_taped σ2)) (C := R_M) (T := F_M) (N := 37) hx hb hta i_M hown hK hP 0 rfl rfl 6 (by decide) (hta _ fl_M_73) (fun _ h9 => h9) rfl d_M_end_16 ?_
      refine lv_iload_n hx hb d_M_end_19 rfl (lv_at hl 1 rfl) ?_
      refine lv_iadd hx hb d_M_end_20 ?_
      refine lv_sipush (v := 4000) hx hb d_M_end_21 (by decide) ?_
      refine lv_icmp_le (tgt := 29) hx hb d_M_end_24 (by decide) (fun cc24 => ?_) (fun cc24 => ?_)
      · have hE := hE.1 cc24
        refine lv_iconst (v := 0) hx hb d_M_end_29 (by decide) ?_
        refine lv_istore_n (lv' := [(2, .int 0), (0, .ref (mA md 0)), (1, .int x0)]) hx hb d_M_end_30 rfl hl (by decide) rfl (fun ls hl => ?_)
        obtain ⟨n, hE⟩ := hE
        exact L31 x0 n 0 σ2 _ _ hP hD hS _ (lv_sub hl [1, 2, 0] rfl) hE
      · have hE := hE.2 cc24
        refine lv_iconst (v := -1) hx hb d_M_end_27 (by decide) ?_
        exact W.iret (v := (-1)) hx hb hr (fun t ht hW => ⟨⟨_, σ2, rfl, hE, by rw [ht]; exact hP, va_K.moved hW.alike hK, hD⟩, hS.F ht⟩) hS.2.2 d_M_end_28

theorem d_M_wipe_0 : decode b_M_wipe 0 = .ok (.aload_n 0, 1) := by decide +kernel
theorem d_M_wipe_1 : decode b_M_wipe 1 = .ok (.iconst 0, 1) := by decide +kernel
theorem d_M_wipe_2 : decode b_M_wipe 2 = .ok (.putfield 70, 3) := by decide +kernel
theorem d_M_wipe_5 : decode b_M_wipe 5 = .ok (.aload_n 0, 1) := by decide +kernel
theorem d_M_wipe_6 : decode b_M_wipe 6 = .ok (.iconst 0, 1) := by decide +kernel
theorem d_M_wipe_7 : decode b_M_wipe 7 = .ok (.putfield 73, 3) := by decide +kernel
theorem d_M_wipe_10 : decode b_M_wipe 10 = .ok (.return_, 1) := by decide +kernel
def w_M_wipe  (σ : MPS)  (post : MPS → Prop) : Prop := (∀ σ2 : MPS, σ2 = ms_thrown σ 0 → (∀ σ7 : MPS, σ7 = ms_taped σ2 0 → post σ7))
set_option maxHeartbeats 4000000 in
set_option maxRecDepth 100000 in
theorem c_M_wipe (l : Launch) (md : MD) (sz : Nat) (σ : MPS)   (post : MPS → Prop) (hE : w_M_wipe σ post) : Met l y_M_wipe ws_M_wipe { frames := 0, cells := 0, slots := 0, locals := 0 } (va_Pc [.ref (mA md 0)] (gM md σ sz)) (va_Qv post (eM md (va_A (MW md σ) sz)) (va_A (MW md σ) sz)) 0 0 (va_A (MW md σ) sz) := by
  refine Met.ofW (cc := b_M_wipe) (maxL := 1) (ret := none) (by decide) rfl ?_
  intro p e s m args below meth c s₁ B hml hv
  obtain ⟨rfl, hsz, hP, hK, hD0⟩ := hv
  have hx := B.exec
  have hb := B.bytes
  have hr := B.returns
  have hta : ∀ w ∈ aW, w.before _ s = true := fun w h => atoms_spec (ws := ws_M_wipe) B.pre w (List.mem_cons_of_mem _ h)
  have hown : s.vm.findClass R_M = some m.cls := findClass_of_methodNamed B.named
  have hlocks := B.notSynchronized
  subst hsz
  have hD := hD0.self (sz := s.heap.size)
  generalize hAe : va_A (MW md σ) s.heap.size = A at hD ⊢
  have hA : ∀ q : Nat, s.heap.size ≤ q → A q := fun q h => by rw [← hAe]; exact Or.inr h
  have hS : va_S A s.heap s.heap [] := va_S.rf
  have hP : va_P (mG md) classes (MW md σ) s.heap := hP
  have hl := lv_entry ([.ref (mA md 0)]) (n := 1) (Nat.le_of_ble_eq_true rfl)
  rw [lg_entry_eq]
  generalize (lg_sl ([.ref (mA md 0)]) ++ List.replicate (1 - (lg_sl ([.ref (mA md 0)])).length) Slot.unset).toArray = ls at hl ⊢
  have hl : lv_has ls 1 [(0, .ref (mA md 0))] := hl
  unfold w_M_wipe at hE
  refine lv_aload_n hx hb d_M_wipe_0 rfl (lv_at hl 0 rfl) ?_
  refine lv_iconst (v := 0) hx hb d_M_wipe_1 (by decide) ?_
  refine va_put (D := (mG md)) (ci := 7) (v := .int 0) (ty := .int) (C := R_M) (T := F_M) (N := 37) hx hb hta i_M t_M t_M_ok n_M hown hK hP hD hS 0 rfl rfl 0 (by decide) (hta _ fl_M_70) (fun _ h9 => h9) rfl (by decide +kernel) rfl rfl (Nat.le_of_ble_eq_true rfl) d_M_wipe_2 (fun H locs hP hD hS => ?_)
  have hP : va_P (mG md) classes (MW md (ms_thrown σ 0)) H := hP
  have hD : va_D A (MW md (ms_thrown σ 0)) := hD
  have hE := hE _ rfl
  generalize (ms_thrown σ 0 : MPS) = σ2 at hP hD hE
  refine lv_aload_n hx hb d_M_wipe_5 rfl (lv_at hl 0 rfl) ?_
  refine lv_iconst (v := 0) hx hb d_M_wipe_6 (by decide) ?_
  refine va_put (D := (mG md)) (ci := 7) (v := .int 0) (ty := .int) (C := R_M) (T := F_M) (N := 37) hx hb hta i_M t_M t_M_ok n_M hown hK hP hD hS 0 rfl rfl 6 (by decide) (hta _ fl_M_73) (fun _ h9 => h9) rfl (by decide +kernel) rfl rfl (Nat.le_of_ble_eq_true rfl) d_M_wipe_7 (fun H locs hP hD hS => ?_)
  have hP : va_P (mG md) classes (MW md (ms_taped σ2 0)) H := hP
  have hD : va_D A (MW md (ms_taped σ2 0)) := hD
  have hE := hE _ rfl
  generalize (ms_taped σ2 0 : MPS) = σ7 at hP hD hE
  exact W.vret hx hb hr (fun t ht hW => ⟨⟨σ7, rfl, hE, by rw [ht]; exact hP, va_K.moved hW.alike hK, hD⟩, hS.F ht⟩) hS.2.2 d_M_wipe_10
theorem fl_M_101 : Cond.fieldLink "PlainPagesModel" 101 "PlainPagesModel" "at" "I" ∈ aW := aW_in 917 (by decide +kernel) rfl
theorem ok_M_104 : okS "PlainPagesModel" 104 y_M_isWhite b_M_isWhite 1 (some .boolean) 1 := ⟨aW_in 1053 (by decide +kernel) rfl, aW_in 1054 (by decide +kernel) rfl, aW_in 92 (by decide +kernel) rfl, cd_M_isWhite, by decide +kernel, by decide +kernel, by decide +kernel⟩
theorem d_M_skipWhite_0 : decode b_M_skipWhite 0 = .ok (.aload_n 0, 1) := by decide +kernel
theorem d_M_skipWhite_1 : decode b_M_skipWhite 1 = .ok (.aload_n 0, 1) := by decide +kernel
theorem d_M_skipWhite_2 : decode b_M_skipWhite 2 = .ok (.getfield 101, 3) := by decide +kernel
theorem d_M_skipWhite_5 : decode b_M_skipWhite 5 = .ok (.invokevirtual 95, 3) := by decide +kernel
theorem d_M_skipWhite_8 : decode b_M_skipWhite 8 = .ok (.invokestatic 104, 3) := by decide +kernel
theorem d_M_skipWhite_11 : decode b_M_skipWhite 11 = .ok (.ifCond .eq 16, 3) := by decide +kernel
theorem d_M_skipWhite_14 : decode b_M_skipWhite 14 = .ok (.aload_n 0, 1) := by decide +kernel
theorem d_M_skipWhite_15 : decode b_M_skipWhite 15 = .ok (.dup, 1) := by decide +kernel
theorem d_M_skipWhite_16 : decode b_M_skipWhite 16 = .ok (.getfield 101, 3) := by decide +kernel
theorem d_M_skipWhite_19 : decode b_M_skipWhite 19 = .ok (.iconst 1, 1) := by decide +kernel
theorem d_M_skipWhite_20 : decode b_M_skipWhite 20 = .ok (.iadd, 1) := by decide +kernel
theorem d_M_skipWhite_21 : decode b_M_skipWhite 21 = .ok (.putfield 101, 3) := by decide +kernel
theorem d_M_skipWhite_24 : decode b_M_skipWhite 24 = .ok (.goto (-24), 3) := by decide +kernel
theorem d_M_skipWhite_27 : decode b_M_skipWhite 27 = .ok (.return_, 1) := by decide +kernel
def w_M_skipWhite_L0   (post : MPS → Prop) : Nat → MPS → Prop
  | 0, _ => False
  | n + 1, σ => w_M_x σ (mp_at σ) (fun r5 => w_M_isWhite  r5 (fun r8 => ((r8 = 0 → post σ) ∧ (¬ r8 = 0 → (∀ σ21 : MPS, σ21 = ms_at σ ((mp_at σ) + 1) → w_M_skipWhite_L0 post n σ21)))))
def w_M_skipWhite  (σ : MPS)  (post : MPS → Prop) : Prop := (∃ n, w_M_skipWhite_L0 post n σ)
set_option maxHeartbeats 4000000 in
set_option maxRecDepth 100000 in
theorem c_M_skipWhite (l : Launch) (md : MD) (sz : Nat) (σ : MPS)   (post : MPS → Prop) (hE : w_M_skipWhite σ post) : Met l y_M_skipWhite ws_M_skipWhite { frames := 1, cells := 0, slots := 0, locals := 21 } (va_Pc [.ref (mA md 0)] (gM md σ sz)) (va_Qv post (eM md (va_A (MW md σ) sz)) (va_A (MW md σ) sz)) 0 0 (va_A (MW md σ) sz) := by
  refine Met.ofW (cc := b_M_skipWhite) (maxL := 1) (ret := none) (by decide) rfl ?_
  intro p e s m args below meth c s₁ B hml hv
  obtain ⟨rfl, hsz, hP, hK, hD0⟩ := hv
  have hx := B.exec
  have hb := B.bytes
  have hr := B.returns
  have hta : ∀ w ∈ aW, w.before _ s = true := fun w h => atoms_spec (ws := ws_M_skipWhite) B.pre w (List.mem_cons_of_mem _ h)
  have hown : s.vm.findClass R_M = some m.cls := findClass_of_methodNamed B.named
  have hlocks := B.notSynchronized
  subst hsz
  have hD := hD0.self (sz := s.heap.size)
  generalize hAe : va_A (MW md σ) s.heap.size = A at hD ⊢
  have hA : ∀ q : Nat, s.heap.size ≤ q → A q := fun q h => by rw [← hAe]; exact Or.inr h
  have hS : va_S A s.heap s.heap [] := va_S.rf
  have hP : va_P (mG md) classes (MW md σ) s.heap := hP
  have hl := lv_entry ([.ref (mA md 0)]) (n := 1) (Nat.le_of_ble_eq_true rfl)
  rw [lg_entry_eq]
  generalize (lg_sl ([.ref (mA md 0)]) ++ List.replicate (1 - (lg_sl ([.ref (mA md 0)])).length) Slot.unset).toArray = ls at hl ⊢
  have hl : lv_has ls 1 [(0, .ref (mA md 0))] := hl
  have L0 : ∀ (n : Nat) (σ : MPS) (H : Heap) (locs : List Loc) (hP : va_P (mG md) classes (MW md σ) H) (hD : va_D A (MW md σ)) (hS : va_S A s.heap H locs) (ls : Array Slot) (hl : lv_has ls 1 [(0, .ref (mA md 0))]) (hE : w_M_skipWhite_L0 post n σ), W p l e (headSpec ws_M_skipWhite { frames := 1, cells := 0, slots := 0, locals := 21 }).room s m ([.ref (mA md 0)] : List Value).toArray below meth c H locs 0 0 (MQ below (va_Qv post (eM md A) A) ([.ref (mA md 0)] : List Value).toArray s 0 0 A) (F0 m 0 ls []) := by
    intro n
    induction n with
    | zero => intro σ H locs hP hD hS ls hl hE; exact hE.elim
    | succ n ih0 =>
      intro σ H locs hP hD hS ls hl hE
      unfold w_M_skipWhite_L0 at hE
      refine lv_aload_n hx hb d_M_skipWhite_0 rfl (lv_at hl 0 rfl) ?_
      refine lv_aload_n hx hb d_M_skipWhite_1 rfl (lv_at hl 0 rfl) ?_
      refine va_get (D := (mG md)) (ci := 7) (v := .int (mp_at σ)) (C := R_M) (T := F_M) (N := 37) hx hb hta i_M hown hK hP 0 rfl rfl 13 (by decide) (hta _ fl_M_101) (fun _ h9 => h9) rfl d_M_skipWhite_2 ?_
      refine ro_V (b0 := (mA md 0)) (As := [.int (mp_at σ)]) (rest := []) ⟨hx, hb, hml, hown, hta⟩ (c_M_x l md σ (mp_at σ)  _ hE) ok_M_95 ⟨Nat.le_of_ble_eq_true rfl, Nat.le_of_ble_eq_true rfl⟩ blind_rM (va_recv hK hP (ci := 7) (q0 := 0) rfl rfl) (rM_of hP hK) rfl hl.1 rfl (Nat.le_of_ble_eq_true rfl) d_M_skipWhite_5 ⟨Nat.zero_le _, Nat.zero_le _⟩ (fun r5 hE => ?_)
      refine ro_S  (As := [.int r5]) (rest := []) ⟨hx, hb, hml, hown, hta⟩ (c_M_isWhite l r5  _ hE) ok_M_104 ⟨Nat.le_of_ble_eq_true rfl, Nat.le_of_ble_eq_true rfl⟩ blind_true  (fun _ _ _ => trivial) rfl hl.1 rfl (Nat.le_of_ble_eq_true rfl) d_M_skipWhite_8 ⟨Nat.zero_le _, Nat.zero_le _⟩ (fun r8 hE => ?_)
      refine lv_if_eq (tgt := 27) hx hb d_M_skipWhite_11 (by decide) (fun cc11 => ?_) (fun cc11 => ?_)
      · have hE := hE.1 cc11
        exact W.vret hx hb hr (fun t ht hW => ⟨⟨σ, rfl, hE, by rw [ht]; exact hP, va_K.moved hW.alike hK, hD⟩, hS.F ht⟩) hS.2.2 d_M_skipWhite_27
      · have hE := hE.2 cc11
        refine lv_aload_n hx hb d_M_skipWhite_14 rfl (lv_at hl 0 rfl) ?_
        refine lv_dup hx hb d_M_skipWhite_15 rfl ?_
        refine va_get (D := (mG md)) (ci := 7) (v := .int (mp_at σ)) (C := R_M) (T := F_M) (N := 37) hx hb hta i_M hown hK hP 0 rfl rfl 13 (by decide) (hta _ fl_M_101) (fun _ h9 => h9) rfl d_M_skipWhite_16 ?_
        refine lv_iconst (v := 1) hx hb d_M_skipWhite_19 (by decide) ?_
        refine lv_iadd hx hb d_M_skipWhite_20 ?_
        refine va_put (D := (mG md)) (ci := 7) (v := .int ((mp_at σ) + 1)) (ty := .int) (C := R_M) (T := F_M) (N := 37) hx hb hta i_M t_M t_M_ok n_M hown hK hP hD hS 0 rfl rfl 13 (by decide) (hta _ fl_M_101) (fun _ h9 => h9) rfl (by decide +kernel) rfl rfl (Nat.le_of_ble_eq_true rfl) d_M_skipWhite_21 (fun H locs hP hD hS => ?_)
        have hP : va_P (mG md) classes (MW md (ms_at σ ((mp_at σ) + 1))) H := hP
        have hD : va_D A (MW md (ms_at σ ((mp_at σ) + 1))) := hD
        have hE := hE _ rfl
        generalize (ms_at σ ((mp_at σ) + 1) : MPS) = σ21 at hP hD hE
        refine lv_goto (tgt := 0) hx hb d_M_skipWhite_24 (by decide) ?_
        exact ih0 σ21 _ _ hP hD hS _ (lv_sub hl [0] rfl) hE
  unfold w_M_skipWhite at hE
  obtain ⟨n, hE⟩ := hE
  exact L0  n σ _ _ hP hD hS _ (lv_sub hl [0] rfl) hE
theorem fl_M_111 : Cond.fieldLink "PlainPagesModel" 111 "PlainPagesModel" "bad" "Z" ∈ aW := aW_in 920 (by decide +kernel) rfl
theorem d_M_takeName_0 : decode b_M_takeName 0 = .ok (.aload_n 0, 1) := by decide +kernel
theorem d_M_takeName_1 : decode b_M_takeName 1 = .ok (.getfield 101, 3) := by decide +kernel
theorem d_M_takeName_4 : decode b_M_takeName 4 = .ok (.istore_n 1, 1) := by decide +kernel
theorem d_M_takeName_5 : decode b_M_takeName 5 = .ok (.aload_n 0, 1) := by decide +kernel
theorem d_M_takeName_6 : decode b_M_takeName 6 = .ok (.aload_n 0, 1) := by decide +kernel
theorem d_M_takeName_7 : decode b_M_takeName 7 = .ok (.getfield 101, 3) := by decide +kernel
theorem d_M_takeName_10 : decode b_M_takeName 10 = .ok (.invokevirtual 95, 3) := by decide +kernel
theorem d_M_takeName_13 : decode b_M_takeName 13 = .ok (.iconst 1, 1) := by decide +kernel
theorem d_M_takeName_14 : decode b_M_takeName 14 = .ok (.invokestatic 107, 3) := by decide +kernel
theorem d_M_takeName_17 : decode b_M_takeName 17 = .ok (.ifCond .ne 8, 3) := by decide +kernel
theorem d_M_takeName_20 : decode b_M_takeName 20 = .ok (.aload_n 0, 1) := by decide +kernel
theorem d_M_takeName_21 : decode b_M_takeName 21 = .ok (.iconst 1, 1) := by decide +kernel
theorem d_M_takeName_22 : decode b_M_takeName 22 = .ok (.putfield 111, 3) := by decide +kernel
theorem d_M_takeName_25 : decode b_M_takeName 25 = .ok (.aload_n 0, 1) := by decide +kernel
theorem d_M_takeName_26 : decode b_M_takeName 26 = .ok (.getfield 111, 3) := by decide +kernel
theorem d_M_takeName_29 : decode b_M_takeName 29 = .ok (.ifCond .ne 50, 3) := by decide +kernel
theorem d_M_takeName_32 : decode b_M_takeName 32 = .ok (.aload_n 0, 1) := by decide +kernel
theorem d_M_takeName_33 : decode b_M_takeName 33 = .ok (.aload_n 0, 1) := by decide +kernel
theorem d_M_takeName_34 : decode b_M_takeName 34 = .ok (.getfield 101, 3) := by decide +kernel
theorem d_M_takeName_37 : decode b_M_takeName 37 = .ok (.invokevirtual 95, 3) := by decide +kernel
theorem d_M_takeName_40 : decode b_M_takeName 40 = .ok (.iconst 0, 1) := by decide +kernel
theorem d_M_takeName_41 : decode b_M_takeName 41 = .ok (.invokestatic 107, 3) := by decide +kernel
theorem d_M_takeName_44 : decode b_M_takeName 44 = .ok (.ifCond .eq 35, 3) := by decide +kernel
theorem d_M_takeName_47 : decode b_M_takeName 47 = .ok (.aload_n 0, 1) := by decide +kernel
theorem d_M_takeName_48 : decode b_M_takeName 48 = .ok (.getfield 101, 3) := by decide +kernel
theorem d_M_takeName_51 : decode b_M_takeName 51 = .ok (.iload_n 1, 1) := by decide +kernel
theorem d_M_takeName_52 : decode b_M_takeName 52 = .ok (.isub, 1) := by decide +kernel
theorem d_M_takeName_53 : decode b_M_takeName 53 = .ok (.bipush 30, 2) := by decide +kernel
theorem d_M_takeName_55 : decode b_M_takeName 55 = .ok (.if_icmp .ne 11, 3) := by decide +kernel
theorem d_M_takeName_58 : decode b_M_takeName 58 = .ok (.aload_n 0, 1) := by decide +kernel
theorem d_M_takeName_59 : decode b_M_takeName 59 = .ok (.iconst 1, 1) := by decide +kernel
theorem d_M_takeName_60 : decode b_M_takeName 60 = .ok (.putfield 111, 3) := by decide +kernel
theorem d_M_takeName_63 : decode b_M_takeName 63 = .ok (.goto (-38), 3) := by decide +kernel
theorem d_M_takeName_66 : decode b_M_takeName 66 = .ok (.aload_n 0, 1) := by decide +kernel
theorem d_M_takeName_67 : decode b_M_takeName 67 = .ok (.dup, 1) := by decide +kernel
theorem d_M_takeName_68 : decode b_M_takeName 68 = .ok (.getfield 101, 3) := by decide +kernel
theorem d_M_takeName_71 : decode b_M_takeName 71 = .ok (.iconst 1, 1) := by decide +kernel
theorem d_M_takeName_72 : decode b_M_takeName 72 = .ok (.iadd, 1) := by decide +kernel
theorem d_M_takeName_73 : decode b_M_takeName 73 = .ok (.putfield 101, 3) := by decide +kernel
theorem d_M_takeName_76 : decode b_M_takeName 76 = .ok (.goto (-51), 3) := by decide +kernel
theorem d_M_takeName_79 : decode b_M_takeName 79 = .ok (.aload_n 0, 1) := by decide +kernel
theorem d_M_takeName_80 : decode b_M_takeName 80 = .ok (.getfield 101, 3) := by decide +kernel
theorem d_M_takeName_83 : decode b_M_takeName 83 = .ok (.iload_n 1, 1) := by decide +kernel
theorem d_M_takeName_84 : decode b_M_takeName 84 = .ok (.isub, 1) := by decide +kernel
theorem d_M_takeName_85 : decode b_M_takeName 85 = .ok (.ireturn, 1) := by decide +kernel
def w_M_takeName_J79   (post : Int32 → MPS → Prop) (v1 : Int32) (σ : MPS) : Prop := post ((mp_at σ) - v1) σ
def w_M_takeName_L25  (v1 : Int32) (post : Int32 → MPS → Prop) : Nat → MPS → Prop
  | 0, _ => False
  | n + 1, σ => (((mp_bad σ) = 0 → w_M_x σ (mp_at σ) (fun r37 => w_M_isNameSign  r37 0 (fun r41 => ((r41 = 0 → w_M_takeName_J79 post v1 σ) ∧ (¬ r41 = 0 → ((((mp_at σ) - v1) = 30 → (∀ σ60 : MPS, σ60 = ms_bad σ 1 → w_M_takeName_L25 v1 post n σ60)) ∧ (¬ ((mp_at σ) - v1) = 30 → (∀ σ73 : MPS, σ73 = ms_at σ ((mp_at σ) + 1) → w_M_takeName_L25 v1 post n σ73)))))))) ∧ (¬ (mp_bad σ) = 0 → w_M_takeName_J79 post v1 σ))
def w_M_takeName  (σ : MPS)  (post : Int32 → MPS → Prop) : Prop := w_M_x σ (mp_at σ) (fun r10 => w_M_isNameSign  r10 1 (fun r14 => ((r14 = 0 → (∀ σ22 : MPS, σ22 = ms_bad σ 1 → (∃ n, w_M_takeName_L25 (mp_at σ) post n σ22))) ∧ (¬ r14 = 0 → (∃ n, w_M_takeName_L25 (mp_at σ) post n σ)))))
set_option maxHeartbeats 4000000 in
set_option maxRecDepth 100000 in
theorem c_M_takeName (l : Launch) (md : MD) (sz : Nat) (σ : MPS)   (post : Int32 → MPS → Prop) (hE : w_M_takeName σ post) : Met l y_M_takeName ws_M_takeName { frames := 2, cells := 0, slots := 0, locals := 41 } (va_Pc [.ref (mA md 0)] (gM md σ sz)) (va_Qi post (eM md (va_A (MW md σ) sz)) (va_A (MW md σ) sz)) 0 0 (va_A (MW md σ) sz) := by
  refine Met.ofW (cc := b_M_takeName) (maxL := 2) (ret := (some .int)) (by decide) rfl ?_
  intro p e s m args below meth c s₁ B hml hv
  obtain ⟨rfl, hsz, hP, hK, hD0⟩ := hv
  have hx := B.exec
  have hb := B.bytes
  have hr := B.returns
  have hta : ∀ w ∈ aW, w.before _ s = true := fun w h => atoms_spec (ws := ws_M_takeName) B.pre w (List.mem_cons_of_mem _ h)
  have hown : s.vm.findClass R_M = some m.cls := findClass_of_methodNamed B.named
  have hlocks := B.notSynchronized
  subst hsz
  have hD := hD0.self (sz := s.heap.size)
  generalize hAe : va_A (MW md σ) s.heap.size = A at hD ⊢
  have hA : ∀ q : Nat, s.heap.size ≤ q → A q := fun q h => by rw [← hAe]; exact Or.inr h
  have hS : va_S A s.heap s.heap [] := va_S.rf
  have hP : va_P (mG md) classes (MW md σ) s.heap := hP
  have hl := lv_entry ([.ref (mA md 0)]) (n := 2) (Nat.le_of_ble_eq_true rfl)
  rw [lg_entry_eq]
  generalize (lg_sl ([.ref (mA md 0)]) ++ List.replicate (2 - (lg_sl ([.ref (mA md 0)])).length) Slot.unset).toArray = ls at hl ⊢
  have hl : lv_has ls 2 [(0, .ref (mA md 0))] := hl
  have J79 : ∀ (v1 : Int32) (σ : MPS) (H : Heap) (locs : List Loc) (hP : va_P (mG md) classes (MW md σ) H) (hD : va_D A (MW md σ)) (hS : va_S A s.heap H locs) (ls : Array Slot) (hl : lv_has ls 2 [(0, .ref (mA md 0)), (1, .int v1)]) (hE : w_M_takeName_J79 post v1 σ), W p l e (headSpec ws_M_takeName { frames := 2, cells := 0, slots := 0, locals := 41 }).room s m ([.ref (mA md 0)] : List Value).toArray below meth c H locs 0 0 (MQ below (va_Qi post (eM md A) A) ([.ref (mA md 0)] : List Value).toArray s 0 0 A) (F0 m 79 ls []) := by
    intro  v1 σ H locs hP hD hS ls hl hE
    unfold w_M_takeName_J79 at hE
    refine lv_aload_n hx hb d_M_takeName_79 rfl (lv_at hl 0 rfl) ?_
    refine va_get (D := (mG md)) (ci := 7) (v := .int (mp_at σ)) (C := R_M) (T := F_M) (N := 37) hx hb hta i_M hown hK hP 0 rfl rfl 13 (by decide) (hta _ fl_M_101) (fun _ h9 => h9) rfl d_M_takeName_80 ?_
    refine lv_iload_n hx hb d_M_takeName_83 rfl (lv_at hl 1 rfl) ?_
    refine lv_isub hx hb d_M_takeName_84 ?_
    exact W.iret (v := (mp_at σ) - v1) hx hb hr (fun t ht hW => ⟨⟨_, σ, rfl, hE, by rw [ht]; exact hP, va_K.moved hW.alike hK, hD⟩, hS.F ht⟩) hS.2.2 d_M_takeName_85
  have L25 : ∀ (v1 : Int32) (n : Nat) (σ : MPS) (H : Heap) (locs : List Loc) (hP : va_P (mG md) classes (MW md σ) H) (hD : va_D A (MW md σ)) (hS : va_S A s.heap H locs) (ls : Array Slot) (hl : lv_has ls 2 [(0, .ref (mA md 0)), (1, .int v1)]) (hE : w_M_takeName_L25 v1 post n σ), W p l e (headSpec ws_M_takeName { frames := 2, cells := 0, slots := 0, locals := 41 }).room s m ([.ref (mA md 0)] : List Value).toArray below meth c H locs 0 0 (MQ below (va_Qi post (eM md A) A) ([.ref (mA md 0)] : List Value).toArray s 0 0 A) (F0 m 25 ls []) := by
    intro v1 n
    induction n with
    | zero => intro σ H locs hP hD hS ls hl hE; exact hE.elim
    | succ n ih25 =>
      intro σ H locs hP hD hS ls hl hE
      unfold w_M_takeName_L25 at hE
      refine lv_aload_n hx hb d_M_takeName_25 rfl (lv_at hl 0 rfl) ?_
      refine va_get (D := (mG md)) (ci := 7) (v := .int (mp_bad σ)) (C := R_M) (T := F_M) (N := 37) hx hb hta i_M hown hK hP 0 rfl rfl 16 (by decide) (hta _ fl_M_111) (fun _ h9 => h9) rfl d_M_takeName_26 ?_
      refine lv_if_ne (tgt := 79) hx hb d_M_takeName_29 (by decide) (fun cc29 => ?_) (fun cc29 => ?_)
      · have hE := hE.2 cc29
        exact J79  v1 σ _ _ hP hD hS _ (lv_sub hl [0, 1] rfl) hE
      · have hE := hE.1 cc29
        refine lv_aload_n hx hb d_M_takeName_32 rfl (lv_at hl 0 rfl) ?_
        refine lv_aload_n hx hb d_M_takeName_33 rfl (lv_at hl 0 rfl) ?_
        refine va_get (D := (mG md)) (ci := 7) (v := .int (mp_at σ)) (C := R_M) (T := F_M) (N := 37) hx hb hta i_M hown hK hP 0 rfl rfl 13 (by decide) (hta _ fl_M_101) (fun _ h9 => h9) rfl d_M_takeName_34 ?_
        refine ro_V (b0 := (mA md 0)) (As := [.int (mp_at σ)]) (rest := []) ⟨hx, hb, hml, hown, hta⟩ (c_M_x l md σ (mp_at σ)  _ hE) ok_M_95 ⟨Nat.le_of_ble_eq_true rfl, Nat.le_of_ble_eq_true rfl⟩ blind_rM (va_recv hK hP (ci := 7) (q0 := 0) rfl rfl) (rM_of hP hK) rfl hl.1 rfl (Nat.le_of_ble_eq_true rfl) d_M_takeName_37 ⟨Nat.zero_le _, Nat.zero_le _⟩ (fun r37 hE => ?_)
        refine lv_iconst (v := 0) hx hb d_M_takeName_40 (by decide) ?_
        refine ro_S  (As := [.int r37, .int 0]) (rest := []) ⟨hx, hb, hml, hown, hta⟩ (c_M_isNameSign l r37 0  _ hE) ok_M_107 ⟨Nat.le_of_ble_eq_true rfl, Nat.le_of_ble_eq_true rfl⟩ blind_true  (fun _ _ _ => trivial) rfl hl.1 rfl (Nat.le_of_ble_eq_true rfl) d_M_takeName_41 ⟨Nat.zero_le _, Nat.zero_le _⟩ (fun r41 hE => ?_)
        refine lv_if_eq (tgt := 79) hx hb d_M_takeName_44 (by decide) (fun cc44 => ?_) (fun cc44 => ?_)
        · have hE := hE.1 cc44
          exact J79  v1 σ _ _ hP hD hS _ (lv_sub hl [0, 1] rfl) hE
        · have hE := hE.2 cc44
          refine lv_aload_n hx hb d_M_takeName_47 rfl (lv_at hl 0 rfl) ?_
          refine va_get (D := (mG md)) (ci := 7) (v := .int (mp_at σ)) (C := R_M) (T := F_M) (N := 37) hx hb hta i_M hown hK hP 0 rfl rfl 13 (by decide) (hta _ fl_M_101) (fun _ h9 => h9) rfl d_M_takeName_48 ?_
          refine lv_iload_n hx hb d_M_takeName_51 rfl (lv_at hl 1 rfl) ?_
          refine lv_isub hx hb d_M_takeName_52 ?_
          refine lv_bipush (v := 30) hx hb d_M_takeName_53 (by decide) ?_
          refine lv_icmp_ne (tgt := 66) hx hb d_M_takeName_55 (by decide) (fun cc55 => ?_) (fun cc55 => ?_)
          · have hE := hE.2 cc55
            refine lv_aload_n hx hb d_M_takeName_66 rfl (lv_at hl 0 rfl) ?_
            refine lv_dup hx hb d_M_takeName_67 rfl ?_
            refine va_get (D := (mG md)) (ci := 7) (v := .int (mp_at σ)) (C := R_M) (T := F_M) (N := 37) hx hb hta i_M hown hK hP 0 rfl rfl 13 (by decide) (hta _ fl_M_101) (fun _ h9 => h9) rfl d_M_takeName_68 ?_
            refine lv_iconst (v := 1) hx hb d_M_takeName_71 (by decide) ?_
            refine lv_iadd hx hb d_M_takeName_72 ?_
            refine va_put (D := (mG md)) (ci := 7) (v := .int ((mp_at σ) + 1)) (ty := .int) (C := R_M) (T := F_M) (N := 37) hx hb hta i_M t_M t_M_ok n_M hown hK hP hD hS 0 rfl rfl 13 (by decide) (hta _ fl_M_101) (fun _ h9 => h9) rfl (by decide +kernel) rfl rfl (Nat.le_of_ble_eq_true rfl) d_M_takeName_73 (fun H locs hP hD hS => ?_)
            have hP : va_P (mG md) classes (MW md (ms_at σ ((mp_at σ) + 1))) H := hP
            have hD : va_D A (MW md (ms_at σ ((mp_at σ) + 1))) := hD
            have hE := hE _ rfl
            generalize (ms_at σ ((mp_at σ) + 1) : MPS) = σ73 at hP hD hE
            refine lv_goto (tgt := 25) hx hb d_M_takeName_76 (by decide) ?_
            exact ih25 σ73 _ _ hP hD hS _ (lv_sub hl [0, 1] rfl) hE
          · have hE := hE.1 cc55
            refine lv_aload_n hx hb d_M_takeName_58 rfl (lv_at hl 0 rfl) ?_
            refine lv_iconst (v := 1) hx hb d_M_takeName_59 (by decide) ?_
            refine va_put (D := (mG md)) (ci := 7) (v := .int 1) (ty := .boolean) (C := R_M) (T := F_M) (N := 37) hx hb hta i_M t_M t_M_ok n_M hown hK hP hD hS 0 rfl rfl 16 (by decide) (hta _ fl_M_111) (fun _ h9 => h9) rfl (by decide +kernel) rfl rfl (Nat.le_of_ble_eq_true rfl) d_M_takeName_60 (fun H locs hP hD hS => ?_)
            have hP : va_P (mG md) classes (MW md (ms_bad σ 1)) H := hP
            have hD : va_D A (MW md (ms_bad σ 1)) := hD
            have hE := hE _ rfl
            generalize (ms_bad σ 1 : MPS) = σ60 at hP hD hE
            refine lv_goto (tgt := 25) hx hb d_M_takeName_63 (by decide) ?_
            exact ih25 σ60 _ _ hP hD hS _ (lv_sub hl [0, 1] rfl) hE
  unfold w_M_takeName at hE
  refine lv_aload_n hx hb d_M_takeName_0 rfl (lv_at hl 0 rfl) ?_
  refine va_get (D := (mG md)) (ci := 7) (v := .int (mp_at σ)) (C := R_M) (T := F_M) (N := 37) hx hb hta i_M hown hK hP 0 rfl rfl 13 (by decide) (hta _ fl_M_101) (fun _ h9 => h9) rfl d_M_takeName_1 ?_
  refine lv_istore_n (lv' := [(1, .int (mp_at σ)), (0, .ref (mA md 0))]) hx hb d_M_takeName_4 rfl hl (by decide) rfl (fun ls hl => ?_)
  refine lv_aload_n hx hb d_M_takeName_5 rfl (lv_at hl 1 rfl) ?_
  refine lv_aload_n hx hb d_M_takeName_6 rfl (lv_at hl 1 rfl) ?_
  refine va_get (D := (mG md)) (ci := 7) (v := .int (mp_at σ)) (C := R_M) (T := F_M) (N := 37) hx hb hta i_M hown hK hP 0 rfl rfl 13 (by decide) (hta _ fl_M_101) (fun _ h9 => h9) rfl d_M_takeName_7 ?_
  refine ro_V (b0 := (mA md 0)) (As := [.int (mp_at σ)]) (rest := []) ⟨hx, hb, hml, hown, hta⟩ (c_M_x l md σ (mp_at σ)  _ hE) ok_M_95 ⟨Nat.le_of_ble_eq_true rfl, Nat.le_of_ble_eq_true rfl⟩ blind_rM (va_recv hK hP (ci := 7) (q0 := 0) rfl rfl) (rM_of hP hK) rfl hl.1 rfl (Nat.le_of_ble_eq_true rfl) d_M_takeName_10 ⟨Nat.zero_le _, Nat.zero_le _⟩ (fun r10 hE => ?_)
  refine lv_iconst (v := 1) hx hb d_M_takeName_13 (by decide) ?_
  refine ro_S  (As := [.int r10, .int 1]) (rest := []) ⟨hx, hb, hml, hown, hta⟩ (c_M_isNameSign l r10 1  _ hE) ok_M_107 ⟨Nat.le_of_ble_eq_true rfl, Nat.le_of_ble_eq_true rfl⟩ blind_true  (fun _ _ _ => trivial) rfl hl.1 rfl (Nat.le_of_ble_eq_true rfl) d_M_takeName_14 ⟨Nat.zero_le _, Nat.zero_le _⟩ (fun r14 hE => ?_)
  refine lv_if_ne (tgt := 25) hx hb d_M_takeName_17 (by decide) (fun cc17 => ?_) (fun cc17 => ?_)
  · have hE := hE.2 cc17
    obtain ⟨n, hE⟩ := hE
    exact L25 (mp_at σ) n σ _ _ hP hD hS _ (lv_sub hl [1, 0] rfl) hE
  · have hE := hE.1 cc17
    refine lv_aload_n hx hb d_M_takeName_20 rfl (lv_at hl 1 rfl) ?_
    refine lv_iconst (v := 1) hx hb d_M_takeName_21 (by decide) ?_
    refine va_put (D := (mG md)) (ci := 7) (v := .int 1) (ty := .boolean) (C := R_M) (T := F_M) (N := 37) hx hb hta i_M t_M t_M_ok n_M hown hK hP hD hS 0 rfl rfl 16 (by decide) (hta _ fl_M_111) (fun _ h9 => h9) rfl (by decide +kernel) rfl rfl (Nat.le_of_ble_eq_true rfl) d_M_takeName_22 (fun H locs hP hD hS => ?_)
    have hP : va_P (mG md) classes (MW md (ms_bad σ 1)) H := hP
    have hD : va_D A (MW md (ms_bad σ 1)) := hD
    have hE := hE _ rfl
    generalize (ms_bad σ 1 : MPS) = σ22 at hP hD hE
    obtain ⟨n, hE⟩ := hE
    exact L25 (mp_at σ) n σ22 _ _ hP hD hS _ (lv_sub hl [1, 0] rfl) hE
theorem fl_M_76 : Cond.fieldLink "PlainPagesModel" 76 "PlainPagesModel" "width" "I" ∈ aW := aW_in 916 (by decide +kernel) rfl
theorem ct_M_79 : Cond.constant "PlainPagesModel" 79 (65536) ∈ aW := aW_in 1109 (by decide +kernel) rfl
theorem ct_M_80 : Cond.constant "PlainPagesModel" 80 (1114111) ∈ aW := aW_in 1110 (by decide +kernel) rfl
theorem ct_M_81 : Cond.constant "PlainPagesModel" 81 (55296) ∈ aW := aW_in 1111 (by decide +kernel) rfl
theorem ct_M_82 : Cond.constant "PlainPagesModel" 82 (57343) ∈ aW := aW_in 1112 (by decide +kernel) rfl
theorem d_M_characterAt_0 : decode b_M_characterAt 0 = .ok (.aload_n 1, 1) := by decide +kernel
theorem d_M_characterAt_1 : decode b_M_characterAt 1 = .ok (.iload_n 2, 1) := by decide +kernel
theorem d_M_characterAt_2 : decode b_M_characterAt 2 = .ok (.baload, 1) := by decide +kernel
theorem d_M_characterAt_3 : decode b_M_characterAt 3 = .ok (.sipush 255, 3) := by decide +kernel
theorem d_M_characterAt_6 : decode b_M_characterAt 6 = .ok (.iand, 1) := by decide +kernel
theorem d_M_characterAt_7 : decode b_M_characterAt 7 = .ok (.istore 4, 2) := by decide +kernel
theorem d_M_characterAt_9 : decode b_M_characterAt 9 = .ok (.aload_n 0, 1) := by decide +kernel
theorem d_M_characterAt_10 : decode b_M_characterAt 10 = .ok (.iload 4, 2) := by decide +kernel
theorem d_M_characterAt_12 : decode b_M_characterAt 12 = .ok (.sipush 128, 3) := by decide +kernel
theorem d_M_characterAt_15 : decode b_M_characterAt 15 = .ok (.if_icmp .ge 7, 3) := by decide +kernel
theorem d_M_characterAt_18 : decode b_M_characterAt 18 = .ok (.iconst 1, 1) := by decide +kernel
theorem d_M_characterAt_19 : decode b_M_characterAt 19 = .ok (.goto 52, 3) := by decide +kernel
theorem d_M_characterAt_22 : decode b_M_characterAt 22 = .ok (.iload 4, 2) := by decide +kernel
theorem d_M_characterAt_24 : decode b_M_characterAt 24 = .ok (.sipush 194, 3) := by decide +kernel
theorem d_M_characterAt_27 : decode b_M_characterAt 27 = .ok (.if_icmp .ge 7, 3) := by decide +kernel
theorem d_M_characterAt_30 : decode b_M_characterAt 30 = .ok (.iconst 0, 1) := by decide +kernel
theorem d_M_characterAt_31 : decode b_M_characterAt 31 = .ok (.goto 40, 3) := by decide +kernel
theorem d_M_characterAt_34 : decode b_M_characterAt 34 = .ok (.iload 4, 2) := by decide +kernel
theorem d_M_characterAt_36 : decode b_M_characterAt 36 = .ok (.sipush 224, 3) := by decide +kernel
theorem d_M_characterAt_39 : decode b_M_characterAt 39 = .ok (.if_icmp .ge 7, 3) := by decide +kernel
theorem d_M_characterAt_42 : decode b_M_characterAt 42 = .ok (.iconst 2, 1) := by decide +kernel
theorem d_M_characterAt_43 : decode b_M_characterAt 43 = .ok (.goto 28, 3) := by decide +kernel
theorem d_M_characterAt_46 : decode b_M_characterAt 46 = .ok (.iload 4, 2) := by decide +kernel
theorem d_M_characterAt_48 : decode b_M_characterAt 48 = .ok (.sipush 240, 3) := by decide +kernel
theorem d_M_characterAt_51 : decode b_M_characterAt 51 = .ok (.if_icmp .ge 7, 3) := by decide +kernel
theorem d_M_characterAt_54 : decode b_M_characterAt 54 = .ok (.iconst 3, 1) := by decide +kernel
theorem d_M_characterAt_55 : decode b_M_characterAt 55 = .ok (.goto 16, 3) := by decide +kernel
theorem d_M_characterAt_58 : decode b_M_characterAt 58 = .ok (.iload 4, 2) := by decide +kernel
theorem d_M_characterAt_60 : decode b_M_characterAt 60 = .ok (.sipush 245, 3) := by decide +kernel
theorem d_M_characterAt_63 : decode b_M_characterAt 63 = .ok (.if_icmp .ge 7, 3) := by decide +kernel
theorem d_M_characterAt_66 : decode b_M_characterAt 66 = .ok (.iconst 4, 1) := by decide +kernel
theorem d_M_characterAt_67 : decode b_M_characterAt 67 = .ok (.goto 4, 3) := by decide +kernel
theorem d_M_characterAt_70 : decode b_M_characterAt 70 = .ok (.iconst 0, 1) := by decide +kernel
theorem d_M_characterAt_71 : decode b_M_characterAt 71 = .ok (.putfield 76, 3) := by decide +kernel
theorem d_M_characterAt_74 : decode b_M_characterAt 74 = .ok (.aload_n 0, 1) := by decide +kernel
theorem d_M_characterAt_75 : decode b_M_characterAt 75 = .ok (.getfield 76, 3) := by decide +kernel
theorem d_M_characterAt_78 : decode b_M_characterAt 78 = .ok (.ifCond .eq 13, 3) := by decide +kernel
theorem d_M_characterAt_81 : decode b_M_characterAt 81 = .ok (.iload_n 2, 1) := by decide +kernel
theorem d_M_characterAt_82 : decode b_M_characterAt 82 = .ok (.aload_n 0, 1) := by decide +kernel
theorem d_M_characterAt_83 : decode b_M_characterAt 83 = .ok (.getfield 76, 3) := by decide +kernel
theorem d_M_characterAt_86 : decode b_M_characterAt 86 = .ok (.iadd, 1) := by decide +kernel
theorem d_M_characterAt_87 : decode b_M_characterAt 87 = .ok (.iload_n 3, 1) := by decide +kernel
theorem d_M_characterAt_88 : decode b_M_characterAt 88 = .ok (.if_icmp .le 5, 3) := by decide +kernel
theorem d_M_characterAt_91 : decode b_M_characterAt 91 = .ok (.iconst (-1), 1) := by decide +kernel
theorem d_M_characterAt_92 : decode b_M_characterAt 92 = .ok (.ireturn, 1) := by decide +kernel
theorem d_M_characterAt_93 : decode b_M_characterAt 93 = .ok (.aload_n 0, 1) := by decide +kernel
theorem d_M_characterAt_94 : decode b_M_characterAt 94 = .ok (.getfield 76, 3) := by decide +kernel
theorem d_M_characterAt_97 : decode b_M_characterAt 97 = .ok (.iconst 1, 1) := by decide +kernel
theorem d_M_characterAt_98 : decode b_M_characterAt 98 = .ok (.if_icmp .ne 8, 3) := by decide +kernel
theorem d_M_characterAt_101 : decode b_M_characterAt 101 = .ok (.iload 4, 2) := by decide +kernel
theorem d_M_characterAt_103 : decode b_M_characterAt 103 = .ok (.goto 16, 3) := by decide +kernel
theorem d_M_characterAt_106 : decode b_M_characterAt 106 = .ok (.iload 4, 2) := by decide +kernel
theorem d_M_characterAt_108 : decode b_M_characterAt 108 = .ok (.sipush 255, 3) := by decide +kernel
theorem d_M_characterAt_111 : decode b_M_characterAt 111 = .ok (.aload_n 0, 1) := by decide +kernel
theorem d_M_characterAt_112 : decode b_M_characterAt 112 = .ok (.getfield 76, 3) := by decide +kernel
theorem d_M_characterAt_115 : decode b_M_characterAt 115 = .ok (.iconst 1, 1) := by decide +kernel
theorem d_M_characterAt_116 : decode b_M_characterAt 116 = .ok (.iadd, 1) := by decide +kernel
theorem d_M_characterAt_117 : decode b_M_characterAt 117 = .ok (.ishr, 1) := by decide +kernel
theorem d_M_characterAt_118 : decode b_M_characterAt 118 = .ok (.iand, 1) := by decide +kernel
theorem d_M_characterAt_119 : decode b_M_characterAt 119 = .ok (.istore 5, 2) := by decide +kernel
theorem d_M_characterAt_121 : decode b_M_characterAt 121 = .ok (.iconst 1, 1) := by decide +kernel
theorem d_M_characterAt_122 : decode b_M_characterAt 122 = .ok (.istore 6, 2) := by decide +kernel
theorem d_M_characterAt_124 : decode b_M_characterAt 124 = .ok (.iload 6, 2) := by decide +kernel
theorem d_M_characterAt_126 : decode b_M_characterAt 126 = .ok (.aload_n 0, 1) := by decide +kernel
theorem d_M_characterAt_127 : decode b_M_characterAt 127 = .ok (.getfield 76, 3) := by decide +kernel
theorem d_M_characterAt_130 : decode b_M_characterAt 130 = .ok (.if_icmp .ge 45, 3) := by decide +kernel
theorem d_M_characterAt_133 : decode b_M_characterAt 133 = .ok (.aload_n 1, 1) := by decide +kernel
theorem d_M_characterAt_134 : decode b_M_characterAt 134 = .ok (.iload_n 2, 1) := by decide +kernel
theorem d_M_characterAt_135 : decode b_M_characterAt 135 = .ok (.iload 6, 2) := by decide +kernel
theorem d_M_characterAt_137 : decode b_M_characterAt 137 = .ok (.iadd, 1) := by decide +kernel
theorem d_M_characterAt_138 : decode b_M_characterAt 138 = .ok (.baload, 1) := by decide +kernel
theorem d_M_characterAt_139 : decode b_M_characterAt 139 = .ok (.sipush 255, 3) := by decide +kernel
theorem d_M_characterAt_142 : decode b_M_characterAt 142 = .ok (.iand, 1) := by decide +kernel
theorem d_M_characterAt_143 : decode b_M_characterAt 143 = .ok (.istore 7, 2) := by decide +kernel
theorem d_M_characterAt_145 : decode b_M_characterAt 145 = .ok (.iload 7, 2) := by decide +kernel
theorem d_M_characterAt_147 : decode b_M_characterAt 147 = .ok (.bipush 6, 2) := by decide +kernel
theorem d_M_characterAt_149 : decode b_M_characterAt 149 = .ok (.ishr, 1) := by decide +kernel
theorem d_M_characterAt_150 : decode b_M_characterAt 150 = .ok (.iconst 2, 1) := by decide +kernel
theorem d_M_characterAt_151 : decode b_M_characterAt 151 = .ok (.if_icmp .eq 5, 3) := by decide +kernel
theorem d_M_characterAt_154 : decode b_M_characterAt 154 = .ok (.iconst (-1), 1) := by decide +kernel
theorem d_M_characterAt_155 : decode b_M_characterAt 155 = .ok (.ireturn, 1) := by decide +kernel
theorem d_M_characterAt_156 : decode b_M_characterAt 156 = .ok (.iload 5, 2) := by decide +kernel
theorem d_M_characterAt_158 : decode b_M_characterAt 158 = .ok (.bipush 6, 2) := by decide +kernel
theorem d_M_characterAt_160 : decode b_M_characterAt 160 = .ok (.ishl, 1) := by decide +kernel
theorem d_M_characterAt_161 : decode b_M_characterAt 161 = .ok (.iload 7, 2) := by decide +kernel
theorem d_M_characterAt_163 : decode b_M_characterAt 163 = .ok (.bipush 63, 2) := by decide +kernel
theorem d_M_characterAt_165 : decode b_M_characterAt 165 = .ok (.iand, 1) := by decide +kernel
theorem d_M_characterAt_166 : decode b_M_characterAt 166 = .ok (.ior, 1) := by decide +kernel
theorem d_M_characterAt_167 : decode b_M_characterAt 167 = .ok (.istore 5, 2) := by decide +kernel
theorem d_M_characterAt_169 : decode b_M_characterAt 169 = .ok (.iinc 6 1, 3) := by decide +kernel
theorem d_M_characterAt_172 : decode b_M_characterAt 172 = .ok (.goto (-48), 3) := by decide +kernel
theorem d_M_characterAt_175 : decode b_M_characterAt 175 = .ok (.aload_n 0, 1) := by decide +kernel
theorem d_M_characterAt_176 : decode b_M_characterAt 176 = .ok (.getfield 76, 3) := by decide +kernel
theorem d_M_characterAt_179 : decode b_M_characterAt 179 = .ok (.iconst 1, 1) := by decide +kernel
theorem d_M_characterAt_180 : decode b_M_characterAt 180 = .ok (.if_icmp .eq 38, 3) := by decide +kernel
theorem d_M_characterAt_183 : decode b_M_characterAt 183 = .ok (.iload 5, 2) := by decide +kernel
theorem d_M_characterAt_185 : decode b_M_characterAt 185 = .ok (.aload_n 0, 1) := by decide +kernel
theorem d_M_characterAt_186 : decode b_M_characterAt 186 = .ok (.getfield 76, 3) := by decide +kernel
theorem d_M_characterAt_189 : decode b_M_characterAt 189 = .ok (.iconst 2, 1) := by decide +kernel
theorem d_M_characterAt_190 : decode b_M_characterAt 190 = .ok (.if_icmp .ne 9, 3) := by decide +kernel
theorem d_M_characterAt_193 : decode b_M_characterAt 193 = .ok (.sipush 128, 3) := by decide +kernel
theorem d_M_characterAt_196 : decode b_M_characterAt 196 = .ok (.goto 19, 3) := by decide +kernel
theorem d_M_characterAt_199 : decode b_M_characterAt 199 = .ok (.aload_n 0, 1) := by decide +kernel
theorem d_M_characterAt_200 : decode b_M_characterAt 200 = .ok (.getfield 76, 3) := by decide +kernel
theorem d_M_characterAt_203 : decode b_M_characterAt 203 = .ok (.iconst 3, 1) := by decide +kernel
theorem d_M_characterAt_204 : decode b_M_characterAt 204 = .ok (.if_icmp .ne 9, 3) := by decide +kernel
theorem d_M_characterAt_207 : decode b_M_characterAt 207 = .ok (.sipush 2048, 3) := by decide +kernel
theorem d_M_characterAt_210 : decode b_M_characterAt 210 = .ok (.goto 5, 3) := by decide +kernel
theorem d_M_characterAt_213 : decode b_M_characterAt 213 = .ok (.ldc 79, 2) := by decide +kernel
theorem d_M_characterAt_215 : decode b_M_characterAt 215 = .ok (.if_icmp .lt 7, 3) := by decide +kernel
theorem d_M_characterAt_218 : decode b_M_characterAt 218 = .ok (.iconst 1, 1) := by decide +kernel
theorem d_M_characterAt_219 : decode b_M_characterAt 219 = .ok (.goto 4, 3) := by decide +kernel
theorem d_M_characterAt_222 : decode b_M_characterAt 222 = .ok (.iconst 0, 1) := by decide +kernel
theorem d_M_characterAt_223 : decode b_M_characterAt 223 = .ok (.istore 6, 2) := by decide +kernel
theorem d_M_characterAt_225 : decode b_M_characterAt 225 = .ok (.iload 6, 2) := by decide +kernel
theorem d_M_characterAt_227 : decode b_M_characterAt 227 = .ok (.ifCond .eq 29, 3) := by decide +kernel
theorem d_M_characterAt_230 : decode b_M_characterAt 230 = .ok (.iload 5, 2) := by decide +kernel
theorem d_M_characterAt_232 : decode b_M_characterAt 232 = .ok (.ldc 80, 2) := by decide +kernel
theorem d_M_characterAt_234 : decode b_M_characterAt 234 = .ok (.if_icmp .gt 22, 3) := by decide +kernel
theorem d_M_characterAt_237 : decode b_M_characterAt 237 = .ok (.iload 5, 2) := by decide +kernel
theorem d_M_characterAt_239 : decode b_M_characterAt 239 = .ok (.ldc 81, 2) := by decide +kernel
theorem d_M_characterAt_241 : decode b_M_characterAt 241 = .ok (.if_icmp .lt 10, 3) := by decide +kernel
theorem d_M_characterAt_244 : decode b_M_characterAt 244 = .ok (.iload 5, 2) := by decide +kernel
theorem d_M_characterAt_246 : decode b_M_characterAt 246 = .ok (.ldc 82, 2) := by decide +kernel
theorem d_M_characterAt_248 : decode b_M_characterAt 248 = .ok (.if_icmp .le 8, 3) := by decide +kernel
theorem d_M_characterAt_251 : decode b_M_characterAt 251 = .ok (.iload 5, 2) := by decide +kernel
theorem d_M_characterAt_253 : decode b_M_characterAt 253 = .ok (.goto 4, 3) := by decide +kernel
theorem d_M_characterAt_256 : decode b_M_characterAt 256 = .ok (.iconst (-1), 1) := by decide +kernel
theorem d_M_characterAt_257 : decode b_M_characterAt 257 = .ok (.ireturn, 1) := by decide +kernel
def w_M_characterAt_J251   (post : Int32 → MPS → Prop) (v5 : Int32) (σ : MPS) : Prop := post v5 σ
def w_M_characterAt_J223   (post : Int32 → MPS → Prop) (v5 : Int32) (t0 : Int32) (σ : MPS) : Prop := ((t0 = 0 → post (-1) σ) ∧ (¬ t0 = 0 → ((1114111 < v5 → post (-1) σ) ∧ (¬ 1114111 < v5 → ((v5 < 55296 → w_M_characterAt_J251 post v5 σ) ∧ (¬ v5 < 55296 → ((v5 ≤ 57343 → post (-1) σ) ∧ (¬ v5 ≤ 57343 → w_M_characterAt_J251 post v5 σ))))))))
def w_M_characterAt_J218   (post : Int32 → MPS → Prop) (v5 : Int32) (σ : MPS) : Prop := w_M_characterAt_J223 post v5 1 σ
def w_M_characterAt_J215   (post : Int32 → MPS → Prop) (v5 : Int32) (t0 : Int32) (t1 : Int32) (σ : MPS) : Prop := ((t1 < t0 → w_M_characterAt_J223 post v5 0 σ) ∧ (¬ t1 < t0 → w_M_characterAt_J218 post v5 σ))
def w_M_characterAt_L124  (v2 : Int32) (post : Int32 → MPS → Prop) : Nat → Int32 → Int32 → MPS → Prop
  | 0, _, _, _ => False
  | n + 1, v5, v6, σ => (((mp_width σ) ≤ v6 → (((mp_width σ) = 1 → w_M_characterAt_J218 post v5 σ) ∧ (¬ (mp_width σ) = 1 → (((mp_width σ) = 2 → w_M_characterAt_J215 post v5 128 v5 σ) ∧ (¬ (mp_width σ) = 2 → (((mp_width σ) = 3 → w_M_characterAt_J215 post v5 2048 v5 σ) ∧ (¬ (mp_width σ) = 3 → w_M_characterAt_J215 post v5 65536 v5 σ))))))) ∧ (¬ (mp_width σ) ≤ v6 → (vp_in (v2 + v6) 4000 ∧ ((((((mp_text σ) (v2 + v6).toNatClampNeg) &&& 255) >>> (6 &&& 31)) = 2 → w_M_characterAt_L124 v2 post n ((v5 <<< (6 &&& 31)) ||| ((((mp_text σ) (v2 + v6).toNatClampNeg) &&& 255) &&& 63)) (v6 + 1) σ) ∧ (¬ ((((mp_text σ) (v2 + v6).toNatClampNeg) &&& 255) >>> (6 &&& 31)) = 2 → post (-1) σ)))))
def w_M_characterAt_J119   (post : Int32 → MPS → Prop) (v2 : Int32) (t0 : Int32) (σ : MPS) : Prop := (∃ n, w_M_characterAt_L124 v2 post n t0 1 σ)
def w_M_characterAt_J71   (post : Int32 → MPS → Prop) (v2 : Int32) (v3 : Int32) (v4 : Int32) (t0 : Int32) (σ : MPS) : Prop := (∀ σ71 : MPS, σ71 = ms_width σ t0 → (((mp_width σ71) = 0 → post (-1) σ71) ∧ (¬ (mp_width σ71) = 0 → (((v2 + (mp_width σ71)) ≤ v3 → (((mp_width σ71) = 1 → w_M_characterAt_J119 post v2 v4 σ71) ∧ (¬ (mp_width σ71) = 1 → w_M_characterAt_J119 post v2 (v4 &&& (255 >>> (((mp_width σ71) + 1) &&& 31))) σ71))) ∧ (¬ (v2 + (mp_width σ71)) ≤ v3 → post (-1) σ71)))))
def w_M_characterAt  (σ : MPS) (x1 : Int32) (x2 : Int32) (post : Int32 → MPS → Prop) : Prop := (vp_in x1 4000 ∧ ((128 ≤ (((mp_text σ) x1.toNatClampNeg) &&& 255) → ((194 ≤ (((mp_text σ) x1.toNatClampNeg) &&& 255) → ((224 ≤ (((mp_text σ) x1.toNatClampNeg) &&& 255) → ((240 ≤ (((mp_text σ) x1.toNatClampNeg) &&& 255) → ((245 ≤ (((mp_text σ) x1.toNatClampNeg) &&& 255) → w_M_characterAt_J71 post x1 x2 (((mp_text σ) x1.toNatClampNeg) &&& 255) 0 σ) ∧ (¬ 245 ≤ (((mp_text σ) x1.toNatClampNeg) &&& 255) → w_M_characterAt_J71 post x1 x2 (((mp_text σ) x1.toNatClampNeg) &&& 255) 4 σ))) ∧ (¬ 240 ≤ (((mp_text σ) x1.toNatClampNeg) &&& 255) → w_M_characterAt_J71 post x1 x2 (((mp_text σ) x1.toNatClampNeg) &&& 255) 3 σ))) ∧ (¬ 224 ≤ (((mp_text σ) x1.toNatClampNeg) &&& 255) → w_M_characterAt_J71 post x1 x2 (((mp_text σ) x1.toNatClampNeg) &&& 255) 2 σ))) ∧ (¬ 194 ≤ (((mp_text σ) x1.toNatClampNeg) &&& 255) → w_M_characterAt_J71 post x1 x2 (((mp_text σ) x1.toNatClampNeg) &&& 255) 0 σ))) ∧ (¬ 128 ≤ (((mp_text σ) x1.toNatClampNeg) &&& 255) → w_M_characterAt_J71 post x1 x2 (((mp_text σ) x1.toNatClampNeg) &&& 255) 1 σ)))
set_option maxHeartbeats 4000000 in
set_option maxRecDepth 100000 in
theorem c_M_characterAt (l : Launch) (md : MD) (sz : Nat) (σ : MPS) (x1 : Int32) (x2 : Int32)  (post : Int32 → MPS → Prop) (hE : w_M_characterAt σ x1 x2 post) : Met l y_M_characterAt ws_M_characterAt { frames := 0, cells := 0, slots := 0, locals := 0 } (va_Pc [.ref (mA md 0), .ref (mA md 2), .int x1, .int x2] (gM md σ sz)) (va_Qi post (eM md (va_A (MW md σ) sz)) (va_A (MW md σ) sz)) 0 0 (va_A (MW md σ) sz) := by
  refine Met.ofW (cc := b_M_characterAt) (maxL := 8) (ret := (some .int)) (by decide) rfl ?_
  intro p e s m args below meth c s₁ B hml hv
  obtain ⟨rfl, hsz, hP, hK, hD0⟩ := hv
  have hx := B.exec
  have hb := B.bytes
  have hr := B.returns
  have hta : ∀ w ∈ aW, w.before _ s = true := fun w h => atoms_spec (ws := ws_M_characterAt) B.pre w (List.mem_cons_of_mem _ h)
  have hown : s.vm.findClass R_M = some m.cls := findClass_of_methodNamed B.named
  have hlocks := B.notSynchronized
  subst hsz
  have hD := hD0.self (sz := s.heap.size)
  generalize hAe : va_A (MW md σ) s.heap.size = A at hD ⊢
  have hA : ∀ q : Nat, s.heap.size ≤ q → A q := fun q h => by rw [← hAe]; exact Or.inr h
  have hS : va_S A s.heap s.heap [] := va_S.rf
  have hP : va_P (mG md) classes (MW md σ) s.heap := hP
  have hl := lv_entry ([.ref (mA md 0), .ref (mA md 2), .int x1, .int x2]) (n := 8) (Nat.le_of_ble_eq_true rfl)
  rw [lg_entry_eq]
  generalize (lg_sl ([.ref (mA md 0), .ref (mA md 2), .int x1, .int x2]) ++ List.replicate (8 - (lg_sl ([.ref (mA md 0), .ref (mA md 2), .int x1, .int x2])).length) Slot.unset).toArray = ls at hl ⊢
  have hl : lv_has ls 8 [(0, .ref (mA md 0)), (1, .ref (mA md 2)), (2, .int x1), (3, .int x2)] := hl
  have J251 : ∀ (v5 : Int32) (σ : MPS) (H : Heap) (locs : List Loc) (hP : va_P (mG md) classes (MW md σ) H) (hD : va_D A (MW md σ)) (hS : va_S A s.heap H locs) (ls : Array Slot) (hl : lv_has ls 8 [(5, .int v5)]) (hE : w_M_characterAt_J251 post v5 σ), W p l e (headSpec ws_M_characterAt { frames := 0, cells := 0, slots := 0, locals := 0 }).room s m ([.ref (mA md 0), .ref (mA md 2), .int x1, .int x2] : List Value).toArray below meth c H locs 0 0 (MQ below (va_Qi post (eM md A) A) ([.ref (mA md 0), .ref (mA md 2), .int x1, .int x2] : List Value).toArray s 0 0 A) (F0 m 251 ls []) := by
    intro  v5 σ H locs hP hD hS ls hl hE
    unfold w_M_characterAt_J251 at hE
    refine lv_iload hx hb d_M_characterAt_251 (lv_at hl 0 rfl) ?_
    refine lv_goto (tgt := 257) hx hb d_M_characterAt_253 (by decide) ?_
    exact W.iret (v := v5) hx hb hr (fun t ht hW => ⟨⟨_, σ, rfl, hE, by rw [ht]; exact hP, va_K.moved hW.alike hK, hD⟩, hS.F ht⟩) hS.2.2 d_M_characterAt_257
  have J223 : ∀ (v5 : Int32) (t0 : Int32) (σ : MPS) (H : Heap) (locs : List Loc) (hP : va_P (mG md) classes (MW md σ) H) (hD : va_D A (MW md σ)) (hS : va_S A s.heap H locs) (ls : Array Slot) (hl : lv_has ls 8 [(5, .int v5)]) (hE : w_M_characterAt_J223 post v5 t0 σ), W p l e (headSpec ws_M_characterAt { frames := 0, cells := 0, slots := 0, locals := 0 }).room s m ([.ref (mA md 0), .ref (mA md 2), .int x1, .int x2] : List Value).toArray below meth c H locs 0 0 (MQ below (va_Qi post (eM md A) A) ([.ref (mA md 0), .ref (mA md 2), .int x1, .int x2] : List Value).toArray s 0 0 A) (F0 m 223 ls [.int t0]) := by
    intro  v5 t0 σ H locs hP hD hS ls hl hE
    unfold w_M_characterAt_J223 at hE
    refine lv_istore (lv' := [(6, .int t0), (5, .int v5)]) hx hb d_M_characterAt_223 hl (by decide) rfl (fun ls hl => ?_)
    refine lv_iload hx hb d_M_characterAt_225 (lv_at hl 0 rfl) ?_
    refine lv_if_eq (tgt := 256) hx hb d_M_characterAt_227 (by decide) (fun cc227 => ?_) (fun cc227 => ?_)
    · have hE := hE.1 cc227
      refine lv_iconst (v := -1) hx hb d_M_characterAt_256 (by decide) ?_
      exact W.iret (v := (-1)) hx hb hr (fun t ht hW => ⟨⟨_, σ, rfl, hE, by rw [ht]; exact hP, va_K.moved hW.alike hK, hD⟩, hS.F ht⟩) hS.2.2 d_M_characterAt_257
    · have hE := hE.2 cc227
      refine lv_iload hx hb d_M_characterAt_230 (lv_at hl 1 rfl) ?_
      refine lv_ldc hx hb hown (hta _ ct_M_80) d_M_characterAt_232 ?_
      refine lv_icmp_gt (tgt := 256) hx hb d_M_characterAt_234 (by decide) (fun cc234 => ?_) (fun cc234 => ?_)
      · have hE := hE.1 cc234
        refine lv_iconst (v := -1) hx hb d_M_characterAt_256 (by decide) ?_
        exact W.iret (v := (-1)) hx hb hr (fun t ht hW => ⟨⟨_, σ, rfl, hE, by rw [ht]; exact hP, va_K.moved hW.alike hK, hD⟩, hS.F ht⟩) hS.2.2 d_M_characterAt_257
      · have hE := hE.2 cc234
        refine lv_iload hx hb d_M_characterAt_237 (lv_at hl 1 rfl) ?_
        refine lv_ldc hx hb hown (hta _ ct_M_81) d_M_characterAt_239 ?_
        refine lv_icmp_lt (tgt := 251) hx hb d_M_characterAt_241 (by decide) (fun cc241 => ?_) (fun cc241 => ?_)
        · have hE := hE.1 cc241
          exact J251  v5 σ _ _ hP hD hS _ (lv_sub hl [1] rfl) hE
        · have hE := hE.2 cc241
          refine lv_iload hx hb d_M_characterAt_244 (lv_at hl 1 rfl) ?_
          refine lv_ldc hx hb hown (hta _ ct_M_82) d_M_characterAt_246 ?_
          refine lv_icmp_le (tgt := 256) hx hb d_M_characterAt_248 (by decide) (fun cc248 => ?_) (fun cc248 => ?_)
          · have hE := hE.1 cc248
            refine lv_iconst (v := -1) hx hb d_M_characterAt_256 (by decide) ?_
            exact W.iret (v := (-1)) hx hb hr (fun t ht hW => ⟨⟨_, σ, rfl, hE, by rw [ht]; exact hP, va_K.moved hW.alike hK, hD⟩, hS.F ht⟩) hS.2.2 d_M_characterAt_257
          · have hE := hE.2 cc248
            exact J251  v5 σ _ _ hP hD hS _ (lv_sub hl [1] rfl) hE
  have J218 : ∀ (v5 : Int32) (σ : MPS) (H : Heap) (locs : List Loc) (hP : va_P (mG md) classes (MW md σ) H) (hD : va_D A (MW md σ)) (hS : va_S A s.heap H locs) (ls : Array Slot) (hl : lv_has ls 8 [(5, .int v5)]) (hE : w_M_characterAt_J218 post v5 σ), W p l e (headSpec ws_M_characterAt { frames := 0, cells := 0, slots := 0, locals := 0 }).room s m ([.ref (mA md 0), .ref (mA md 2), .int x1, .int x2] : List Value).toArray below meth c H locs 0 0 (MQ below (va_Qi post (eM md A) A) ([.ref (mA md 0), .ref (mA md 2), .int x1, .int x2] : List Value).toArray s 0 0 A) (F0 m 218 ls []) := by
    intro  v5 σ H locs hP hD hS ls hl hE
    unfold w_M_characterAt_J218 at hE
    refine lv_iconst (v := 1) hx hb d_M_characterAt_218 (by decide) ?_
    refine lv_goto (tgt := 223) hx hb d_M_characterAt_219 (by decide) ?_
    exact J223  v5 1 σ _ _ hP hD hS _ (lv_sub hl [0] rfl) hE
  have J215 : ∀ (v5 : Int32) (t0 : Int32) (t1 : Int32) (σ : MPS) (H : Heap) (locs : List Loc) (hP : va_P (mG md) classes (MW md σ) H) (hD : va_D A (MW md σ)) (hS : va_S A s.heap H locs) (ls : Array Slot) (hl : lv_has ls 8 [(5, .int v5)]) (hE : w_M_characterAt_J215 post v5 t0 t1 σ), W p l e (headSpec ws_M_characterAt { frames := 0, cells := 0, slots := 0, locals := 0 }).room s m ([.ref (mA md 0), .ref (mA md 2), .int x1, .int x2] : List Value).toArray below meth c H locs 0 0 (MQ below (va_Qi post (eM md A) A) ([.ref (mA md 0), .ref (mA md 2), .int x1, .int x2] : List Value).toArray s 0 0 A) (F0 m 215 ls [.int t0, .int t1]) := by
    intro  v5 t0 t1 σ H locs hP hD hS ls hl hE
    unfold w_M_characterAt_J215 at hE
    refine lv_icmp_lt (tgt := 222) hx hb d_M_characterAt_215 (by decide) (fun cc215 => ?_) (fun cc215 => ?_)
    · have hE := hE.1 cc215
      refine lv_iconst (v := 0) hx hb d_M_characterAt_222 (by decide) ?_
      exact J223  v5 0 σ _ _ hP hD hS _ (lv_sub hl [0] rfl) hE
    · have hE := hE.2 cc215
      exact J218  v5 σ _ _ hP hD hS _ (lv_sub hl [0] rfl) hE
  have L124 : ∀ (v2 : Int32) (n : Nat) (v5 : Int32) (v6 : Int32) (σ : MPS) (H : Heap) (locs : List Loc) (hP : va_P (mG md) classes (MW md σ) H) (hD : va_D A (MW md σ)) (hS : va_S A s.heap H locs) (ls : Array Slot) (hl : lv_has ls 8 [(0, .ref (mA md 0)), (1, .ref (mA md 2)), (2, .int v2), (5, .int v5), (6, .int v6)]) (hE : w_M_characterAt_L124 v2 post n v5 v6 σ), W p l e (headSpec ws_M_characterAt { frames := 0, cells := 0, slots := 0, locals := 0 }).room s m ([.ref (mA md 0), .ref (mA md 2), .int x1, .int x2] : List Value).toArray below meth c H locs 0 0 (MQ below (va_Qi post (eM md A) A) ([.ref (mA md 0), .ref (mA md 2), .int x1, .int x2] : List Value).toArray s 0 0 A) (F0 m 124 ls []) := by
    intro v2 n
    induction n with
    | zero => intro v5 v6 σ H locs hP hD hS ls hl hE; exact hE.elim
    | succ n ih124 =>
      intro v5 v6 σ H locs hP hD hS ls hl hE
      unfold w_M_characterAt_L124 at hE
      refine lv_iload hx hb d_M_characterAt_124 (lv_at hl 4 rfl) ?_
      refine lv_aload_n hx hb d_M_characterAt_126 rfl (lv_at hl 0 rfl) ?_
      refine va_get (D := (mG md)) (ci := 7) (v := .int (mp_width σ)) (C := R_M) (T := F_M) (N := 37) hx hb hta i_M hown hK hP 0 rfl rfl 12 (by decide) (hta _ fl_M_76) (fun _ h9 => h9) rfl d_M_characterAt_127 ?_
      refine lv_icmp_ge (tgt := 175) hx hb d_M_characterAt_130 (by decide) (fun cc130 => ?_) (fun cc130 => ?_)
      · have hE := hE.1 cc130
        refine lv_aload_n hx hb d_M_characterAt_175 rfl (lv_at hl 0 rfl) ?_
        refine va_get (D := (mG md)) (ci := 7) (v := .int (mp_width σ)) (C := R_M) (T := F_M) (N := 37) hx hb hta i_M hown hK hP 0 rfl rfl 12 (by decide) (hta _ fl_M_76) (fun _ h9 => h9) rfl d_M_characterAt_176 ?_
        refine lv_iconst (v := 1) hx hb d_M_characterAt_179 (by decide) ?_
        refine lv_icmp_eq (tgt := 218) hx hb d_M_characterAt_180 (by decide) (fun cc180 => ?_) (fun cc180 => ?_)
        · have hE := hE.1 cc180
          exact J218  v5 σ _ _ hP hD hS _ (lv_sub hl [3] rfl) hE
        · have hE := hE.2 cc180
          refine lv_iload hx hb d_M_characterAt_183 (lv_at hl 3 rfl) ?_
          refine lv_aload_n hx hb d_M_characterAt_185 rfl (lv_at hl 0 rfl) ?_
          refine va_get (D := (mG md)) (ci := 7) (v := .int (mp_width σ)) (C := R_M) (T := F_M) (N := 37) hx hb hta i_M hown hK hP 0 rfl rfl 12 (by decide) (hta _ fl_M_76) (fun _ h9 => h9) rfl d_M_characterAt_186 ?_
          refine lv_iconst (v := 2) hx hb d_M_characterAt_189 (by decide) ?_
          refine lv_icmp_ne (tgt := 199) hx hb d_M_characterAt_190 (by decide) (fun cc190 => ?_) (fun cc190 => ?_)
          · have hE := hE.2 cc190
            refine lv_aload_n hx hb d_M_characterAt_199 rfl (lv_at hl 0 rfl) ?_
            refine va_get (D := (mG md)) (ci := 7) (v := .int (mp_width σ)) (C := R_M) (T := F_M) (N := 37) hx hb hta i_M hown hK hP 0 rfl rfl 12 (by decide) (hta _ fl_M_76) (fun _ h9 => h9) rfl d_M_characterAt_200 ?_
            refine lv_iconst (v := 3) hx hb d_M_characterAt_203 (by decide) ?_
            refine lv_icmp_ne (tgt := 213) hx hb d_M_characterAt_204 (by decide) (fun cc204 => ?_) (fun cc204 => ?_)
            · have hE := hE.2 cc204
              refine lv_ldc hx hb hown (hta _ ct_M_79) d_M_characterAt_213 ?_
              exact J215  v5 65536 v5 σ _ _ hP hD hS _ (lv_sub hl [3] rfl) hE
            · have hE := hE.1 cc204
              refine lv_sipush (v := 2048) hx hb d_M_characterAt_207 (by decide) ?_
              refine lv_goto (tgt := 215) hx hb d_M_characterAt_210 (by decide) ?_
              exact J215  v5 2048 v5 σ _ _ hP hD hS _ (lv_sub hl [3] rfl) hE
          · have hE := hE.1 cc190
            refine lv_sipush (v := 128) hx hb d_M_characterAt_193 (by decide) ?_
            refine lv_goto (tgt := 215) hx hb d_M_characterAt_196 (by decide) ?_
            exact J215  v5 128 v5 σ _ _ hP hD hS _ (lv_sub hl [3] rfl) hE
      · have hE := hE.2 cc130
        refine lv_aload_n hx hb d_M_characterAt_133 rfl (lv_at hl 1 rfl) ?_
        refine lv_iload_n hx hb d_M_characterAt_134 rfl (lv_at hl 2 rfl) ?_
        refine lv_iload hx hb d_M_characterAt_135 (lv_at hl 4 rfl) ?_
        refine lv_iadd hx hb d_M_characterAt_137 ?_
        obtain ⟨hI138, hE⟩ := hE
        refine va_bald (D := (mG md)) (f := mp_text σ) hx hb hK hP 2 1 rfl rfl hI138 d_M_characterAt_138 ?_
        refine lv_sipush (v := 255) hx hb d_M_characterAt_139 (by decide) ?_
        refine lv_iand hx hb d_M_characterAt_142 ?_
        refine lv_istore (lv' := [(7, .int (((mp_text σ) (v2 + v6).toNatClampNeg) &&& 255)), (0, .ref (mA md 0)), (1, .ref (mA md 2)), (2, .int v2), (5, .int v5), (6, .int v6)]) hx hb d_M_characterAt_143 hl (by decide) rfl (fun ls hl => ?_)
        refine lv_iload hx hb d_M_characterAt_145 (lv_at hl 0 rfl) ?_
        refine lv_bipush (v := 6) hx hb d_M_characterAt_147 (by decide) ?_
        refine lv_ishr hx hb d_M_characterAt_149 ?_
        refine lv_iconst (v := 2) hx hb d_M_characterAt_150 (by decide) ?_
        refine lv_icmp_eq (tgt := 156) hx hb d_M_characterAt_151 (by decide) (fun cc151 => ?_) (fun cc151 => ?_)
        · have hE := hE.1 cc151
          refine lv_iload hx hb d_M_characterAt_156 (lv_at hl 4 rfl) ?_
          refine lv_bipush (v := 6) hx hb d_M_characterAt_158 (by decide) ?_
          refine lv_ishl hx hb d_M_characterAt_160 ?_
          refine lv_iload hx hb d_M_characterAt_161 (lv_at hl 0 rfl) ?_
          refine lv_bipush (v := 63) hx hb d_M_characterAt_163 (by decide) ?_
          refine lv_iand hx hb d_M_characterAt_165 ?_
          refine lv_ior hx hb d_M_characterAt_166 ?_
          refine lv_istore (lv' := [(5, .int ((v5 <<< (6 &&& 31)) ||| ((((mp_text σ) (v2 + v6).toNatClampNeg) &&& 255) &&& 63))), (7, .int (((mp_text σ) (v2 + v6).toNatClampNeg) &&& 255)), (0, .ref (mA md 0)), (1, .ref (mA md 2)), (2, .int v2), (6, .int v6)]) hx hb d_M_characterAt_167 hl (by decide) rfl (fun ls hl => ?_)
          refine lv_iinc (v := v6 + 1) (lv' := [(6, .int (v6 + 1)), (5, .int ((v5 <<< (6 &&& 31)) ||| ((((mp_text σ) (v2 + v6).toNatClampNeg) &&& 255) &&& 63))), (7, .int (((mp_text σ) (v2 + v6).toNatClampNeg) &&& 255)), (0, .ref (mA md 0)), (1, .ref (mA md 2)), (2, .int v2)]) hx hb d_M_characterAt_169 hl (k := 5) rfl rfl (by decide) rfl (fun ls hl => ?_)
          refine lv_goto (tgt := 124) hx hb d_M_characterAt_172 (by decide) ?_
          exact ih124 ((v5 <<< (6 &&& 31)) ||| ((((mp_text σ) (v2 + v6).toNatClampNeg) &&& 255) &&& 63)) (v6 + 1) σ _ _ hP hD hS _ (lv_sub hl [3, 4, 5, 1, 0] rfl) hE
        · have hE := hE.2 cc151
          refine lv_iconst (v := -1) hx hb d_M_characterAt_154 (by decide) ?_
          exact W.iret (v := (-1)) hx hb hr (fun t ht hW => ⟨⟨_, σ, rfl, hE, by rw [ht]; exact hP, va_K.moved hW.alike hK, hD⟩, hS.F ht⟩) hS.2.2 d_M_characterAt_155
  have J119 : ∀ (v2 : Int32) (t0 : Int32) (σ : MPS) (H : Heap) (locs : List Loc) (hP : va_P (mG md) classes (MW md σ) H) (hD : va_D A (MW md σ)) (hS : va_S A s.heap H locs) (ls : Array Slot) (hl : lv_has ls 8 [(0, .ref (mA md 0)), (1, .ref (mA md 2)), (2, .int v2)]) (hE : w_M_characterAt_J119 post v2 t0 σ), W p l e (headSpec ws_M_characterAt { frames := 0, cells := 0, slots := 0, locals := 0 }).room s m ([.ref (mA md 0), .ref (mA md 2), .int x1, .int x2] : List Value).toArray below meth c H locs 0 0 (MQ below (va_Qi post (eM md A) A) ([.ref (mA md 0), .ref (mA md 2), .int x1, .int x2] : List Value).toArray s 0 0 A) (F0 m 119 ls [.int t0]) := by
    intro  v2 t0 σ H locs hP hD hS ls hl hE
    unfold w_M_characterAt_J119 at hE
    refine lv_istore (lv' := [(5, .int t0), (0, .ref (mA md 0)), (1, .ref (mA md 2)), (2, .int v2)]) hx hb d_M_characterAt_119 hl (by decide) rfl (fun ls hl => ?_)
    refine lv_iconst (v := 1) hx hb d_M_characterAt_121 (by decide) ?_
    refine lv_istore (lv' := [(6, .int 1), (5, .int t0), (0, .ref (mA md 0)), (1, .ref (mA md 2)), (2, .int v2)]) hx hb d_M_characterAt_122 hl (by decide) rfl (fun ls hl => ?_)
    obtain ⟨n, hE⟩ := hE
    exact L124 v2 n t0 1 σ _ _ hP hD hS _ (lv_sub hl [2, 3, 4, 1, 0] rfl) hE
  have J71 : ∀ (v2 : Int32) (v3 : Int32) (v4 : Int32) (t0 : Int32) (σ : MPS) (H : Heap) (locs : List Loc) (hP : va_P (mG md) classes (MW md σ) H) (hD : va_D A (MW md σ)) (hS : va_S A s.heap H locs) (ls : Array Slot) (hl : lv_has ls 8 [(0, .ref (mA md 0)), (1, .ref (mA md 2)), (2, .int v2), (3, .int v3), (4, .int v4)]) (hE : w_M_characterAt_J71 post v2 v3 v4 t0 σ), W p l e (headSpec ws_M_characterAt { frames := 0, cells := 0, slots := 0, locals := 0 }).room s m ([.ref (mA md 0), .ref (mA md 2), .int x1, .int x2] : List Value).toArray below meth c H locs 0 0 (MQ below (va_Qi post (eM md A) A) ([.ref (mA md 0), .ref (mA md 2), .int x1, .int x2] : List Value).toArray s 0 0 A) (F0 m 71 ls [.int t0, .ref (mA md 0)]) := by
    intro  v2 v3 v4 t0 σ H locs hP hD hS ls hl hE
    unfold w_M_characterAt_J71 at hE
    refine va_put (D := (mG md)) (ci := 7) (v := .int t0) (ty := .int) (C := R_M) (T := F_M) (N := 37) hx hb hta i_M t_M t_M_ok n_M hown hK hP hD hS 0 rfl rfl 12 (by decide) (hta _ fl_M_76) (fun _ h9 => h9) rfl (by decide +kernel) rfl rfl (Nat.le_of_ble_eq_true rfl) d_M_characterAt_71 (fun H locs hP hD hS => ?_)
    have hP : va_P (mG md) classes (MW md (ms_width σ t0)) H := hP
    have hD : va_D A (MW md (ms_width σ t0)) := hD
    have hE := hE _ rfl
    generalize (ms_width σ t0 : MPS) = σ71 at hP hD hE
    refine lv_aload_n hx hb d_M_characterAt_74 rfl (lv_at hl 0 rfl) ?_
    refine va_get (D := (mG md)) (ci := 7) (v := .int (mp_width σ71)) (C := R_M) (T := F_M) (N := 37) hx hb hta i_M hown hK hP 0 rfl rfl 12 (by decide) (hta _ fl_M_76) (fun _ h9 => h9) rfl d_M_characterAt_75 ?_
    refine lv_if_eq (tgt := 91) hx hb d_M_characterAt_78 (by decide) (fun cc78 => ?_) (fun cc78 => ?_)
    · have hE := hE.1 cc78
      refine lv_iconst (v := -1) hx hb d_M_characterAt_91 (by decide) ?_
      exact W.iret (v := (-1)) hx hb hr (fun t ht hW => ⟨⟨_, σ71, rfl, hE, by rw [ht]; exact hP, va_K.moved hW.alike hK, hD⟩, hS.F ht⟩) hS.2.2 d_M_characterAt_92
    · have hE := hE.2 cc78
      refine lv_iload_n hx hb d_M_characterAt_81 rfl (lv_at hl 2 rfl) ?_
      refine lv_aload_n hx hb d_M_characterAt_82 rfl (lv_at hl 0 rfl) ?_
      refine va_get (D := (mG md)) (ci := 7) (v := .int (mp_width σ71)) (C := R_M) (T := F_M) (N := 37) hx hb hta i_M hown hK hP 0 rfl rfl 12 (by decide) (hta _ fl_M_76) (fun _ h9 => h9) rfl d_M_characterAt_83 ?_
      refine lv_iadd hx hb d_M_characterAt_86 ?_
      refine lv_iload_n hx hb d_M_characterAt_87 rfl (lv_at hl 3 rfl) ?_
      refine lv_icmp_le (tgt := 93) hx hb d_M_characterAt_88 (by decide) (fun cc88 => ?_) (fun cc88 => ?_)
      · have hE := hE.1 cc88
        refine lv_aload_n hx hb d_M_characterAt_93 rfl (lv_at hl 0 rfl) ?_
        refine va_get (D := (mG md)) (ci := 7) (v := .int (mp_width σ71)) (C := R_M) (T := F_M) (N := 37) hx hb hta i_M hown hK hP 0 rfl rfl 12 (by decide) (hta _ fl_M_76) (fun _ h9 => h9) rfl d_M_characterAt_94 ?_
        refine lv_iconst (v := 1) hx hb d_M_characterAt_97 (by decide) ?_
        refine lv_icmp_ne (tgt := 106) hx hb d_M_characterAt_98 (by decide) (fun cc98 => ?_) (fun cc98 => ?_)
        · have hE := hE.2 cc98
          refine lv_iload hx hb d_M_characterAt_106 (lv_at hl 4 rfl) ?_
          refine lv_sipush (v := 255) hx hb d_M_characterAt_108 (by decide) ?_
          refine lv_aload_n hx hb d_M_characterAt_111 rfl (lv_at hl 0 rfl) ?_
          refine va_get (D := (mG md)) (ci := 7) (v := .int (mp_width σ71)) (C := R_M) (T := F_M) (N := 37) hx hb hta i_M hown hK hP 0 rfl rfl 12 (by decide) (hta _ fl_M_76) (fun _ h9 => h9) rfl d_M_characterAt_112 ?_
          refine lv_iconst (v := 1) hx hb d_M_characterAt_115 (by decide) ?_
          refine lv_iadd hx hb d_M_characterAt_116 ?_
          refine lv_ishr hx hb d_M_characterAt_117 ?_
          refine lv_iand hx hb d_M_characterAt_118 ?_
          exact J119  v2 (v4 &&& (255 >>> (((mp_width σ71) + 1) &&& 31))) σ71 _ _ hP hD hS _ (lv_sub hl [0, 1, 2] rfl) hE
        · have hE := hE.1 cc98
          refine lv_iload hx hb d_M_characterAt_101 (lv_at hl 4 rfl) ?_
          refine lv_goto (tgt := 119) hx hb d_M_characterAt_103 (by decide) ?_
          exact J119  v2 v4 σ71 _ _ hP hD hS _ (lv_sub hl [0, 1, 2] rfl) hE
      · have hE := hE.2 cc88
        refine lv_iconst (v := -1) hx hb d_M_characterAt_91 (by decide) ?_
        exact W.iret (v := (-1)) hx hb hr (fun t ht hW => ⟨⟨_, σ71, rfl, hE, by rw [ht]; exact hP, va_K.moved hW.alike hK, hD⟩, hS.F ht⟩) hS.2.2 d_M_characterAt_92
  unfold w_M_characterAt at hE
  refine lv_aload_n hx hb d_M_characterAt_0 rfl (lv_at hl 1 rfl) ?_
  refine lv_iload_n hx hb d_M_characterAt_1 rfl (lv_at hl 2 rfl) ?_
  obtain ⟨hI2, hE⟩ := hE
  refine va_bald (D := (mG md)) (f := mp_text σ) hx hb hK hP 2 1 rfl rfl hI2 d_M_characterAt_2 ?_
  refine lv_sipush (v := 255) hx hb d_M_characterAt_3 (by decide) ?_
  refine lv_iand hx hb d_M_characterAt_6 ?_
  refine lv_istore (lv' := [(4, .int (((mp_text σ) x1.toNatClampNeg) &&& 255)), (0, .ref (mA md 0)), (1, .ref (mA md 2)), (2, .int x1), (3, .int x2)]) hx hb d_M_characterAt_7 hl (by decide) rfl (fun ls hl => ?_)
  refine lv_aload_n hx hb d_M_characterAt_9 rfl (lv_at hl 1 rfl) ?_
  refine lv_iload hx hb d_M_characterAt_10 (lv_at hl 0 rfl) ?_
  refine lv_sipush (v := 128) hx hb d_M_characterAt_12 (by decide) ?_
  refine lv_icmp_ge (tgt := 22) hx hb d_M_characterAt_15 (by decide) (fun cc15 => ?_) (fun cc15 => ?_)
  · have hE := hE.1 cc15
    refine lv_iload hx hb d_M_characterAt_22 (lv_at hl 0 rfl) ?_
    refine lv_sipush (v := 194) hx hb d_M_characterAt_24 (by decide) ?_
    refine lv_icmp_ge (tgt := 34) hx hb d_M_characterAt_27 (by decide) (fun cc27 => ?_) (fun cc27 => ?_)
    · have hE := hE.1 cc27
      refine lv_iload hx hb d_M_characterAt_34 (lv_at hl 0 rfl) ?_
      refine lv_sipush (v := 224) hx hb d_M_characterAt_36 (by decide) ?_
      refine lv_icmp_ge (tgt := 46) hx hb d_M_characterAt_39 (by decide) (fun cc39 => ?_) (fun cc39 => ?_)
      · have hE := hE.1 cc39
        refine lv_iload hx hb d_M_characterAt_46 (lv_at hl 0 rfl) ?_
        refine lv_sipush (v := 240) hx hb d_M_characterAt_48 (by decide) ?_
        refine lv_icmp_ge (tgt := 58) hx hb d_M_characterAt_51 (by decide) (fun cc51 => ?_) (fun cc51 => ?_)
        · have hE := hE.1 cc51
          refine lv_iload hx hb d_M_characterAt_58 (lv_at hl 0 rfl) ?_
          refine lv_sipush (v := 245) hx hb d_M_characterAt_60 (by decide) ?_
          refine lv_icmp_ge (tgt := 70) hx hb d_M_characterAt_63 (by decide) (fun cc63 => ?_) (fun cc63 => ?_)
          · have hE := hE.1 cc63
            refine lv_iconst (v := 0) hx hb d_M_characterAt_70 (by decide) ?_
            exact J71  x1 x2 (((mp_text σ) x1.toNatClampNeg) &&& 255) 0 σ _ _ hP hD hS _ (lv_sub hl [1, 2, 3, 4, 0] rfl) hE
          · have hE := hE.2 cc63
            refine lv_iconst (v := 4) hx hb d_M_characterAt_66 (by decide) ?_
            refine lv_goto (tgt := 71) hx hb d_M_characterAt_67 (by decide) ?_
            exact J71  x1 x2 (((mp_text σ) x1.toNatClampNeg) &&& 255) 4 σ _ _ hP hD hS _ (lv_sub hl [1, 2, 3, 4, 0] rfl) hE
        · have hE := hE.2 cc51
          refine lv_iconst (v := 3) hx hb d_M_characterAt_54 (by decide) ?_
          refine lv_goto (tgt := 71) hx hb d_M_characterAt_55 (by decide) ?_
          exact J71  x1 x2 (((mp_text σ) x1.toNatClampNeg) &&& 255) 3 σ _ _ hP hD hS _ (lv_sub hl [1, 2, 3, 4, 0] rfl) hE
      · have hE := hE.2 cc39
        refine lv_iconst (v := 2) hx hb d_M_characterAt_42 (by decide) ?_
        refine lv_goto (tgt := 71) hx hb d_M_characterAt_43 (by decide) ?_
        exact J71  x1 x2 (((mp_text σ) x1.toNatClampNeg) &&& 255) 2 σ _ _ hP hD hS _ (lv_sub hl [1, 2, 3, 4, 0] rfl) hE
    · have hE := hE.2 cc27
      refine lv_iconst (v := 0) hx hb d_M_characterAt_30 (by decide) ?_
      refine lv_goto (tgt := 71) hx hb d_M_characterAt_31 (by decide) ?_
      exact J71  x1 x2 (((mp_text σ) x1.toNatClampNeg) &&& 255) 0 σ _ _ hP hD hS _ (lv_sub hl [1, 2, 3, 4, 0] rfl) hE
  · have hE := hE.2 cc15
    refine lv_iconst (v := 1) hx hb d_M_characterAt_18 (by decide) ?_
    refine lv_goto (tgt := 71) hx hb d_M_characterAt_19 (by decide) ?_
    exact J71  x1 x2 (((mp_text σ) x1.toNatClampNeg) &&& 255) 1 σ _ _ hP hD hS _ (lv_sub hl [1, 2, 3, 4, 0] rfl) hE

def w_M_characterAt_t_J251   (post : Int32 → MPS → Prop) (v5 : Int32) (σ : MPS) : Prop := post v5 σ
def w_M_characterAt_t_J223   (post : Int32 → MPS → Prop) (v5 : Int32) (t0 : Int32) (σ : MPS) : Prop := ((t0 = 0 → post (-1) σ) ∧ (¬ t0 = 0 → ((1114111 < v5 → post (-1) σ) ∧ (¬ 1114111 < v5 → ((v5 < 55296 → w_M_characterAt_t_J251 post v5 σ) ∧ (¬ v5 < 55296 → ((v5 ≤ 57343 → post (-1) σ) ∧ (¬ v5 ≤ 57343 → w_M_characterAt_t_J251 post v5 σ))))))))
def w_M_characterAt_t_J218   (post : Int32 → MPS → Prop) (v5 : Int32) (σ : MPS) : Prop := w_M_characterAt_t_J223 post v5 1 σ
def w_M_characterAt_t_J215   (post : Int32 → MPS → Prop) (v5 : Int32) (t0 : Int32) (t1 : Int32) (σ : MPS) : Prop := ((t1 < t0 → w_M_characterAt_t_J223 post v5 0 σ) ∧ (¬ t1 < t0 → w_M_characterAt_t_J218 post v5 σ))
def w_M_characterAt_t_L124  (v2 : Int32) (post : Int32 → MPS → Prop) : Nat → Int32 → Int32 → MPS → Prop
  | 0, _, _, _ => False
  | n + 1, v5, v6, σ => (((mp_width σ) ≤ v6 → (((mp_width σ) = 1 → w_M_characterAt_t_J218 post v5 σ) ∧ (¬ (mp_width σ) = 1 → (((mp_width σ) = 2 → w_M_characterAt_t_J215 post v5 128 v5 σ) ∧ (¬ (mp_width σ) = 2 → (((mp_width σ) = 3 → w_M_characterAt_t_J215 post v5 2048 v5 σ) ∧ (¬ (mp_width σ) = 3 → w_M_characterAt_t_J215 post v5 65536 v5 σ))))))) ∧ (¬ (mp_width σ) ≤ v6 → (vp_in (v2 + v6) 4000 ∧ ((((((mp_tape σ) (v2 + v6).toNatClampNeg) &&& 255) >>> (6 &&& 31)) = 2 → w_M_characterAt_t_L124 v2 post n ((v5 <<< (6 &&& 31)) ||| ((((mp_tape σ) (v2 + v6).toNatClampNeg) &&& 255) &&& 63)) (v6 + 1) σ) ∧ (¬ ((((mp_tape σ) (v2 + v6).toNatClampNeg) &&& 255) >>> (6 &&& 31)) = 2 → post (-1) σ)))))
def w_M_characterAt_t_J119   (post : Int32 → MPS → Prop) (v2 : Int32) (t0 : Int32) (σ : MPS) : Prop := (∃ n, w_M_characterAt_t_L124 v2 post n t0 1 σ)
def w_M_characterAt_t_J71   (post : Int32 → MPS → Prop) (v2 : Int32) (v3 : Int32) (v4 : Int32) (t0 : Int32) (σ : MPS) : Prop := (∀ σ71 : MPS, σ71 = ms_width σ t0 → (((mp_width σ71) = 0 → post (-1) σ71) ∧ (¬ (mp_width σ71) = 0 → (((v2 + (mp_width σ71)) ≤ v3 → (((mp_width σ71) = 1 → w_M_characterAt_t_J119 post v2 v4 σ71) ∧ (¬ (mp_width σ71) = 1 → w_M_characterAt_t_J119 post v2 (v4 &&& (255 >>> (((mp_width σ71) + 1) &&& 31))) σ71))) ∧ (¬ (v2 + (mp_width σ71)) ≤ v3 → post (-1) σ71)))))
def w_M_characterAt_t  (σ : MPS) (x1 : Int32) (x2 : Int32) (post : Int32 → MPS → Prop) : Prop := (vp_in x1 4000 ∧ ((128 ≤ (((mp_tape σ) x1.toNatClampNeg) &&& 255) → ((194 ≤ (((mp_tape σ) x1.toNatClampNeg) &&& 255) → ((224 ≤ (((mp_tape σ) x1.toNatClampNeg) &&& 255) → ((240 ≤ (((mp_tape σ) x1.toNatClampNeg) &&& 255) → ((245 ≤ (((mp_tape σ) x1.toNatClampNeg) &&& 255) → w_M_characterAt_t_J71 post x1 x2 (((mp_tape σ) x1.toNatClampNeg) &&& 255) 0 σ) ∧ (¬ 245 ≤ (((mp_tape σ) x1.toNatClampNeg) &&& 255) → w_M_characterAt_t_J71 post x1 x2 (((mp_tape σ) x1.toNatClampNeg) &&& 255) 4 σ))) ∧ (¬ 240 ≤ (((mp_tape σ) x1.toNatClampNeg) &&& 255) → w_M_characterAt_t_J71 post x1 x2 (((mp_tape σ) x1.toNatClampNeg) &&& 255) 3 σ))) ∧ (¬ 224 ≤ (((mp_tape σ) x1.toNatClampNeg) &&& 255) → w_M_characterAt_t_J71 post x1 x2 (((mp_tape σ) x1.toNatClampNeg) &&& 255) 2 σ))) ∧ (¬ 194 ≤ (((mp_tape σ) x1.toNatClampNeg) &&& 255) → w_M_characterAt_t_J71 post x1 x2 (((mp_tape σ) x1.toNatClampNeg) &&& 255) 0 σ))) ∧ (¬ 128 ≤ (((mp_tape σ) x1.toNatClampNeg) &&& 255) → w_M_characterAt_t_J71 post x1 x2 (((mp_tape σ) x1.toNatClampNeg) &&& 255) 1 σ)))
set_option maxHeartbeats 4000000 in
set_option maxRecDepth 100000 in
theorem c_M_characterAt_t (l : Launch) (md : MD) (sz : Nat) (σ : MPS) (x1 : Int32) (x2 : Int32)  (post : Int32 → MPS → Prop) (hE : w_M_characterAt_t σ x1 x2 post) : Met l y_M_characterAt ws_M_characterAt { frames := 0, cells := 0, slots := 0, locals := 0 } (va_Pc [.ref (mA md 0), .ref (mA md 1), .int x1, .int x2] (gM md σ sz)) (va_Qi post (eM md (va_A (MW md σ) sz)) (va_A (MW md σ) sz)) 0 0 (va_A (MW md σ) sz) := by
  refine Met.ofW (cc := b_M_characterAt) (maxL := 8) (ret := (some .int)) (by decide) rfl ?_
  intro p e s m args below meth c s₁ B hml hv
  obtain ⟨rfl, hsz, hP, hK, hD0⟩ := hv
  have hx := B.exec
  have hb := B.bytes
  have hr := B.returns
  have hta : ∀ w ∈ aW, w.before _ s = true := fun w h => atoms_spec (ws := ws_M_characterAt) B.pre w (List.mem_cons_of_mem _ h)
  have hown : s.vm.findClass R_M = some m.cls := findClass_of_methodNamed B.named
  have hlocks := B.notSynchronized
  subst hsz
  have hD := hD0.self (sz := s.heap.size)
  generalize hAe : va_A (MW md σ) s.heap.size = A at hD ⊢
  have hA : ∀ q : Nat, s.heap.size ≤ q → A q := fun q h => by rw [← hAe]; exact Or.inr h
  have hS : va_S A s.heap s.heap [] := va_S.rf
  have hP : va_P (mG md) classes (MW md σ) s.heap := hP
  have hl := lv_entry ([.ref (mA md 0), .ref (mA md 1), .int x1, .int x2]) (n := 8) (Nat.le_of_ble_eq_true rfl)
  rw [lg_entry_eq]
  generalize (lg_sl ([.ref (mA md 0), .ref (mA md 1), .int x1, .int x2]) ++ List.replicate (8 - (lg_sl ([.ref (mA md 0), .ref (mA md 1), .int x1, .int x2])).length) Slot.unset).toArray = ls at hl ⊢
  have hl : lv_has ls 8 [(0, .ref (mA md 0)), (1, .ref (mA md 1)), (2, .int x1), (3, .int x2)] := hl
  have J251 : ∀ (v5 : Int32) (σ : MPS) (H : Heap) (locs : List Loc) (hP : va_P (mG md) classes (MW md σ) H) (hD : va_D A (MW md σ)) (hS : va_S A s.heap H locs) (ls : Array Slot) (hl : lv_has ls 8 [(5, .int v5)]) (hE : w_M_characterAt_t_J251 post v5 σ), W p l e (headSpec ws_M_characterAt { frames := 0, cells := 0, slots := 0, locals := 0 }).room s m ([.ref (mA md 0), .ref (mA md 1), .int x1, .int x2] : List Value).toArray below meth c H locs 0 0 (MQ below (va_Qi post (eM md A) A) ([.ref (mA md 0), .ref (mA md 1), .int x1, .int x2] : List Value).toArray s 0 0 A) (F0 m 251 ls []) := by
    intro  v5 σ H locs hP hD hS ls hl hE
    unfold w_M_characterAt_t_J251 at hE
    refine lv_iload hx hb d_M_characterAt_251 (lv_at hl 0 rfl) ?_
    refine lv_goto (tgt := 257) hx hb d_M_characterAt_253 (by decide) ?_
    exact W.iret (v := v5) hx hb hr (fun t ht hW => ⟨⟨_, σ, rfl, hE, by rw [ht]; exact hP, va_K.moved hW.alike hK, hD⟩, hS.F ht⟩) hS.2.2 d_M_characterAt_257
  have J223 : ∀ (v5 : Int32) (t0 : Int32) (σ : MPS) (H : Heap) (locs : List Loc) (hP : va_P (mG md) classes (MW md σ) H) (hD : va_D A (MW md σ)) (hS : va_S A s.heap H locs) (ls : Array Slot) (hl : lv_has ls 8 [(5, .int v5)]) (hE : w_M_characterAt_t_J223 post v5 t0 σ), W p l e (headSpec ws_M_characterAt { frames := 0, cells := 0, slots := 0, locals := 0 }).room s m ([.ref (mA md 0), .ref (mA md 1), .int x1, .int x2] : List Value).toArray below meth c H locs 0 0 (MQ below (va_Qi post (eM md A) A) ([.ref (mA md 0), .ref (mA md 1), .int x1, .int x2] : List Value).toArray s 0 0 A) (F0 m 223 ls [.int t0]) := by
    intro  v5 t0 σ H locs hP hD hS ls hl hE
    unfold w_M_characterAt_t_J223 at hE
    refine lv_istore (lv' := [(6, .int t0), (5, .int v5)]) hx hb d_M_characterAt_223 hl (by decide) rfl (fun ls hl => ?_)
    refine lv_iload hx hb d_M_characterAt_225 (lv_at hl 0 rfl) ?_
    refine lv_if_eq (tgt := 256) hx hb d_M_characterAt_227 (by decide) (fun cc227 => ?_) (fun cc227 => ?_)
    · have hE := hE.1 cc227
      refine lv_iconst (v := -1) hx hb d_M_characterAt_256 (by decide) ?_
      exact W.iret (v := (-1)) hx hb hr (fun t ht hW => ⟨⟨_, σ, rfl, hE, by rw [ht]; exact hP, va_K.moved hW.alike hK, hD⟩, hS.F ht⟩) hS.2.2 d_M_characterAt_257
    · have hE := hE.2 cc227
      refine lv_iload hx hb d_M_characterAt_230 (lv_at hl 1 rfl) ?_
      refine lv_ldc hx hb hown (hta _ ct_M_80) d_M_characterAt_232 ?_
      refine lv_icmp_gt (tgt := 256) hx hb d_M_characterAt_234 (by decide) (fun cc234 => ?_) (fun cc234 => ?_)
      · have hE := hE.1 cc234
        refine lv_iconst (v := -1) hx hb d_M_characterAt_256 (by decide) ?_
        exact W.iret (v := (-1)) hx hb hr (fun t ht hW => ⟨⟨_, σ, rfl, hE, by rw [ht]; exact hP, va_K.moved hW.alike hK, hD⟩, hS.F ht⟩) hS.2.2 d_M_characterAt_257
      · have hE := hE.2 cc234
        refine lv_iload hx hb d_M_characterAt_237 (lv_at hl 1 rfl) ?_
        refine lv_ldc hx hb hown (hta _ ct_M_81) d_M_characterAt_239 ?_
        refine lv_icmp_lt (tgt := 251) hx hb d_M_characterAt_241 (by decide) (fun cc241 => ?_) (fun cc241 => ?_)
        · have hE := hE.1 cc241
          exact J251  v5 σ _ _ hP hD hS _ (lv_sub hl [1] rfl) hE
        · have hE := hE.2 cc241
          refine lv_iload hx hb d_M_characterAt_244 (lv_at hl 1 rfl) ?_
          refine lv_ldc hx hb hown (hta _ ct_M_82) d_M_characterAt_246 ?_
          refine lv_icmp_le (tgt := 256) hx hb d_M_characterAt_248 (by decide) (fun cc248 => ?_) (fun cc248 => ?_)
          · have hE := hE.1 cc248
            refine lv_iconst (v := -1) hx hb d_M_characterAt_256 (by decide) ?_
            exact W.iret (v := (-1)) hx hb hr (fun t ht hW => ⟨⟨_, σ, rfl, hE, by rw [ht]; exact hP, va_K.moved hW.alike hK, hD⟩, hS.F ht⟩) hS.2.2 d_M_characterAt_257
          · have hE := hE.2 cc248
            exact J251  v5 σ _ _ hP hD hS _ (lv_sub hl [1] rfl) hE
  have J218 : ∀ (v5 : Int32) (σ : MPS) (H : Heap) (locs : List Loc) (hP : va_P (mG md) classes (MW md σ) H) (hD : va_D A (MW md σ)) (hS : va_S A s.heap H locs) (ls : Array Slot) (hl : lv_has ls 8 [(5, .int v5)]) (hE : w_M_characterAt_t_J218 post v5 σ), W p l e (headSpec ws_M_characterAt { frames := 0, cells := 0, slots := 0, locals := 0 }).room s m ([.ref (mA md 0), .ref (mA md 1), .int x1, .int x2] : List Value).toArray below meth c H locs 0 0 (MQ below (va_Qi post (eM md A) A) ([.ref (mA md 0), .ref (mA md 1), .int x1, .int x2] : List Value).toArray s 0 0 A) (F0 m 218 ls []) := by
    intro  v5 σ H locs hP hD hS ls hl hE
    unfold w_M_characterAt_t_J218 at hE
    refine lv_iconst (v := 1) hx hb d_M_characterAt_218 (by decide) ?_
    refine lv_goto (tgt := 223) hx hb d_M_characterAt_219 (by decide) ?_
    exact J223  v5 1 σ _ _ hP hD hS _ (lv_sub hl [0] rfl) hE
  have J215 : ∀ (v5 : Int32) (t0 : Int32) (t1 : Int32) (σ : MPS) (H : Heap) (locs : List Loc) (hP : va_P (mG md) classes (MW md σ) H) (hD : va_D A (MW md σ)) (hS : va_S A s.heap H locs) (ls : Array Slot) (hl : lv_has ls 8 [(5, .int v5)]) (hE : w_M_characterAt_t_J215 post v5 t0 t1 σ), W p l e (headSpec ws_M_characterAt { frames := 0, cells := 0, slots := 0, locals := 0 }).room s m ([.ref (mA md 0), .ref (mA md 1), .int x1, .int x2] : List Value).toArray below meth c H locs 0 0 (MQ below (va_Qi post (eM md A) A) ([.ref (mA md 0), .ref (mA md 1), .int x1, .int x2] : List Value).toArray s 0 0 A) (F0 m 215 ls [.int t0, .int t1]) := by
    intro  v5 t0 t1 σ H locs hP hD hS ls hl hE
    unfold w_M_characterAt_t_J215 at hE
    refine lv_icmp_lt (tgt := 222) hx hb d_M_characterAt_215 (by decide) (fun cc215 => ?_) (fun cc215 => ?_)
    · have hE := hE.1 cc215
      refine lv_iconst (v := 0) hx hb d_M_characterAt_222 (by decide) ?_
      exact J223  v5 0 σ _ _ hP hD hS _ (lv_sub hl [0] rfl) hE
    · have hE := hE.2 cc215
      exact J218  v5 σ _ _ hP hD hS _ (lv_sub hl [0] rfl) hE
  have L124 : ∀ (v2 : Int32) (n : Nat) (v5 : Int32) (v6 : Int32) (σ : MPS) (H : Heap) (locs : List Loc) (hP : va_P (mG md) classes (MW md σ) H) (hD : va_D A (MW md σ)) (hS : va_S A s.heap H locs) (ls : Array Slot) (hl : lv_has ls 8 [(0, .ref (mA md 0)), (1, .ref (mA md 1)), (2, .int v2), (5, .int v5), (6, .int v6)]) (hE : w_M_characterAt_t_L124 v2 post n v5 v6 σ), W p l e (headSpec ws_M_characterAt { frames := 0, cells := 0, slots := 0, locals := 0 }).room s m ([.ref (mA md 0), .ref (mA md 1), .int x1, .int x2] : List Value).toArray below meth c H locs 0 0 (MQ below (va_Qi post (eM md A) A) ([.ref (mA md 0), .ref (mA md 1), .int x1, .int x2] : List Value).toArray s 0 0 A) (F0 m 124 ls []) := by
    intro v2 n
    induction n with
    | zero => intro v5 v6 σ H locs hP hD hS ls hl hE; exact hE.elim
    | succ n ih124 =>
      intro v5 v6 σ H locs hP hD hS ls hl hE
      unfold w_M_characterAt_t_L124 at hE
      refine lv_iload hx hb d_M_characterAt_124 (lv_at hl 4 rfl) ?_
      refine lv_aload_n hx hb d_M_characterAt_126 rfl (lv_at hl 0 rfl) ?_
      refine va_get (D := (mG md)) (ci := 7) (v := .int (mp_width σ)) (C := R_M) (T := F_M) (N := 37) hx hb hta i_M hown hK hP 0 rfl rfl 12 (by decide) (hta _ fl_M_76) (fun _ h9 => h9) rfl d_M_characterAt_127 ?_
      refine lv_icmp_ge (tgt := 175) hx hb d_M_characterAt_130 (by decide) (fun cc130 => ?_) (fun cc130 => ?_)
      · have hE := hE.1 cc130
        refine lv_aload_n hx hb d_M_characterAt_175 rfl (lv_at hl 0 rfl) ?_
        refine va_get (D := (mG md)) (ci := 7) (v := .int (mp_width σ)) (C := R_M) (T := F_M) (N := 37) hx hb hta i_M hown hK hP 0 rfl rfl 12 (by decide) (hta _ fl_M_76) (fun _ h9 => h9) rfl d_M_characterAt_176 ?_
        refine lv_iconst (v := 1) hx hb d_M_characterAt_179 (by decide) ?_
        refine lv_icmp_eq (tgt := 218) hx hb d_M_characterAt_180 (by decide) (fun cc180 => ?_) (fun cc180 => ?_)
        · have hE := hE.1 cc180
          exact J218  v5 σ _ _ hP hD hS _ (lv_sub hl [3] rfl) hE
        · have hE := hE.2 cc180
          refine lv_iload hx hb d_M_characterAt_183 (lv_at hl 3 rfl) ?_
          refine lv_aload_n hx hb d_M_characterAt_185 rfl (lv_at hl 0 rfl) ?_
          refine va_get (D := (mG md)) (ci := 7) (v := .int (mp_width σ)) (C := R_M) (T := F_M) (N := 37) hx hb hta i_M hown hK hP 0 rfl rfl 12 (by decide) (hta _ fl_M_76) (fun _ h9 => h9) rfl d_M_characterAt_186 ?_
          refine lv_iconst (v := 2) hx hb d_M_characterAt_189 (by decide) ?_
          refine lv_icmp_ne (tgt := 199) hx hb d_M_characterAt_190 (by decide) (fun cc190 => ?_) (fun cc190 => ?_)
          · have hE := hE.2 cc190
            refine lv_aload_n hx hb d_M_characterAt_199 rfl (lv_at hl 0 rfl) ?_
            refine va_get (D := (mG md)) (ci := 7) (v := .int (mp_width σ)) (C := R_M) (T := F_M) (N := 37) hx hb hta i_M hown hK hP 0 rfl rfl 12 (by decide) (hta _ fl_M_76) (fun _ h9 => h9) rfl d_M_characterAt_200 ?_
            refine lv_iconst (v := 3) hx hb d_M_characterAt_203 (by decide) ?_
            refine lv_icmp_ne (tgt := 213) hx hb d_M_characterAt_204 (by decide) (fun cc204 => ?_) (fun cc204 => ?_)
            · have hE := hE.2 cc204
              refine lv_ldc hx hb hown (hta _ ct_M_79) d_M_characterAt_213 ?_
              exact J215  v5 65536 v5 σ _ _ hP hD hS _ (lv_sub hl [3] rfl) hE
            · have hE := hE.1 cc204
              refine lv_sipush (v := 2048) hx hb d_M_characterAt_207 (by decide) ?_
              refine lv_goto (tgt := 215) hx hb d_M_characterAt_210 (by decide) ?_
              exact J215  v5 2048 v5 σ _ _ hP hD hS _ (lv_sub hl [3] rfl) hE
          · have hE := hE.1 cc190
            refine lv_sipush (v := 128) hx hb d_M_characterAt_193 (by decide) ?_
            refine lv_goto (tgt := 215) hx hb d_M_characterAt_196 (by decide) ?_
            exact J215  v5 128 v5 σ _ _ hP hD hS _ (lv_sub hl [3] rfl) hE
      · have hE := hE.2 cc130
        refine lv_aload_n hx hb d_M_characterAt_133 rfl (lv_at hl 1 rfl) ?_
        refine lv_iload_n hx hb d_M_characterAt_134 rfl (lv_at hl 2 rfl) ?_
        refine lv_iload hx hb d_M_characterAt_135 (lv_at hl 4 rfl) ?_
        refine lv_iadd hx hb d_M_characterAt_137 ?_
        obtain ⟨hI138, hE⟩ := hE
        refine va_bald (D := (mG md)) (f := mp_tape σ) hx hb hK hP 1 1 rfl rfl hI138 d_M_characterAt_138 ?_
        refine lv_sipush (v := 255) hx hb d_M_characterAt_139 (by decide) ?_
        refine lv_iand hx hb d_M_characterAt_142 ?_
        refine lv_istore (lv' := [(7, .int (((mp_tape σ) (v2 + v6).toNatClampNeg) &&& 255)), (0, .ref (mA md 0)), (1, .ref (mA md 1)), (2, .int v2), (5, .int v5), (6, .int v6)]) hx hb d_M_characterAt_143 hl (by decide) rfl (fun ls hl => ?_)
        refine lv_iload hx hb d_M_characterAt_145 (lv_at hl 0 rfl) ?_
        refine lv_bipush (v := 6) hx hb d_M_characterAt_147 (by decide) ?_
        refine lv_ishr hx hb d_M_characterAt_149 ?_
        refine lv_iconst (v := 2) hx hb d_M_characterAt_150 (by decide) ?_
        refine lv_icmp_eq (tgt := 156) hx hb d_M_characterAt_151 (by decide) (fun cc151 => ?_) (fun cc151 => ?_)
        · have hE := hE.1 cc151
          refine lv_iload hx hb d_M_characterAt_156 (lv_at hl 4 rfl) ?_
          refine lv_bipush (v := 6) hx hb d_M_characterAt_158 (by decide) ?_
          refine lv_ishl hx hb d_M_characterAt_160 ?_
          refine lv_iload hx hb d_M_characterAt_161 (lv_at hl 0 rfl) ?_
          refine lv_bipush (v := 63) hx hb d_M_characterAt_163 (by decide) ?_
          refine lv_iand hx hb d_M_characterAt_165 ?_
          refine lv_ior hx hb d_M_characterAt_166 ?_
          refine lv_istore (lv' := [(5, .int ((v5 <<< (6 &&& 31)) ||| ((((mp_tape σ) (v2 + v6).toNatClampNeg) &&& 255) &&& 63))), (7, .int (((mp_tape σ) (v2 + v6).toNatClampNeg) &&& 255)), (0, .ref (mA md 0)), (1, .ref (mA md 1)), (2, .int v2), (6, .int v6)]) hx hb d_M_characterAt_167 hl (by decide) rfl (fun ls hl => ?_)
          refine lv_iinc (v := v6 + 1) (lv' := [(6, .int (v6 + 1)), (5, .int ((v5 <<< (6 &&& 31)) ||| ((((mp_tape σ) (v2 + v6).toNatClampNeg) &&& 255) &&& 63))), (7, .int (((mp_tape σ) (v2 + v6).toNatClampNeg) &&& 255)), (0, .ref (mA md 0)), (1, .ref (mA md 1)), (2, .int v2)]) hx hb d_M_characterAt_169 hl (k := 5) rfl rfl (by decide) rfl (fun ls hl => ?_)
          refine lv_goto (tgt := 124) hx hb d_M_characterAt_172 (by decide) ?_
          exact ih124 ((v5 <<< (6 &&& 31)) ||| ((((mp_tape σ) (v2 + v6).toNatClampNeg) &&& 255) &&& 63)) (v6 + 1) σ _ _ hP hD hS _ (lv_sub hl [3, 4, 5, 1, 0] rfl) hE
        · have hE := hE.2 cc151
          refine lv_iconst (v := -1) hx hb d_M_characterAt_154 (by decide) ?_
          exact W.iret (v := (-1)) hx hb hr (fun t ht hW => ⟨⟨_, σ, rfl, hE, by rw [ht]; exact hP, va_K.moved hW.alike hK, hD⟩, hS.F ht⟩) hS.2.2 d_M_characterAt_155
  have J119 : ∀ (v2 : Int32) (t0 : Int32) (σ : MPS) (H : Heap) (locs : List Loc) (hP : va_P (mG md) classes (MW md σ) H) (hD : va_D A (MW md σ)) (hS : va_S A s.heap H locs) (ls : Array Slot) (hl : lv_has ls 8 [(0, .ref (mA md 0)), (1, .ref (mA md 1)), (2, .int v2)]) (hE : w_M_characterAt_t_J119 post v2 t0 σ), W p l e (headSpec ws_M_characterAt { frames := 0, cells := 0, slots := 0, locals := 0 }).room s m ([.ref (mA md 0), .ref (mA md 1), .int x1, .int x2] : List Value).toArray below meth c H locs 0 0 (MQ below (va_Qi post (eM md A) A) ([.ref (mA md 0), .ref (mA md 1), .int x1, .int x2] : List Value).toArray s 0 0 A) (F0 m 119 ls [.int t0]) := by
    intro  v2 t0 σ H locs hP hD hS ls hl hE
    unfold w_M_characterAt_t_J119 at hE
    refine lv_istore (lv' := [(5, .int t0), (0, .ref (mA md 0)), (1, .ref (mA md 1)), (2, .int v2)]) hx hb d_M_characterAt_119 hl (by decide) rfl (fun ls hl => ?_)
    refine lv_iconst (v := 1) hx hb d_M_characterAt_121 (by decide) ?_
    refine lv_istore (lv' := [(6, .int 1), (5, .int t0), (0, .ref (mA md 0)), (1, .ref (mA md 1)), (2, .int v2)]) hx hb d_M_characterAt_122 hl (by decide) rfl (fun ls hl => ?_)
    obtain ⟨n, hE⟩ := hE
    exact L124 v2 n t0 1 σ _ _ hP hD hS _ (lv_sub hl [2, 3, 4, 1, 0] rfl) hE
  have J71 : ∀ (v2 : Int32) (v3 : Int32) (v4 : Int32) (t0 : Int32) (σ : MPS) (H : Heap) (locs : List Loc) (hP : va_P (mG md) classes (MW md σ) H) (hD : va_D A (MW md σ)) (hS : va_S A s.heap H locs) (ls : Array Slot) (hl : lv_has ls 8 [(0, .ref (mA md 0)), (1, .ref (mA md 1)), (2, .int v2), (3, .int v3), (4, .int v4)]) (hE : w_M_characterAt_t_J71 post v2 v3 v4 t0 σ), W p l e (headSpec ws_M_characterAt { frames := 0, cells := 0, slots := 0, locals := 0 }).room s m ([.ref (mA md 0), .ref (mA md 1), .int x1, .int x2] : List Value).toArray below meth c H locs 0 0 (MQ below (va_Qi post (eM md A) A) ([.ref (mA md 0), .ref (mA md 1), .int x1, .int x2] : List Value).toArray s 0 0 A) (F0 m 71 ls [.int t0, .ref (mA md 0)]) := by
    intro  v2 v3 v4 t0 σ H locs hP hD hS ls hl hE
    unfold w_M_characterAt_t_J71 at hE
    refine va_put (D := (mG md)) (ci := 7) (v := .int t0) (ty := .int) (C := R_M) (T := F_M) (N := 37) hx hb hta i_M t_M t_M_ok n_M hown hK hP hD hS 0 rfl rfl 12 (by decide) (hta _ fl_M_76) (fun _ h9 => h9) rfl (by decide +kernel) rfl rfl (Nat.le_of_ble_eq_true rfl) d_M_characterAt_71 (fun H locs hP hD hS => ?_)
    have hP : va_P (mG md) classes (MW md (ms_width σ t0)) H := hP
    have hD : va_D A (MW md (ms_width σ t0)) := hD
    have hE := hE _ rfl
    generalize (ms_width σ t0 : MPS) = σ71 at hP hD hE
    refine lv_aload_n hx hb d_M_characterAt_74 rfl (lv_at hl 0 rfl) ?_
    refine va_get (D := (mG md)) (ci := 7) (v := .int (mp_width σ71)) (C := R_M) (T := F_M) (N := 37) hx hb hta i_M hown hK hP 0 rfl rfl 12 (by decide) (hta _ fl_M_76) (fun _ h9 => h9) rfl d_M_characterAt_75 ?_
    refine lv_if_eq (tgt := 91) hx hb d_M_characterAt_78 (by decide) (fun cc78 => ?_) (fun cc78 => ?_)
    · have hE := hE.1 cc78
      refine lv_iconst (v := -1) hx hb d_M_characterAt_91 (by decide) ?_
      exact W.iret (v := (-1)) hx hb hr (fun t ht hW => ⟨⟨_, σ71, rfl, hE, by rw [ht]; exact hP, va_K.moved hW.alike hK, hD⟩, hS.F ht⟩) hS.2.2 d_M_characterAt_92
    · have hE := hE.2 cc78
      refine lv_iload_n hx hb d_M_characterAt_81 rfl (lv_at hl 2 rfl) ?_
      refine lv_aload_n hx hb d_M_characterAt_82 rfl (lv_at hl 0 rfl) ?_
      refine va_get (D := (mG md)) (ci := 7) (v := .int (mp_width σ71)) (C := R_M) (T := F_M) (N := 37) hx hb hta i_M hown hK hP 0 rfl rfl 12 (by decide) (hta _ fl_M_76) (fun _ h9 => h9) rfl d_M_characterAt_83 ?_
      refine lv_iadd hx hb d_M_characterAt_86 ?_
      refine lv_iload_n hx hb d_M_characterAt_87 rfl (lv_at hl 3 rfl) ?_
      refine lv_icmp_le (tgt := 93) hx hb d_M_characterAt_88 (by decide) (fun cc88 => ?_) (fun cc88 => ?_)
      · have hE := hE.1 cc88
        refine lv_aload_n hx hb d_M_characterAt_93 rfl (lv_at hl 0 rfl) ?_
        refine va_get (D := (mG md)) (ci := 7) (v := .int (mp_width σ71)) (C := R_M) (T := F_M) (N := 37) hx hb hta i_M hown hK hP 0 rfl rfl 12 (by decide) (hta _ fl_M_76) (fun _ h9 => h9) rfl d_M_characterAt_94 ?_
        refine lv_iconst (v := 1) hx hb d_M_characterAt_97 (by decide) ?_
        refine lv_icmp_ne (tgt := 106) hx hb d_M_characterAt_98 (by decide) (fun cc98 => ?_) (fun cc98 => ?_)
        · have hE := hE.2 cc98
          refine lv_iload hx hb d_M_characterAt_106 (lv_at hl 4 rfl) ?_
          refine lv_sipush (v := 255) hx hb d_M_characterAt_108 (by decide) ?_
          refine lv_aload_n hx hb d_M_characterAt_111 rfl (lv_at hl 0 rfl) ?_
          refine va_get (D := (mG md)) (ci := 7) (v := .int (mp_width σ71)) (C := R_M) (T := F_M) (N := 37) hx hb hta i_M hown hK hP 0 rfl rfl 12 (by decide) (hta _ fl_M_76) (fun _ h9 => h9) rfl d_M_characterAt_112 ?_
          refine lv_iconst (v := 1) hx hb d_M_characterAt_115 (by decide) ?_
          refine lv_iadd hx hb d_M_characterAt_116 ?_
          refine lv_ishr hx hb d_M_characterAt_117 ?_
          refine lv_iand hx hb d_M_characterAt_118 ?_
          exact J119  v2 (v4 &&& (255 >>> (((mp_width σ71) + 1) &&& 31))) σ71 _ _ hP hD hS _ (lv_sub hl [0, 1, 2] rfl) hE
        · have hE := hE.1 cc98
          refine lv_iload hx hb d_M_characterAt_101 (lv_at hl 4 rfl) ?_
          refine lv_goto (tgt := 119) hx hb d_M_characterAt_103 (by decide) ?_
          exact J119  v2 v4 σ71 _ _ hP hD hS _ (lv_sub hl [0, 1, 2] rfl) hE
      · have hE := hE.2 cc88
        refine lv_iconst (v := -1) hx hb d_M_characterAt_91 (by decide) ?_
        exact W.iret (v := (-1)) hx hb hr (fun t ht hW => ⟨⟨_, σ71, rfl, hE, by rw [ht]; exact hP, va_K.moved hW.alike hK, hD⟩, hS.F ht⟩) hS.2.2 d_M_characterAt_92
  unfold w_M_characterAt_t at hE
  refine lv_aload_n hx hb d_M_characterAt_0 rfl (lv_at hl 1 rfl) ?_
  refine lv_iload_n hx hb d_M_characterAt_1 rfl (lv_at hl 2 rfl) ?_
  obtain ⟨hI2, hE⟩ := hE
  refine va_bald (D := (mG md)) (f := mp_tape σ) hx hb hK hP 1 1 rfl rfl hI2 d_M_characterAt_2 ?_
  refine lv_sipush (v := 255) hx hb d_M_characterAt_3 (by decide) ?_
  refine lv_iand hx hb d_M_characterAt_6 ?_
  refine lv_istore (lv' := [(4, .int (((mp_tape σ) x1.toNatClampNeg) &&& 255)), (0, .ref (mA md 0)), (1, .ref (mA md 1)), (2, .int x1), (3, .int x2)]) hx hb d_M_characterAt_7 hl (by decide) rfl (fun ls hl => ?_)
  refine lv_aload_n hx hb d_M_characterAt_9 rfl (lv_at hl 1 rfl) ?_
  refine lv_iload hx hb d_M_characterAt_10 (lv_at hl 0 rfl) ?_
  refine lv_sipush (v := 128) hx hb d_M_characterAt_12 (by decide) ?_
  refine lv_icmp_ge (tgt := 22) hx hb d_M_characterAt_15 (by decide) (fun cc15 => ?_) (fun cc15 => ?_)
  · have hE := hE.1 cc15
    refine lv_iload hx hb d_M_characterAt_22 (lv_at hl 0 rfl) ?_
    refine lv_sipush (v := 194) hx hb d_M_characterAt_24 (by decide) ?_
    refine lv_icmp_ge (tgt := 34) hx hb d_M_characterAt_27 (by decide) (fun cc27 => ?_) (fun cc27 => ?_)
    · have hE := hE.1 cc27
      refine lv_iload hx hb d_M_characterAt_34 (lv_at hl 0 rfl) ?_
      refine lv_sipush (v := 224) hx hb d_M_characterAt_36 (by decide) ?_
      refine lv_icmp_ge (tgt := 46) hx hb d_M_characterAt_39 (by decide) (fun cc39 => ?_) (fun cc39 => ?_)
      · have hE := hE.1 cc39
        refine lv_iload hx hb d_M_characterAt_46 (lv_at hl 0 rfl) ?_
        refine lv_sipush (v := 240) hx hb d_M_characterAt_48 (by decide) ?_
        refine lv_icmp_ge (tgt := 58) hx hb d_M_characterAt_51 (by decide) (fun cc51 => ?_) (fun cc51 => ?_)
        · have hE := hE.1 cc51
          refine lv_iload hx hb d_M_characterAt_58 (lv_at hl 0 rfl) ?_
          refine lv_sipush (v := 245) hx hb d_M_characterAt_60 (by decide) ?_
          refine lv_icmp_ge (tgt := 70) hx hb d_M_characterAt_63 (by decide) (fun cc63 => ?_) (fun cc63 => ?_)
          · have hE := hE.1 cc63
            refine lv_iconst (v := 0) hx hb d_M_characterAt_70 (by decide) ?_
            exact J71  x1 x2 (((mp_tape σ) x1.toNatClampNeg) &&& 255) 0 σ _ _ hP hD hS _ (lv_sub hl [1, 2, 3, 4, 0] rfl) hE
          · have hE := hE.2 cc63
            refine lv_iconst (v := 4) hx hb d_M_characterAt_66 (by decide) ?_
            refine lv_goto (tgt := 71) hx hb d_M_characterAt_67 (by decide) ?_
            exact J71  x1 x2 (((mp_tape σ) x1.toNatClampNeg) &&& 255) 4 σ _ _ hP hD hS _ (lv_sub hl [1, 2, 3, 4, 0] rfl) hE
        · have hE := hE.2 cc51
          refine lv_iconst (v := 3) hx hb d_M_characterAt_54 (by decide) ?_
          refine lv_goto (tgt := 71) hx hb d_M_characterAt_55 (by decide) ?_
          exact J71  x1 x2 (((mp_tape σ) x1.toNatClampNeg) &&& 255) 3 σ _ _ hP hD hS _ (lv_sub hl [1, 2, 3, 4, 0] rfl) hE
      · have hE := hE.2 cc39
        refine lv_iconst (v := 2) hx hb d_M_characterAt_42 (by decide) ?_
        refine lv_goto (tgt := 71) hx hb d_M_characterAt_43 (by decide) ?_
        exact J71  x1 x2 (((mp_tape σ) x1.toNatClampNeg) &&& 255) 2 σ _ _ hP hD hS _ (lv_sub hl [1, 2, 3, 4, 0] rfl) hE
    · have hE := hE.2 cc27
      refine lv_iconst (v := 0) hx hb d_M_characterAt_30 (by decide) ?_
      refine lv_goto (tgt := 71) hx hb d_M_characterAt_31 (by decide) ?_
      exact J71  x1 x2 (((mp_tape σ) x1.toNatClampNeg) &&& 255) 0 σ _ _ hP hD hS _ (lv_sub hl [1, 2, 3, 4, 0] rfl) hE
  · have hE := hE.2 cc15
    refine lv_iconst (v := 1) hx hb d_M_characterAt_18 (by decide) ?_
    refine lv_goto (tgt := 71) hx hb d_M_characterAt_19 (by decide) ?_
    exact J71  x1 x2 (((mp_tape σ) x1.toNatClampNeg) &&& 255) 1 σ _ _ hP hD hS _ (lv_sub hl [1, 2, 3, 4, 0] rfl) hE
theorem cl_M_122 : Cond.constantLong "PlainPagesModel" 122 (164843319355) ∈ aW := aW_in 1118 (by decide +kernel) rfl
theorem cl_M_128 : Cond.constantLong "PlainPagesModel" 128 (644641851) ∈ aW := aW_in 1124 (by decide +kernel) rfl
theorem cl_M_130 : Cond.constantLong "PlainPagesModel" 130 (644314171) ∈ aW := aW_in 1125 (by decide +kernel) rfl
theorem cl_M_132 : Cond.constantLong "PlainPagesModel" 132 (42268743398459) ∈ aW := aW_in 1126 (by decide +kernel) rfl
theorem cl_M_134 : Cond.constantLong "PlainPagesModel" 134 (42199940035387) ∈ aW := aW_in 1127 (by decide +kernel) rfl
theorem ok_M_115 : okV "PlainPagesModel" 115 R_M y_M_characterAt b_M_characterAt 8 (some .int) 3 := ⟨aW_in 1105 (by decide +kernel) rfl, aW_in 1107 (by decide +kernel) rfl, aW_in 54 (by decide +kernel) rfl, aW_in 92 (by decide +kernel) rfl, cd_M_characterAt, rfl, by decide +kernel, by decide +kernel, by decide +kernel⟩
theorem ok_M_119 : okS "PlainPagesModel" 119 y_M_isForbidden b_M_isForbidden 1 (some .boolean) 1 := ⟨aW_in 1113 (by decide +kernel) rfl, aW_in 1114 (by decide +kernel) rfl, aW_in 92 (by decide +kernel) rfl, cd_M_isForbidden, by decide +kernel, by decide +kernel, by decide +kernel⟩
theorem ok_M_136 : okS "PlainPagesModel" 136 y_M_hex b_M_hex 1 (some .int) 1 := ⟨aW_in 1128 (by decide +kernel) rfl, aW_in 1129 (by decide +kernel) rfl, aW_in 92 (by decide +kernel) rfl, cd_M_hex, by decide +kernel, by decide +kernel, by decide +kernel⟩
theorem d_M_characterOf_0 : decode b_M_characterOf 0 = .ok (.aload_n 0, 1) := by decide +kernel
theorem d_M_characterOf_1 : decode b_M_characterOf 1 = .ok (.iload_n 1, 1) := by decide +kernel
theorem d_M_characterOf_2 : decode b_M_characterOf 2 = .ok (.invokevirtual 95, 3) := by decide +kernel
theorem d_M_characterOf_5 : decode b_M_characterOf 5 = .ok (.bipush 38, 2) := by decide +kernel
theorem d_M_characterOf_7 : decode b_M_characterOf 7 = .ok (.if_icmp .eq 34, 3) := by decide +kernel
theorem d_M_characterOf_10 : decode b_M_characterOf 10 = .ok (.aload_n 0, 1) := by decide +kernel
theorem d_M_characterOf_11 : decode b_M_characterOf 11 = .ok (.aload_n 0, 1) := by decide +kernel
theorem d_M_characterOf_12 : decode b_M_characterOf 12 = .ok (.getfield 13, 3) := by decide +kernel
theorem d_M_characterOf_15 : decode b_M_characterOf 15 = .ok (.iload_n 1, 1) := by decide +kernel
theorem d_M_characterOf_16 : decode b_M_characterOf 16 = .ok (.aload_n 0, 1) := by decide +kernel
theorem d_M_characterOf_17 : decode b_M_characterOf 17 = .ok (.getfield 92, 3) := by decide +kernel
theorem d_M_characterOf_20 : decode b_M_characterOf 20 = .ok (.invokevirtual 115, 3) := by decide +kernel
theorem d_M_characterOf_23 : decode b_M_characterOf 23 = .ok (.istore_n 2, 1) := by decide +kernel
theorem d_M_characterOf_24 : decode b_M_characterOf 24 = .ok (.iload_n 2, 1) := by decide +kernel
theorem d_M_characterOf_25 : decode b_M_characterOf 25 = .ok (.ifCond .lt 10, 3) := by decide +kernel
theorem d_M_characterOf_28 : decode b_M_characterOf 28 = .ok (.iload_n 2, 1) := by decide +kernel
theorem d_M_characterOf_29 : decode b_M_characterOf 29 = .ok (.invokestatic 119, 3) := by decide +kernel
theorem d_M_characterOf_32 : decode b_M_characterOf 32 = .ok (.ifCond .eq 7, 3) := by decide +kernel
theorem d_M_characterOf_35 : decode b_M_characterOf 35 = .ok (.iconst (-1), 1) := by decide +kernel
theorem d_M_characterOf_36 : decode b_M_characterOf 36 = .ok (.goto 4, 3) := by decide +kernel
theorem d_M_characterOf_39 : decode b_M_characterOf 39 = .ok (.iload_n 2, 1) := by decide +kernel
theorem d_M_characterOf_40 : decode b_M_characterOf 40 = .ok (.ireturn, 1) := by decide +kernel
theorem d_M_characterOf_41 : decode b_M_characterOf 41 = .ok (.aload_n 0, 1) := by decide +kernel
theorem d_M_characterOf_42 : decode b_M_characterOf 42 = .ok (.iload_n 1, 1) := by decide +kernel
theorem d_M_characterOf_43 : decode b_M_characterOf 43 = .ok (.ldc2_w 122, 3) := by decide +kernel
theorem d_M_characterOf_46 : decode b_M_characterOf 46 = .ok (.iconst 5, 1) := by decide +kernel
theorem d_M_characterOf_47 : decode b_M_characterOf 47 = .ok (.invokevirtual 124, 3) := by decide +kernel
theorem d_M_characterOf_50 : decode b_M_characterOf 50 = .ok (.ifCond .eq 8, 3) := by decide +kernel
theorem d_M_characterOf_53 : decode b_M_characterOf 53 = .ok (.bipush 38, 2) := by decide +kernel
theorem d_M_characterOf_55 : decode b_M_characterOf 55 = .ok (.goto 74, 3) := by decide +kernel
theorem d_M_characterOf_58 : decode b_M_characterOf 58 = .ok (.aload_n 0, 1) := by decide +kernel
theorem d_M_characterOf_59 : decode b_M_characterOf 59 = .ok (.iload_n 1, 1) := by decide +kernel
theorem d_M_characterOf_60 : decode b_M_characterOf 60 = .ok (.ldc2_w 128, 3) := by decide +kernel
theorem d_M_characterOf_63 : decode b_M_characterOf 63 = .ok (.iconst 4, 1) := by decide +kernel
theorem d_M_characterOf_64 : decode b_M_characterOf 64 = .ok (.invokevirtual 124, 3) := by decide +kernel
theorem d_M_characterOf_67 : decode b_M_characterOf 67 = .ok (.ifCond .eq 8, 3) := by decide +kernel
theorem d_M_characterOf_70 : decode b_M_characterOf 70 = .ok (.bipush 60, 2) := by decide +kernel
theorem d_M_characterOf_72 : decode b_M_characterOf 72 = .ok (.goto 57, 3) := by decide +kernel
theorem d_M_characterOf_75 : decode b_M_characterOf 75 = .ok (.aload_n 0, 1) := by decide +kernel
theorem d_M_characterOf_76 : decode b_M_characterOf 76 = .ok (.iload_n 1, 1) := by decide +kernel
theorem d_M_characterOf_77 : decode b_M_characterOf 77 = .ok (.ldc2_w 130, 3) := by decide +kernel
theorem d_M_characterOf_80 : decode b_M_characterOf 80 = .ok (.iconst 4, 1) := by decide +kernel
theorem d_M_characterOf_81 : decode b_M_characterOf 81 = .ok (.invokevirtual 124, 3) := by decide +kernel
theorem d_M_characterOf_84 : decode b_M_characterOf 84 = .ok (.ifCond .eq 8, 3) := by decide +kernel
theorem d_M_characterOf_87 : decode b_M_characterOf 87 = .ok (.bipush 62, 2) := by decide +kernel
theorem d_M_characterOf_89 : decode b_M_characterOf 89 = .ok (.goto 40, 3) := by decide +kernel
theorem d_M_characterOf_92 : decode b_M_characterOf 92 = .ok (.aload_n 0, 1) := by decide +kernel
theorem d_M_characterOf_93 : decode b_M_characterOf 93 = .ok (.iload_n 1, 1) := by decide +kernel
theorem d_M_characterOf_94 : decode b_M_characterOf 94 = .ok (.ldc2_w 132, 3) := by decide +kernel
theorem d_M_characterOf_97 : decode b_M_characterOf 97 = .ok (.bipush 6, 2) := by decide +kernel
theorem d_M_characterOf_99 : decode b_M_characterOf 99 = .ok (.invokevirtual 124, 3) := by decide +kernel
theorem d_M_characterOf_102 : decode b_M_characterOf 102 = .ok (.ifCond .eq 8, 3) := by decide +kernel
theorem d_M_characterOf_105 : decode b_M_characterOf 105 = .ok (.bipush 34, 2) := by decide +kernel
theorem d_M_characterOf_107 : decode b_M_characterOf 107 = .ok (.goto 22, 3) := by decide +kernel
theorem d_M_characterOf_110 : decode b_M_characterOf 110 = .ok (.aload_n 0, 1) := by decide +kernel
theorem d_M_characterOf_111 : decode b_M_characterOf 111 = .ok (.iload_n 1, 1) := by decide +kernel
theorem d_M_characterOf_112 : decode b_M_characterOf 112 = .ok (.ldc2_w 134, 3) := by decide +kernel
theorem d_M_characterOf_115 : decode b_M_characterOf 115 = .ok (.bipush 6, 2) := by decide +kernel
theorem d_M_characterOf_117 : decode b_M_characterOf 117 = .ok (.invokevirtual 124, 3) := by decide +kernel
theorem d_M_characterOf_120 : decode b_M_characterOf 120 = .ok (.ifCond .eq 8, 3) := by decide +kernel
theorem d_M_characterOf_123 : decode b_M_characterOf 123 = .ok (.bipush 39, 2) := by decide +kernel
theorem d_M_characterOf_125 : decode b_M_characterOf 125 = .ok (.goto 4, 3) := by decide +kernel
theorem d_M_characterOf_128 : decode b_M_characterOf 128 = .ok (.iconst (-1), 1) := by decide +kernel
theorem d_M_characterOf_129 : decode b_M_characterOf 129 = .ok (.istore_n 2, 1) := by decide +kernel
theorem d_M_characterOf_130 : decode b_M_characterOf 130 = .ok (.iload_n 1, 1) := by decide +kernel
theorem d_M_characterOf_131 : decode b_M_characterOf 131 = .ok (.iconst 1, 1) := by decide +kernel
theorem d_M_characterOf_132 : decode b_M_characterOf 132 = .ok (.iadd, 1) := by decide +kernel
theorem d_M_characterOf_133 : decode b_M_characterOf 133 = .ok (.istore_n 3, 1) := by decide +kernel
theorem d_M_characterOf_134 : decode b_M_characterOf 134 = .ok (.iload_n 2, 1) := by decide +kernel
theorem d_M_characterOf_135 : decode b_M_characterOf 135 = .ok (.ifCond .lt 30, 3) := by decide +kernel
theorem d_M_characterOf_138 : decode b_M_characterOf 138 = .ok (.aload_n 0, 1) := by decide +kernel
theorem d_M_characterOf_139 : decode b_M_characterOf 139 = .ok (.iload_n 3, 1) := by decide +kernel
theorem d_M_characterOf_140 : decode b_M_characterOf 140 = .ok (.invokevirtual 95, 3) := by decide +kernel
theorem d_M_characterOf_143 : decode b_M_characterOf 143 = .ok (.bipush 59, 2) := by decide +kernel
theorem d_M_characterOf_145 : decode b_M_characterOf 145 = .ok (.if_icmp .eq 9, 3) := by decide +kernel
theorem d_M_characterOf_148 : decode b_M_characterOf 148 = .ok (.iinc 3 1, 3) := by decide +kernel
theorem d_M_characterOf_151 : decode b_M_characterOf 151 = .ok (.goto (-13), 3) := by decide +kernel
theorem d_M_characterOf_154 : decode b_M_characterOf 154 = .ok (.aload_n 0, 1) := by decide +kernel
theorem d_M_characterOf_155 : decode b_M_characterOf 155 = .ok (.iload_n 3, 1) := by decide +kernel
theorem d_M_characterOf_156 : decode b_M_characterOf 156 = .ok (.iconst 1, 1) := by decide +kernel
theorem d_M_characterOf_157 : decode b_M_characterOf 157 = .ok (.iadd, 1) := by decide +kernel
theorem d_M_characterOf_158 : decode b_M_characterOf 158 = .ok (.iload_n 1, 1) := by decide +kernel
theorem d_M_characterOf_159 : decode b_M_characterOf 159 = .ok (.isub, 1) := by decide +kernel
theorem d_M_characterOf_160 : decode b_M_characterOf 160 = .ok (.putfield 76, 3) := by decide +kernel
theorem d_M_characterOf_163 : decode b_M_characterOf 163 = .ok (.iload_n 2, 1) := by decide +kernel
theorem d_M_characterOf_164 : decode b_M_characterOf 164 = .ok (.ireturn, 1) := by decide +kernel
theorem d_M_characterOf_165 : decode b_M_characterOf 165 = .ok (.aload_n 0, 1) := by decide +kernel
theorem d_M_characterOf_166 : decode b_M_characterOf 166 = .ok (.iload_n 3, 1) := by decide +kernel
theorem d_M_characterOf_167 : decode b_M_characterOf 167 = .ok (.invokevirtual 95, 3) := by decide +kernel
theorem d_M_characterOf_170 : decode b_M_characterOf 170 = .ok (.bipush 35, 2) := by decide +kernel
theorem d_M_characterOf_172 : decode b_M_characterOf 172 = .ok (.if_icmp .eq 5, 3) := by decide +kernel
theorem d_M_characterOf_175 : decode b_M_characterOf 175 = .ok (.iconst (-1), 1) := by decide +kernel
theorem d_M_characterOf_176 : decode b_M_characterOf 176 = .ok (.ireturn, 1) := by decide +kernel
theorem d_M_characterOf_177 : decode b_M_characterOf 177 = .ok (.aload_n 0, 1) := by decide +kernel
theorem d_M_characterOf_178 : decode b_M_characterOf 178 = .ok (.iload_n 3, 1) := by decide +kernel
theorem d_M_characterOf_179 : decode b_M_characterOf 179 = .ok (.iconst 1, 1) := by decide +kernel
theorem d_M_characterOf_180 : decode b_M_characterOf 180 = .ok (.iadd, 1) := by decide +kernel
theorem d_M_characterOf_181 : decode b_M_characterOf 181 = .ok (.invokevirtual 95, 3) := by decide +kernel
theorem d_M_characterOf_184 : decode b_M_characterOf 184 = .ok (.bipush 120, 2) := by decide +kernel
theorem d_M_characterOf_186 : decode b_M_characterOf 186 = .ok (.if_icmp .eq 15, 3) := by decide +kernel
theorem d_M_characterOf_189 : decode b_M_characterOf 189 = .ok (.aload_n 0, 1) := by decide +kernel
theorem d_M_characterOf_190 : decode b_M_characterOf 190 = .ok (.iload_n 3, 1) := by decide +kernel
theorem d_M_characterOf_191 : decode b_M_characterOf 191 = .ok (.iconst 1, 1) := by decide +kernel
theorem d_M_characterOf_192 : decode b_M_characterOf 192 = .ok (.iadd, 1) := by decide +kernel
theorem d_M_characterOf_193 : decode b_M_characterOf 193 = .ok (.invokevirtual 95, 3) := by decide +kernel
theorem d_M_characterOf_196 : decode b_M_characterOf 196 = .ok (.bipush 88, 2) := by decide +kernel
theorem d_M_characterOf_198 : decode b_M_characterOf 198 = .ok (.if_icmp .ne 7, 3) := by decide +kernel
theorem d_M_characterOf_201 : decode b_M_characterOf 201 = .ok (.iconst 1, 1) := by decide +kernel
theorem d_M_characterOf_202 : decode b_M_characterOf 202 = .ok (.goto 4, 3) := by decide +kernel
theorem d_M_characterOf_205 : decode b_M_characterOf 205 = .ok (.iconst 0, 1) := by decide +kernel
theorem d_M_characterOf_206 : decode b_M_characterOf 206 = .ok (.istore 4, 2) := by decide +kernel
theorem d_M_characterOf_208 : decode b_M_characterOf 208 = .ok (.iload_n 3, 1) := by decide +kernel
theorem d_M_characterOf_209 : decode b_M_characterOf 209 = .ok (.iload 4, 2) := by decide +kernel
theorem d_M_characterOf_211 : decode b_M_characterOf 211 = .ok (.ifCond .eq 7, 3) := by decide +kernel
theorem d_M_characterOf_214 : decode b_M_characterOf 214 = .ok (.iconst 2, 1) := by decide +kernel
theorem d_M_characterOf_215 : decode b_M_characterOf 215 = .ok (.goto 4, 3) := by decide +kernel
theorem d_M_characterOf_218 : decode b_M_characterOf 218 = .ok (.iconst 1, 1) := by decide +kernel
theorem d_M_characterOf_219 : decode b_M_characterOf 219 = .ok (.iadd, 1) := by decide +kernel
theorem d_M_characterOf_220 : decode b_M_characterOf 220 = .ok (.istore_n 3, 1) := by decide +kernel
theorem d_M_characterOf_221 : decode b_M_characterOf 221 = .ok (.iload_n 3, 1) := by decide +kernel
theorem d_M_characterOf_222 : decode b_M_characterOf 222 = .ok (.istore 5, 2) := by decide +kernel
theorem d_M_characterOf_224 : decode b_M_characterOf 224 = .ok (.iconst 0, 1) := by decide +kernel
theorem d_M_characterOf_225 : decode b_M_characterOf 225 = .ok (.istore 6, 2) := by decide +kernel
theorem d_M_characterOf_227 : decode b_M_characterOf 227 = .ok (.iload_n 3, 1) := by decide +kernel
theorem d_M_characterOf_228 : decode b_M_characterOf 228 = .ok (.iload 5, 2) := by decide +kernel
theorem d_M_characterOf_230 : decode b_M_characterOf 230 = .ok (.isub, 1) := by decide +kernel
theorem d_M_characterOf_231 : decode b_M_characterOf 231 = .ok (.bipush 7, 2) := by decide +kernel
theorem d_M_characterOf_233 : decode b_M_characterOf 233 = .ok (.if_icmp .ge 65, 3) := by decide +kernel
theorem d_M_characterOf_236 : decode b_M_characterOf 236 = .ok (.iload 4, 2) := by decide +kernel
theorem d_M_characterOf_238 : decode b_M_characterOf 238 = .ok (.ifCond .eq 17, 3) := by decide +kernel
theorem d_M_characterOf_241 : decode b_M_characterOf 241 = .ok (.aload_n 0, 1) := by decide +kernel
theorem d_M_characterOf_242 : decode b_M_characterOf 242 = .ok (.iload_n 3, 1) := by decide +kernel
theorem d_M_characterOf_243 : decode b_M_characterOf 243 = .ok (.invokevirtual 95, 3) := by decide +kernel
theorem d_M_characterOf_246 : decode b_M_characterOf 246 = .ok (.invokestatic 136, 3) := by decide +kernel
theorem d_M_characterOf_249 : decode b_M_characterOf 249 = .ok (.ifCond .lt 49, 3) := by decide +kernel
theorem d_M_characterOf_252 : decode b_M_characterOf 252 = .ok (.goto 14, 3) := by decide +kernel
theorem d_M_characterOf_255 : decode b_M_characterOf 255 = .ok (.aload_n 0, 1) := by decide +kernel
theorem d_M_characterOf_256 : decode b_M_characterOf 256 = .ok (.iload_n 3, 1) := by decide +kernel
theorem d_M_characterOf_257 : decode b_M_characterOf 257 = .ok (.invokevirtual 95, 3) := by decide +kernel
theorem d_M_characterOf_260 : decode b_M_characterOf 260 = .ok (.invokestatic 85, 3) := by decide +kernel
theorem d_M_characterOf_263 : decode b_M_characterOf 263 = .ok (.ifCond .eq 35, 3) := by decide +kernel
theorem d_M_characterOf_266 : decode b_M_characterOf 266 = .ok (.iload 4, 2) := by decide +kernel
theorem d_M_characterOf_268 : decode b_M_characterOf 268 = .ok (.ifCond .eq 8, 3) := by decide +kernel
theorem d_M_characterOf_271 : decode b_M_characterOf 271 = .ok (.bipush 16, 2) := by decide +kernel
theorem d_M_characterOf_273 : decode b_M_characterOf 273 = .ok (.goto 5, 3) := by decide +kernel
theorem d_M_characterOf_276 : decode b_M_characterOf 276 = .ok (.bipush 10, 2) := by decide +kernel
theorem d_M_characterOf_278 : decode b_M_characterOf 278 = .ok (.iload 6, 2) := by decide +kernel
theorem d_M_characterOf_280 : decode b_M_characterOf 280 = .ok (.imul, 1) := by decide +kernel
theorem d_M_characterOf_281 : decode b_M_characterOf 281 = .ok (.aload_n 0, 1) := by decide +kernel
theorem d_M_characterOf_282 : decode b_M_characterOf 282 = .ok (.iload_n 3, 1) := by decide +kernel
theorem d_M_characterOf_283 : decode b_M_characterOf 283 = .ok (.invokevirtual 95, 3) := by decide +kernel
theorem d_M_characterOf_286 : decode b_M_characterOf 286 = .ok (.invokestatic 136, 3) := by decide +kernel
theorem d_M_characterOf_289 : decode b_M_characterOf 289 = .ok (.iadd, 1) := by decide +kernel
theorem d_M_characterOf_290 : decode b_M_characterOf 290 = .ok (.istore 6, 2) := by decide +kernel
theorem d_M_characterOf_292 : decode b_M_characterOf 292 = .ok (.iinc 3 1, 3) := by decide +kernel
theorem d_M_characterOf_295 : decode b_M_characterOf 295 = .ok (.goto (-68), 3) := by decide +kernel
theorem d_M_characterOf_298 : decode b_M_characterOf 298 = .ok (.iload_n 3, 1) := by decide +kernel
theorem d_M_characterOf_299 : decode b_M_characterOf 299 = .ok (.iload 5, 2) := by decide +kernel
theorem d_M_characterOf_301 : decode b_M_characterOf 301 = .ok (.if_icmp .eq 27, 3) := by decide +kernel
theorem d_M_characterOf_304 : decode b_M_characterOf 304 = .ok (.iload 4, 2) := by decide +kernel
theorem d_M_characterOf_306 : decode b_M_characterOf 306 = .ok (.ifCond .eq 12, 3) := by decide +kernel
theorem d_M_characterOf_309 : decode b_M_characterOf 309 = .ok (.iload_n 3, 1) := by decide +kernel
theorem d_M_characterOf_310 : decode b_M_characterOf 310 = .ok (.iload 5, 2) := by decide +kernel
theorem d_M_characterOf_312 : decode b_M_characterOf 312 = .ok (.isub, 1) := by decide +kernel
theorem d_M_characterOf_313 : decode b_M_characterOf 313 = .ok (.bipush 6, 2) := by decide +kernel
theorem d_M_characterOf_315 : decode b_M_characterOf 315 = .ok (.if_icmp .gt 13, 3) := by decide +kernel
theorem d_M_characterOf_318 : decode b_M_characterOf 318 = .ok (.aload_n 0, 1) := by decide +kernel
theorem d_M_characterOf_319 : decode b_M_characterOf 319 = .ok (.iload_n 3, 1) := by decide +kernel
theorem d_M_characterOf_320 : decode b_M_characterOf 320 = .ok (.invokevirtual 95, 3) := by decide +kernel
theorem d_M_characterOf_323 : decode b_M_characterOf 323 = .ok (.bipush 59, 2) := by decide +kernel
theorem d_M_characterOf_325 : decode b_M_characterOf 325 = .ok (.if_icmp .eq 5, 3) := by decide +kernel
theorem d_M_characterOf_328 : decode b_M_characterOf 328 = .ok (.iconst (-1), 1) := by decide +kernel
theorem d_M_characterOf_329 : decode b_M_characterOf 329 = .ok (.ireturn, 1) := by decide +kernel
theorem d_M_characterOf_330 : decode b_M_characterOf 330 = .ok (.aload_n 0, 1) := by decide +kernel
theorem d_M_characterOf_331 : decode b_M_characterOf 331 = .ok (.iload_n 3, 1) := by decide +kernel
theorem d_M_characterOf_332 : decode b_M_characterOf 332 = .ok (.iconst 1, 1) := by decide +kernel
theorem d_M_characterOf_333 : decode b_M_characterOf 333 = .ok (.iadd, 1) := by decide +kernel
theorem d_M_characterOf_334 : decode b_M_characterOf 334 = .ok (.iload_n 1, 1) := by decide +kernel
theorem d_M_characterOf_335 : decode b_M_characterOf 335 = .ok (.isub, 1) := by decide +kernel
theorem d_M_characterOf_336 : decode b_M_characterOf 336 = .ok (.putfield 76, 3) := by decide +kernel
theorem d_M_characterOf_339 : decode b_M_characterOf 339 = .ok (.iload 6, 2) := by decide +kernel
theorem d_M_characterOf_341 : decode b_M_characterOf 341 = .ok (.ifCond .eq 32, 3) := by decide +kernel
theorem d_M_characterOf_344 : decode b_M_characterOf 344 = .ok (.iload 6, 2) := by decide +kernel
theorem d_M_characterOf_346 : decode b_M_characterOf 346 = .ok (.ldc 80, 2) := by decide +kernel
theorem d_M_characterOf_348 : decode b_M_characterOf 348 = .ok (.if_icmp .gt 25, 3) := by decide +kernel
theorem d_M_characterOf_351 : decode b_M_characterOf 351 = .ok (.iload 6, 2) := by decide +kernel
theorem d_M_characterOf_353 : decode b_M_characterOf 353 = .ok (.ldc 81, 2) := by decide +kernel
theorem d_M_characterOf_355 : decode b_M_characterOf 355 = .ok (.if_icmp .lt 10, 3) := by decide +kernel
theorem d_M_characterOf_358 : decode b_M_characterOf 358 = .ok (.iload 6, 2) := by decide +kernel
theorem d_M_characterOf_360 : decode b_M_characterOf 360 = .ok (.ldc 82, 2) := by decide +kernel
theorem d_M_characterOf_362 : decode b_M_characterOf 362 = .ok (.if_icmp .le 11, 3) := by decide +kernel
theorem d_M_characterOf_365 : decode b_M_characterOf 365 = .ok (.iload 6, 2) := by decide +kernel
theorem d_M_characterOf_367 : decode b_M_characterOf 367 = .ok (.invokestatic 119, 3) := by decide +kernel
theorem d_M_characterOf_370 : decode b_M_characterOf 370 = .ok (.ifCond .eq 7, 3) := by decide +kernel
theorem d_M_characterOf_373 : decode b_M_characterOf 373 = .ok (.iconst (-1), 1) := by decide +kernel
theorem d_M_characterOf_374 : decode b_M_characterOf 374 = .ok (.goto 5, 3) := by decide +kernel
theorem d_M_characterOf_377 : decode b_M_characterOf 377 = .ok (.iload 6, 2) := by decide +kernel
theorem d_M_characterOf_379 : decode b_M_characterOf 379 = .ok (.ireturn, 1) := by decide +kernel
def w_M_characterOf_J373   (post : Int32 → MPS → Prop) (σ : MPS) : Prop := post (-1) σ
def w_M_characterOf_J365   (post : Int32 → MPS → Prop) (v6 : Int32) (σ : MPS) : Prop := w_M_isForbidden  v6 (fun r367 => ((r367 = 0 → post v6 σ) ∧ (¬ r367 = 0 → w_M_characterOf_J373 post σ)))
def w_M_characterOf_J318   (post : Int32 → MPS → Prop) (v1 : Int32) (v3 : Int32) (v6 : Int32) (σ : MPS) : Prop := w_M_x σ v3 (fun r320 => ((r320 = 59 → (∀ σ336 : MPS, σ336 = ms_width σ ((v3 + 1) - v1) → ((v6 = 0 → w_M_characterOf_J373 post σ336) ∧ (¬ v6 = 0 → ((1114111 < v6 → w_M_characterOf_J373 post σ336) ∧ (¬ 1114111 < v6 → ((v6 < 55296 → w_M_characterOf_J365 post v6 σ336) ∧ (¬ v6 < 55296 → ((v6 ≤ 57343 → w_M_characterOf_J373 post σ336) ∧ (¬ v6 ≤ 57343 → w_M_characterOf_J365 post v6 σ336)))))))))) ∧ (¬ r320 = 59 → post (-1) σ)))
def w_M_characterOf_J298   (post : Int32 → MPS → Prop) (v1 : Int32) (v3 : Int32) (v4 : Int32) (v5 : Int32) (v6 : Int32) (σ : MPS) : Prop := ((v3 = v5 → post (-1) σ) ∧ (¬ v3 = v5 → ((v4 = 0 → w_M_characterOf_J318 post v1 v3 v6 σ) ∧ (¬ v4 = 0 → ((6 < (v3 - v5) → post (-1) σ) ∧ (¬ 6 < (v3 - v5) → w_M_characterOf_J318 post v1 v3 v6 σ))))))
def w_M_characterOf_J278  (v1 : Int32) (v4 : Int32) (v5 : Int32) (K : Int32 → Int32 → MPS → Prop) (post : Int32 → MPS → Prop) (v3 : Int32) (v6 : Int32) (t0 : Int32) (σ : MPS) : Prop := w_M_x σ v3 (fun r283 => w_M_hex  r283 (fun r286 => K (v3 + 1) ((t0 * v6) + r286) σ))
def w_M_characterOf_J266  (v1 : Int32) (v4 : Int32) (v5 : Int32) (K : Int32 → Int32 → MPS → Prop) (post : Int32 → MPS → Prop) (v3 : Int32) (v6 : Int32) (σ : MPS) : Prop := ((v4 = 0 → w_M_characterOf_J278 v1 v4 v5 (K) post v3 v6 10 σ) ∧ (¬ v4 = 0 → w_M_characterOf_J278 v1 v4 v5 (K) post v3 v6 16 σ))
def w_M_characterOf_L227  (v1 : Int32) (v4 : Int32) (v5 : Int32) (post : Int32 → MPS → Prop) : Nat → Int32 → Int32 → MPS → Prop
  | 0, _, _, _ => False
  | n + 1, v3, v6, σ => ((7 ≤ (v3 - v5) → w_M_characterOf_J298 post v1 v3 v4 v5 v6 σ) ∧ (¬ 7 ≤ (v3 - v5) → ((v4 = 0 → w_M_x σ v3 (fun r257 => w_M_isDigit  r257 (fun r260 => ((r260 = 0 → w_M_characterOf_J298 post v1 v3 v4 v5 v6 σ) ∧ (¬ r260 = 0 → w_M_characterOf_J266 v1 v4 v5 (w_M_characterOf_L227 v1 v4 v5 post n) post v3 v6 σ))))) ∧ (¬ v4 = 0 → w_M_x σ v3 (fun r243 => w_M_hex  r243 (fun r246 => ((r246 < 0 → w_M_characterOf_J298 post v1 v3 v4 v5 v6 σ) ∧ (¬ r246 < 0 → w_M_characterOf_J266 v1 v4 v5 (w_M_characterOf_L227 v1 v4 v5 post n) post v3 v6 σ))))))))
def w_M_characterOf_J219   (post : Int32 → MPS → Prop) (v1 : Int32) (v4 : Int32) (t0 : Int32) (t1 : Int32) (σ : MPS) : Prop := (∃ n, w_M_characterOf_L227 v1 v4 (t1 + t0) post n (t1 + t0) 0 σ)
def w_M_characterOf_J206   (post : Int32 → MPS → Prop) (v1 : Int32) (v3 : Int32) (t0 : Int32) (σ : MPS) : Prop := ((t0 = 0 → w_M_characterOf_J219 post v1 t0 1 v3 σ) ∧ (¬ t0 = 0 → w_M_characterOf_J219 post v1 t0 2 v3 σ))
def w_M_characterOf_J201   (post : Int32 → MPS → Prop) (v1 : Int32) (v3 : Int32) (σ : MPS) : Prop := w_M_characterOf_J206 post v1 v3 1 σ
def w_M_characterOf_L138  (v1 : Int32) (v2 : Int32) (post : Int32 → MPS → Prop) : Nat → Int32 → MPS → Prop
  | 0, _, _ => False
  | n + 1, v3, σ => w_M_x σ v3 (fun r140 => ((r140 = 59 → (∀ σ160 : MPS, σ160 = ms_width σ ((v3 + 1) - v1) → post v2 σ160)) ∧ (¬ r140 = 59 → w_M_characterOf_L138 v1 v2 post n (v3 + 1) σ)))
def w_M_characterOf_J129   (post : Int32 → MPS → Prop) (v1 : Int32) (t0 : Int32) (σ : MPS) : Prop := ((t0 < 0 → w_M_x σ (v1 + 1) (fun r167 => ((r167 = 35 → w_M_x σ ((v1 + 1) + 1) (fun r181 => ((r181 = 120 → w_M_characterOf_J201 post v1 (v1 + 1) σ) ∧ (¬ r181 = 120 → w_M_x σ ((v1 + 1) + 1) (fun r193 => ((r193 = 88 → w_M_characterOf_J201 post v1 (v1 + 1) σ) ∧ (¬ r193 = 88 → w_M_characterOf_J206 post v1 (v1 + 1) 0 σ))))))) ∧ (¬ r167 = 35 → post (-1) σ)))) ∧ (¬ t0 < 0 → (∃ n, w_M_characterOf_L138 v1 t0 post n (v1 + 1) σ)))
def w_M_characterOf_J35   (post : Int32 → MPS → Prop) (σ : MPS) : Prop := post (-1) σ
def w_M_characterOf  (σ : MPS) (x0 : Int32) (post : Int32 → MPS → Prop) : Prop := w_M_x σ x0 (fun r2 => ((r2 = 38 → w_M_says σ x0 164843319355 5 (fun r47 => ((r47 = 0 → w_M_says σ x0 644641851 4 (fun r64 => ((r64 = 0 → w_M_says σ x0 644314171 4 (fun r81 => ((r81 = 0 → w_M_says σ x0 42268743398459 6 (fun r99 => ((r99 = 0 → w_M_says σ x0 42199940035387 6 (fun r117 => ((r117 = 0 → w_M_characterOf_J129 post x0 (-1) σ) ∧ (¬ r117 = 0 → w_M_characterOf_J129 post x0 39 σ)))) ∧ (¬ r99 = 0 → w_M_characterOf_J129 post x0 34 σ)))) ∧ (¬ r81 = 0 → w_M_characterOf_J129 post x0 62 σ)))) ∧ (¬ r64 = 0 → w_M_characterOf_J129 post x0 60 σ)))) ∧ (¬ r47 = 0 → w_M_characterOf_J129 post x0 38 σ)))) ∧ (¬ r2 = 38 → w_M_characterAt σ x0 (mp_size σ) (fun r20 σ20 => ((r20 < 0 → w_M_characterOf_J35 post σ20) ∧ (¬ r20 < 0 → w_M_isForbidden  r20 (fun r29 => ((r29 = 0 → post r20 σ20) ∧ (¬ r29 = 0 → w_M_characterOf_J35 post σ20)))))))))
set_option maxHeartbeats 4000000 in
set_option maxRecDepth 100000 in
theorem c_M_characterOf (l : Launch) (md : MD) (sz : Nat) (σ : MPS) (x0 : Int32)  (post : Int32 → MPS → Prop) (hE : w_M_characterOf σ x0 post) : Met l y_M_characterOf ws_M_characterOf { frames := 2, cells := 0, slots := 0, locals := 47 } (va_Pc [.ref (mA md 0), .int x0] (gM md σ sz)) (va_Qi post (eM md (va_A (MW md σ) sz)) (va_A (MW md σ) sz)) 0 0 (va_A (MW md σ) sz) := by
  refine Met.ofW (cc := b_M_characterOf) (maxL := 7) (ret := (some .int)) (by decide) rfl ?_
  intro p e s m args below meth c s₁ B hml hv
  obtain ⟨rfl, hsz, hP, hK, hD0⟩ := hv
  have hx := B.exec
  have hb := B.bytes
  have hr := B.returns
  have hta : ∀ w ∈ aW, w.before _ s = true := fun w h => atoms_spec (ws := ws_M_characterOf) B.pre w (List.mem_cons_of_mem _ h)
  have hown : s.vm.findClass R_M = some m.cls := findClass_of_methodNamed B.named
  have hlocks := B.notSynchronized
  subst hsz
  have hD := hD0.self (sz := s.heap.size)
  generalize hAe : va_A (MW md σ) s.heap.size = A at hD ⊢
  have hA : ∀ q : Nat, s.heap.size ≤ q → A q := fun q h => by rw [← hAe]; exact Or.inr h
  have hS : va_S A s.heap s.heap [] := va_S.rf
  have hP : va_P (mG md) classes (MW md σ) s.heap := hP
  have hl := lv_entry ([.ref (mA md 0), .int x0]) (n := 7) (Nat.le_of_ble_eq_true rfl)
  rw [lg_entry_eq]
  generalize (lg_sl ([.ref (mA md 0), .int x0]) ++ List.replicate (7 - (lg_sl ([.ref (mA md 0), .int x0])).length) Slot.unset).toArray = ls at hl ⊢
  have hl : lv_has ls 7 [(0, .ref (mA md 0)), (1, .int x0)] := hl
  have J373 : ∀ (σ : MPS) (H : Heap) (locs : List Loc) (hP : va_P (mG md) classes (MW md σ) H) (hD : va_D A (MW md σ)) (hS : va_S A s.heap H locs) (ls : Array Slot) (hl : lv_has ls 7 []) (hE : w_M_characterOf_J373 post σ), W p l e (headSpec ws_M_characterOf { frames := 2, cells := 0, slots := 0, locals := 47 }).room s m ([.ref (mA md 0), .int x0] : List Value).toArray below meth c H locs 0 0 (MQ below (va_Qi post (eM md A) A) ([.ref (mA md 0), .int x0] : List Value).toArray s 0 0 A) (F0 m 373 ls []) := by
    intro  σ H locs hP hD hS ls hl hE
    unfold w_M_characterOf_J373 at hE
    refine lv_iconst (v := -1) hx hb d_M_characterOf_373 (by decide) ?_
    refine lv_goto (tgt := 379) hx hb d_M_characterOf_374 (by decide) ?_
    exact W.iret (v := (-1)) hx hb hr (fun t ht hW => ⟨⟨_, σ, rfl, hE, by rw [ht]; exact hP, va_K.moved hW.alike hK, hD⟩, hS.F ht⟩) hS.2.2 d_M_characterOf_379
  have J365 : ∀ (v6 : Int32) (σ : MPS) (H : Heap) (locs : List Loc) (hP : va_P (mG md) classes (MW md σ) H) (hD : va_D A (MW md σ)) (hS : va_S A s.heap H locs) (ls : Array Slot) (hl : lv_has ls 7 [(6, .int v6)]) (hE : w_M_characterOf_J365 post v6 σ), W p l e (headSpec ws_M_characterOf { frames := 2, cells := 0, slots := 0, locals := 47 }).room s m ([.ref (mA md 0), .int x0] : List Value).toArray below meth c H locs 0 0 (MQ below (va_Qi post (eM md A) A) ([.ref (mA md 0), .int x0] : List Value).toArray s 0 0 A) (F0 m 365 ls []) := by
    intro  v6 σ H locs hP hD hS ls hl hE
    unfold w_M_characterOf_J365 at hE
    refine lv_iload hx hb d_M_characterOf_365 (lv_at hl 0 rfl) ?_
    refine ro_S  (As := [.int v6]) (rest := []) ⟨hx, hb, hml, hown, hta⟩ (c_M_isForbidden l v6  _ hE) ok_M_119 ⟨Nat.le_of_ble_eq_true rfl, Nat.le_of_ble_eq_true rfl⟩ blind_true  (fun _ _ _ => trivial) rfl hl.1 rfl (Nat.le_of_ble_eq_true rfl) d_M_characterOf_367 ⟨Nat.zero_le _, Nat.zero_le _⟩ (fun r367 hE => ?_)
    refine lv_if_eq (tgt := 377) hx hb d_M_characterOf_370 (by decide) (fun cc370 => ?_) (fun cc370 => ?_)
    · have hE := hE.1 cc370
      refine lv_iload hx hb d_M_characterOf_377 (lv_at hl 0 rfl) ?_
      exact W.iret (v := v6) hx hb hr (fun t ht hW => ⟨⟨_, σ, rfl, hE, by rw [ht]; exact hP, va_K.moved hW.alike hK, hD⟩, hS.F ht⟩) hS.2.2 d_M_characterOf_379
    · have hE := hE.2 cc370
      exact J373  σ _ _ hP hD hS _ (lv_sub hl [] rfl) hE
  have J318 : ∀ (v1 : Int32) (v3 : Int32) (v6 : Int32) (σ : MPS) (H : Heap) (locs : List Loc) (hP : va_P (mG md) classes (MW md σ) H) (hD : va_D A (MW md σ)) (hS : va_S A s.heap H locs) (ls : Array Slot) (hl : lv_has ls 7 [(0, .ref (mA md 0)), (1, .int v1), (3, .int v3), (6, .int v6)]) (hE : w_M_characterOf_J318 post v1 v3 v6 σ), W p l e (headSpec ws_M_characterOf { frames := 2, cells := 0, slots := 0, locals := 47 }).room s m ([.ref (mA md 0), .int x0] : List Value).toArray below meth c H locs 0 0 (MQ below (va_Qi post (eM md A) A) ([.ref (mA md 0), .int x0] : List Value).toArray s 0 0 A) (F0 m 318 ls []) := by
    intro  v1 v3 v6 σ H locs hP hD hS ls hl hE
    unfold w_M_characterOf_J318 at hE
    refine lv_aload_n hx hb d_M_characterOf_318 rfl (lv_at hl 0 rfl) ?_
    refine lv_iload_n hx hb d_M_characterOf_319 rfl (lv_at hl 2 rfl) ?_
    refine ro_V (b0 := (mA md 0)) (As := [.int v3]) (rest := []) ⟨hx, hb, hml, hown, hta⟩ (c_M_x l md σ v3  _ hE) ok_M_95 ⟨Nat.le_of_ble_eq_true rfl, Nat.le_of_ble_eq_true rfl⟩ blind_rM (va_recv hK hP (ci := 7) (q0 := 0) rfl rfl) (rM_of hP hK) rfl hl.1 rfl (Nat.le_of_ble_eq_true rfl) d_M_characterOf_320 ⟨Nat.zero_le _, Nat.zero_le _⟩ (fun r320 hE => ?_)
    refine lv_bipush (v := 59) hx hb d_M_characterOf_323 (by decide) ?_
    refine lv_icmp_eq (tgt := 330) hx hb d_M_characterOf_325 (by decide) (fun cc325 => ?_) (fun cc325 => ?_)
    · have hE := hE.1 cc325
      refine lv_aload_n hx hb d_M_characterOf_330 rfl (lv_at hl 0 rfl) ?_
      refine lv_iload_n hx hb d_M_characterOf_331 rfl (lv_at hl 2 rfl) ?_
      refine lv_iconst (v := 1) hx hb d_M_characterOf_332 (by decide) ?_
      refine lv_iadd hx hb d_M_characterOf_333 ?_
      refine lv_iload_n hx hb d_M_characterOf_334 rfl (lv_at hl 1 rfl) ?_
      refine lv_isub hx hb d_M_characterOf_335 ?_
      refine va_put (D := (mG md)) (ci := 7) (v := .int ((v3 + 1) - v1)) (ty := .int) (C := R_M) (T := F_M) (N := 37) hx hb hta i_M t_M t_M_ok n_M hown hK hP hD hS 0 rfl rfl 12 (by decide) (hta _ fl_M_76) (fun _ h9 => h9) rfl (by decide +kernel) rfl rfl (Nat.le_of_ble_eq_true rfl) d_M_characterOf_336 (fun H locs hP hD hS => ?_)
      have hP : va_P (mG md) classes (MW md (ms_width σ ((v3 + 1) - v1))) H := hP
      have hD : va_D A (MW md (ms_width σ ((v3 + 1) - v1))) := hD
      have hE := hE _ rfl
      generalize (ms_width σ ((v3 + 1) - v1) : MPS) = σ336 at hP hD hE
      refine lv_iload hx hb d_M_characterOf_339 (lv_at hl 3 rfl) ?_
      refine lv_if_eq (tgt := 373) hx hb d_M_characterOf_341 (by decide) (fun cc341 => ?_) (fun cc341 => ?_)
      · have hE := hE.1 cc341
        exact J373  σ336 _ _ hP hD hS _ (lv_sub hl [] rfl) hE
      · have hE := hE.2 cc341
        refine lv_iload hx hb d_M_characterOf_344 (lv_at hl 3 rfl) ?_
        refine lv_ldc hx hb hown (hta _ ct_M_80) d_M_characterOf_346 ?_
        refine lv_icmp_gt (tgt := 373) hx hb d_M_characterOf_348 (by decide) (fun cc348 => ?_) (fun cc348 => ?_)
        · have hE := hE.1 cc348
          exact J373  σ336 _ _ hP hD hS _ (lv_sub hl [] rfl) hE
        · have hE := hE.2 cc348
          refine lv_iload hx hb d_M_characterOf_351 (lv_at hl 3 rfl) ?_
          refine lv_ldc hx hb hown (hta _ ct_M_81) d_M_characterOf_353 ?_
          refine lv_icmp_lt (tgt := 365) hx hb d_M_characterOf_355 (by decide) (fun cc355 => ?_) (fun cc355 => ?_)
          · have hE := hE.1 cc355
            exact J365  v6 σ336 _ _ hP hD hS _ (lv_sub hl [3] rfl) hE
          · have hE := hE.2 cc355
            refine lv_iload hx hb d_M_characterOf_358 (lv_at hl 3 rfl) ?_
            refine lv_ldc hx hb hown (hta _ ct_M_82) d_M_characterOf_360 ?_
            refine lv_icmp_le (tgt := 373) hx hb d_M_characterOf_362 (by decide) (fun cc362 => ?_) (fun cc362 => ?_)
            · have hE := hE.1 cc362
              exact J373  σ336 _ _ hP hD hS _ (lv_sub hl [] rfl) hE
            · have hE := hE.2 cc362
              exact J365  v6 σ336 _ _ hP hD hS _ (lv_sub hl [3] rfl) hE
    · have hE := hE.2 cc325
      refine lv_iconst (v := -1) hx hb d_M_characterOf_328 (by decide) ?_
      exact W.iret (v := (-1)) hx hb hr (fun t ht hW => ⟨⟨_, σ, rfl, hE, by rw [ht]; exact hP, va_K.moved hW.alike hK, hD⟩, hS.F ht⟩) hS.2.2 d_M_characterOf_329
  have J298 : ∀ (v1 : Int32) (v3 : Int32) (v4 : Int32) (v5 : Int32) (v6 : Int32) (σ : MPS) (H : Heap) (locs : List Loc) (hP : va_P (mG md) classes (MW md σ) H) (hD : va_D A (MW md σ)) (hS : va_S A s.heap H locs) (ls : Array Slot) (hl : lv_has ls 7 [(0, .ref (mA md 0)), (1, .int v1), (3, .int v3), (4, .int v4), (5, .int v5), (6, .int v6)]) (hE : w_M_characterOf_J298 post v1 v3 v4 v5 v6 σ), W p l e (headSpec ws_M_characterOf { frames := 2, cells := 0, slots := 0, locals := 47 }).room s m ([.ref (mA md 0), .int x0] : List Value).toArray below meth c H locs 0 0 (MQ below (va_Qi post (eM md A) A) ([.ref (mA md 0), .int x0] : List Value).toArray s 0 0 A) (F0 m 298 ls []) := by
    intro  v1 v3 v4 v5 v6 σ H locs hP hD hS ls hl hE
    unfold w_M_characterOf_J298 at hE
    refine lv_iload_n hx hb d_M_characterOf_298 rfl (lv_at hl 2 rfl) ?_
    refine lv_iload hx hb d_M_characterOf_299 (lv_at hl 4 rfl) ?_
    refine lv_icmp_eq (tgt := 328) hx hb d_M_characterOf_301 (by decide) (fun cc301 => ?_) (fun cc301 => ?_)
    · have hE := hE.1 cc301
      refine lv_iconst (v := -1) hx hb d_M_characterOf_328 (by decide) ?_
      exact W.iret (v := (-1)) hx hb hr (fun t ht hW => ⟨⟨_, σ, rfl, hE, by rw [ht]; exact hP, va_K.moved hW.alike hK, hD⟩, hS.F ht⟩) hS.2.2 d_M_characterOf_329
    · have hE := hE.2 cc301
      refine lv_iload hx hb d_M_characterOf_304 (lv_at hl 3 rfl) ?_
      refine lv_if_eq (tgt := 318) hx hb d_M_characterOf_306 (by decide) (fun cc306 => ?_) (fun cc306 => ?_)
      · have hE := hE.1 cc306
        exact J318  v1 v3 v6 σ _ _ hP hD hS _ (lv_sub hl [0, 1, 2, 5] rfl) hE
      · have hE := hE.2 cc306
        refine lv_iload_n hx hb d_M_characterOf_309 rfl (lv_at hl 2 rfl) ?_
        refine lv_iload hx hb d_M_characterOf_310 (lv_at hl 4 rfl) ?_
        refine lv_isub hx hb d_M_characterOf_312 ?_
        refine lv_bipush (v := 6) hx hb d_M_characterOf_313 (by decide) ?_
        refine lv_icmp_gt (tgt := 328) hx hb d_M_characterOf_315 (by decide) (fun cc315 => ?_) (fun cc315 => ?_)
        · have hE := hE.1 cc315
          refine lv_iconst (v := -1) hx hb d_M_characterOf_328 (by decide) ?_
          exact W.iret (v := (-1)) hx hb hr (fun t ht hW => ⟨⟨_, σ, rfl, hE, by rw [ht]; exact hP, va_K.moved hW.alike hK, hD⟩, hS.F ht⟩) hS.2.2 d_M_characterOf_329
        · have hE := hE.2 cc315
          exact J318  v1 v3 v6 σ _ _ hP hD hS _ (lv_sub hl [0, 1, 2, 5] rfl) hE
  have L227 : ∀ (v1 : Int32) (v4 : Int32) (v5 : Int32) (n : Nat) (v3 : Int32) (v6 : Int32) (σ : MPS) (H : Heap) (locs : List Loc) (hP : va_P (mG md) classes (MW md σ) H) (hD : va_D A (MW md σ)) (hS : va_S A s.heap H locs) (ls : Array Slot) (hl : lv_has ls 7 [(0, .ref (mA md 0)), (1, .int v1), (3, .int v3), (4, .int v4), (5, .int v5), (6, .int v6)]) (hE : w_M_characterOf_L227 v1 v4 v5 post n v3 v6 σ), W p l e (headSpec ws_M_characterOf { frames := 2, cells := 0, slots := 0, locals := 47 }).room s m ([.ref (mA md 0), .int x0] : List Value).toArray below meth c H locs 0 0 (MQ below (va_Qi post (eM md A) A) ([.ref (mA md 0), .int x0] : List Value).toArray s 0 0 A) (F0 m 227 ls []) := by
    intro v1 v4 v5 n
    induction n with
    | zero => intro v3 v6 σ H locs hP hD hS ls hl hE; exact hE.elim
    | succ n ih227 =>
      have J278 : ∀ (v3 : Int32) (v6 : Int32) (t0 : Int32) (σ : MPS) (H : Heap) (locs : List Loc) (hP : va_P (mG md) classes (MW md σ) H) (hD : va_D A (MW md σ)) (hS : va_S A s.heap H locs) (ls : Array Slot) (hl : lv_has ls 7 [(0, .ref (mA md 0)), (1, .int v1), (3, .int v3), (4, .int v4), (5, .int v5), (6, .int v6)]) (hE : w_M_characterOf_J278 v1 v4 v5 (w_M_characterOf_L227 v1 v4 v5 post n) post v3 v6 t0 σ), W p l e (headSpec ws_M_characterOf { frames := 2, cells := 0, slots := 0, locals := 47 }).room s m ([.ref (mA md 0), .int x0] : List Value).toArray below meth c H locs 0 0 (MQ below (va_Qi post (eM md A) A) ([.ref (mA md 0), .int x0] : List Value).toArray s 0 0 A) (F0 m 278 ls [.int t0]) := by
        intro  v3 v6 t0 σ H locs hP hD hS ls hl hE
        unfold w_M_characterOf_J278 at hE
        refine lv_iload hx hb d_M_characterOf_278 (lv_at hl 5 rfl) ?_
        refine lv_imul hx hb d_M_characterOf_280 ?_
        refine lv_aload_n hx hb d_M_characterOf_281 rfl (lv_at hl 0 rfl) ?_
        refine lv_iload_n hx hb d_M_characterOf_282 rfl (lv_at hl 2 rfl) ?_
        refine ro_V (b0 := (mA md 0)) (As := [.int v3]) (rest := [.int (t0 * v6)]) ⟨hx, hb, hml, hown, hta⟩ (c_M_x l md σ v3  _ hE) ok_M_95 ⟨Nat.le_of_ble_eq_true rfl, Nat.le_of_ble_eq_true rfl⟩ blind_rM (va_recv hK hP (ci := 7) (q0 := 0) rfl rfl) (rM_of hP hK) rfl hl.1 rfl (Nat.le_of_ble_eq_true rfl) d_M_characterOf_283 ⟨Nat.zero_le _, Nat.zero_le _⟩ (fun r283 hE => ?_)
        refine ro_S  (As := [.int r283]) (rest := [.int (t0 * v6)]) ⟨hx, hb, hml, hown, hta⟩ (c_M_hex l r283  _ hE) ok_M_136 ⟨Nat.le_of_ble_eq_true rfl, Nat.le_of_ble_eq_true rfl⟩ blind_true  (fun _ _ _ => trivial) rfl hl.1 rfl (Nat.le_of_ble_eq_true rfl) d_M_characterOf_286 ⟨Nat.zero_le _, Nat.zero_le _⟩ (fun r286 hE => ?_)
        refine lv_iadd hx hb d_M_characterOf_289 ?_
        refine lv_istore (lv' := [(6, .int ((t0 * v6) + r286)), (0, .ref (mA md 0)), (1, .int v1), (3, .int v3), (4, .int v4), (5, .int v5)]) hx hb d_M_characterOf_290 hl (by decide) rfl (fun ls hl => ?_)
        refine lv_iinc (v := v3 + 1) (lv' := [(3, .int (v3 + 1)), (6, .int ((t0 * v6) + r286)), (0, .ref (mA md 0)), (1, .int v1), (4, .int v4), (5, .int v5)]) hx hb d_M_characterOf_292 hl (k := 3) rfl rfl (by decide) rfl (fun ls hl => ?_)
        refine lv_goto (tgt := 227) hx hb d_M_characterOf_295 (by decide) ?_
        exact ih227 (v3 + 1) ((t0 * v6) + r286) σ _ _ hP hD hS _ (lv_sub hl [2, 3, 0, 4, 5, 1] rfl) hE
      have J266 : ∀ (v3 : Int32) (v6 : Int32) (σ : MPS) (H : Heap) (locs : List Loc) (hP : va_P (mG md) classes (MW md σ) H) (hD : va_D A (MW md σ)) (hS : va_S A s.heap H locs) (ls : Array Slot) (hl : lv_has ls 7 [(0, .ref (mA md 0)), (1, .int v1), (3, .int v3), (4, .int v4), (5, .int v5), (6, .int v6)]) (hE : w_M_characterOf_J266 v1 v4 v5 (w_M_characterOf_L227 v1 v4 v5 post n) post v3 v6 σ), W p l e (headSpec ws_M_characterOf { frames := 2, cells := 0, slots := 0, locals := 47 }).room s m ([.ref (mA md 0), .int x0] : List Value).toArray below meth c H locs 0 0 (MQ below (va_Qi post (eM md A) A) ([.ref (mA md 0), .int x0] : List Value).toArray s 0 0 A) (F0 m 266 ls []) := by
        intro  v3 v6 σ H locs hP hD hS ls hl hE
        unfold w_M_characterOf_J266 at hE
        refine lv_iload hx hb d_M_characterOf_266 (lv_at hl 3 rfl) ?_
        refine lv_if_eq (tgt := 276) hx hb d_M_characterOf_268 (by decide) (fun cc268 => ?_) (fun cc268 => ?_)
        · have hE := hE.1 cc268
          refine lv_bipush (v := 10) hx hb d_M_characterOf_276 (by decide) ?_
          exact J278  v3 v6 10 σ _ _ hP hD hS _ (lv_sub hl [0, 1, 2, 3, 4, 5] rfl) hE
        · have hE := hE.2 cc268
          refine lv_bipush (v := 16) hx hb d_M_characterOf_271 (by decide) ?_
          refine lv_goto (tgt := 278) hx hb d_M_characterOf_273 (by decide) ?_
          exact J278  v3 v6 16 σ _ _ hP hD hS _ (lv_sub hl [0, 1, 2, 3, 4, 5] rfl) hE
      intro v3 v6 σ H locs hP hD hS ls hl hE
      unfold w_M_characterOf_L227 at hE
      refine lv_iload_n hx hb d_M_characterOf_227 rfl (lv_at hl 2 rfl) ?_
      refine lv_iload hx hb d_M_characterOf_228 (lv_at hl 4 rfl) ?_
      refine lv_isub hx hb d_M_characterOf_230 ?_
      refine lv_bipush (v := 7) hx hb d_M_characterOf_231 (by decide) ?_
      refine lv_icmp_ge (tgt := 298) hx hb d_M_characterOf_233 (by decide) (fun cc233 => ?_) (fun cc233 => ?_)
      · have hE := hE.1 cc233
        exact J298  v1 v3 v4 v5 v6 σ _ _ hP hD hS _ (lv_sub hl [0, 1, 2, 3, 4, 5] rfl) hE
      · have hE := hE.2 cc233
        refine lv_iload hx hb d_M_characterOf_236 (lv_at hl 3 rfl) ?_
        refine lv_if_eq (tgt := 255) hx hb d_M_characterOf_238 (by decide) (fun cc238 => ?_) (fun cc238 => ?_)
        · have hE := hE.1 cc238
          refine lv_aload_n hx hb d_M_characterOf_255 rfl (lv_at hl 0 rfl) ?_
          refine lv_iload_n hx hb d_M_characterOf_256 rfl (lv_at hl 2 rfl) ?_
          refine ro_V (b0 := (mA md 0)) (As := [.int v3]) (rest := []) ⟨hx, hb, hml, hown, hta⟩ (c_M_x l md σ v3  _ hE) ok_M_95 ⟨Nat.le_of_ble_eq_true rfl, Nat.le_of_ble_eq_true rfl⟩ blind_rM (va_recv hK hP (ci := 7) (q0 := 0) rfl rfl) (rM_of hP hK) rfl hl.1 rfl (Nat.le_of_ble_eq_true rfl) d_M_characterOf_257 ⟨Nat.zero_le _, Nat.zero_le _⟩ (fun r257 hE => ?_)
          refine ro_S  (As := [.int r257]) (rest := []) ⟨hx, hb, hml, hown, hta⟩ (c_M_isDigit l r257  _ hE) ok_M_85 ⟨Nat.le_of_ble_eq_true rfl, Nat.le_of_ble_eq_true rfl⟩ blind_true  (fun _ _ _ => trivial) rfl hl.1 rfl (Nat.le_of_ble_eq_true rfl) d_M_characterOf_260 ⟨Nat.zero_le _, Nat.zero_le _⟩ (fun r260 hE => ?_)
          refine lv_if_eq (tgt := 298) hx hb d_M_characterOf_263 (by decide) (fun cc263 => ?_) (fun cc263 => ?_)
          · have hE := hE.1 cc263
            exact J298  v1 v3 v4 v5 v6 σ _ _ hP hD hS _ (lv_sub hl [0, 1, 2, 3, 4, 5] rfl) hE
          · have hE := hE.2 cc263
            exact J266  v3 v6 σ _ _ hP hD hS _ (lv_sub hl [0, 1, 2, 3, 4, 5] rfl) hE
        · have hE := hE.2 cc238
          refine lv_aload_n hx hb d_M_characterOf_241 rfl (lv_at hl 0 rfl) ?_
          refine lv_iload_n hx hb d_M_characterOf_242 rfl (lv_at hl 2 rfl) ?_
          refine ro_V (b0 := (mA md 0)) (As := [.int v3]) (rest := []) ⟨hx, hb, hml, hown, hta⟩ (c_M_x l md σ v3  _ hE) ok_M_95 ⟨Nat.le_of_ble_eq_true rfl, Nat.le_of_ble_eq_true rfl⟩ blind_rM (va_recv hK hP (ci := 7) (q0 := 0) rfl rfl) (rM_of hP hK) rfl hl.1 rfl (Nat.le_of_ble_eq_true rfl) d_M_characterOf_243 ⟨Nat.zero_le _, Nat.zero_le _⟩ (fun r243 hE => ?_)
          refine ro_S  (As := [.int r243]) (rest := []) ⟨hx, hb, hml, hown, hta⟩ (c_M_hex l r243  _ hE) ok_M_136 ⟨Nat.le_of_ble_eq_true rfl, Nat.le_of_ble_eq_true rfl⟩ blind_true  (fun _ _ _ => trivial) rfl hl.1 rfl (Nat.le_of_ble_eq_true rfl) d_M_characterOf_246 ⟨Nat.zero_le _, Nat.zero_le _⟩ (fun r246 hE => ?_)
          refine lv_if_lt (tgt := 298) hx hb d_M_characterOf_249 (by decide) (fun cc249 => ?_) (fun cc249 => ?_)
          · have hE := hE.1 cc249
            exact J298  v1 v3 v4 v5 v6 σ _ _ hP hD hS _ (lv_sub hl [0, 1, 2, 3, 4, 5] rfl) hE
          · have hE := hE.2 cc249
            refine lv_goto (tgt := 266) hx hb d_M_characterOf_252 (by decide) ?_
            exact J266  v3 v6 σ _ _ hP hD hS _ (lv_sub hl [0, 1, 2, 3, 4, 5] rfl) hE
  have J219 : ∀ (v1 : Int32) (v4 : Int32) (t0 : Int32) (t1 : Int32) (σ : MPS) (H : Heap) (locs : List Loc) (hP : va_P (mG md) classes (MW md σ) H) (hD : va_D A (MW md σ)) (hS : va_S A s.heap H locs) (ls : Array Slot) (hl : lv_has ls 7 [(0, .ref (mA md 0)), (1, .int v1), (4, .int v4)]) (hE : w_M_characterOf_J219 post v1 v4 t0 t1 σ), W p l e (headSpec ws_M_characterOf { frames := 2, cells := 0, slots := 0, locals := 47 }).room s m ([.ref (mA md 0), .int x0] : List Value).toArray below meth c H locs 0 0 (MQ below (va_Qi post (eM md A) A) ([.ref (mA md 0), .int x0] : List Value).toArray s 0 0 A) (F0 m 219 ls [.int t0, .int t1]) := by
    intro  v1 v4 t0 t1 σ H locs hP hD hS ls hl hE
    unfold w_M_characterOf_J219 at hE
    refine lv_iadd hx hb d_M_characterOf_219 ?_
    refine lv_istore_n (lv' := [(3, .int (t1 + t0)), (0, .ref (mA md 0)), (1, .int v1), (4, .int v4)]) hx hb d_M_characterOf_220 rfl hl (by decide) rfl (fun ls hl => ?_)
    refine lv_iload_n hx hb d_M_characterOf_221 rfl (lv_at hl 0 rfl) ?_
    refine lv_istore (lv' := [(5, .int (t1 + t0)), (3, .int (t1 + t0)), (0, .ref (mA md 0)), (1, .int v1), (4, .int v4)]) hx hb d_M_characterOf_222 hl (by decide) rfl (fun ls hl => ?_)
    refine lv_iconst (v := 0) hx hb d_M_characterOf_224 (by decide) ?_
    refine lv_istore (lv' := [(6, .int 0), (5, .int (t1 + t0)), (3, .int (t1 + t0)), (0, .ref (mA md 0)), (1, .int v1), (4, .int v4)]) hx hb d_M_characterOf_225 hl (by decide) rfl (fun ls hl => ?_)
    obtain ⟨n, hE⟩ := hE
    exact L227 v1 v4 (t1 + t0) n (t1 + t0) 0 σ _ _ hP hD hS _ (lv_sub hl [3, 4, 2, 5, 1, 0] rfl) hE
  have J206 : ∀ (v1 : Int32) (v3 : Int32) (t0 : Int32) (σ : MPS) (H : Heap) (locs : List Loc) (hP : va_P (mG md) classes (MW md σ) H) (hD : va_D A (MW md σ)) (hS : va_S A s.heap H locs) (ls : Array Slot) (hl : lv_has ls 7 [(0, .ref (mA md 0)), (1, .int v1), (3, .int v3)]) (hE : w_M_characterOf_J206 post v1 v3 t0 σ), W p l e (headSpec ws_M_characterOf { frames := 2, cells := 0, slots := 0, locals := 47 }).room s m ([.ref (mA md 0), .int x0] : List Value).toArray below meth c H locs 0 0 (MQ below (va_Qi post (eM md A) A) ([.ref (mA md 0), .int x0] : List Value).toArray s 0 0 A) (F0 m 206 ls [.int t0]) := by
    intro  v1 v3 t0 σ H locs hP hD hS ls hl hE
    unfold w_M_characterOf_J206 at hE
    refine lv_istore (lv' := [(4, .int t0), (0, .ref (mA md 0)), (1, .int v1), (3, .int v3)]) hx hb d_M_characterOf_206 hl (by decide) rfl (fun ls hl => ?_)
    refine lv_iload_n hx hb d_M_characterOf_208 rfl (lv_at hl 3 rfl) ?_
    refine lv_iload hx hb d_M_characterOf_209 (lv_at hl 0 rfl) ?_
    refine lv_if_eq (tgt := 218) hx hb d_M_characterOf_211 (by decide) (fun cc211 => ?_) (fun cc211 => ?_)
    · have hE := hE.1 cc211
      refine lv_iconst (v := 1) hx hb d_M_characterOf_218 (by decide) ?_
      exact J219  v1 t0 1 v3 σ _ _ hP hD hS _ (lv_sub hl [1, 2, 0] rfl) hE
    · have hE := hE.2 cc211
      refine lv_iconst (v := 2) hx hb d_M_characterOf_214 (by decide) ?_
      refine lv_goto (tgt := 219) hx hb d_M_characterOf_215 (by decide) ?_
      exact J219  v1 t0 2 v3 σ _ _ hP hD hS _ (lv_sub hl [1, 2, 0] rfl) hE
  have J201 : ∀ (v1 : Int32) (v3 : Int32) (σ : MPS) (H : Heap) (locs : List Loc) (hP : va_P (mG md) classes (MW md σ) H) (hD : va_D A (MW md σ)) (hS : va_S A s.heap H locs) (ls : Array Slot) (hl : lv_has ls 7 [(0, .ref (mA md 0)), (1, .int v1), (3, .int v3)]) (hE : w_M_characterOf_J201 post v1 v3 σ), W p l e (headSpec ws_M_characterOf { frames := 2, cells := 0, slots := 0, locals := 47 }).room s m ([.ref (mA md 0), .int x0] : List Value).toArray below meth c H locs 0 0 (MQ below (va_Qi post (eM md A) A) ([.ref (mA md 0), .int x0] : List Value).toArray s 0 0 A) (F0 m 201 ls []) := by
    intro  v1 v3 σ H locs hP hD hS ls hl hE
    unfold w_M_characterOf_J201 at hE
    refine lv_iconst (v := 1) hx hb d_M_characterOf_201 (by decide) ?_
    refine lv_goto (tgt := 206) hx hb d_M_characterOf_202 (by decide) ?_
    exact J206  v1 v3 1 σ _ _ hP hD hS _ (lv_sub hl [0, 1, 2] rfl) hE
  have L138 : ∀ (v1 : Int32) (v2 : Int32) (n : Nat) (v3 : Int32) (σ : MPS) (H : Heap) (locs : List Loc) (hP : va_P (mG md) classes (MW md σ) H) (hD : va_D A (MW md σ)) (hS : va_S A s.heap H locs) (ls : Array Slot) (hl : lv_has ls 7 [(0, .ref (mA md 0)), (1, .int v1), (2, .int v2), (3, .int v3)]) (hE : w_M_characterOf_L138 v1 v2 post n v3 σ), W p l e (headSpec ws_M_characterOf { frames := 2, cells := 0, slots := 0, locals := 47 }).room s m ([.ref (mA md 0), .int x0] : List Value).toArray below meth c H locs 0 0 (MQ below (va_Qi post (eM md A) A) ([.ref (mA md 0), .int x0] : List Value).toArray s 0 0 A) (F0 m 138 ls []) := by
    intro v1 v2 n
    induction n with
    | zero => intro v3 σ H locs hP hD hS ls hl hE; exact hE.elim
    | succ n ih138 =>
      intro v3 σ H locs hP hD hS ls hl hE
      unfold w_M_characterOf_L138 at hE
      refine lv_aload_n hx hb d_M_characterOf_138 rfl (lv_at hl 0 rfl) ?_
      refine lv_iload_n hx hb d_M_characterOf_139 rfl (lv_at hl 3 rfl) ?_
      refine ro_V (b0 := (mA md 0)) (As := [.int v3]) (rest := []) ⟨hx, hb, hml, hown, hta⟩ (c_M_x l md σ v3  _ hE) ok_M_95 ⟨Nat.le_of_ble_eq_true rfl, Nat.le_of_ble_eq_true rfl⟩ blind_rM (va_recv hK hP (ci := 7) (q0 := 0) rfl rfl) (rM_of hP hK) rfl hl.1 rfl (Nat.le_of_ble_eq_true rfl) d_M_characterOf_140 ⟨Nat.zero_le _, Nat.zero_le _⟩ (fun r140 hE => ?_)
      refine lv_bipush (v := 59) hx hb d_M_characterOf_143 (by decide) ?_
      refine lv_icmp_eq (tgt := 154) hx hb d_M_characterOf_145 (by decide) (fun cc145 => ?_) (fun cc145 => ?_)
      · have hE := hE.1 cc145
        refine lv_aload_n hx hb d_M_characterOf_154 rfl (lv_at hl 0 rfl) ?_
        refine lv_iload_n hx hb d_M_characterOf_155 rfl (lv_at hl 3 rfl) ?_
        refine lv_iconst (v := 1) hx hb d_M_characterOf_156 (by decide) ?_
        refine lv_iadd hx hb d_M_characterOf_157 ?_
        refine lv_iload_n hx hb d_M_characterOf_158 rfl (lv_at hl 1 rfl) ?_
        refine lv_isub hx hb d_M_characterOf_159 ?_
        refine va_put (D := (mG md)) (ci := 7) (v := .int ((v3 + 1) - v1)) (ty := .int) (C := R_M) (T := F_M) (N := 37) hx hb hta i_M t_M t_M_ok n_M hown hK hP hD hS 0 rfl rfl 12 (by decide) (hta _ fl_M_76) (fun _ h9 => h9) rfl (by decide +kernel) rfl rfl (Nat.le_of_ble_eq_true rfl) d_M_characterOf_160 (fun H locs hP hD hS => ?_)
        have hP : va_P (mG md) classes (MW md (ms_width σ ((v3 + 1) - v1))) H := hP
        have hD : va_D A (MW md (ms_width σ ((v3 + 1) - v1))) := hD
        have hE := hE _ rfl
        generalize (ms_width σ ((v3 + 1) - v1) : MPS) = σ160 at hP hD hE
        refine lv_iload_n hx hb d_M_characterOf_163 rfl (lv_at hl 2 rfl) ?_
        exact W.iret (v := v2) hx hb hr (fun t ht hW => ⟨⟨_, σ160, rfl, hE, by rw [ht]; exact hP, va_K.moved hW.alike hK, hD⟩, hS.F ht⟩) hS.2.2 d_M_characterOf_164
      · have hE := hE.2 cc145
        refine lv_iinc (v := v3 + 1) (lv' := [(3, .int (v3 + 1)), (0, .ref (mA md 0)), (1, .int v1), (2, .int v2)]) hx hb d_M_characterOf_148 hl (k := 3) rfl rfl (by decide) rfl (fun ls hl => ?_)
        refine lv_goto (tgt := 138) hx hb d_M_characterOf_151 (by decide) ?_
        exact ih138 (v3 + 1) σ _ _ hP hD hS _ (lv_sub hl [1, 2, 3, 0] rfl) hE
  have J129 : ∀ (v1 : Int32) (t0 : Int32) (σ : MPS) (H : Heap) (locs : List Loc) (hP : va_P (mG md) classes (MW md σ) H) (hD : va_D A (MW md σ)) (hS : va_S A s.heap H locs) (ls : Array Slot) (hl : lv_has ls 7 [(0, .ref (mA md 0)), (1, .int v1)]) (hE : w_M_characterOf_J129 post v1 t0 σ), W p l e (headSpec ws_M_characterOf { frames := 2, cells := 0, slots := 0, locals := 47 }).room s m ([.ref (mA md 0), .int x0] : List Value).toArray below meth c H locs 0 0 (MQ below (va_Qi post (eM md A) A) ([.ref (mA md 0), .int x0] : List Value).toArray s 0 0 A) (F0 m 129 ls [.int t0]) := by
    intro  v1 t0 σ H locs hP hD hS ls hl hE
    unfold w_M_characterOf_J129 at hE
    refine lv_istore_n (lv' := [(2, .int t0), (0, .ref (mA md 0)), (1, .int v1)]) hx hb d_M_characterOf_129 rfl hl (by decide) rfl (fun ls hl => ?_)
    refine lv_iload_n hx hb d_M_characterOf_130 rfl (lv_at hl 2 rfl) ?_
    refine lv_iconst (v := 1) hx hb d_M_characterOf_131 (by decide) ?_
    refine lv_iadd hx hb d_M_characterOf_132 ?_
    refine lv_istore_n (lv' := [(3, .int (v1 + 1)), (2, .int t0), (0, .ref (mA md 0)), (1, .int v1)]) hx hb d_M_characterOf_133 rfl hl (by decide) rfl (fun ls hl => ?_)
    refine lv_iload_n hx hb d_M_characterOf_134 rfl (lv_at hl 1 rfl) ?_
    refine lv_if_lt (tgt := 165) hx hb d_M_characterOf_135 (by decide) (fun cc135 => ?_) (fun cc135 => ?_)
    · have hE := hE.1 cc135
      refine lv_aload_n hx hb d_M_characterOf_165 rfl (lv_at hl 2 rfl) ?_
      refine lv_iload_n hx hb d_M_characterOf_166 rfl (lv_at hl 0 rfl) ?_
      refine ro_V (b0 := (mA md 0)) (As := [.int (v1 + 1)]) (rest := []) ⟨hx, hb, hml, hown, hta⟩ (c_M_x l md σ (v1 + 1)  _ hE) ok_M_95 ⟨Nat.le_of_ble_eq_true rfl, Nat.le_of_ble_eq_true rfl⟩ blind_rM (va_recv hK hP (ci := 7) (q0 := 0) rfl rfl) (rM_of hP hK) rfl hl.1 rfl (Nat.le_of_ble_eq_true rfl) d_M_characterOf_167 ⟨Nat.zero_le _, Nat.zero_le _⟩ (fun r167 hE => ?_)
      refine lv_bipush (v := 35) hx hb d_M_characterOf_170 (by decide) ?_
      refine lv_icmp_eq (tgt := 177) hx hb d_M_characterOf_172 (by decide) (fun cc172 => ?_) (fun cc172 => ?_)
      · have hE := hE.1 cc172
        refine lv_aload_n hx hb d_M_characterOf_177 rfl (lv_at hl 2 rfl) ?_
        refine lv_iload_n hx hb d_M_characterOf_178 rfl (lv_at hl 0 rfl) ?_
        refine lv_iconst (v := 1) hx hb d_M_characterOf_179 (by decide) ?_
        refine lv_iadd hx hb d_M_characterOf_180 ?_
        refine ro_V (b0 := (mA md 0)) (As := [.int ((v1 + 1) + 1)]) (rest := []) ⟨hx, hb, hml, hown, hta⟩ (c_M_x l md σ ((v1 + 1) + 1)  _ hE) ok_M_95 ⟨Nat.le_of_ble_eq_true rfl, Nat.le_of_ble_eq_true rfl⟩ blind_rM (va_recv hK hP (ci := 7) (q0 := 0) rfl rfl) (rM_of hP hK) rfl hl.1 rfl (Nat.le_of_ble_eq_true rfl) d_M_characterOf_181 ⟨Nat.zero_le _, Nat.zero_le _⟩ (fun r181 hE => ?_)
        refine lv_bipush (v := 120) hx hb d_M_characterOf_184 (by decide) ?_
        refine lv_icmp_eq (tgt := 201) hx hb d_M_characterOf_186 (by decide) (fun cc186 => ?_) (fun cc186 => ?_)
        · have hE := hE.1 cc186
          exact J201  v1 (v1 + 1) σ _ _ hP hD hS _ (lv_sub hl [2, 3, 0] rfl) hE
        · have hE := hE.2 cc186
          refine lv_aload_n hx hb d_M_characterOf_189 rfl (lv_at hl 2 rfl) ?_
          refine lv_iload_n hx hb d_M_characterOf_190 rfl (lv_at hl 0 rfl) ?_
          refine lv_iconst (v := 1) hx hb d_M_characterOf_191 (by decide) ?_
          refine lv_iadd hx hb d_M_characterOf_192 ?_
          refine ro_V (b0 := (mA md 0)) (As := [.int ((v1 + 1) + 1)]) (rest := []) ⟨hx, hb, hml, hown, hta⟩ (c_M_x l md σ ((v1 + 1) + 1)  _ hE) ok_M_95 ⟨Nat.le_of_ble_eq_true rfl, Nat.le_of_ble_eq_true rfl⟩ blind_rM (va_recv hK hP (ci := 7) (q0 := 0) rfl rfl) (rM_of hP hK) rfl hl.1 rfl (Nat.le_of_ble_eq_true rfl) d_M_characterOf_193 ⟨Nat.zero_le _, Nat.zero_le _⟩ (fun r193 hE => ?_)
          refine lv_bipush (v := 88) hx hb d_M_characterOf_196 (by decide) ?_
          refine lv_icmp_ne (tgt := 205) hx hb d_M_characterOf_198 (by decide) (fun cc198 => ?_) (fun cc198 => ?_)
          · have hE := hE.2 cc198
            refine lv_iconst (v := 0) hx hb d_M_characterOf_205 (by decide) ?_
            exact J206  v1 (v1 + 1) 0 σ _ _ hP hD hS _ (lv_sub hl [2, 3, 0] rfl) hE
          · have hE := hE.1 cc198
            exact J201  v1 (v1 + 1) σ _ _ hP hD hS _ (lv_sub hl [2, 3, 0] rfl) hE
      · have hE := hE.2 cc172
        refine lv_iconst (v := -1) hx hb d_M_characterOf_175 (by decide) ?_
        exact W.iret (v := (-1)) hx hb hr (fun t ht hW => ⟨⟨_, σ, rfl, hE, by rw [ht]; exact hP, va_K.moved hW.alike hK, hD⟩, hS.F ht⟩) hS.2.2 d_M_characterOf_176
    · have hE := hE.2 cc135
      obtain ⟨n, hE⟩ := hE
      exact L138 v1 t0 n (v1 + 1) σ _ _ hP hD hS _ (lv_sub hl [2, 3, 1, 0] rfl) hE
  have J35 : ∀ (σ : MPS) (H : Heap) (locs : List Loc) (hP : va_P (mG md) classes (MW md σ) H) (hD : va_D A (MW md σ)) (hS : va_S A s.heap H locs) (ls : Array Slot) (hl : lv_has ls 7 []) (hE : w_M_characterOf_J35 post σ), W p l e (headSpec ws_M_characterOf { frames := 2, cells := 0, slots := 0, locals := 47 }).room s m ([.ref (mA md 0), .int x0] : List Value).toArray below meth c H locs 0 0 (MQ below (va_Qi post (eM md A) A) ([.ref (mA md 0), .int x0] : List Value).toArray s 0 0 A) (F0 m 35 ls []) := by
    intro  σ H locs hP hD hS ls hl hE
    unfold w_M_characterOf_J35 at hE
    refine lv_iconst (v := -1) hx hb d_M_characterOf_35 (by decide) ?_
    refine lv_goto (tgt := 40) hx hb d_M_characterOf_36 (by decide) ?_
    exact W.iret (v := (-1)) hx hb hr (fun t ht hW => ⟨⟨_, σ, rfl, hE, by rw [ht]; exact hP, va_K.moved hW.alike hK, hD⟩, hS.F ht⟩) hS.2.2 d_M_characterOf_40
  unfold w_M_characterOf at hE
  refine lv_aload_n hx hb d_M_characterOf_0 rfl (lv_at hl 0 rfl) ?_
  refine lv_iload_n hx hb d_M_characterOf_1 rfl (lv_at hl 1 rfl) ?_
  refine ro_V (b0 := (mA md 0)) (As := [.int x0]) (rest := []) ⟨hx, hb, hml, hown, hta⟩ (c_M_x l md σ x0  _ hE) ok_M_95 ⟨Nat.le_of_ble_eq_true rfl, Nat.le_of_ble_eq_true rfl⟩ blind_rM (va_recv hK hP (ci := 7) (q0 := 0) rfl rfl) (rM_of hP hK) rfl hl.1 rfl (Nat.le_of_ble_eq_true rfl) d_M_characterOf_2 ⟨Nat.zero_le _, Nat.zero_le _⟩ (fun r2 hE => ?_)
  refine lv_bipush (v := 38) hx hb d_M_characterOf_5 (by decide) ?_
  refine lv_icmp_eq (tgt := 41) hx hb d_M_characterOf_7 (by decide) (fun cc7 => ?_) (fun cc7 => ?_)
  · have hE := hE.1 cc7
    refine lv_aload_n hx hb d_M_characterOf_41 rfl (lv_at hl 0 rfl) ?_
    refine lv_iload_n hx hb d_M_characterOf_42 rfl (lv_at hl 1 rfl) ?_
    refine lv_ldc2 hx hb hown (hta _ cl_M_122) d_M_characterOf_43 ?_
    refine lv_iconst (v := 5) hx hb d_M_characterOf_46 (by decide) ?_
    refine ro_V (b0 := (mA md 0)) (As := [.int x0, .long 164843319355, .int 5]) (rest := []) ⟨hx, hb, hml, hown, hta⟩ (c_M_says l md σ x0 164843319355 5  _ hE) ok_M_124 ⟨Nat.le_of_ble_eq_true rfl, Nat.le_of_ble_eq_true rfl⟩ blind_rM (va_recv hK hP (ci := 7) (q0 := 0) rfl rfl) (rM_of hP hK) rfl hl.1 rfl (Nat.le_of_ble_eq_true rfl) d_M_characterOf_47 ⟨Nat.zero_le _, Nat.zero_le _⟩ (fun r47 hE => ?_)
    refine lv_if_eq (tgt := 58) hx hb d_M_characterOf_50 (by decide) (fun cc50 => ?_) (fun cc50 => ?_)
    · have hE := hE.1 cc50
      refine lv_aload_n hx hb d_M_characterOf_58 rfl (lv_at hl 0 rfl) ?_
      refine lv_iload_n hx hb d_M_characterOf_59 rfl (lv_at hl 1 rfl) ?_
      refine lv_ldc2 hx hb hown (hta _ cl_M_128) d_M_characterOf_60 ?_
      refine lv_iconst (v := 4) hx hb d_M_characterOf_63 (by decide) ?_
      refine ro_V (b0 := (mA md 0)) (As := [.int x0, .long 644641851, .int 4]) (rest := []) ⟨hx, hb, hml, hown, hta⟩ (c_M_says l md σ x0 644641851 4  _ hE) ok_M_124 ⟨Nat.le_of_ble_eq_true rfl, Nat.le_of_ble_eq_true rfl⟩ blind_rM (va_recv hK hP (ci := 7) (q0 := 0) rfl rfl) (rM_of hP hK) rfl hl.1 rfl (Nat.le_of_ble_eq_true rfl) d_M_characterOf_64 ⟨Nat.zero_le _, Nat.zero_le _⟩ (fun r64 hE => ?_)
      refine lv_if_eq (tgt := 75) hx hb d_M_characterOf_67 (by decide) (fun cc67 => ?_) (fun cc67 => ?_)
      · have hE := hE.1 cc67
        refine lv_aload_n hx hb d_M_characterOf_75 rfl (lv_at hl 0 rfl) ?_
        refine lv_iload_n hx hb d_M_characterOf_76 rfl (lv_at hl 1 rfl) ?_
        refine lv_ldc2 hx hb hown (hta _ cl_M_130) d_M_characterOf_77 ?_
        refine lv_iconst (v := 4) hx hb d_M_characterOf_80 (by decide) ?_
        refine ro_V (b0 := (mA md 0)) (As := [.int x0, .long 644314171, .int 4]) (rest := []) ⟨hx, hb, hml, hown, hta⟩ (c_M_says l md σ x0 644314171 4  _ hE) ok_M_124 ⟨Nat.le_of_ble_eq_true rfl, Nat.le_of_ble_eq_true rfl⟩ blind_rM (va_recv hK hP (ci := 7) (q0 := 0) rfl rfl) (rM_of hP hK) rfl hl.1 rfl (Nat.le_of_ble_eq_true rfl) d_M_characterOf_81 ⟨Nat.zero_le _, Nat.zero_le _⟩ (fun r81 hE => ?_)
        refine lv_if_eq (tgt := 92) hx hb d_M_characterOf_84 (by decide) (fun cc84 => ?_) (fun cc84 => ?_)
        · have hE := hE.1 cc84
          refine lv_aload_n hx hb d_M_characterOf_92 rfl (lv_at hl 0 rfl) ?_
          refine lv_iload_n hx hb d_M_characterOf_93 rfl (lv_at hl 1 rfl) ?_
          refine lv_ldc2 hx hb hown (hta _ cl_M_132) d_M_characterOf_94 ?_
          refine lv_bipush (v := 6) hx hb d_M_characterOf_97 (by decide) ?_
          refine ro_V (b0 := (mA md 0)) (As := [.int x0, .long 42268743398459, .int 6]) (rest := []) ⟨hx, hb, hml, hown, hta⟩ (c_M_says l md σ x0 42268743398459 6  _ hE) ok_M_124 ⟨Nat.le_of_ble_eq_true rfl, Nat.le_of_ble_eq_true rfl⟩ blind_rM (va_recv hK hP (ci := 7) (q0 := 0) rfl rfl) (rM_of hP hK) rfl hl.1 rfl (Nat.le_of_ble_eq_true rfl) d_M_characterOf_99 ⟨Nat.zero_le _, Nat.zero_le _⟩ (fun r99 hE => ?_)
          refine lv_if_eq (tgt := 110) hx hb d_M_characterOf_102 (by decide) (fun cc102 => ?_) (fun cc102 => ?_)
          · have hE := hE.1 cc102
            refine lv_aload_n hx hb d_M_characterOf_110 rfl (lv_at hl 0 rfl) ?_
            refine lv_iload_n hx hb d_M_characterOf_111 rfl (lv_at hl 1 rfl) ?_
            refine lv_ldc2 hx hb hown (hta _ cl_M_134) d_M_characterOf_112 ?_
            refine lv_bipush (v := 6) hx hb d_M_characterOf_115 (by decide) ?_
            refine ro_V (b0 := (mA md 0)) (As := [.int x0, .long 42199940035387, .int 6]) (rest := []) ⟨hx, hb, hml, hown, hta⟩ (c_M_says l md σ x0 42199940035387 6  _ hE) ok_M_124 ⟨Nat.le_of_ble_eq_true rfl, Nat.le_of_ble_eq_true rfl⟩ blind_rM (va_recv hK hP (ci := 7) (q0 := 0) rfl rfl) (rM_of hP hK) rfl hl.1 rfl (Nat.le_of_ble_eq_true rfl) d_M_characterOf_117 ⟨Nat.zero_le _, Nat.zero_le _⟩ (fun r117 hE => ?_)
            refine lv_if_eq (tgt := 128) hx hb d_M_characterOf_120 (by decide) (fun cc120 => ?_) (fun cc120 => ?_)
            · have hE := hE.1 cc120
              refine lv_iconst (v := -1) hx hb d_M_characterOf_128 (by decide) ?_
              exact J129  x0 (-1) σ _ _ hP hD hS _ (lv_sub hl [0, 1] rfl) hE
            · have hE := hE.2 cc120
              refine lv_bipush (v := 39) hx hb d_M_characterOf_123 (by decide) ?_
              refine lv_goto (tgt := 129) hx hb d_M_characterOf_125 (by decide) ?_
              exact J129  x0 39 σ _ _ hP hD hS _ (lv_sub hl [0, 1] rfl) hE
          · have hE := hE.2 cc102
            refine lv_bipush (v := 34) hx hb d_M_characterOf_105 (by decide) ?_
            refine lv_goto (tgt := 129) hx hb d_M_characterOf_107 (by decide) ?_
            exact J129  x0 34 σ _ _ hP hD hS _ (lv_sub hl [0, 1] rfl) hE
        · have hE := hE.2 cc84
          refine lv_bipush (v := 62) hx hb d_M_characterOf_87 (by decide) ?_
          refine lv_goto (tgt := 129) hx hb d_M_characterOf_89 (by decide) ?_
          exact J129  x0 62 σ _ _ hP hD hS _ (lv_sub hl [0, 1] rfl) hE
      · have hE := hE.2 cc67
        refine lv_bipush (v := 60) hx hb d_M_characterOf_70 (by decide) ?_
        refine lv_goto (tgt := 129) hx hb d_M_characterOf_72 (by decide) ?_
        exact J129  x0 60 σ _ _ hP hD hS _ (lv_sub hl [0, 1] rfl) hE
    · have hE := hE.2 cc50
      refine lv_bipush (v := 38) hx hb d_M_characterOf_53 (by decide) ?_
      refine lv_goto (tgt := 129) hx hb d_M_characterOf_55 (by decide) ?_
      exact J129  x0 38 σ _ _ hP hD hS _ (lv_sub hl [0, 1] rfl) hE
  · have hE := hE.2 cc7
    refine lv_aload_n hx hb d_M_characterOf_10 rfl (lv_at hl 0 rfl) ?_
    refine lv_aload_n hx hb d_M_characterOf_11 rfl (lv_at hl 0 rfl) ?_
    refine va_get (D := (mG md)) (ci := 7) (v := .ref (mA md 2)) (C := R_M) (T := F_M) (N := 37) hx hb hta i_M hown hK hP 0 rfl rfl 2 (by decide) (hta _ fl_M_13) (fun _ h9 => h9) rfl d_M_characterOf_12 ?_
    refine lv_iload_n hx hb d_M_characterOf_15 rfl (lv_at hl 1 rfl) ?_
    refine lv_aload_n hx hb d_M_characterOf_16 rfl (lv_at hl 0 rfl) ?_
    refine va_get (D := (mG md)) (ci := 7) (v := .int (mp_size σ)) (C := R_M) (T := F_M) (N := 37) hx hb hta i_M hown hK hP 0 rfl rfl 7 (by decide) (hta _ fl_M_92) (fun _ h9 => h9) rfl d_M_characterOf_17 ?_
    refine mm_i (b0 := (mA md 0)) (As := [.ref (mA md 2), .int x0, .int (mp_size σ)]) (rest := []) ⟨hx, hb, hml, hown, hta⟩ (c_M_characterAt l md _ σ x0 (mp_size σ) _ hE) ok_M_115 ⟨Nat.le_of_ble_eq_true rfl, Nat.le_of_ble_eq_true rfl⟩ (va_recv hK hP (ci := 7) (q0 := 0) rfl rfl) hP hK hD hS hA rfl hl.1 rfl (Nat.le_of_ble_eq_true rfl) d_M_characterOf_20 ⟨Nat.zero_le _, Nat.zero_le _⟩ (fun r20 σ20 H locs hE hP hD hS => ?_)
    refine lv_istore_n (lv' := [(2, .int r20), (0, .ref (mA md 0)), (1, .int x0)]) hx hb d_M_characterOf_23 rfl hl (by decide) rfl (fun ls hl => ?_)
    refine lv_iload_n hx hb d_M_characterOf_24 rfl (lv_at hl 0 rfl) ?_
    refine lv_if_lt (tgt := 35) hx hb d_M_characterOf_25 (by decide) (fun cc25 => ?_) (fun cc25 => ?_)
    · have hE := hE.1 cc25
      exact J35  σ20 _ _ hP hD hS _ (lv_sub hl [] rfl) hE
    · have hE := hE.2 cc25
      refine lv_iload_n hx hb d_M_characterOf_28 rfl (lv_at hl 0 rfl) ?_
      refine ro_S  (As := [.int r20]) (rest := []) ⟨hx, hb, hml, hown, hta⟩ (c_M_isForbidden l r20  _ hE) ok_M_119 ⟨Nat.le_of_ble_eq_true rfl, Nat.le_of_ble_eq_true rfl⟩ blind_true  (fun _ _ _ => trivial) rfl hl.1 rfl (Nat.le_of_ble_eq_true rfl) d_M_characterOf_29 ⟨Nat.zero_le _, Nat.zero_le _⟩ (fun r29 hE => ?_)
      refine lv_if_eq (tgt := 39) hx hb d_M_characterOf_32 (by decide) (fun cc32 => ?_) (fun cc32 => ?_)
      · have hE := hE.1 cc32
        refine lv_iload_n hx hb d_M_characterOf_39 rfl (lv_at hl 0 rfl) ?_
        exact W.iret (v := r20) hx hb hr (fun t ht hW => ⟨⟨_, σ20, rfl, hE, by rw [ht]; exact hP, va_K.moved hW.alike hK, hD⟩, hS.F ht⟩) hS.2.2 d_M_characterOf_40
      · have hE := hE.2 cc32
        exact J35  σ20 _ _ hP hD hS _ (lv_sub hl [] rfl) hE
theorem ok_M_139 : okV "PlainPagesModel" 139 R_M y_M_characterOf b_M_characterOf 7 (some .int) 1 := ⟨aW_in 1101 (by decide +kernel) rfl, aW_in 1103 (by decide +kernel) rfl, aW_in 53 (by decide +kernel) rfl, aW_in 92 (by decide +kernel) rfl, cd_M_characterOf, rfl, by decide +kernel, by decide +kernel, by decide +kernel⟩
theorem d_M_takeCharacter_0 : decode b_M_takeCharacter 0 = .ok (.aload_n 0, 1) := by decide +kernel
theorem d_M_takeCharacter_1 : decode b_M_takeCharacter 1 = .ok (.aload_n 0, 1) := by decide +kernel
theorem d_M_takeCharacter_2 : decode b_M_takeCharacter 2 = .ok (.getfield 101, 3) := by decide +kernel
theorem d_M_takeCharacter_5 : decode b_M_takeCharacter 5 = .ok (.invokevirtual 139, 3) := by decide +kernel
theorem d_M_takeCharacter_8 : decode b_M_takeCharacter 8 = .ok (.ifCond .ge 11, 3) := by decide +kernel
theorem d_M_takeCharacter_11 : decode b_M_takeCharacter 11 = .ok (.aload_n 0, 1) := by decide +kernel
theorem d_M_takeCharacter_12 : decode b_M_takeCharacter 12 = .ok (.iconst 1, 1) := by decide +kernel
theorem d_M_takeCharacter_13 : decode b_M_takeCharacter 13 = .ok (.putfield 111, 3) := by decide +kernel
theorem d_M_takeCharacter_16 : decode b_M_takeCharacter 16 = .ok (.goto 16, 3) := by decide +kernel
theorem d_M_takeCharacter_19 : decode b_M_takeCharacter 19 = .ok (.aload_n 0, 1) := by decide +kernel
theorem d_M_takeCharacter_20 : decode b_M_takeCharacter 20 = .ok (.dup, 1) := by decide +kernel
theorem d_M_takeCharacter_21 : decode b_M_takeCharacter 21 = .ok (.getfield 101, 3) := by decide +kernel
theorem d_M_takeCharacter_24 : decode b_M_takeCharacter 24 = .ok (.aload_n 0, 1) := by decide +kernel
theorem d_M_takeCharacter_25 : decode b_M_takeCharacter 25 = .ok (.getfield 76, 3) := by decide +kernel
theorem d_M_takeCharacter_28 : decode b_M_takeCharacter 28 = .ok (.iadd, 1) := by decide +kernel
theorem d_M_takeCharacter_29 : decode b_M_takeCharacter 29 = .ok (.putfield 101, 3) := by decide +kernel
theorem d_M_takeCharacter_32 : decode b_M_takeCharacter 32 = .ok (.return_, 1) := by decide +kernel
def w_M_takeCharacter  (σ : MPS)  (post : MPS → Prop) : Prop := w_M_characterOf σ (mp_at σ) (fun r5 σ5 => ((0 ≤ r5 → (∀ σ29 : MPS, σ29 = ms_at σ5 ((mp_at σ5) + (mp_width σ5)) → post σ29)) ∧ (¬ 0 ≤ r5 → (∀ σ13 : MPS, σ13 = ms_bad σ5 1 → post σ13))))
set_option maxHeartbeats 4000000 in
set_option maxRecDepth 100000 in
theorem c_M_takeCharacter (l : Launch) (md : MD) (sz : Nat) (σ : MPS)   (post : MPS → Prop) (hE : w_M_takeCharacter σ post) : Met l y_M_takeCharacter ws_M_takeCharacter { frames := 3, cells := 0, slots := 0, locals := 73 } (va_Pc [.ref (mA md 0)] (gM md σ sz)) (va_Qv post (eM md (va_A (MW md σ) sz)) (va_A (MW md σ) sz)) 0 0 (va_A (MW md σ) sz) := by
  refine Met.ofW (cc := b_M_takeCharacter) (maxL := 1) (ret := none) (by decide) rfl ?_
  intro p e s m args below meth c s₁ B hml hv
  obtain ⟨rfl, hsz, hP, hK, hD0⟩ := hv
  have hx := B.exec
  have hb := B.bytes
  have hr := B.returns
  have hta : ∀ w ∈ aW, w.before _ s = true := fun w h => atoms_spec (ws := ws_M_takeCharacter) B.pre w (List.mem_cons_of_mem _ h)
  have hown : s.vm.findClass R_M = some m.cls := findClass_of_methodNamed B.named
  have hlocks := B.notSynchronized
  subst hsz
  have hD := hD0.self (sz := s.heap.size)
  generalize hAe : va_A (MW md σ) s.heap.size = A at hD ⊢
  have hA : ∀ q : Nat, s.heap.size ≤ q → A q := fun q h => by rw [← hAe]; exact Or.inr h
  have hS : va_S A s.heap s.heap [] := va_S.rf
  have hP : va_P (mG md) classes (MW md σ) s.heap := hP
  have hl := lv_entry ([.ref (mA md 0)]) (n := 1) (Nat.le_of_ble_eq_true rfl)
  rw [lg_entry_eq]
  generalize (lg_sl ([.ref (mA md 0)]) ++ List.replicate (1 - (lg_sl ([.ref (mA md 0)])).length) Slot.unset).toArray = ls at hl ⊢
  have hl : lv_has ls 1 [(0, .ref (mA md 0))] := hl
  unfold w_M_takeCharacter at hE
  refine lv_aload_n hx hb d_M_takeCharacter_0 rfl (lv_at hl 0 rfl) ?_
  refine lv_aload_n hx hb d_M_takeCharacter_1 rfl (lv_at hl 0 rfl) ?_
  refine va_get (D := (mG md)) (ci := 7) (v := .int (mp_at σ)) (C := R_M) (T := F_M) (N := 37) hx hb hta i_M hown hK hP 0 rfl rfl 13 (by decide) (hta _ fl_M_101) (fun _ h9 => h9) rfl d_M_takeCharacter_2 ?_
  refine mm_i (b0 := (mA md 0)) (As := [.int (mp_at σ)]) (rest := []) ⟨hx, hb, hml, hown, hta⟩ (c_M_characterOf l md _ σ (mp_at σ) _ hE) ok_M_139 ⟨Nat.le_of_ble_eq_true rfl, Nat.le_of_ble_eq_true rfl⟩ (va_recv hK hP (ci := 7) (q0 := 0) rfl rfl) hP hK hD hS hA rfl hl.1 rfl (Nat.le_of_ble_eq_true rfl) d_M_takeCharacter_5 ⟨Nat.zero_le _, Nat.zero_le _⟩ (fun r5 σ5 H locs hE hP hD hS => ?_)
  refine lv_if_ge (tgt := 19) hx hb d_M_takeCharacter_8 (by decide) (fun cc8 => ?_) (fun cc8 => ?_)
  · have hE := hE.1 cc8
    refine lv_aload_n hx hb d_M_takeCharacter_19 rfl (lv_at hl 0 rfl) ?_
    refine lv_dup hx hb d_M_takeCharacter_20 rfl ?_
    refine va_get (D := (mG md)) (ci := 7) (v := .int (mp_at σ5)) (C := R_M) (T := F_M) (N := 37) hx hb hta i_M hown hK hP 0 rfl rfl 13 (by decide) (hta _ fl_M_101) (fun _ h9 => h9) rfl d_M_takeCharacter_21 ?_
    refine lv_aload_n hx hb d_M_takeCharacter_24 rfl (lv_at hl 0 rfl) ?_
    refine va_get (D := (mG md)) (ci := 7) (v := .int (mp_width σ5)) (C := R_M) (T := F_M) (N := 37) hx hb hta i_M hown hK hP 0 rfl rfl 12 (by decide) (hta _ fl_M_76) (fun _ h9 => h9) rfl d_M_takeCharacter_25 ?_
    refine lv_iadd hx hb d_M_takeCharacter_28 ?_
    refine va_put (D := (mG md)) (ci := 7) (v := .int ((mp_at σ5) + (mp_width σ5))) (ty := .int) (C := R_M) (T := F_M) (N := 37) hx hb hta i_M t_M t_M_ok n_M hown hK hP hD hS 0 rfl rfl 13 (by decide) (hta _ fl_M_101) (fun _ h9 => h9) rfl (by decide +kernel) rfl rfl (Nat.le_of_ble_eq_true rfl) d_M_takeCharacter_29 (fun H locs hP hD hS => ?_)
    have hP : va_P (mG md) classes (MW md (ms_at σ5 ((mp_at σ5) + (mp_width σ5)))) H := hP
    have hD : va_D A (MW md (ms_at σ5 ((mp_at σ5) + (mp_width σ5)))) := hD
    have hE := hE _ rfl
    generalize (ms_at σ5 ((mp_at σ5) + (mp_width σ5)) : MPS) = σ29 at hP hD hE
    exact W.vret hx hb hr (fun t ht hW => ⟨⟨σ29, rfl, hE, by rw [ht]; exact hP, va_K.moved hW.alike hK, hD⟩, hS.F ht⟩) hS.2.2 d_M_takeCharacter_32
  · have hE := hE.2 cc8
    refine lv_aload_n hx hb d_M_takeCharacter_11 rfl (lv_at hl 0 rfl) ?_
    refine lv_iconst (v := 1) hx hb d_M_takeCharacter_12 (by decide) ?_
    refine va_put (D := (mG md)) (ci := 7) (v := .int 1) (ty := .boolean) (C := R_M) (T := F_M) (N := 37) hx hb hta i_M t_M t_M_ok n_M hown hK hP hD hS 0 rfl rfl 16 (by decide) (hta _ fl_M_111) (fun _ h9 => h9) rfl (by decide +kernel) rfl rfl (Nat.le_of_ble_eq_true rfl) d_M_takeCharacter_13 (fun H locs hP hD hS => ?_)
    have hP : va_P (mG md) classes (MW md (ms_bad σ5 1)) H := hP
    have hD : va_D A (MW md (ms_bad σ5 1)) := hD
    have hE := hE _ rfl
    generalize (ms_bad σ5 1 : MPS) = σ13 at hP hD hE
    refine lv_goto (tgt := 32) hx hb d_M_takeCharacter_16 (by decide) ?_
    exact W.vret hx hb hr (fun t ht hW => ⟨⟨σ13, rfl, hE, by rw [ht]; exact hP, va_K.moved hW.alike hK, hD⟩, hS.F ht⟩) hS.2.2 d_M_takeCharacter_32
theorem fl_M_142 : Cond.fieldLink "PlainPagesModel" 142 "PlainPagesModel" "nameAt" "I" ∈ aW := aW_in 923 (by decide +kernel) rfl
theorem fl_M_145 : Cond.fieldLink "PlainPagesModel" 145 "PlainPagesModel" "nameMany" "I" ∈ aW := aW_in 924 (by decide +kernel) rfl
theorem fl_M_148 : Cond.fieldLink "PlainPagesModel" 148 "PlainPagesModel" "valueAt" "I" ∈ aW := aW_in 925 (by decide +kernel) rfl
theorem fl_M_151 : Cond.fieldLink "PlainPagesModel" 151 "PlainPagesModel" "valueEnd" "I" ∈ aW := aW_in 926 (by decide +kernel) rfl
theorem d_M_nextAttribute_0 : decode b_M_nextAttribute 0 = .ok (.iload_n 1, 1) := by decide +kernel
theorem d_M_nextAttribute_1 : decode b_M_nextAttribute 1 = .ok (.istore_n 3, 1) := by decide +kernel
theorem d_M_nextAttribute_2 : decode b_M_nextAttribute 2 = .ok (.aload_n 0, 1) := by decide +kernel
theorem d_M_nextAttribute_3 : decode b_M_nextAttribute 3 = .ok (.iload_n 3, 1) := by decide +kernel
theorem d_M_nextAttribute_4 : decode b_M_nextAttribute 4 = .ok (.invokevirtual 95, 3) := by decide +kernel
theorem d_M_nextAttribute_7 : decode b_M_nextAttribute 7 = .ok (.invokestatic 104, 3) := by decide +kernel
theorem d_M_nextAttribute_10 : decode b_M_nextAttribute 10 = .ok (.ifCond .eq 9, 3) := by decide +kernel
theorem d_M_nextAttribute_13 : decode b_M_nextAttribute 13 = .ok (.iinc 3 1, 3) := by decide +kernel
theorem d_M_nextAttribute_16 : decode b_M_nextAttribute 16 = .ok (.goto (-14), 3) := by decide +kernel
theorem d_M_nextAttribute_19 : decode b_M_nextAttribute 19 = .ok (.iload_n 3, 1) := by decide +kernel
theorem d_M_nextAttribute_20 : decode b_M_nextAttribute 20 = .ok (.iload_n 2, 1) := by decide +kernel
theorem d_M_nextAttribute_21 : decode b_M_nextAttribute 21 = .ok (.if_icmp .ge 15, 3) := by decide +kernel
theorem d_M_nextAttribute_24 : decode b_M_nextAttribute 24 = .ok (.aload_n 0, 1) := by decide +kernel
theorem d_M_nextAttribute_25 : decode b_M_nextAttribute 25 = .ok (.iload_n 3, 1) := by decide +kernel
theorem d_M_nextAttribute_26 : decode b_M_nextAttribute 26 = .ok (.invokevirtual 95, 3) := by decide +kernel
theorem d_M_nextAttribute_29 : decode b_M_nextAttribute 29 = .ok (.iconst 1, 1) := by decide +kernel
theorem d_M_nextAttribute_30 : decode b_M_nextAttribute 30 = .ok (.invokestatic 107, 3) := by decide +kernel
theorem d_M_nextAttribute_33 : decode b_M_nextAttribute 33 = .ok (.ifCond .ne 5, 3) := by decide +kernel
theorem d_M_nextAttribute_36 : decode b_M_nextAttribute 36 = .ok (.iconst 0, 1) := by decide +kernel
theorem d_M_nextAttribute_37 : decode b_M_nextAttribute 37 = .ok (.ireturn, 1) := by decide +kernel
theorem d_M_nextAttribute_38 : decode b_M_nextAttribute 38 = .ok (.aload_n 0, 1) := by decide +kernel
theorem d_M_nextAttribute_39 : decode b_M_nextAttribute 39 = .ok (.iload_n 3, 1) := by decide +kernel
theorem d_M_nextAttribute_40 : decode b_M_nextAttribute 40 = .ok (.putfield 142, 3) := by decide +kernel
theorem d_M_nextAttribute_43 : decode b_M_nextAttribute 43 = .ok (.aload_n 0, 1) := by decide +kernel
theorem d_M_nextAttribute_44 : decode b_M_nextAttribute 44 = .ok (.iload_n 3, 1) := by decide +kernel
theorem d_M_nextAttribute_45 : decode b_M_nextAttribute 45 = .ok (.invokevirtual 95, 3) := by decide +kernel
theorem d_M_nextAttribute_48 : decode b_M_nextAttribute 48 = .ok (.iconst 0, 1) := by decide +kernel
theorem d_M_nextAttribute_49 : decode b_M_nextAttribute 49 = .ok (.invokestatic 107, 3) := by decide +kernel
theorem d_M_nextAttribute_52 : decode b_M_nextAttribute 52 = .ok (.ifCond .eq 9, 3) := by decide +kernel
theorem d_M_nextAttribute_55 : decode b_M_nextAttribute 55 = .ok (.iinc 3 1, 3) := by decide +kernel
theorem d_M_nextAttribute_58 : decode b_M_nextAttribute 58 = .ok (.goto (-15), 3) := by decide +kernel
theorem d_M_nextAttribute_61 : decode b_M_nextAttribute 61 = .ok (.aload_n 0, 1) := by decide +kernel
theorem d_M_nextAttribute_62 : decode b_M_nextAttribute 62 = .ok (.iload_n 3, 1) := by decide +kernel
theorem d_M_nextAttribute_63 : decode b_M_nextAttribute 63 = .ok (.aload_n 0, 1) := by decide +kernel
theorem d_M_nextAttribute_64 : decode b_M_nextAttribute 64 = .ok (.getfield 142, 3) := by decide +kernel
theorem d_M_nextAttribute_67 : decode b_M_nextAttribute 67 = .ok (.isub, 1) := by decide +kernel
theorem d_M_nextAttribute_68 : decode b_M_nextAttribute 68 = .ok (.putfield 145, 3) := by decide +kernel
theorem d_M_nextAttribute_71 : decode b_M_nextAttribute 71 = .ok (.iinc 3 2, 3) := by decide +kernel
theorem d_M_nextAttribute_74 : decode b_M_nextAttribute 74 = .ok (.aload_n 0, 1) := by decide +kernel
theorem d_M_nextAttribute_75 : decode b_M_nextAttribute 75 = .ok (.iload_n 3, 1) := by decide +kernel
theorem d_M_nextAttribute_76 : decode b_M_nextAttribute 76 = .ok (.putfield 148, 3) := by decide +kernel
theorem d_M_nextAttribute_79 : decode b_M_nextAttribute 79 = .ok (.aload_n 0, 1) := by decide +kernel
theorem d_M_nextAttribute_80 : decode b_M_nextAttribute 80 = .ok (.iload_n 3, 1) := by decide +kernel
theorem d_M_nextAttribute_81 : decode b_M_nextAttribute 81 = .ok (.invokevirtual 95, 3) := by decide +kernel
theorem d_M_nextAttribute_84 : decode b_M_nextAttribute 84 = .ok (.bipush 34, 2) := by decide +kernel
theorem d_M_nextAttribute_86 : decode b_M_nextAttribute 86 = .ok (.if_icmp .eq 9, 3) := by decide +kernel
theorem d_M_nextAttribute_89 : decode b_M_nextAttribute 89 = .ok (.iinc 3 1, 3) := by decide +kernel
theorem d_M_nextAttribute_92 : decode b_M_nextAttribute 92 = .ok (.goto (-13), 3) := by decide +kernel
theorem d_M_nextAttribute_95 : decode b_M_nextAttribute 95 = .ok (.aload_n 0, 1) := by decide +kernel
theorem d_M_nextAttribute_96 : decode b_M_nextAttribute 96 = .ok (.iload_n 3, 1) := by decide +kernel
theorem d_M_nextAttribute_97 : decode b_M_nextAttribute 97 = .ok (.putfield 151, 3) := by decide +kernel
theorem d_M_nextAttribute_100 : decode b_M_nextAttribute 100 = .ok (.iconst 1, 1) := by decide +kernel
theorem d_M_nextAttribute_101 : decode b_M_nextAttribute 101 = .ok (.ireturn, 1) := by decide +kernel
def w_M_nextAttribute_L79   (post : Int32 → MPS → Prop) : Nat → Int32 → MPS → Prop
  | 0, _, _ => False
  | n + 1, v3, σ => w_M_x σ v3 (fun r81 => ((r81 = 34 → (∀ σ97 : MPS, σ97 = ms_valueEnd σ v3 → post 1 σ97)) ∧ (¬ r81 = 34 → w_M_nextAttribute_L79 post n (v3 + 1) σ)))
def w_M_nextAttribute_L43   (post : Int32 → MPS → Prop) : Nat → Int32 → MPS → Prop
  | 0, _, _ => False
  | n + 1, v3, σ => w_M_x σ v3 (fun r45 => w_M_isNameSign  r45 0 (fun r49 => ((r49 = 0 → (∀ σ68 : MPS, σ68 = ms_nameMany σ (v3 - (mp_nameAt σ)) → (∀ σ76 : MPS, σ76 = ms_valueAt σ68 (v3 + 2) → (∃ n, w_M_nextAttribute_L79 post n (v3 + 2) σ76)))) ∧ (¬ r49 = 0 → w_M_nextAttribute_L43 post n (v3 + 1) σ))))
def w_M_nextAttribute_L2  (v2 : Int32) (post : Int32 → MPS → Prop) : Nat → Int32 → MPS → Prop
  | 0, _, _ => False
  | n + 1, v3, σ => w_M_x σ v3 (fun r4 => w_M_isWhite  r4 (fun r7 => ((r7 = 0 → ((v2 ≤ v3 → post 0 σ) ∧ (¬ v2 ≤ v3 → w_M_x σ v3 (fun r26 => w_M_isNameSign  r26 1 (fun r30 => ((r30 = 0 → post 0 σ) ∧ (¬ r30 = 0 → (∀ σ40 : MPS, σ40 = ms_nameAt σ v3 → (∃ n, w_M_nextAttribute_L43 post n v3 σ40))))))))) ∧ (¬ r7 = 0 → w_M_nextAttribute_L2 v2 post n (v3 + 1) σ))))
def w_M_nextAttribute  (σ : MPS) (x0 : Int32) (x1 : Int32) (post : Int32 → MPS → Prop) : Prop := (∃ n, w_M_nextAttribute_L2 x1 post n x0 σ)
set_option maxHeartbeats 4000000 in
set_option maxRecDepth 100000 in
theorem c_M_nextAttribute (l : Launch) (md : MD) (sz : Nat) (σ : MPS) (x0 : Int32) (x1 : Int32)  (post : Int32 → MPS → Prop) (hE : w_M_nextAttribute σ x0 x1 post) : Met l y_M_nextAttribute ws_M_nextAttribute { frames := 2, cells := 0, slots := 0, locals := 41 } (va_Pc [.ref (mA md 0), .int x0, .int x1] (gM md σ sz)) (va_Qi post (eM md (va_A (MW md σ) sz)) (va_A (MW md σ) sz)) 0 0 (va_A (MW md σ) sz) := by
  refine Met.ofW (cc := b_M_nextAttribute) (maxL := 4) (ret := (some .boolean)) (by decide) rfl ?_
  intro p e s m args below meth c s₁ B hml hv
  obtain ⟨rfl, hsz, hP, hK, hD0⟩ := hv
  have hx := B.exec
  have hb := B.bytes
  have hr := B.returns
  have hta : ∀ w ∈ aW, w.before _ s = true := fun w h => atoms_spec (ws := ws_M_nextAttribute) B.pre w (List.mem_cons_of_mem _ h)
  have hown : s.vm.findClass R_M = some m.cls := findClass_of_methodNamed B.named
  have hlocks := B.notSynchronized
  subst hsz
  have hD := hD0.self (sz := s.heap.size)
  generalize hAe : va_A (MW md σ) s.heap.size = A at hD ⊢
  have hA : ∀ q : Nat, s.heap.size ≤ q → A q := fun q h => by rw [← hAe]; exact Or.inr h
  have hS : va_S A s.heap s.heap [] := va_S.rf
  have hP : va_P (mG md) classes (MW md σ) s.heap := hP
  have hl := lv_entry ([.ref (mA md 0), .int x0, .int x1]) (n := 4) (Nat.le_of_ble_eq_true rfl)
  rw [lg_entry_eq]
  generalize (lg_sl ([.ref (mA md 0), .int x0, .int x1]) ++ List.replicate (4 - (lg_sl ([.ref (mA md 0), .int x0, .int x1])).length) Slot.unset).toArray = ls at hl ⊢
  have hl : lv_has ls 4 [(0, .ref (mA md 0)), (1, .int x0), (2, .int x1)] := hl
  have L79 : ∀ (n : Nat) (v3 : Int32) (σ : MPS) (H : Heap) (locs : List Loc) (hP : va_P (mG md) classes (MW md σ) H) (hD : va_D A (MW md σ)) (hS : va_S A s.heap H locs) (ls : Array Slot) (hl : lv_has ls 4 [(0, .ref (mA md 0)), (3, .int v3)]) (hE : w_M_nextAttribute_L79 post n v3 σ), W p l e (headSpec ws_M_nextAttribute { frames := 2, cells := 0, slots := 0, locals := 41 }).room s m ([.ref (mA md 0), .int x0, .int x1] : List Value).toArray below meth c H locs 0 0 (MQ below (va_Qi post (eM md A) A) ([.ref (mA md 0), .int x0, .int x1] : List Value).toArray s 0 0 A) (F0 m 79 ls []) := by
    intro n
    induction n with
    | zero => intro v3 σ H locs hP hD hS ls hl hE; exact hE.elim
    | succ n ih79 =>
      intro v3 σ H locs hP hD hS ls hl hE
      unfold w_M_nextAttribute_L79 at hE
      refine lv_aload_n hx hb d_M_nextAttribute_79 rfl (lv_at hl 0 rfl) ?_
      refine lv_iload_n hx hb d_M_nextAttribute_80 rfl (lv_at hl 1 rfl) ?_
      refine ro_V (b0 := (mA md 0)) (As := [.int v3]) (rest := []) ⟨hx, hb, hml, hown, hta⟩ (c_M_x l md σ v3  _ hE) ok_M_95 ⟨Nat.le_of_ble_eq_true rfl, Nat.le_of_ble_eq_true rfl⟩ blind_rM (va_recv hK hP (ci := 7) (q0 := 0) rfl rfl) (rM_of hP hK) rfl hl.1 rfl (Nat.le_of_ble_eq_true rfl) d_M_nextAttribute_81 ⟨Nat.zero_le _, Nat.zero_le _⟩ (fun r81 hE => ?_)
      refine lv_bipush (v := 34) hx hb d_M_nextAttribute_84 (by decide) ?_
      refine lv_icmp_eq (tgt := 95) hx hb d_M_nextAttribute_86 (by decide) (fun cc86 => ?_) (fun cc86 => ?_)
      · have hE := hE.1 cc86
        refine lv_aload_n hx hb d_M_nextAttribute_95 rfl (lv_at hl 0 rfl) ?_
        refine lv_iload_n hx hb d_M_nextAttribute_96 rfl (lv_at hl 1 rfl) ?_
        refine va_put (D := (mG md)) (ci := 7) (v := .int v3) (ty := .int) (C := R_M) (T := F_M) (N := 37) hx hb hta i_M t_M t_M_ok n_M hown hK hP hD hS 0 rfl rfl 22 (by decide) (hta _ fl_M_151) (fun _ h9 => h9) rfl (by decide +kernel) rfl rfl (Nat.le_of_ble_eq_true rfl) d_M_nextAttribute_97 (fun H locs hP hD hS => ?_)
        have hP : va_P (mG md) classes (MW md (ms_valueEnd σ v3)) H := hP
        have hD : va_D A (MW md (ms_valueEnd σ v3)) := hD
        have hE := hE _ rfl
        generalize (ms_valueEnd σ v3 : MPS) = σ97 at hP hD hE
        refine lv_iconst (v := 1) hx hb d_M_nextAttribute_100 (by decide) ?_
        exact W.zret (v := 1) hx hb hr rfl (fun t ht hW => ⟨⟨_, σ97, rfl, hE, by rw [ht]; exact hP, va_K.moved hW.alike hK, hD⟩, hS.F ht⟩) hS.2.2 d_M_nextAttribute_101
      · have hE := hE.2 cc86
        refine lv_iinc (v := v3 + 1) (lv' := [(3, .int (v3 + 1)), (0, .ref (mA md 0))]) hx hb d_M_nextAttribute_89 hl (k := 1) rfl rfl (by decide) rfl (fun ls hl => ?_)
        refine lv_goto (tgt := 79) hx hb d_M_nextAttribute_92 (by decide) ?_
        exact ih79 (v3 + 1) σ _ _ hP hD hS _ (lv_sub hl [1, 0] rfl) hE
  have L43 : ∀ (n : Nat) (v3 : Int32) (σ : MPS) (H : Heap) (locs : List Loc) (hP : va_P (mG md) classes (MW md σ) H) (hD : va_D A (MW md σ)) (hS : va_S A s.heap H locs) (ls : Array Slot) (hl : lv_has ls 4 [(0, .ref (mA md 0)), (3, .int v3)]) (hE : w_M_nextAttribute_L43 post n v3 σ), W p l e (headSpec ws_M_nextAttribute { frames := 2, cells := 0, slots := 0, locals := 41 }).room s m ([.ref (mA md 0), .int x0, .int x1] : List Value).toArray below meth c H locs 0 0 (MQ below (va_Qi post (eM md A) A) ([.ref (mA md 0), .int x0, .int x1] : List Value).toArray s 0 0 A) (F0 m 43 ls []) := by
    intro n
    induction n with
    | zero => intro v3 σ H locs hP hD hS ls hl hE; exact hE.elim
    | succ n ih43 =>
      intro v3 σ H locs hP hD hS ls hl hE
      unfold w_M_nextAttribute_L43 at hE
      refine lv_aload_n hx hb d_M_nextAttribute_43 rfl (lv_at hl 0 rfl) ?_
      refine lv_iload_n hx hb d_M_nextAttribute_44 rfl (lv_at hl 1 rfl) ?_
      refine ro_V (b0 := (mA md 0)) (As := [.int v3]) (rest := []) ⟨hx, hb, hml, hown, hta⟩ (c_M_x l md σ v3  _ hE) ok_M_95 ⟨Nat.le_of_ble_eq_true rfl, Nat.le_of_ble_eq_true rfl⟩ blind_rM (va_recv hK hP (ci := 7) (q0 := 0) rfl rfl) (rM_of hP hK) rfl hl.1 rfl (Nat.le_of_ble_eq_true rfl) d_M_nextAttribute_45 ⟨Nat.zero_le _, Nat.zero_le _⟩ (fun r45 hE => ?_)
      refine lv_iconst (v := 0) hx hb d_M_nextAttribute_48 (by decide) ?_
      refine ro_S  (As := [.int r45, .int 0]) (rest := []) ⟨hx, hb, hml, hown, hta⟩ (c_M_isNameSign l r45 0  _ hE) ok_M_107 ⟨Nat.le_of_ble_eq_true rfl, Nat.le_of_ble_eq_true rfl⟩ blind_true  (fun _ _ _ => trivial) rfl hl.1 rfl (Nat.le_of_ble_eq_true rfl) d_M_nextAttribute_49 ⟨Nat.zero_le _, Nat.zero_le _⟩ (fun r49 hE => ?_)
      refine lv_if_eq (tgt := 61) hx hb d_M_nextAttribute_52 (by decide) (fun cc52 => ?_) (fun cc52 => ?_)
      · have hE := hE.1 cc52
        refine lv_aload_n hx hb d_M_nextAttribute_61 rfl (lv_at hl 0 rfl) ?_
        refine lv_iload_n hx hb d_M_nextAttribute_62 rfl (lv_at hl 1 rfl) ?_
        refine lv_aload_n hx hb d_M_nextAttribute_63 rfl (lv_at hl 0 rfl) ?_
        refine va_get (D := (mG md)) (ci := 7) (v := .int (mp_nameAt σ)) (C := R_M) (T := F_M) (N := 37) hx hb hta i_M hown hK hP 0 rfl rfl 19 (by decide) (hta _ fl_M_142) (fun _ h9 => h9) rfl d_M_nextAttribute_64 ?_
        refine lv_isub hx hb d_M_nextAttribute_67 ?_
        refine va_put (D := (mG md)) (ci := 7) (v := .int (v3 - (mp_nameAt σ))) (ty := .int) (C := R_M) (T := F_M) (N := 37) hx hb hta i_M t_M t_M_ok n_M hown hK hP hD hS 0 rfl rfl 20 (by decide) (hta _ fl_M_145) (fun _ h9 => h9) rfl (by decide +kernel) rfl rfl (Nat.le_of_ble_eq_true rfl) d_M_nextAttribute_68 (fun H locs hP hD hS => ?_)
        have hP : va_P (mG md) classes (MW md (ms_nameMany σ (v3 - (mp_nameAt σ)))) H := hP
        have hD : va_D A (MW md (ms_nameMany σ (v3 - (mp_nameAt σ)))) := hD
        have hE := hE _ rfl
        generalize (ms_nameMany σ (v3 - (mp_nameAt σ)) : MPS) = σ68 at hP hD hE
        refine lv_iinc (v := v3 + 2) (lv' := [(3, .int (v3 + 2)), (0, .ref (mA md 0))]) hx hb d_M_nextAttribute_71 hl (k := 1) rfl rfl (by decide) rfl (fun ls hl => ?_)
        refine lv_aload_n hx hb d_M_nextAttribute_74 rfl (lv_at hl 1 rfl) ?_
        refine lv_iload_n hx hb d_M_nextAttribute_75 rfl (lv_at hl 0 rfl) ?_
        refine va_put (D := (mG md)) (ci := 7) (v := .int (v3 + 2)) (ty := .int) (C := R_M) (T := F_M) (N := 37) hx hb hta i_M t_M t_M_ok n_M hown hK hP hD hS 0 rfl rfl 21 (by decide) (hta _ fl_M_148) (fun _ h9 => h9) rfl (by decide +kernel) rfl rfl (Nat.le_of_ble_eq_true rfl) d_M_nextAttribute_76 (fun H locs hP hD hS => ?_)
        have hP : va_P (mG md) classes (MW md (ms_valueAt σ68 (v3 + 2))) H := hP
        have hD : va_D A (MW md (ms_valueAt σ68 (v3 + 2))) := hD
        have hE := hE _ rfl
        generalize (ms_valueAt σ68 (v3 + 2) : MPS) = σ76 at hP hD hE
        obtain ⟨n, hE⟩ := hE
        exact L79  n (v3 + 2) σ76 _ _ hP hD hS _ (lv_sub hl [1, 0] rfl) hE
      · have hE := hE.2 cc52
        refine lv_iinc (v := v3 + 1) (lv' := [(3, .int (v3 + 1)), (0, .ref (mA md 0))]) hx hb d_M_nextAttribute_55 hl (k := 1) rfl rfl (by decide) rfl (fun ls hl => ?_)
        refine lv_goto (tgt := 43) hx hb d_M_nextAttribute_58 (by decide) ?_
        exact ih43 (v3 + 1) σ _ _ hP hD hS _ (lv_sub hl [1, 0] rfl) hE
  have L2 : ∀ (v2 : Int32) (n : Nat) (v3 : Int32) (σ : MPS) (H : Heap) (locs : List Loc) (hP : va_P (mG md) classes (MW md σ) H) (hD : va_D A (MW md σ)) (hS : va_S A s.heap H locs) (ls : Array Slot) (hl : lv_has ls 4 [(0, .ref (mA md 0)), (2, .int v2), (3, .int v3)]) (hE : w_M_nextAttribute_L2 v2 post n v3 σ), W p l e (headSpec ws_M_nextAttribute { frames := 2, cells := 0, slots := 0, locals := 41 }).room s m ([.ref (mA md 0), .int x0, .int x1] : List Value).toArray below meth c H locs 0 0 (MQ below (va_Qi post (eM md A) A) ([.ref (mA md 0), .int x0, .int x1] : List Value).toArray s 0 0 A) (F0 m 2 ls []) := by
    intro v2 n
    induction n with
    | zero => intro v3 σ H locs hP hD hS ls hl hE; exact hE.elim
    | succ n ih2 =>
      intro v3 σ H locs hP hD hS ls hl hE
      unfold w_M_nextAttribute_L2 at hE
      refine lv_aload_n hx hb d_M_nextAttribute_2 rfl (lv_at hl 0 rfl) ?_
      refine lv_iload_n hx hb d_M_nextAttribute_3 rfl (lv_at hl 2 rfl) ?_
      refine ro_V (b0 := (mA md 0)) (As := [.int v3]) (rest := []) ⟨hx, hb, hml, hown, hta⟩ (c_M_x l md σ v3  _ hE) ok_M_95 ⟨Nat.le_of_ble_eq_true rfl, Nat.le_of_ble_eq_true rfl⟩ blind_rM (va_recv hK hP (ci := 7) (q0 := 0) rfl rfl) (rM_of hP hK) rfl hl.1 rfl (Nat.le_of_ble_eq_true rfl) d_M_nextAttribute_4 ⟨Nat.zero_le _, Nat.zero_le _⟩ (fun r4 hE => ?_)
      refine ro_S  (As := [.int r4]) (rest := []) ⟨hx, hb, hml, hown, hta⟩ (c_M_isWhite l r4  _ hE) ok_M_104 ⟨Nat.le_of_ble_eq_true rfl, Nat.le_of_ble_eq_true rfl⟩ blind_true  (fun _ _ _ => trivial) rfl hl.1 rfl (Nat.le_of_ble_eq_true rfl) d_M_nextAttribute_7 ⟨Nat.zero_le _, Nat.zero_le _⟩ (fun r7 hE => ?_)
      refine lv_if_eq (tgt := 19) hx hb d_M_nextAttribute_10 (by decide) (fun cc10 => ?_) (fun cc10 => ?_)
      · have hE := hE.1 cc10
        refine lv_iload_n hx hb d_M_nextAttribute_19 rfl (lv_at hl 2 rfl) ?_
        refine lv_iload_n hx hb d_M_nextAttribute_20 rfl (lv_at hl 1 rfl) ?_
        refine lv_icmp_ge (tgt := 36) hx hb d_M_nextAttribute_21 (by decide) (fun cc21 => ?_) (fun cc21 => ?_)
        · have hE := hE.1 cc21
          refine lv_iconst (v := 0) hx hb d_M_nextAttribute_36 (by decide) ?_
          exact W.zret (v := 0) hx hb hr rfl (fun t ht hW => ⟨⟨_, σ, rfl, hE, by rw [ht]; exact hP, va_K.moved hW.alike hK, hD⟩, hS.F ht⟩) hS.2.2 d_M_nextAttribute_37
        · have hE := hE.2 cc21
          refine lv_aload_n hx hb d_M_nextAttribute_24 rfl (lv_at hl 0 rfl) ?_
          refine lv_iload_n hx hb d_M_nextAttribute_25 rfl (lv_at hl 2 rfl) ?_
          refine ro_V (b0 := (mA md 0)) (As := [.int v3]) (rest := []) ⟨hx, hb, hml, hown, hta⟩ (c_M_x l md σ v3  _ hE) ok_M_95 ⟨Nat.le_of_ble_eq_true rfl, Nat.le_of_ble_eq_true rfl⟩ blind_rM (va_recv hK hP (ci := 7) (q0 := 0) rfl rfl) (rM_of hP hK) rfl hl.1 rfl (Nat.le_of_ble_eq_true rfl) d_M_nextAttribute_26 ⟨Nat.zero_le _, Nat.zero_le _⟩ (fun r26 hE => ?_)
          refine lv_iconst (v := 1) hx hb d_M_nextAttribute_29 (by decide) ?_
          refine ro_S  (As := [.int r26, .int 1]) (rest := []) ⟨hx, hb, hml, hown, hta⟩ (c_M_isNameSign l r26 1  _ hE) ok_M_107 ⟨Nat.le_of_ble_eq_true rfl, Nat.le_of_ble_eq_true rfl⟩ blind_true  (fun _ _ _ => trivial) rfl hl.1 rfl (Nat.le_of_ble_eq_true rfl) d_M_nextAttribute_30 ⟨Nat.zero_le _, Nat.zero_le _⟩ (fun r30 hE => ?_)
          refine lv_if_ne (tgt := 38) hx hb d_M_nextAttribute_33 (by decide) (fun cc33 => ?_) (fun cc33 => ?_)
          · have hE := hE.2 cc33
            refine lv_aload_n hx hb d_M_nextAttribute_38 rfl (lv_at hl 0 rfl) ?_
            refine lv_iload_n hx hb d_M_nextAttribute_39 rfl (lv_at hl 2 rfl) ?_
            refine va_put (D := (mG md)) (ci := 7) (v := .int v3) (ty := .int) (C := R_M) (T := F_M) (N := 37) hx hb hta i_M t_M t_M_ok n_M hown hK hP hD hS 0 rfl rfl 19 (by decide) (hta _ fl_M_142) (fun _ h9 => h9) rfl (by decide +kernel) rfl rfl (Nat.le_of_ble_eq_true rfl) d_M_nextAttribute_40 (fun H locs hP hD hS => ?_)
            have hP : va_P (mG md) classes (MW md (ms_nameAt σ v3)) H := hP
            have hD : va_D A (MW md (ms_nameAt σ v3)) := hD
            have hE := hE _ rfl
            generalize (ms_nameAt σ v3 : MPS) = σ40 at hP hD hE
            obtain ⟨n, hE⟩ := hE
            exact L43  n v3 σ40 _ _ hP hD hS _ (lv_sub hl [0, 2] rfl) hE
          · have hE := hE.1 cc33
            refine lv_iconst (v := 0) hx hb d_M_nextAttribute_36 (by decide) ?_
            exact W.zret (v := 0) hx hb hr rfl (fun t ht hW => ⟨⟨_, σ, rfl, hE, by rw [ht]; exact hP, va_K.moved hW.alike hK, hD⟩, hS.F ht⟩) hS.2.2 d_M_nextAttribute_37
      · have hE := hE.2 cc10
        refine lv_iinc (v := v3 + 1) (lv' := [(3, .int (v3 + 1)), (0, .ref (mA md 0)), (2, .int v2)]) hx hb d_M_nextAttribute_13 hl (k := 2) rfl rfl (by decide) rfl (fun ls hl => ?_)
        refine lv_goto (tgt := 2) hx hb d_M_nextAttribute_16 (by decide) ?_
        exact ih2 (v3 + 1) σ _ _ hP hD hS _ (lv_sub hl [1, 2, 0] rfl) hE
  unfold w_M_nextAttribute at hE
  refine lv_iload_n hx hb d_M_nextAttribute_0 rfl (lv_at hl 1 rfl) ?_
  refine lv_istore_n (lv' := [(3, .int x0), (0, .ref (mA md 0)), (1, .int x0), (2, .int x1)]) hx hb d_M_nextAttribute_1 rfl hl (by decide) rfl (fun ls hl => ?_)
  obtain ⟨n, hE⟩ := hE
  exact L2 x1 n x0 σ _ _ hP hD hS _ (lv_sub hl [1, 3, 0] rfl) hE
theorem ok_M_157 : okV "PlainPagesModel" 157 R_M y_M_nextAttribute b_M_nextAttribute 4 (some .boolean) 2 := ⟨aW_in 1089 (by decide +kernel) rfl, aW_in 1091 (by decide +kernel) rfl, aW_in 50 (by decide +kernel) rfl, aW_in 92 (by decide +kernel) rfl, cd_M_nextAttribute, rfl, by decide +kernel, by decide +kernel, by decide +kernel⟩
theorem ok_M_161 : okV "PlainPagesModel" 161 R_M y_M_areAlike b_M_areAlike 6 (some .boolean) 3 := ⟨aW_in 1093 (by decide +kernel) rfl, aW_in 1095 (by decide +kernel) rfl, aW_in 51 (by decide +kernel) rfl, aW_in 92 (by decide +kernel) rfl, cd_M_areAlike, rfl, by decide +kernel, by decide +kernel, by decide +kernel⟩
theorem d_M_wasHad_0 : decode b_M_wasHad 0 = .ok (.iconst 0, 1) := by decide +kernel
theorem d_M_wasHad_1 : decode b_M_wasHad 1 = .ok (.istore 4, 2) := by decide +kernel
theorem d_M_wasHad_3 : decode b_M_wasHad 3 = .ok (.aload_n 0, 1) := by decide +kernel
theorem d_M_wasHad_4 : decode b_M_wasHad 4 = .ok (.iload_n 1, 1) := by decide +kernel
theorem d_M_wasHad_5 : decode b_M_wasHad 5 = .ok (.invokevirtual 154, 3) := by decide +kernel
theorem d_M_wasHad_8 : decode b_M_wasHad 8 = .ok (.istore 5, 2) := by decide +kernel
theorem d_M_wasHad_10 : decode b_M_wasHad 10 = .ok (.iload 4, 2) := by decide +kernel
theorem d_M_wasHad_12 : decode b_M_wasHad 12 = .ok (.ifCond .ne 52, 3) := by decide +kernel
theorem d_M_wasHad_15 : decode b_M_wasHad 15 = .ok (.aload_n 0, 1) := by decide +kernel
theorem d_M_wasHad_16 : decode b_M_wasHad 16 = .ok (.iload 5, 2) := by decide +kernel
theorem d_M_wasHad_18 : decode b_M_wasHad 18 = .ok (.iload_n 2, 1) := by decide +kernel
theorem d_M_wasHad_19 : decode b_M_wasHad 19 = .ok (.invokevirtual 157, 3) := by decide +kernel
theorem d_M_wasHad_22 : decode b_M_wasHad 22 = .ok (.ifCond .eq 42, 3) := by decide +kernel
theorem d_M_wasHad_25 : decode b_M_wasHad 25 = .ok (.aload_n 0, 1) := by decide +kernel
theorem d_M_wasHad_26 : decode b_M_wasHad 26 = .ok (.getfield 145, 3) := by decide +kernel
theorem d_M_wasHad_29 : decode b_M_wasHad 29 = .ok (.iload_n 3, 1) := by decide +kernel
theorem d_M_wasHad_30 : decode b_M_wasHad 30 = .ok (.if_icmp .ne 20, 3) := by decide +kernel
theorem d_M_wasHad_33 : decode b_M_wasHad 33 = .ok (.aload_n 0, 1) := by decide +kernel
theorem d_M_wasHad_34 : decode b_M_wasHad 34 = .ok (.aload_n 0, 1) := by decide +kernel
theorem d_M_wasHad_35 : decode b_M_wasHad 35 = .ok (.getfield 142, 3) := by decide +kernel
theorem d_M_wasHad_38 : decode b_M_wasHad 38 = .ok (.iload_n 2, 1) := by decide +kernel
theorem d_M_wasHad_39 : decode b_M_wasHad 39 = .ok (.iload_n 3, 1) := by decide +kernel
theorem d_M_wasHad_40 : decode b_M_wasHad 40 = .ok (.invokevirtual 161, 3) := by decide +kernel
theorem d_M_wasHad_43 : decode b_M_wasHad 43 = .ok (.ifCond .eq 7, 3) := by decide +kernel
theorem d_M_wasHad_46 : decode b_M_wasHad 46 = .ok (.iconst 1, 1) := by decide +kernel
theorem d_M_wasHad_47 : decode b_M_wasHad 47 = .ok (.goto 4, 3) := by decide +kernel
theorem d_M_wasHad_50 : decode b_M_wasHad 50 = .ok (.iconst 0, 1) := by decide +kernel
theorem d_M_wasHad_51 : decode b_M_wasHad 51 = .ok (.istore 4, 2) := by decide +kernel
theorem d_M_wasHad_53 : decode b_M_wasHad 53 = .ok (.aload_n 0, 1) := by decide +kernel
theorem d_M_wasHad_54 : decode b_M_wasHad 54 = .ok (.getfield 151, 3) := by decide +kernel
theorem d_M_wasHad_57 : decode b_M_wasHad 57 = .ok (.iconst 1, 1) := by decide +kernel
theorem d_M_wasHad_58 : decode b_M_wasHad 58 = .ok (.iadd, 1) := by decide +kernel
theorem d_M_wasHad_59 : decode b_M_wasHad 59 = .ok (.istore 5, 2) := by decide +kernel
theorem d_M_wasHad_61 : decode b_M_wasHad 61 = .ok (.goto (-51), 3) := by decide +kernel
theorem d_M_wasHad_64 : decode b_M_wasHad 64 = .ok (.iload 4, 2) := by decide +kernel
theorem d_M_wasHad_66 : decode b_M_wasHad 66 = .ok (.ireturn, 1) := by decide +kernel
def w_M_wasHad_J51  (v2 : Int32) (v3 : Int32) (K : Int32 → Int32 → MPS → Prop) (post : Int32 → MPS → Prop) (t0 : Int32) (σ : MPS) : Prop := K t0 ((mp_valueEnd σ) + 1) σ
def w_M_wasHad_J50  (v2 : Int32) (v3 : Int32) (K : Int32 → Int32 → MPS → Prop) (post : Int32 → MPS → Prop) (σ : MPS) : Prop := w_M_wasHad_J51 v2 v3 (K) post 0 σ
def w_M_wasHad_L10  (v2 : Int32) (v3 : Int32) (post : Int32 → MPS → Prop) : Nat → Int32 → Int32 → MPS → Prop
  | 0, _, _, _ => False
  | n + 1, v4, v5, σ => ((v4 = 0 → w_M_nextAttribute σ v5 v2 (fun r19 σ19 => ((r19 = 0 → (narrow .boolean (.int v4) = .int v4 ∧ post v4 σ19)) ∧ (¬ r19 = 0 → (((mp_nameMany σ19) = v3 → w_M_areAlike σ19 (mp_nameAt σ19) v2 v3 (fun r40 => ((r40 = 0 → w_M_wasHad_J50 v2 v3 (w_M_wasHad_L10 v2 v3 post n) post σ19) ∧ (¬ r40 = 0 → w_M_wasHad_J51 v2 v3 (w_M_wasHad_L10 v2 v3 post n) post 1 σ19)))) ∧ (¬ (mp_nameMany σ19) = v3 → w_M_wasHad_J50 v2 v3 (w_M_wasHad_L10 v2 v3 post n) post σ19)))))) ∧ (¬ v4 = 0 → (narrow .boolean (.int v4) = .int v4 ∧ post v4 σ)))
def w_M_wasHad  (σ : MPS) (x0 : Int32) (x1 : Int32) (x2 : Int32) (post : Int32 → MPS → Prop) : Prop := w_M_behindName σ x0 (fun r5 => (∃ n, w_M_wasHad_L10 x1 x2 post n 0 r5 σ))
set_option maxHeartbeats 4000000 in
set_option maxRecDepth 100000 in
theorem c_M_wasHad (l : Launch) (md : MD) (sz : Nat) (σ : MPS) (x0 : Int32) (x1 : Int32) (x2 : Int32)  (post : Int32 → MPS → Prop) (hE : w_M_wasHad σ x0 x1 x2 post) : Met l y_M_wasHad ws_M_wasHad { frames := 3, cells := 0, slots := 0, locals := 64 } (va_Pc [.ref (mA md 0), .int x0, .int x1, .int x2] (gM md σ sz)) (va_Qi post (eM md (va_A (MW md σ) sz)) (va_A (MW md σ) sz)) 0 0 (va_A (MW md σ) sz) := by
  refine Met.ofW (cc := b_M_wasHad) (maxL := 6) (ret := (some .boolean)) (by decide) rfl ?_
  intro p e s m args below meth c s₁ B hml hv
  obtain ⟨rfl, hsz, hP, hK, hD0⟩ := hv
  have hx := B.exec
  have hb := B.bytes
  have hr := B.returns
  have hta : ∀ w ∈ aW, w.before _ s = true := fun w h => atoms_spec (ws := ws_M_wasHad) B.pre w (List.mem_cons_of_mem _ h)
  have hown : s.vm.findClass R_M = some m.cls := findClass_of_methodNamed B.named
  have hlocks := B.notSynchronized
  subst hsz
  have hD := hD0.self (sz := s.heap.size)
  generalize hAe : va_A (MW md σ) s.heap.size = A at hD ⊢
  have hA : ∀ q : Nat, s.heap.size ≤ q → A q := fun q h => by rw [← hAe]; exact Or.inr h
  have hS : va_S A s.heap s.heap [] := va_S.rf
  have hP : va_P (mG md) classes (MW md σ) s.heap := hP
  have hl := lv_entry ([.ref (mA md 0), .int x0, .int x1, .int x2]) (n := 6) (Nat.le_of_ble_eq_true rfl)
  rw [lg_entry_eq]
  generalize (lg_sl ([.ref (mA md 0), .int x0, .int x1, .int x2]) ++ List.replicate (6 - (lg_sl ([.ref (mA md 0), .int x0, .int x1, .int x2])).length) Slot.unset).toArray = ls at hl ⊢
  have hl : lv_has ls 6 [(0, .ref (mA md 0)), (1, .int x0), (2, .int x1), (3, .int x2)] := hl
  have L10 : ∀ (v2 : Int32) (v3 : Int32) (n : Nat) (v4 : Int32) (v5 : Int32) (σ : MPS) (H : Heap) (locs : List Loc) (hP : va_P (mG md) classes (MW md σ) H) (hD : va_D A (MW md σ)) (hS : va_S A s.heap H locs) (ls : Array Slot) (hl : lv_has ls 6 [(0, .ref (mA md 0)), (2, .int v2), (3, .int v3), (4, .int v4), (5, .int v5)]) (hE : w_M_wasHad_L10 v2 v3 post n v4 v5 σ), W p l e (headSpec ws_M_wasHad { frames := 3, cells := 0, slots := 0, locals := 64 }).room s m ([.ref (mA md 0), .int x0, .int x1, .int x2] : List Value).toArray below meth c H locs 0 0 (MQ below (va_Qi post (eM md A) A) ([.ref (mA md 0), .int x0, .int x1, .int x2] : List Value).toArray s 0 0 A) (F0 m 10 ls []) := by
    intro v2 v3 n
    induction n with
    | zero => intro v4 v5 σ H locs hP hD hS ls hl hE; exact hE.elim
    | succ n ih10 =>
      have J51 : ∀ (t0 : Int32) (σ : MPS) (H : Heap) (locs : List Loc) (hP : va_P (mG md) classes (MW md σ) H) (hD : va_D A (MW md σ)) (hS : va_S A s.heap H locs) (ls : Array Slot) (hl : lv_has ls 6 [(0, .ref (mA md 0)), (2, .int v2), (3, .int v3)]) (hE : w_M_wasHad_J51 v2 v3 (w_M_wasHad_L10 v2 v3 post n) post t0 σ), W p l e (headSpec ws_M_wasHad { frames := 3, cells := 0, slots := 0, locals := 64 }).room s m ([.ref (mA md 0), .int x0, .int x1, .int x2] : List Value).toArray below meth c H locs 0 0 (MQ below (va_Qi post (eM md A) A) ([.ref (mA md 0), .int x0, .int x1, .int x2] : List Value).toArray s 0 0 A) (F0 m 51 ls [.int t0]) := by
        intro  t0 σ H locs hP hD hS ls hl hE
        unfold w_M_wasHad_J51 at hE
        refine lv_istore (lv' := [(4, .int t0), (0, .ref (mA md 0)), (2, .int v2), (3, .int v3)]) hx hb d_M_wasHad_51 hl (by decide) rfl (fun ls hl => ?_)
        refine lv_aload_n hx hb d_M_wasHad_53 rfl (lv_at hl 1 rfl) ?_
        refine va_get (D := (mG md)) (ci := 7) (v := .int (mp_valueEnd σ)) (C := R_M) (T := F_M) (N := 37) hx hb hta i_M hown hK hP 0 rfl rfl 22 (by decide) (hta _ fl_M_151) (fun _ h9 => h9) rfl d_M_wasHad_54 ?_
        refine lv_iconst (v := 1) hx hb d_M_wasHad_57 (by decide) ?_
        refine lv_iadd hx hb d_M_wasHad_58 ?_
        refine lv_istore (lv' := [(5, .int ((mp_valueEnd σ) + 1)), (4, .int t0), (0, .ref (mA md 0)), (2, .int v2), (3, .int v3)]) hx hb d_M_wasHad_59 hl (by decide) rfl (fun ls hl => ?_)
        refine lv_goto (tgt := 10) hx hb d_M_wasHad_61 (by decide) ?_
        exact ih10 t0 ((mp_valueEnd σ) + 1) σ _ _ hP hD hS _ (lv_sub hl [2, 3, 4, 1, 0] rfl) hE
      have J50 : ∀ (σ : MPS) (H : Heap) (locs : List Loc) (hP : va_P (mG md) classes (MW md σ) H) (hD : va_D A (MW md σ)) (hS : va_S A s.heap H locs) (ls : Array Slot) (hl : lv_has ls 6 [(0, .ref (mA md 0)), (2, .int v2), (3, .int v3)]) (hE : w_M_wasHad_J50 v2 v3 (w_M_wasHad_L10 v2 v3 post n) post σ), W p l e (headSpec ws_M_wasHad { frames := 3, cells := 0, slots := 0, locals := 64 }).room s m ([.ref (mA md 0), .int x0, .int x1, .int x2] : List Value).toArray below meth c H locs 0 0 (MQ below (va_Qi post (eM md A) A) ([.ref (mA md 0), .int x0, .int x1, .int x2] : List Value).toArray s 0 0 A) (F0 m 50 ls []) := by
        intro  σ H locs hP hD hS ls hl hE
        unfold w_M_wasHad_J50 at hE
        refine lv_iconst (v := 0) hx hb d_M_wasHad_50 (by decide) ?_
        exact J51  0 σ _ _ hP hD hS _ (lv_sub hl [0, 1, 2] rfl) hE
      intro v4 v5 σ H locs hP hD hS ls hl hE
      unfold w_M_wasHad_L10 at hE
      refine lv_iload hx hb d_M_wasHad_10 (lv_at hl 3 rfl) ?_
      refine lv_if_ne (tgt := 64) hx hb d_M_wasHad_12 (by decide) (fun cc12 => ?_) (fun cc12 => ?_)
      · have hE := hE.2 cc12
        refine lv_iload hx hb d_M_wasHad_64 (lv_at hl 3 rfl) ?_
        obtain ⟨hN, hE⟩ := hE
        exact W.zret (v := v4) hx hb hr hN (fun t ht hW => ⟨⟨_, σ, rfl, hE, by rw [ht]; exact hP, va_K.moved hW.alike hK, hD⟩, hS.F ht⟩) hS.2.2 d_M_wasHad_66
      · have hE := hE.1 cc12
        refine lv_aload_n hx hb d_M_wasHad_15 rfl (lv_at hl 0 rfl) ?_
        refine lv_iload hx hb d_M_wasHad_16 (lv_at hl 4 rfl) ?_
        refine lv_iload_n hx hb d_M_wasHad_18 rfl (lv_at hl 1 rfl) ?_
        refine mm_i (b0 := (mA md 0)) (As := [.int v5, .int v2]) (rest := []) ⟨hx, hb, hml, hown, hta⟩ (c_M_nextAttribute l md _ σ v5 v2 _ hE) ok_M_157 ⟨Nat.le_of_ble_eq_true rfl, Nat.le_of_ble_eq_true rfl⟩ (va_recv hK hP (ci := 7) (q0 := 0) rfl rfl) hP hK hD hS hA rfl hl.1 rfl (Nat.le_of_ble_eq_true rfl) d_M_wasHad_19 ⟨Nat.zero_le _, Nat.zero_le _⟩ (fun r19 σ19 H locs hE hP hD hS => ?_)
        refine lv_if_eq (tgt := 64) hx hb d_M_wasHad_22 (by decide) (fun cc22 => ?_) (fun cc22 => ?_)
        · have hE := hE.1 cc22
          refine lv_iload hx hb d_M_wasHad_64 (lv_at hl 3 rfl) ?_
          obtain ⟨hN, hE⟩ := hE
          exact W.zret (v := v4) hx hb hr hN (fun t ht hW => ⟨⟨_, σ19, rfl, hE, by rw [ht]; exact hP, va_K.moved hW.alike hK, hD⟩, hS.F ht⟩) hS.2.2 d_M_wasHad_66
        · have hE := hE.2 cc22
          refine lv_aload_n hx hb d_M_wasHad_25 rfl (lv_at hl 0 rfl) ?_
          refine va_get (D := (mG md)) (ci := 7) (v := .int (mp_nameMany σ19)) (C := R_M) (T := F_M) (N := 37) hx hb hta i_M hown hK hP 0 rfl rfl 20 (by decide) (hta _ fl_M_145) (fun _ h9 => h9) rfl d_M_wasHad_26 ?_
          refine lv_iload_n hx hb d_M_wasHad_29 rfl (lv_at hl 2 rfl) ?_
          refine lv_icmp_ne (tgt := 50) hx hb d_M_wasHad_30 (by decide) (fun cc30 => ?_) (fun cc30 => ?_)
          · have hE := hE.2 cc30
            exact J50  σ19 _ _ hP hD hS _ (lv_sub hl [0, 1, 2] rfl) hE
          · have hE := hE.1 cc30
            refine lv_aload_n hx hb d_M_wasHad_33 rfl (lv_at hl 0 rfl) ?_
            refine lv_aload_n hx hb d_M_wasHad_34 rfl (lv_at hl 0 rfl) ?_
            refine va_get (D := (mG md)) (ci := 7) (v := .int (mp_nameAt σ19)) (C := R_M) (T := F_M) (N := 37) hx hb hta i_M hown hK hP 0 rfl rfl 19 (by decide) (hta _ fl_M_142) (fun _ h9 => h9) rfl d_M_wasHad_35 ?_
            refine lv_iload_n hx hb d_M_wasHad_38 rfl (lv_at hl 1 rfl) ?_
            refine lv_iload_n hx hb d_M_wasHad_39 rfl (lv_at hl 2 rfl) ?_
            refine ro_V (b0 := (mA md 0)) (As := [.int (mp_nameAt σ19), .int v2, .int v3]) (rest := []) ⟨hx, hb, hml, hown, hta⟩ (c_M_areAlike l md σ19 (mp_nameAt σ19) v2 v3  _ hE) ok_M_161 ⟨Nat.le_of_ble_eq_true rfl, Nat.le_of_ble_eq_true rfl⟩ blind_rM (va_recv hK hP (ci := 7) (q0 := 0) rfl rfl) (rM_of hP hK) rfl hl.1 rfl (Nat.le_of_ble_eq_true rfl) d_M_wasHad_40 ⟨Nat.zero_le _, Nat.zero_le _⟩ (fun r40 hE => ?_)
            refine lv_if_eq (tgt := 50) hx hb d_M_wasHad_43 (by decide) (fun cc43 => ?_) (fun cc43 => ?_)
            · have hE := hE.1 cc43
              exact J50  σ19 _ _ hP hD hS _ (lv_sub hl [0, 1, 2] rfl) hE
            · have hE := hE.2 cc43
              refine lv_iconst (v := 1) hx hb d_M_wasHad_46 (by decide) ?_
              refine lv_goto (tgt := 51) hx hb d_M_wasHad_47 (by decide) ?_
              exact J51  1 σ19 _ _ hP hD hS _ (lv_sub hl [0, 1, 2] rfl) hE
  unfold w_M_wasHad at hE
  refine lv_iconst (v := 0) hx hb d_M_wasHad_0 (by decide) ?_
  refine lv_istore (lv' := [(4, .int 0), (0, .ref (mA md 0)), (1, .int x0), (2, .int x1), (3, .int x2)]) hx hb d_M_wasHad_1 hl (by decide) rfl (fun ls hl => ?_)
  refine lv_aload_n hx hb d_M_wasHad_3 rfl (lv_at hl 1 rfl) ?_
  refine lv_iload_n hx hb d_M_wasHad_4 rfl (lv_at hl 2 rfl) ?_
  refine ro_V (b0 := (mA md 0)) (As := [.int x0]) (rest := []) ⟨hx, hb, hml, hown, hta⟩ (c_M_behindName l md σ x0  _ hE) ok_M_154 ⟨Nat.le_of_ble_eq_true rfl, Nat.le_of_ble_eq_true rfl⟩ blind_rM (va_recv hK hP (ci := 7) (q0 := 0) rfl rfl) (rM_of hP hK) rfl hl.1 rfl (Nat.le_of_ble_eq_true rfl) d_M_wasHad_5 ⟨Nat.zero_le _, Nat.zero_le _⟩ (fun r5 hE => ?_)
  refine lv_istore (lv' := [(5, .int r5), (4, .int 0), (0, .ref (mA md 0)), (1, .int x0), (2, .int x1), (3, .int x2)]) hx hb d_M_wasHad_8 hl (by decide) rfl (fun ls hl => ?_)
  obtain ⟨n, hE⟩ := hE
  exact L10 x1 x2 n 0 r5 σ _ _ hP hD hS _ (lv_sub hl [2, 4, 5, 1, 0] rfl) hE
theorem ok_M_165 : okV "PlainPagesModel" 165 R_M y_M_takeName b_M_takeName 2 (some .int) 0 := ⟨aW_in 1060 (by decide +kernel) rfl, aW_in 1062 (by decide +kernel) rfl, aW_in 45 (by decide +kernel) rfl, aW_in 92 (by decide +kernel) rfl, cd_M_takeName, rfl, by decide +kernel, by decide +kernel, by decide +kernel⟩
theorem ok_M_169 : okV "PlainPagesModel" 169 R_M y_M_wasHad b_M_wasHad 6 (some .boolean) 3 := ⟨aW_in 1081 (by decide +kernel) rfl, aW_in 1083 (by decide +kernel) rfl, aW_in 48 (by decide +kernel) rfl, aW_in 92 (by decide +kernel) rfl, cd_M_wasHad, rfl, by decide +kernel, by decide +kernel, by decide +kernel⟩
theorem ok_M_172 : okV "PlainPagesModel" 172 R_M y_M_takeCharacter b_M_takeCharacter 1 none 0 := ⟨aW_in 1097 (by decide +kernel) rfl, aW_in 1099 (by decide +kernel) rfl, aW_in 52 (by decide +kernel) rfl, aW_in 92 (by decide +kernel) rfl, cd_M_takeCharacter, rfl, by decide +kernel, by decide +kernel, by decide +kernel⟩
theorem d_M_takeAttribute_0 : decode b_M_takeAttribute 0 = .ok (.aload_n 0, 1) := by decide +kernel
theorem d_M_takeAttribute_1 : decode b_M_takeAttribute 1 = .ok (.getfield 101, 3) := by decide +kernel
theorem d_M_takeAttribute_4 : decode b_M_takeAttribute 4 = .ok (.istore_n 2, 1) := by decide +kernel
theorem d_M_takeAttribute_5 : decode b_M_takeAttribute 5 = .ok (.aload_n 0, 1) := by decide +kernel
theorem d_M_takeAttribute_6 : decode b_M_takeAttribute 6 = .ok (.invokevirtual 165, 3) := by decide +kernel
theorem d_M_takeAttribute_9 : decode b_M_takeAttribute 9 = .ok (.istore_n 3, 1) := by decide +kernel
theorem d_M_takeAttribute_10 : decode b_M_takeAttribute 10 = .ok (.aload_n 0, 1) := by decide +kernel
theorem d_M_takeAttribute_11 : decode b_M_takeAttribute 11 = .ok (.getfield 111, 3) := by decide +kernel
theorem d_M_takeAttribute_14 : decode b_M_takeAttribute 14 = .ok (.ifCond .eq 4, 3) := by decide +kernel
theorem d_M_takeAttribute_17 : decode b_M_takeAttribute 17 = .ok (.return_, 1) := by decide +kernel
theorem d_M_takeAttribute_18 : decode b_M_takeAttribute 18 = .ok (.aload_n 0, 1) := by decide +kernel
theorem d_M_takeAttribute_19 : decode b_M_takeAttribute 19 = .ok (.iload_n 1, 1) := by decide +kernel
theorem d_M_takeAttribute_20 : decode b_M_takeAttribute 20 = .ok (.iload_n 2, 1) := by decide +kernel
theorem d_M_takeAttribute_21 : decode b_M_takeAttribute 21 = .ok (.iload_n 3, 1) := by decide +kernel
theorem d_M_takeAttribute_22 : decode b_M_takeAttribute 22 = .ok (.invokevirtual 169, 3) := by decide +kernel
theorem d_M_takeAttribute_25 : decode b_M_takeAttribute 25 = .ok (.ifCond .eq 14, 3) := by decide +kernel
theorem d_M_takeAttribute_28 : decode b_M_takeAttribute 28 = .ok (.aload_n 0, 1) := by decide +kernel
theorem d_M_takeAttribute_29 : decode b_M_takeAttribute 29 = .ok (.iload_n 2, 1) := by decide +kernel
theorem d_M_takeAttribute_30 : decode b_M_takeAttribute 30 = .ok (.putfield 101, 3) := by decide +kernel
theorem d_M_takeAttribute_33 : decode b_M_takeAttribute 33 = .ok (.aload_n 0, 1) := by decide +kernel
theorem d_M_takeAttribute_34 : decode b_M_takeAttribute 34 = .ok (.iconst 1, 1) := by decide +kernel
theorem d_M_takeAttribute_35 : decode b_M_takeAttribute 35 = .ok (.putfield 111, 3) := by decide +kernel
theorem d_M_takeAttribute_38 : decode b_M_takeAttribute 38 = .ok (.return_, 1) := by decide +kernel
theorem d_M_takeAttribute_39 : decode b_M_takeAttribute 39 = .ok (.aload_n 0, 1) := by decide +kernel
theorem d_M_takeAttribute_40 : decode b_M_takeAttribute 40 = .ok (.aload_n 0, 1) := by decide +kernel
theorem d_M_takeAttribute_41 : decode b_M_takeAttribute 41 = .ok (.getfield 101, 3) := by decide +kernel
theorem d_M_takeAttribute_44 : decode b_M_takeAttribute 44 = .ok (.invokevirtual 95, 3) := by decide +kernel
theorem d_M_takeAttribute_47 : decode b_M_takeAttribute 47 = .ok (.bipush 61, 2) := by decide +kernel
theorem d_M_takeAttribute_49 : decode b_M_takeAttribute 49 = .ok (.if_icmp .eq 11, 3) := by decide +kernel
theorem d_M_takeAttribute_52 : decode b_M_takeAttribute 52 = .ok (.aload_n 0, 1) := by decide +kernel
theorem d_M_takeAttribute_53 : decode b_M_takeAttribute 53 = .ok (.iconst 1, 1) := by decide +kernel
theorem d_M_takeAttribute_54 : decode b_M_takeAttribute 54 = .ok (.putfield 111, 3) := by decide +kernel
theorem d_M_takeAttribute_57 : decode b_M_takeAttribute 57 = .ok (.goto 13, 3) := by decide +kernel
theorem d_M_takeAttribute_60 : decode b_M_takeAttribute 60 = .ok (.aload_n 0, 1) := by decide +kernel
theorem d_M_takeAttribute_61 : decode b_M_takeAttribute 61 = .ok (.dup, 1) := by decide +kernel
theorem d_M_takeAttribute_62 : decode b_M_takeAttribute 62 = .ok (.getfield 101, 3) := by decide +kernel
theorem d_M_takeAttribute_65 : decode b_M_takeAttribute 65 = .ok (.iconst 1, 1) := by decide +kernel
theorem d_M_takeAttribute_66 : decode b_M_takeAttribute 66 = .ok (.iadd, 1) := by decide +kernel
theorem d_M_takeAttribute_67 : decode b_M_takeAttribute 67 = .ok (.putfield 101, 3) := by decide +kernel
theorem d_M_takeAttribute_70 : decode b_M_takeAttribute 70 = .ok (.aload_n 0, 1) := by decide +kernel
theorem d_M_takeAttribute_71 : decode b_M_takeAttribute 71 = .ok (.getfield 111, 3) := by decide +kernel
theorem d_M_takeAttribute_74 : decode b_M_takeAttribute 74 = .ok (.ifCond .ne 16, 3) := by decide +kernel
theorem d_M_takeAttribute_77 : decode b_M_takeAttribute 77 = .ok (.aload_n 0, 1) := by decide +kernel
theorem d_M_takeAttribute_78 : decode b_M_takeAttribute 78 = .ok (.aload_n 0, 1) := by decide +kernel
theorem d_M_takeAttribute_79 : decode b_M_takeAttribute 79 = .ok (.getfield 101, 3) := by decide +kernel
theorem d_M_takeAttribute_82 : decode b_M_takeAttribute 82 = .ok (.invokevirtual 95, 3) := by decide +kernel
theorem d_M_takeAttribute_85 : decode b_M_takeAttribute 85 = .ok (.bipush 34, 2) := by decide +kernel
theorem d_M_takeAttribute_87 : decode b_M_takeAttribute 87 = .ok (.if_icmp .eq 9, 3) := by decide +kernel
theorem d_M_takeAttribute_90 : decode b_M_takeAttribute 90 = .ok (.aload_n 0, 1) := by decide +kernel
theorem d_M_takeAttribute_91 : decode b_M_takeAttribute 91 = .ok (.iconst 1, 1) := by decide +kernel
theorem d_M_takeAttribute_92 : decode b_M_takeAttribute 92 = .ok (.putfield 111, 3) := by decide +kernel
theorem d_M_takeAttribute_95 : decode b_M_takeAttribute 95 = .ok (.return_, 1) := by decide +kernel
theorem d_M_takeAttribute_96 : decode b_M_takeAttribute 96 = .ok (.aload_n 0, 1) := by decide +kernel
theorem d_M_takeAttribute_97 : decode b_M_takeAttribute 97 = .ok (.dup, 1) := by decide +kernel
theorem d_M_takeAttribute_98 : decode b_M_takeAttribute 98 = .ok (.getfield 101, 3) := by decide +kernel
theorem d_M_takeAttribute_101 : decode b_M_takeAttribute 101 = .ok (.iconst 1, 1) := by decide +kernel
theorem d_M_takeAttribute_102 : decode b_M_takeAttribute 102 = .ok (.iadd, 1) := by decide +kernel
theorem d_M_takeAttribute_103 : decode b_M_takeAttribute 103 = .ok (.putfield 101, 3) := by decide +kernel
theorem d_M_takeAttribute_106 : decode b_M_takeAttribute 106 = .ok (.aload_n 0, 1) := by decide +kernel
theorem d_M_takeAttribute_107 : decode b_M_takeAttribute 107 = .ok (.getfield 111, 3) := by decide +kernel
theorem d_M_takeAttribute_110 : decode b_M_takeAttribute 110 = .ok (.ifCond .ne 55, 3) := by decide +kernel
theorem d_M_takeAttribute_113 : decode b_M_takeAttribute 113 = .ok (.aload_n 0, 1) := by decide +kernel
theorem d_M_takeAttribute_114 : decode b_M_takeAttribute 114 = .ok (.aload_n 0, 1) := by decide +kernel
theorem d_M_takeAttribute_115 : decode b_M_takeAttribute 115 = .ok (.getfield 101, 3) := by decide +kernel
theorem d_M_takeAttribute_118 : decode b_M_takeAttribute 118 = .ok (.invokevirtual 95, 3) := by decide +kernel
theorem d_M_takeAttribute_121 : decode b_M_takeAttribute 121 = .ok (.bipush 34, 2) := by decide +kernel
theorem d_M_takeAttribute_123 : decode b_M_takeAttribute 123 = .ok (.if_icmp .eq 42, 3) := by decide +kernel
theorem d_M_takeAttribute_126 : decode b_M_takeAttribute 126 = .ok (.aload_n 0, 1) := by decide +kernel
theorem d_M_takeAttribute_127 : decode b_M_takeAttribute 127 = .ok (.getfield 101, 3) := by decide +kernel
theorem d_M_takeAttribute_130 : decode b_M_takeAttribute 130 = .ok (.aload_n 0, 1) := by decide +kernel
theorem d_M_takeAttribute_131 : decode b_M_takeAttribute 131 = .ok (.getfield 92, 3) := by decide +kernel
theorem d_M_takeAttribute_134 : decode b_M_takeAttribute 134 = .ok (.if_icmp .ge 16, 3) := by decide +kernel
theorem d_M_takeAttribute_137 : decode b_M_takeAttribute 137 = .ok (.aload_n 0, 1) := by decide +kernel
theorem d_M_takeAttribute_138 : decode b_M_takeAttribute 138 = .ok (.aload_n 0, 1) := by decide +kernel
theorem d_M_takeAttribute_139 : decode b_M_takeAttribute 139 = .ok (.getfield 101, 3) := by decide +kernel
theorem d_M_takeAttribute_142 : decode b_M_takeAttribute 142 = .ok (.invokevirtual 95, 3) := by decide +kernel
theorem d_M_takeAttribute_145 : decode b_M_takeAttribute 145 = .ok (.bipush 60, 2) := by decide +kernel
theorem d_M_takeAttribute_147 : decode b_M_takeAttribute 147 = .ok (.if_icmp .ne 11, 3) := by decide +kernel
theorem d_M_takeAttribute_150 : decode b_M_takeAttribute 150 = .ok (.aload_n 0, 1) := by decide +kernel
theorem d_M_takeAttribute_151 : decode b_M_takeAttribute 151 = .ok (.iconst 1, 1) := by decide +kernel
theorem d_M_takeAttribute_152 : decode b_M_takeAttribute 152 = .ok (.putfield 111, 3) := by decide +kernel
theorem d_M_takeAttribute_155 : decode b_M_takeAttribute 155 = .ok (.goto (-49), 3) := by decide +kernel
theorem d_M_takeAttribute_158 : decode b_M_takeAttribute 158 = .ok (.aload_n 0, 1) := by decide +kernel
theorem d_M_takeAttribute_159 : decode b_M_takeAttribute 159 = .ok (.invokevirtual 172, 3) := by decide +kernel
theorem d_M_takeAttribute_162 : decode b_M_takeAttribute 162 = .ok (.goto (-56), 3) := by decide +kernel
theorem d_M_takeAttribute_165 : decode b_M_takeAttribute 165 = .ok (.aload_n 0, 1) := by decide +kernel
theorem d_M_takeAttribute_166 : decode b_M_takeAttribute 166 = .ok (.getfield 111, 3) := by decide +kernel
theorem d_M_takeAttribute_169 : decode b_M_takeAttribute 169 = .ok (.ifCond .ne 13, 3) := by decide +kernel
theorem d_M_takeAttribute_172 : decode b_M_takeAttribute 172 = .ok (.aload_n 0, 1) := by decide +kernel
theorem d_M_takeAttribute_173 : decode b_M_takeAttribute 173 = .ok (.dup, 1) := by decide +kernel
theorem d_M_takeAttribute_174 : decode b_M_takeAttribute 174 = .ok (.getfield 101, 3) := by decide +kernel
theorem d_M_takeAttribute_177 : decode b_M_takeAttribute 177 = .ok (.iconst 1, 1) := by decide +kernel
theorem d_M_takeAttribute_178 : decode b_M_takeAttribute 178 = .ok (.iadd, 1) := by decide +kernel
theorem d_M_takeAttribute_179 : decode b_M_takeAttribute 179 = .ok (.putfield 101, 3) := by decide +kernel
theorem d_M_takeAttribute_182 : decode b_M_takeAttribute 182 = .ok (.return_, 1) := by decide +kernel
def w_M_takeAttribute_J165   (post : MPS → Prop) (σ : MPS) : Prop := (((mp_bad σ) = 0 → (∀ σ179 : MPS, σ179 = ms_at σ ((mp_at σ) + 1) → post σ179)) ∧ (¬ (mp_bad σ) = 0 → post σ))
def w_M_takeAttribute_J150   (K : MPS → Prop) (post : MPS → Prop) (σ : MPS) : Prop := (∀ σ152 : MPS, σ152 = ms_bad σ 1 → K σ152)
def w_M_takeAttribute_L106   (post : MPS → Prop) : Nat → MPS → Prop
  | 0, _ => False
  | n + 1, σ => (((mp_bad σ) = 0 → w_M_x σ (mp_at σ) (fun r118 => ((r118 = 34 → w_M_takeAttribute_J165 post σ) ∧ (¬ r118 = 34 → (((mp_size σ) ≤ (mp_at σ) → w_M_takeAttribute_J150 (w_M_takeAttribute_L106 post n) post σ) ∧ (¬ (mp_size σ) ≤ (mp_at σ) → w_M_x σ (mp_at σ) (fun r142 => ((r142 = 60 → w_M_takeAttribute_J150 (w_M_takeAttribute_L106 post n) post σ) ∧ (¬ r142 = 60 → w_M_takeCharacter σ  (fun σ159 => w_M_takeAttribute_L106 post n σ159)))))))))) ∧ (¬ (mp_bad σ) = 0 → w_M_takeAttribute_J165 post σ))
def w_M_takeAttribute_J90   (post : MPS → Prop) (σ : MPS) : Prop := (∀ σ92 : MPS, σ92 = ms_bad σ 1 → post σ92)
def w_M_takeAttribute_J70   (post : MPS → Prop) (σ : MPS) : Prop := (((mp_bad σ) = 0 → w_M_x σ (mp_at σ) (fun r82 => ((r82 = 34 → (∀ σ103 : MPS, σ103 = ms_at σ ((mp_at σ) + 1) → (∃ n, w_M_takeAttribute_L106 post n σ103))) ∧ (¬ r82 = 34 → w_M_takeAttribute_J90 post σ)))) ∧ (¬ (mp_bad σ) = 0 → w_M_takeAttribute_J90 post σ))
def w_M_takeAttribute  (σ : MPS) (x0 : Int32) (post : MPS → Prop) : Prop := w_M_takeName σ  (fun r6 σ6 => (((mp_bad σ6) = 0 → w_M_wasHad σ6 x0 (mp_at σ) r6 (fun r22 σ22 => ((r22 = 0 → w_M_x σ22 (mp_at σ22) (fun r44 => ((r44 = 61 → (∀ σ67 : MPS, σ67 = ms_at σ22 ((mp_at σ22) + 1) → w_M_takeAttribute_J70 post σ67)) ∧ (¬ r44 = 61 → (∀ σ54 : MPS, σ54 = ms_bad σ22 1 → w_M_takeAttribute_J70 post σ54))))) ∧ (¬ r22 = 0 → (∀ σ30 : MPS, σ30 = ms_at σ22 (mp_at σ) → (∀ σ35 : MPS, σ35 = ms_bad σ30 1 → post σ35)))))) ∧ (¬ (mp_bad σ6) = 0 → post σ6)))
set_option maxHeartbeats 4000000 in
set_option maxRecDepth 100000 in
theorem c_M_takeAttribute (l : Launch) (md : MD) (sz : Nat) (σ : MPS) (x0 : Int32)  (post : MPS → Prop) (hE : w_M_takeAttribute σ x0 post) : Met l y_M_takeAttribute ws_M_takeAttribute { frames := 4, cells := 0, slots := 0, locals := 93 } (va_Pc [.ref (mA md 0), .int x0] (gM md σ sz)) (va_Qv post (eM md (va_A (MW md σ) sz)) (va_A (MW md σ) sz)) 0 0 (va_A (MW md σ) sz) := by
  refine Met.ofW (cc := b_M_takeAttribute) (maxL := 4) (ret := none) (by decide) rfl ?_
  intro p e s m args below meth c s₁ B hml hv
  obtain ⟨rfl, hsz, hP, hK, hD0⟩ := hv
  have hx := B.exec
  have hb := B.bytes
  have hr := B.returns
  have hta : ∀ w ∈ aW, w.before _ s = true := fun w h => atoms_spec (ws := ws_M_takeAttribute) B.pre w (List.mem_cons_of_mem _ h)
  have hown : s.vm.findClass R_M = some m.cls := findClass_of_methodNamed B.named
  have hlocks := B.notSynchronized
  subst hsz
  have hD := hD0.self (sz := s.heap.size)
  generalize hAe : va_A (MW md σ) s.heap.size = A at hD ⊢
  have hA : ∀ q : Nat, s.heap.size ≤ q → A q := fun q h => by rw [← hAe]; exact Or.inr h
  have hS : va_S A s.heap s.heap [] := va_S.rf
  have hP : va_P (mG md) classes (MW md σ) s.heap := hP
  have hl := lv_entry ([.ref (mA md 0), .int x0]) (n := 4) (Nat.le_of_ble_eq_true rfl)
  rw [lg_entry_eq]
  generalize (lg_sl ([.ref (mA md 0), .int x0]) ++ List.replicate (4 - (lg_sl ([.ref (mA md 0), .int x0])).length) Slot.unset).toArray = ls at hl ⊢
  have hl : lv_has ls 4 [(0, .ref (mA md 0)), (1, .int x0)] := hl
  have J165 : ∀ (σ : MPS) (H : Heap) (locs : List Loc) (hP : va_P (mG md) classes (MW md σ) H) (hD : va_D A (MW md σ)) (hS : va_S A s.heap H locs) (ls : Array Slot) (hl : lv_has ls 4 [(0, .ref (mA md 0))]) (hE : w_M_takeAttribute_J165 post σ), W p l e (headSpec ws_M_takeAttribute { frames := 4, cells := 0, slots := 0, locals := 93 }).room s m ([.ref (mA md 0), .int x0] : List Value).toArray below meth c H locs 0 0 (MQ below (va_Qv post (eM md A) A) ([.ref (mA md 0), .int x0] : List Value).toArray s 0 0 A) (F0 m 165 ls []) := by
    intro  σ H locs hP hD hS ls hl hE
    unfold w_M_takeAttribute_J165 at hE
    refine lv_aload_n hx hb d_M_takeAttribute_165 rfl (lv_at hl 0 rfl) ?_
    refine va_get (D := (mG md)) (ci := 7) (v := .int (mp_bad σ)) (C := R_M) (T := F_M) (N := 37) hx hb hta i_M hown hK hP 0 rfl rfl 16 (by decide) (hta _ fl_M_111) (fun _ h9 => h9) rfl d_M_takeAttribute_166 ?_
    refine lv_if_ne (tgt := 182) hx hb d_M_takeAttribute_169 (by decide) (fun cc169 => ?_) (fun cc169 => ?_)
    · have hE := hE.2 cc169
      exact W.vret hx hb hr (fun t ht hW => ⟨⟨σ, rfl, hE, by rw [ht]; exact hP, va_K.moved hW.alike hK, hD⟩, hS.F ht⟩) hS.2.2 d_M_takeAttribute_182
    · have hE := hE.1 cc169
      refine lv_aload_n hx hb d_M_takeAttribute_172 rfl (lv_at hl 0 rfl) ?_
      refine lv_dup hx hb d_M_takeAttribute_173 rfl ?_
      refine va_get (D := (mG md)) (ci := 7) (v := .int (mp_at σ)) (C := R_M) (T := F_M) (N := 37) hx hb hta i_M hown hK hP 0 rfl rfl 13 (by decide) (hta _ fl_M_101) (fun _ h9 => h9) rfl d_M_takeAttribute_174 ?_
      refine lv_iconst (v := 1) hx hb d_M_takeAttribute_177 (by decide) ?_
      refine lv_iadd hx hb d_M_takeAttribute_178 ?_
      refine va_put (D := (mG md)) (ci := 7) (v := .int ((mp_at σ) + 1)) (ty := .int) (C := R_M) (T := F_M) (N := 37) hx hb hta i_M t_M t_M_ok n_M hown hK hP hD hS 0 rfl rfl 13 (by decide) (hta _ fl_M_101) (fun _ h9 => h9) rfl (by decide +kernel) rfl rfl (Nat.le_of_ble_eq_true rfl) d_M_takeAttribute_179 (fun H locs hP hD hS => ?_)
      have hP : va_P (mG md) classes (MW md (ms_at σ ((mp_at σ) + 1))) H := hP
      have hD : va_D A (MW md (ms_at σ ((mp_at σ) + 1))) := hD
      have hE := hE _ rfl
      generalize (ms_at σ ((mp_at σ) + 1) : MPS) = σ179 at hP hD hE
      exact W.vret hx hb hr (fun t ht hW => ⟨⟨σ179, rfl, hE, by rw [ht]; exact hP, va_K.moved hW.alike hK, hD⟩, hS.F ht⟩) hS.2.2 d_M_takeAttribute_182
  have L106 : ∀ (n : Nat) (σ : MPS) (H : Heap) (locs : List Loc) (hP : va_P (mG md) classes (MW md σ) H) (hD : va_D A (MW md σ)) (hS : va_S A s.heap H locs) (ls : Array Slot) (hl : lv_has ls 4 [(0, .ref (mA md 0))]) (hE : w_M_takeAttribute_L106 post n σ), W p l e (headSpec ws_M_takeAttribute { frames := 4, cells := 0, slots := 0, locals := 93 }).room s m ([.ref (mA md 0), .int x0] : List Value).toArray below meth c H locs 0 0 (MQ below (va_Qv post (eM md A) A) ([.ref (mA md 0), .int x0] : List Value).toArray s 0 0 A) (F0 m 106 ls []) := by
    intro n
    induction n with
    | zero => intro σ H locs hP hD hS ls hl hE; exact hE.elim
    | succ n ih106 =>
      have J150 : ∀ (σ : MPS) (H : Heap) (locs : List Loc) (hP : va_P (mG md) classes (MW md σ) H) (hD : va_D A (MW md σ)) (hS : va_S A s.heap H locs) (ls : Array Slot) (hl : lv_has ls 4 [(0, .ref (mA md 0))]) (hE : w_M_takeAttribute_J150 (w_M_takeAttribute_L106 post n) post σ), W p l e (headSpec ws_M_takeAttribute { frames := 4, cells := 0, slots := 0, locals := 93 }).room s m ([.ref (mA md 0), .int x0] : List Value).toArray below meth c H locs 0 0 (MQ below (va_Qv post (eM md A) A) ([.ref (mA md 0), .int x0] : List Value).toArray s 0 0 A) (F0 m 150 ls []) := by
        intro  σ H locs hP hD hS ls hl hE
        unfold w_M_takeAttribute_J150 at hE
        refine lv_aload_n hx hb d_M_takeAttribute_150 rfl (lv_at hl 0 rfl) ?_
        refine lv_iconst (v := 1) hx hb d_M_takeAttribute_151 (by decide) ?_
        refine va_put (D := (mG md)) (ci := 7) (v := .int 1) (ty := .boolean) (C := R_M) (T := F_M) (N := 37) hx hb hta i_M t_M t_M_ok n_M hown hK hP hD hS 0 rfl rfl 16 (by decide) (hta _ fl_M_111) (fun _ h9 => h9) rfl (by decide +kernel) rfl rfl (Nat.le_of_ble_eq_true rfl) d_M_takeAttribute_152 (fun H locs hP hD hS => ?_)
        have hP : va_P (mG md) classes (MW md (ms_bad σ 1)) H := hP
        have hD : va_D A (MW md (ms_bad σ 1)) := hD
        have hE := hE _ rfl
        generalize (ms_bad σ 1 : MPS) = σ152 at hP hD hE
        refine lv_goto (tgt := 106) hx hb d_M_takeAttribute_155 (by decide) ?_
        exact ih106 σ152 _ _ hP hD hS _ (lv_sub hl [0] rfl) hE
      intro σ H locs hP hD hS ls hl hE
      unfold w_M_takeAttribute_L106 at hE
      refine lv_aload_n hx hb d_M_takeAttribute_106 rfl (lv_at hl 0 rfl) ?_
      refine va_get (D := (mG md)) (ci := 7) (v := .int (mp_bad σ)) (C := R_M) (T := F_M) (N := 37) hx hb hta i_M hown hK hP 0 rfl rfl 16 (by decide) (hta _ fl_M_111) (fun _ h9 => h9) rfl d_M_takeAttribute_107 ?_
      refine lv_if_ne (tgt := 165) hx hb d_M_takeAttribute_110 (by decide) (fun cc110 => ?_) (fun cc110 => ?_)
      · have hE := hE.2 cc110
        exact J165  σ _ _ hP hD hS _ (lv_sub hl [0] rfl) hE
      · have hE := hE.1 cc110
        refine lv_aload_n hx hb d_M_takeAttribute_113 rfl (lv_at hl 0 rfl) ?_
        refine lv_aload_n hx hb d_M_takeAttribute_114 rfl (lv_at hl 0 rfl) ?_
        refine va_get (D := (mG md)) (ci := 7) (v := .int (mp_at σ)) (C := R_M) (T := F_M) (N := 37) hx hb hta i_M hown hK hP 0 rfl rfl 13 (by decide) (hta _ fl_M_101) (fun _ h9 => h9) rfl d_M_takeAttribute_115 ?_
        refine ro_V (b0 := (mA md 0)) (As := [.int (mp_at σ)]) (rest := []) ⟨hx, hb, hml, hown, hta⟩ (c_M_x l md σ (mp_at σ)  _ hE) ok_M_95 ⟨Nat.le_of_ble_eq_true rfl, Nat.le_of_ble_eq_true rfl⟩ blind_rM (va_recv hK hP (ci := 7) (q0 := 0) rfl rfl) (rM_of hP hK) rfl hl.1 rfl (Nat.le_of_ble_eq_true rfl) d_M_takeAttribute_118 ⟨Nat.zero_le _, Nat.zero_le _⟩ (fun r118 hE => ?_)
        refine lv_bipush (v := 34) hx hb d_M_takeAttribute_121 (by decide) ?_
        refine lv_icmp_eq (tgt := 165) hx hb d_M_takeAttribute_123 (by decide) (fun cc123 => ?_) (fun cc123 => ?_)
        · have hE := hE.1 cc123
          exact J165  σ _ _ hP hD hS _ (lv_sub hl [0] rfl) hE
        · have hE := hE.2 cc123
          refine lv_aload_n hx hb d_M_takeAttribute_126 rfl (lv_at hl 0 rfl) ?_
          refine va_get (D := (mG md)) (ci := 7) (v := .int (mp_at σ)) (C := R_M) (T := F_M) (N := 37) hx hb hta i_M hown hK hP 0 rfl rfl 13 (by decide) (hta _ fl_M_101) (fun _ h9 => h9) rfl d_M_takeAttribute_127 ?_
          refine lv_aload_n hx hb d_M_takeAttribute_130 rfl (lv_at hl 0 rfl) ?_
          refine va_get (D := (mG md)) (ci := 7) (v := .int (mp_size σ)) (C := R_M) (T := F_M) (N := 37) hx hb hta i_M hown hK hP 0 rfl rfl 7 (by decide) (hta _ fl_M_92) (fun _ h9 => h9) rfl d_M_takeAttribute_131 ?_
          refine lv_icmp_ge (tgt := 150) hx hb d_M_takeAttribute_134 (by decide) (fun cc134 => ?_) (fun cc134 => ?_)
          · have hE := hE.1 cc134
            exact J150  σ _ _ hP hD hS _ (lv_sub hl [0] rfl) hE
          · have hE := hE.2 cc134
            refine lv_aload_n hx hb d_M_takeAttribute_137 rfl (lv_at hl 0 rfl) ?_
            refine lv_aload_n hx hb d_M_takeAttribute_138 rfl (lv_at hl 0 rfl) ?_
            refine va_get (D := (mG md)) (ci := 7) (v := .int (mp_at σ)) (C := R_M) (T := F_M) (N := 37) hx hb hta i_M hown hK hP 0 rfl rfl 13 (by decide) (hta _ fl_M_101) (fun _ h9 => h9) rfl d_M_takeAttribute_139 ?_
            refine ro_V (b0 := (mA md 0)) (As := [.int (mp_at σ)]) (rest := []) ⟨hx, hb, hml, hown, hta⟩ (c_M_x l md σ (mp_at σ)  _ hE) ok_M_95 ⟨Nat.le_of_ble_eq_true rfl, Nat.le_of_ble_eq_true rfl⟩ blind_rM (va_recv hK hP (ci := 7) (q0 := 0) rfl rfl) (rM_of hP hK) rfl hl.1 rfl (Nat.le_of_ble_eq_true rfl) d_M_takeAttribute_142 ⟨Nat.zero_le _, Nat.zero_le _⟩ (fun r142 hE => ?_)
            refine lv_bipush (v := 60) hx hb d_M_takeAttribute_145 (by decide) ?_
            refine lv_icmp_ne (tgt := 158) hx hb d_M_takeAttribute_147 (by decide) (fun cc147 => ?_) (fun cc147 => ?_)
            · have hE := hE.2 cc147
              refine lv_aload_n hx hb d_M_takeAttribute_158 rfl (lv_at hl 0 rfl) ?_
              refine mm_v (b0 := (mA md 0)) (As := []) (rest := []) ⟨hx, hb, hml, hown, hta⟩ (c_M_takeCharacter l md _ σ  _ hE) ok_M_172 ⟨Nat.le_of_ble_eq_true rfl, Nat.le_of_ble_eq_true rfl⟩ (va_recv hK hP (ci := 7) (q0 := 0) rfl rfl) hP hK hD hS hA rfl hl.1 rfl (Nat.le_of_ble_eq_true rfl) d_M_takeAttribute_159 ⟨Nat.zero_le _, Nat.zero_le _⟩ (fun σ159 H locs hE hP hD hS => ?_)
              refine lv_goto (tgt := 106) hx hb d_M_takeAttribute_162 (by decide) ?_
              exact ih106 σ159 _ _ hP hD hS _ (lv_sub hl [0] rfl) hE
            · have hE := hE.1 cc147
              exact J150  σ _ _ hP hD hS _ (lv_sub hl [0] rfl) hE
  have J90 : ∀ (σ : MPS) (H : Heap) (locs : List Loc) (hP : va_P (mG md) classes (MW md σ) H) (hD : va_D A (MW md σ)) (hS : va_S A s.heap H locs) (ls : Array Slot) (hl : lv_has ls 4 [(0, .ref (mA md 0))]) (hE : w_M_takeAttribute_J90 post σ), W p l e (headSpec ws_M_takeAttribute { frames := 4, cells := 0, slots := 0, locals := 93 }).room s m ([.ref (mA md 0), .int x0] : List Value).toArray below meth c H locs 0 0 (MQ below (va_Qv post (eM md A) A) ([.ref (mA md 0), .int x0] : List Value).toArray s 0 0 A) (F0 m 90 ls []) := by
    intro  σ H locs hP hD hS ls hl hE
    unfold w_M_takeAttribute_J90 at hE
    refine lv_aload_n hx hb d_M_takeAttribute_90 rfl (lv_at hl 0 rfl) ?_
    refine lv_iconst (v := 1) hx hb d_M_takeAttribute_91 (by decide) ?_
    refine va_put (D := (mG md)) (ci := 7) (v := .int 1) (ty := .boolean) (C := R_M) (T := F_M) (N := 37) hx hb hta i_M t_M t_M_ok n_M hown hK hP hD hS 0 rfl rfl 16 (by decide) (hta _ fl_M_111) (fun _ h9 => h9) rfl (by decide +kernel) rfl rfl (Nat.le_of_ble_eq_true rfl) d_M_takeAttribute_92 (fun H locs hP hD hS => ?_)
    have hP : va_P (mG md) classes (MW md (ms_bad σ 1)) H := hP
    have hD : va_D A (MW md (ms_bad σ 1)) := hD
    have hE := hE _ rfl
    generalize (ms_bad σ 1 : MPS) = σ92 at hP hD hE
    exact W.vret hx hb hr (fun t ht hW => ⟨⟨σ92, rfl, hE, by rw [ht]; exact hP, va_K.moved hW.alike hK, hD⟩, hS.F ht⟩) hS.2.2 d_M_takeAttribute_95
  have J70 : ∀ (σ : MPS) (H : Heap) (locs : List Loc) (hP : va_P (mG md) classes (MW md σ) H) (hD : va_D A (MW md σ)) (hS : va_S A s.heap H locs) (ls : Array Slot) (hl : lv_has ls 4 [(0, .ref (mA md 0))]) (hE : w_M_takeAttribute_J70 post σ), W p l e (headSpec ws_M_takeAttribute { frames := 4, cells := 0, slots := 0, locals := 93 }).room s m ([.ref (mA md 0), .int x0] : List Value).toArray below meth c H locs 0 0 (MQ below (va_Qv post (eM md A) A) ([.ref (mA md 0), .int x0] : List Value).toArray s 0 0 A) (F0 m 70 ls []) := by
    intro  σ H locs hP hD hS ls hl hE
    unfold w_M_takeAttribute_J70 at hE
    refine lv_aload_n hx hb d_M_takeAttribute_70 rfl (lv_at hl 0 rfl) ?_
    refine va_get (D := (mG md)) (ci := 7) (v := .int (mp_bad σ)) (C := R_M) (T := F_M) (N := 37) hx hb hta i_M hown hK hP 0 rfl rfl 16 (by decide) (hta _ fl_M_111) (fun _ h9 => h9) rfl d_M_takeAttribute_71 ?_
    refine lv_if_ne (tgt := 90) hx hb d_M_takeAttribute_74 (by decide) (fun cc74 => ?_) (fun cc74 => ?_)
    · have hE := hE.2 cc74
      exact J90  σ _ _ hP hD hS _ (lv_sub hl [0] rfl) hE
    · have hE := hE.1 cc74
      refine lv_aload_n hx hb d_M_takeAttribute_77 rfl (lv_at hl 0 rfl) ?_
      refine lv_aload_n hx hb d_M_takeAttribute_78 rfl (lv_at hl 0 rfl) ?_
      refine va_get (D := (mG md)) (ci := 7) (v := .int (mp_at σ)) (C := R_M) (T := F_M) (N := 37) hx hb hta i_M hown hK hP 0 rfl rfl 13 (by decide) (hta _ fl_M_101) (fun _ h9 => h9) rfl d_M_takeAttribute_79 ?_
      refine ro_V (b0 := (mA md 0)) (As := [.int (mp_at σ)]) (rest := []) ⟨hx, hb, hml, hown, hta⟩ (c_M_x l md σ (mp_at σ)  _ hE) ok_M_95 ⟨Nat.le_of_ble_eq_true rfl, Nat.le_of_ble_eq_true rfl⟩ blind_rM (va_recv hK hP (ci := 7) (q0 := 0) rfl rfl) (rM_of hP hK) rfl hl.1 rfl (Nat.le_of_ble_eq_true rfl) d_M_takeAttribute_82 ⟨Nat.zero_le _, Nat.zero_le _⟩ (fun r82 hE => ?_)
      refine lv_bipush (v := 34) hx hb d_M_takeAttribute_85 (by decide) ?_
      refine lv_icmp_eq (tgt := 96) hx hb d_M_takeAttribute_87 (by decide) (fun cc87 => ?_) (fun cc87 => ?_)
      · have hE := hE.1 cc87
        refine lv_aload_n hx hb d_M_takeAttribute_96 rfl (lv_at hl 0 rfl) ?_
        refine lv_dup hx hb d_M_takeAttribute_97 rfl ?_
        refine va_get (D := (mG md)) (ci := 7) (v := .int (mp_at σ)) (C := R_M) (T := F_M) (N := 37) hx hb hta i_M hown hK hP 0 rfl rfl 13 (by decide) (hta _ fl_M_101) (fun _ h9 => h9) rfl d_M_takeAttribute_98 ?_
        refine lv_iconst (v := 1) hx hb d_M_takeAttribute_101 (by decide) ?_
        refine lv_iadd hx hb d_M_takeAttribute_102 ?_
        refine va_put (D := (mG md)) (ci := 7) (v := .int ((mp_at σ) + 1)) (ty := .int) (C := R_M) (T := F_M) (N := 37) hx hb hta i_M t_M t_M_ok n_M hown hK hP hD hS 0 rfl rfl 13 (by decide) (hta _ fl_M_101) (fun _ h9 => h9) rfl (by decide +kernel) rfl rfl (Nat.le_of_ble_eq_true rfl) d_M_takeAttribute_103 (fun H locs hP hD hS => ?_)
        have hP : va_P (mG md) classes (MW md (ms_at σ ((mp_at σ) + 1))) H := hP
        have hD : va_D A (MW md (ms_at σ ((mp_at σ) + 1))) := hD
        have hE := hE _ rfl
        generalize (ms_at σ ((mp_at σ) + 1) : MPS) = σ103 at hP hD hE
        obtain ⟨n, hE⟩ := hE
        exact L106  n σ103 _ _ hP hD hS _ (lv_sub hl [0] rfl) hE
      · have hE := hE.2 cc87
        exact J90  σ _ _ hP hD hS _ (lv_sub hl [0] rfl) hE
  unfold w_M_takeAttribute at hE
  refine lv_aload_n hx hb d_M_takeAttribute_0 rfl (lv_at hl 0 rfl) ?_
  refine va_get (D := (mG md)) (ci := 7) (v := .int (mp_at σ)) (C := R_M) (T := F_M) (N := 37) hx hb hta i_M hown hK hP 0 rfl rfl 13 (by decide) (hta _ fl_M_101) (fun _ h9 => h9) rfl d_M_takeAttribute_1 ?_
  refine lv_istore_n (lv' := [(2, .int (mp_at σ)), (0, .ref (mA md 0)), (1, .int x0)]) hx hb d_M_takeAttribute_4 rfl hl (by decide) rfl (fun ls hl => ?_)
  refine lv_aload_n hx hb d_M_takeAttribute_5 rfl (lv_at hl 1 rfl) ?_
  refine mm_i (b0 := (mA md 0)) (As := []) (rest := []) ⟨hx, hb, hml, hown, hta⟩ (c_M_takeName l md _ σ  _ hE) ok_M_165 ⟨Nat.le_of_ble_eq_true rfl, Nat.le_of_ble_eq_true rfl⟩ (va_recv hK hP (ci := 7) (q0 := 0) rfl rfl) hP hK hD hS hA rfl hl.1 rfl (Nat.le_of_ble_eq_true rfl) d_M_takeAttribute_6 ⟨Nat.zero_le _, Nat.zero_le _⟩ (fun r6 σ6 H locs hE hP hD hS => ?_)
  refine lv_istore_n (lv' := [(3, .int r6), (2, .int (mp_at σ)), (0, .ref (mA md 0)), (1, .int x0)]) hx hb d_M_takeAttribute_9 rfl hl (by decide) rfl (fun ls hl => ?_)
  refine lv_aload_n hx hb d_M_takeAttribute_10 rfl (lv_at hl 2 rfl) ?_
  refine va_get (D := (mG md)) (ci := 7) (v := .int (mp_bad σ6)) (C := R_M) (T := F_M) (N := 37) hx hb hta i_M hown hK hP 0 rfl rfl 16 (by decide) (hta _ fl_M_111) (fun _ h9 => h9) rfl d_M_takeAttribute_11 ?_
  refine lv_if_eq (tgt := 18) hx hb d_M_takeAttribute_14 (by decide) (fun cc14 => ?_) (fun cc14 => ?_)
  · have hE := hE.1 cc14
    refine lv_aload_n hx hb d_M_takeAttribute_18 rfl (lv_at hl 2 rfl) ?_
    refine lv_iload_n hx hb d_M_takeAttribute_19 rfl (lv_at hl 3 rfl) ?_
    refine lv_iload_n hx hb d_M_takeAttribute_20 rfl (lv_at hl 1 rfl) ?_
    refine lv_iload_n hx hb d_M_takeAttribute_21 rfl (lv_at hl 0 rfl) ?_
    refine mm_i (b0 := (mA md 0)) (As := [.int x0, .int (mp_at σ), .int r6]) (rest := []) ⟨hx, hb, hml, hown, hta⟩ (c_M_wasHad l md _ σ6 x0 (mp_at σ) r6 _ hE) ok_M_169 ⟨Nat.le_of_ble_eq_true rfl, Nat.le_of_ble_eq_true rfl⟩ (va_recv hK hP (ci := 7) (q0 := 0) rfl rfl) hP hK hD hS hA rfl hl.1 rfl (Nat.le_of_ble_eq_true rfl) d_M_takeAttribute_22 ⟨Nat.zero_le _, Nat.zero_le _⟩ (fun r22 σ22 H locs hE hP hD hS => ?_)
    refine lv_if_eq (tgt := 39) hx hb d_M_takeAttribute_25 (by decide) (fun cc25 => ?_) (fun cc25 => ?_)
    · have hE := hE.1 cc25
      refine lv_aload_n hx hb d_M_takeAttribute_39 rfl (lv_at hl 2 rfl) ?_
      refine lv_aload_n hx hb d_M_takeAttribute_40 rfl (lv_at hl 2 rfl) ?_
      refine va_get (D := (mG md)) (ci := 7) (v := .int (mp_at σ22)) (C := R_M) (T := F_M) (N := 37) hx hb hta i_M hown hK hP 0 rfl rfl 13 (by decide) (hta _ fl_M_101) (fun _ h9 => h9) rfl d_M_takeAttribute_41 ?_
      refine ro_V (b0 := (mA md 0)) (As := [.int (mp_at σ22)]) (rest := []) ⟨hx, hb, hml, hown, hta⟩ (c_M_x l md σ22 (mp_at σ22)  _ hE) ok_M_95 ⟨Nat.le_of_ble_eq_true rfl, Nat.le_of_ble_eq_true rfl⟩ blind_rM (va_recv hK hP (ci := 7) (q0 := 0) rfl rfl) (rM_of hP hK) rfl hl.1 rfl (Nat.le_of_ble_eq_true rfl) d_M_takeAttribute_44 ⟨Nat.zero_le _, Nat.zero_le _⟩ (fun r44 hE => ?_)
      refine lv_bipush (v := 61) hx hb d_M_takeAttribute_47 (by decide) ?_
      refine lv_icmp_eq (tgt := 60) hx hb d_M_takeAttribute_49 (by decide) (fun cc49 => ?_) (fun cc49 => ?_)
      · have hE := hE.1 cc49
        refine lv_aload_n hx hb d_M_takeAttribute_60 rfl (lv_at hl 2 rfl) ?_
        refine lv_dup hx hb d_M_takeAttribute_61 rfl ?_
        refine va_get (D := (mG md)) (ci := 7) (v := .int (mp_at σ22)) (C := R_M) (T := F_M) (N := 37) hx hb hta i_M hown hK hP 0 rfl rfl 13 (by decide) (hta _ fl_M_101) (fun _ h9 => h9) rfl d_M_takeAttribute_62 ?_
        refine lv_iconst (v := 1) hx hb d_M_takeAttribute_65 (by decide) ?_
        refine lv_iadd hx hb d_M_takeAttribute_66 ?_
        refine va_put (D := (mG md)) (ci := 7) (v := .int ((mp_at σ22) + 1)) (ty := .int) (C := R_M) (T := F_M) (N := 37) hx hb hta i_M t_M t_M_ok n_M hown hK hP hD hS 0 rfl rfl 13 (by decide) (hta _ fl_M_101) (fun _ h9 => h9) rfl (by decide +kernel) rfl rfl (Nat.le_of_ble_eq_true rfl) d_M_takeAttribute_67 (fun H locs hP hD hS => ?_)
        have hP : va_P (mG md) classes (MW md (ms_at σ22 ((mp_at σ22) + 1))) H := hP
        have hD : va_D A (MW md (ms_at σ22 ((mp_at σ22) + 1))) := hD
        have hE := hE _ rfl
        generalize (ms_at σ22 ((mp_at σ22) + 1) : MPS) = σ67 at hP hD hE
        exact J70  σ67 _ _ hP hD hS _ (lv_sub hl [2] rfl) hE
      · have hE := hE.2 cc49
        refine lv_aload_n hx hb d_M_takeAttribute_52 rfl (lv_at hl 2 rfl) ?_
        refine lv_iconst (v := 1) hx hb d_M_takeAttribute_53 (by decide) ?_
        refine va_put (D := (mG md)) (ci := 7) (v := .int 1) (ty := .boolean) (C := R_M) (T := F_M) (N := 37) hx hb hta i_M t_M t_M_ok n_M hown hK hP hD hS 0 rfl rfl 16 (by decide) (hta _ fl_M_111) (fun _ h9 => h9) rfl (by decide +kernel) rfl rfl (Nat.le_of_ble_eq_true rfl) d_M_takeAttribute_54 (fun H locs hP hD hS => ?_)
        have hP : va_P (mG md) classes (MW md (ms_bad σ22 1)) H := hP
        have hD : va_D A (MW md (ms_bad σ22 1)) := hD
        have hE := hE _ rfl
        generalize (ms_bad σ22 1 : MPS) = σ54 at hP hD hE
        refine lv_goto (tgt := 70) hx hb d_M_takeAttribute_57 (by decide) ?_
        exact J70  σ54 _ _ hP hD hS _ (lv_sub hl [2] rfl) hE
    · have hE := hE.2 cc25
      refine lv_aload_n hx hb d_M_takeAttribute_28 rfl (lv_at hl 2 rfl) ?_
      refine lv_iload_n hx hb d_M_takeAttribute_29 rfl (lv_at hl 1 rfl) ?_
      refine va_put (D := (mG md)) (ci := 7) (v := .int (mp_at σ)) (ty := .int) (C := R_M) (T := F_M) (N := 37) hx hb hta i_M t_M t_M_ok n_M hown hK hP hD hS 0 rfl rfl 13 (by decide) (hta _ fl_M_101) (fun _ h9 => h9) rfl (by decide +kernel) rfl rfl (Nat.le_of_ble_eq_true rfl) d_M_takeAttribute_30 (fun H locs hP hD hS => ?_)
      have hP : va_P (mG md) classes (MW md (ms_at σ22 (mp_at σ))) H := hP
      have hD : va_D A (MW md (ms_at σ22 (mp_at σ))) := hD
      have hE := hE _ rfl
      generalize (ms_at σ22 (mp_at σ) : MPS) = σ30 at hP hD hE
      refine lv_aload_n hx hb d_M_takeAttribute_33 rfl (lv_at hl 2 rfl) ?_
      refine lv_iconst (v := 1) hx hb d_M_takeAttribute_34 (by decide) ?_
      refine va_put (D := (mG md)) (ci := 7) (v := .int 1) (ty := .boolean) (C := R_M) (T := F_M) (N := 37) hx hb hta i_M t_M t_M_ok n_M hown hK hP hD hS 0 rfl rfl 16 (by decide) (hta _ fl_M_111) (fun _ h9 => h9) rfl (by decide +kernel) rfl rfl (Nat.le_of_ble_eq_true rfl) d_M_takeAttribute_35 (fun H locs hP hD hS => ?_)
      have hP : va_P (mG md) classes (MW md (ms_bad σ30 1)) H := hP
      have hD : va_D A (MW md (ms_bad σ30 1)) := hD
      have hE := hE _ rfl
      generalize (ms_bad σ30 1 : MPS) = σ35 at hP hD hE
      exact W.vret hx hb hr (fun t ht hW => ⟨⟨σ35, rfl, hE, by rw [ht]; exact hP, va_K.moved hW.alike hK, hD⟩, hS.F ht⟩) hS.2.2 d_M_takeAttribute_38
  · have hE := hE.2 cc14
    exact W.vret hx hb hr (fun t ht hW => ⟨⟨σ6, rfl, hE, by rw [ht]; exact hP, va_K.moved hW.alike hK, hD⟩, hS.F ht⟩) hS.2.2 d_M_takeAttribute_17
theorem fl_M_43 : Cond.fieldLink "PlainPagesModel" 43 "PlainPagesModel" "ends" "[I" ∈ aW := aW_in 929 (by decide +kernel) rfl
theorem fl_M_178 : Cond.fieldLink "PlainPagesModel" 178 "PlainPagesModel" "deep" "I" ∈ aW := aW_in 919 (by decide +kernel) rfl
theorem fl_M_61 : Cond.fieldLink "PlainPagesModel" 61 "PlainPagesModel" "openNode" "[I" ∈ aW := aW_in 935 (by decide +kernel) rfl
theorem fl_M_58 : Cond.fieldLink "PlainPagesModel" 58 "PlainPagesModel" "last" "[I" ∈ aW := aW_in 934 (by decide +kernel) rfl
theorem d_M_add_0 : decode b_M_add 0 = .ok (.aload_n 0, 1) := by decide +kernel
theorem d_M_add_1 : decode b_M_add 1 = .ok (.getfield 175, 3) := by decide +kernel
theorem d_M_add_4 : decode b_M_add 4 = .ok (.istore 4, 2) := by decide +kernel
theorem d_M_add_6 : decode b_M_add 6 = .ok (.aload_n 0, 1) := by decide +kernel
theorem d_M_add_7 : decode b_M_add 7 = .ok (.dup, 1) := by decide +kernel
theorem d_M_add_8 : decode b_M_add 8 = .ok (.getfield 175, 3) := by decide +kernel
theorem d_M_add_11 : decode b_M_add 11 = .ok (.iconst 1, 1) := by decide +kernel
theorem d_M_add_12 : decode b_M_add 12 = .ok (.iadd, 1) := by decide +kernel
theorem d_M_add_13 : decode b_M_add 13 = .ok (.putfield 175, 3) := by decide +kernel
theorem d_M_add_16 : decode b_M_add 16 = .ok (.aload_n 0, 1) := by decide +kernel
theorem d_M_add_17 : decode b_M_add 17 = .ok (.getfield 36, 3) := by decide +kernel
theorem d_M_add_20 : decode b_M_add 20 = .ok (.iload 4, 2) := by decide +kernel
theorem d_M_add_22 : decode b_M_add 22 = .ok (.iload_n 1, 1) := by decide +kernel
theorem d_M_add_23 : decode b_M_add 23 = .ok (.bastore, 1) := by decide +kernel
theorem d_M_add_24 : decode b_M_add 24 = .ok (.aload_n 0, 1) := by decide +kernel
theorem d_M_add_25 : decode b_M_add 25 = .ok (.getfield 40, 3) := by decide +kernel
theorem d_M_add_28 : decode b_M_add 28 = .ok (.iload 4, 2) := by decide +kernel
theorem d_M_add_30 : decode b_M_add 30 = .ok (.iload_n 2, 1) := by decide +kernel
theorem d_M_add_31 : decode b_M_add 31 = .ok (.iastore, 1) := by decide +kernel
theorem d_M_add_32 : decode b_M_add 32 = .ok (.aload_n 0, 1) := by decide +kernel
theorem d_M_add_33 : decode b_M_add 33 = .ok (.getfield 43, 3) := by decide +kernel
theorem d_M_add_36 : decode b_M_add 36 = .ok (.iload 4, 2) := by decide +kernel
theorem d_M_add_38 : decode b_M_add 38 = .ok (.iload_n 3, 1) := by decide +kernel
theorem d_M_add_39 : decode b_M_add 39 = .ok (.iastore, 1) := by decide +kernel
theorem d_M_add_40 : decode b_M_add 40 = .ok (.aload_n 0, 1) := by decide +kernel
theorem d_M_add_41 : decode b_M_add 41 = .ok (.getfield 46, 3) := by decide +kernel
theorem d_M_add_44 : decode b_M_add 44 = .ok (.iload 4, 2) := by decide +kernel
theorem d_M_add_46 : decode b_M_add 46 = .ok (.aload_n 0, 1) := by decide +kernel
theorem d_M_add_47 : decode b_M_add 47 = .ok (.getfield 178, 3) := by decide +kernel
theorem d_M_add_50 : decode b_M_add 50 = .ok (.ifCond .ne 7, 3) := by decide +kernel
theorem d_M_add_53 : decode b_M_add 53 = .ok (.iconst (-1), 1) := by decide +kernel
theorem d_M_add_54 : decode b_M_add 54 = .ok (.goto 14, 3) := by decide +kernel
theorem d_M_add_57 : decode b_M_add 57 = .ok (.aload_n 0, 1) := by decide +kernel
theorem d_M_add_58 : decode b_M_add 58 = .ok (.getfield 61, 3) := by decide +kernel
theorem d_M_add_61 : decode b_M_add 61 = .ok (.aload_n 0, 1) := by decide +kernel
theorem d_M_add_62 : decode b_M_add 62 = .ok (.getfield 178, 3) := by decide +kernel
theorem d_M_add_65 : decode b_M_add 65 = .ok (.iconst 1, 1) := by decide +kernel
theorem d_M_add_66 : decode b_M_add 66 = .ok (.isub, 1) := by decide +kernel
theorem d_M_add_67 : decode b_M_add 67 = .ok (.iaload, 1) := by decide +kernel
theorem d_M_add_68 : decode b_M_add 68 = .ok (.iastore, 1) := by decide +kernel
theorem d_M_add_69 : decode b_M_add 69 = .ok (.aload_n 0, 1) := by decide +kernel
theorem d_M_add_70 : decode b_M_add 70 = .ok (.getfield 55, 3) := by decide +kernel
theorem d_M_add_73 : decode b_M_add 73 = .ok (.iload 4, 2) := by decide +kernel
theorem d_M_add_75 : decode b_M_add 75 = .ok (.aload_n 0, 1) := by decide +kernel
theorem d_M_add_76 : decode b_M_add 76 = .ok (.getfield 178, 3) := by decide +kernel
theorem d_M_add_79 : decode b_M_add 79 = .ok (.iconst 1, 1) := by decide +kernel
theorem d_M_add_80 : decode b_M_add 80 = .ok (.iadd, 1) := by decide +kernel
theorem d_M_add_81 : decode b_M_add 81 = .ok (.iastore, 1) := by decide +kernel
theorem d_M_add_82 : decode b_M_add 82 = .ok (.aload_n 0, 1) := by decide +kernel
theorem d_M_add_83 : decode b_M_add 83 = .ok (.getfield 49, 3) := by decide +kernel
theorem d_M_add_86 : decode b_M_add 86 = .ok (.iload 4, 2) := by decide +kernel
theorem d_M_add_88 : decode b_M_add 88 = .ok (.iconst (-1), 1) := by decide +kernel
theorem d_M_add_89 : decode b_M_add 89 = .ok (.iastore, 1) := by decide +kernel
theorem d_M_add_90 : decode b_M_add 90 = .ok (.aload_n 0, 1) := by decide +kernel
theorem d_M_add_91 : decode b_M_add 91 = .ok (.getfield 52, 3) := by decide +kernel
theorem d_M_add_94 : decode b_M_add 94 = .ok (.iload 4, 2) := by decide +kernel
theorem d_M_add_96 : decode b_M_add 96 = .ok (.iconst (-1), 1) := by decide +kernel
theorem d_M_add_97 : decode b_M_add 97 = .ok (.iastore, 1) := by decide +kernel
theorem d_M_add_98 : decode b_M_add 98 = .ok (.aload_n 0, 1) := by decide +kernel
theorem d_M_add_99 : decode b_M_add 99 = .ok (.getfield 58, 3) := by decide +kernel
theorem d_M_add_102 : decode b_M_add 102 = .ok (.iload 4, 2) := by decide +kernel
theorem d_M_add_104 : decode b_M_add 104 = .ok (.iconst (-1), 1) := by decide +kernel
theorem d_M_add_105 : decode b_M_add 105 = .ok (.iastore, 1) := by decide +kernel
theorem d_M_add_106 : decode b_M_add 106 = .ok (.aload_n 0, 1) := by decide +kernel
theorem d_M_add_107 : decode b_M_add 107 = .ok (.getfield 178, 3) := by decide +kernel
theorem d_M_add_110 : decode b_M_add 110 = .ok (.ifCond .ne 6, 3) := by decide +kernel
theorem d_M_add_113 : decode b_M_add 113 = .ok (.iload 4, 2) := by decide +kernel
theorem d_M_add_115 : decode b_M_add 115 = .ok (.ireturn, 1) := by decide +kernel
theorem d_M_add_116 : decode b_M_add 116 = .ok (.aload_n 0, 1) := by decide +kernel
theorem d_M_add_117 : decode b_M_add 117 = .ok (.getfield 46, 3) := by decide +kernel
theorem d_M_add_120 : decode b_M_add 120 = .ok (.iload 4, 2) := by decide +kernel
theorem d_M_add_122 : decode b_M_add 122 = .ok (.iaload, 1) := by decide +kernel
theorem d_M_add_123 : decode b_M_add 123 = .ok (.istore 5, 2) := by decide +kernel
theorem d_M_add_125 : decode b_M_add 125 = .ok (.aload_n 0, 1) := by decide +kernel
theorem d_M_add_126 : decode b_M_add 126 = .ok (.getfield 49, 3) := by decide +kernel
theorem d_M_add_129 : decode b_M_add 129 = .ok (.iload 5, 2) := by decide +kernel
theorem d_M_add_131 : decode b_M_add 131 = .ok (.iaload, 1) := by decide +kernel
theorem d_M_add_132 : decode b_M_add 132 = .ok (.iconst (-1), 1) := by decide +kernel
theorem d_M_add_133 : decode b_M_add 133 = .ok (.if_icmp .ne 15, 3) := by decide +kernel
theorem d_M_add_136 : decode b_M_add 136 = .ok (.aload_n 0, 1) := by decide +kernel
theorem d_M_add_137 : decode b_M_add 137 = .ok (.getfield 49, 3) := by decide +kernel
theorem d_M_add_140 : decode b_M_add 140 = .ok (.iload 5, 2) := by decide +kernel
theorem d_M_add_142 : decode b_M_add 142 = .ok (.iload 4, 2) := by decide +kernel
theorem d_M_add_144 : decode b_M_add 144 = .ok (.iastore, 1) := by decide +kernel
theorem d_M_add_145 : decode b_M_add 145 = .ok (.goto 17, 3) := by decide +kernel
theorem d_M_add_148 : decode b_M_add 148 = .ok (.aload_n 0, 1) := by decide +kernel
theorem d_M_add_149 : decode b_M_add 149 = .ok (.getfield 52, 3) := by decide +kernel
theorem d_M_add_152 : decode b_M_add 152 = .ok (.aload_n 0, 1) := by decide +kernel
theorem d_M_add_153 : decode b_M_add 153 = .ok (.getfield 58, 3) := by decide +kernel
theorem d_M_add_156 : decode b_M_add 156 = .ok (.iload 5, 2) := by decide +kernel
theorem d_M_add_158 : decode b_M_add 158 = .ok (.iaload, 1) := by decide +kernel
theorem d_M_add_159 : decode b_M_add 159 = .ok (.iload 4, 2) := by decide +kernel
theorem d_M_add_161 : decode b_M_add 161 = .ok (.iastore, 1) := by decide +kernel
theorem d_M_add_162 : decode b_M_add 162 = .ok (.aload_n 0, 1) := by decide +kernel
theorem d_M_add_163 : decode b_M_add 163 = .ok (.getfield 58, 3) := by decide +kernel
theorem d_M_add_166 : decode b_M_add 166 = .ok (.iload 5, 2) := by decide +kernel
theorem d_M_add_168 : decode b_M_add 168 = .ok (.iload 4, 2) := by decide +kernel
theorem d_M_add_170 : decode b_M_add 170 = .ok (.iastore, 1) := by decide +kernel
theorem d_M_add_171 : decode b_M_add 171 = .ok (.iload 4, 2) := by decide +kernel
theorem d_M_add_173 : decode b_M_add 173 = .ok (.ireturn, 1) := by decide +kernel
def w_M_add_J162   (post : Int32 → MPS → Prop) (v4 : Int32) (v5 : Int32) (σ : MPS) : Prop := (vp_in v5 1000 ∧ (∀ σ170 : MPS, σ170 = ms_last σ (upd (mp_last σ) v5.toNatClampNeg v4) → post v4 σ170))
def w_M_add_J68   (post : Int32 → MPS → Prop) (v4 : Int32) (t0 : Int32) (t1 : Int32) (σ : MPS) : Prop := (vp_in t1 1000 ∧ (∀ σ68 : MPS, σ68 = ms_up σ (upd (mp_up σ) t1.toNatClampNeg t0) → (vp_in v4 1000 ∧ (∀ σ81 : MPS, σ81 = ms_depth σ68 (upd (mp_depth σ68) v4.toNatClampNeg ((mp_deep σ68) + 1)) → (vp_in v4 1000 ∧ (∀ σ89 : MPS, σ89 = ms_first σ81 (upd (mp_first σ81) v4.toNatClampNeg (-1)) → (vp_in v4 1000 ∧ (∀ σ97 : MPS, σ97 = ms_next σ89 (upd (mp_next σ89) v4.toNatClampNeg (-1)) → (vp_in v4 1000 ∧ (∀ σ105 : MPS, σ105 = ms_last σ97 (upd (mp_last σ97) v4.toNatClampNeg (-1)) → (((mp_deep σ105) = 0 → post v4 σ105) ∧ (¬ (mp_deep σ105) = 0 → (vp_in v4 1000 ∧ (vp_in ((mp_up σ105) v4.toNatClampNeg) 1000 ∧ ((((mp_first σ105) ((mp_up σ105) v4.toNatClampNeg).toNatClampNeg) = (-1) → (vp_in ((mp_up σ105) v4.toNatClampNeg) 1000 ∧ (∀ σ144 : MPS, σ144 = ms_first σ105 (upd (mp_first σ105) ((mp_up σ105) v4.toNatClampNeg).toNatClampNeg v4) → w_M_add_J162 post v4 ((mp_up σ105) v4.toNatClampNeg) σ144))) ∧ (¬ ((mp_first σ105) ((mp_up σ105) v4.toNatClampNeg).toNatClampNeg) = (-1) → (vp_in ((mp_up σ105) v4.toNatClampNeg) 1000 ∧ (vp_in ((mp_last σ105) ((mp_up σ105) v4.toNatClampNeg).toNatClampNeg) 1000 ∧ (∀ σ161 : MPS, σ161 = ms_next σ105 (upd (mp_next σ105) ((mp_last σ105) ((mp_up σ105) v4.toNatClampNeg).toNatClampNeg).toNatClampNeg v4) → w_M_add_J162 post v4 ((mp_up σ105) v4.toNatClampNeg) σ161)))))))))))))))))))
def w_M_add  (σ : MPS) (x0 : Int32) (x1 : Int32) (x2 : Int32) (post : Int32 → MPS → Prop) : Prop := (∀ σ13 : MPS, σ13 = ms_nodes σ ((mp_nodes σ) + 1) → (vp_in (mp_nodes σ) 1000 ∧ (∀ σ23 : MPS, σ23 = ms_isElement σ13 (upd (mp_isElement σ13) (mp_nodes σ).toNatClampNeg (vp_nar .boolean x0)) → (vp_in (mp_nodes σ) 1000 ∧ (∀ σ31 : MPS, σ31 = ms_begins σ23 (upd (mp_begins σ23) (mp_nodes σ).toNatClampNeg x1) → (vp_in (mp_nodes σ) 1000 ∧ (∀ σ39 : MPS, σ39 = ms_ends σ31 (upd (mp_ends σ31) (mp_nodes σ).toNatClampNeg x2) → (((mp_deep σ39) = 0 → w_M_add_J68 post (mp_nodes σ) (-1) (mp_nodes σ) σ39) ∧ (¬ (mp_deep σ39) = 0 → (vp_in ((mp_deep σ39) - 1) 42 ∧ w_M_add_J68 post (mp_nodes σ) ((mp_openNode σ39) ((mp_deep σ39) - 1).toNatClampNeg) (mp_nodes σ) σ39))))))))))
set_option maxHeartbeats 4000000 in
set_option maxRecDepth 100000 in
theorem c_M_add (l : Launch) (md : MD) (sz : Nat) (σ : MPS) (x0 : Int32) (x1 : Int32) (x2 : Int32)  (post : Int32 → MPS → Prop) (hE : w_M_add σ x0 x1 x2 post) : Met l y_M_add ws_M_add { frames := 0, cells := 0, slots := 0, locals := 0 } (va_Pc [.ref (mA md 0), .int x0, .int x1, .int x2] (gM md σ sz)) (va_Qi post (eM md (va_A (MW md σ) sz)) (va_A (MW md σ) sz)) 0 0 (va_A (MW md σ) sz) := by
  refine Met.ofW (cc := b_M_add) (maxL := 6) (ret := (some .int)) (by decide) rfl ?_
  intro p e s m args below meth c s₁ B hml hv
  obtain ⟨rfl, hsz, hP, hK, hD0⟩ := hv
  have hx := B.exec
  have hb := B.bytes
  have hr := B.returns
  have hta : ∀ w ∈ aW, w.before _ s = true := fun w h => atoms_spec (ws := ws_M_add) B.pre w (List.mem_cons_of_mem _ h)
  have hown : s.vm.findClass R_M = some m.cls := findClass_of_methodNamed B.named
  have hlocks := B.notSynchronized
  subst hsz
  have hD := hD0.self (sz := s.heap.size)
  generalize hAe : va_A (MW md σ) s.heap.size = A at hD ⊢
  have hA : ∀ q : Nat, s.heap.size ≤ q → A q := fun q h => by rw [← hAe]; exact Or.inr h
  have hS : va_S A s.heap s.heap [] := va_S.rf
  have hP : va_P (mG md) classes (MW md σ) s.heap := hP
  have hl := lv_entry ([.ref (mA md 0), .int x0, .int x1, .int x2]) (n := 6) (Nat.le_of_ble_eq_true rfl)
  rw [lg_entry_eq]
  generalize (lg_sl ([.ref (mA md 0), .int x0, .int x1, .int x2]) ++ List.replicate (6 - (lg_sl ([.ref (mA md 0), .int x0, .int x1, .int x2])).length) Slot.unset).toArray = ls at hl ⊢
  have hl : lv_has ls 6 [(0, .ref (mA md 0)), (1, .int x0), (2, .int x1), (3, .int x2)] := hl
  have J162 : ∀ (v4 : Int32) (v5 : Int32) (σ : MPS) (H : Heap) (locs : List Loc) (hP : va_P (mG md) classes (MW md σ) H) (hD : va_D A (MW md σ)) (hS : va_S A s.heap H locs) (ls : Array Slot) (hl : lv_has ls 6 [(0, .ref (mA md 0)), (4, .int v4), (5, .int v5)]) (hE : w_M_add_J162 post v4 v5 σ), W p l e (headSpec ws_M_add { frames := 0, cells := 0, slots := 0, locals := 0 }).room s m ([.ref (mA md 0), .int x0, .int x1, .int x2] : List Value).toArray below meth c H locs 0 0 (MQ below (va_Qi post (eM md A) A) ([.ref (mA md 0), .int x0, .int x1, .int x2] : List Value).toArray s 0 0 A) (F0 m 162 ls []) := by
    intro  v4 v5 σ H locs hP hD hS ls hl hE
    unfold w_M_add_J162 at hE
    refine lv_aload_n hx hb d_M_add_162 rfl (lv_at hl 0 rfl) ?_
    refine va_get (D := (mG md)) (ci := 7) (v := .ref (mA md 15)) (C := R_M) (T := F_M) (N := 37) hx hb hta i_M hown hK hP 0 rfl rfl 30 (by decide) (hta _ fl_M_58) (fun _ h9 => h9) rfl d_M_add_163 ?_
    refine lv_iload hx hb d_M_add_166 (lv_at hl 2 rfl) ?_
    refine lv_iload hx hb d_M_add_168 (lv_at hl 1 rfl) ?_
    obtain ⟨hI170, hE⟩ := hE
    refine va_iast (D := (mG md)) (f := mp_last σ) hx hb hK hP hD hS 15 0 rfl rfl hI170 d_M_add_170 (fun H locs hP hD hS => ?_)
    have hP : va_P (mG md) classes (MW md (ms_last σ (upd (mp_last σ) v5.toNatClampNeg v4))) H := hP
    have hD : va_D A (MW md (ms_last σ (upd (mp_last σ) v5.toNatClampNeg v4))) := hD
    have hE := hE _ rfl
    generalize (ms_last σ (upd (mp_last σ) v5.toNatClampNeg v4) : MPS) = σ170 at hP hD hE
    refine lv_iload hx hb d_M_add_171 (lv_at hl 1 rfl) ?_
    exact W.iret (v := v4) hx hb hr (fun t ht hW => ⟨⟨_, σ170, rfl, hE, by rw [ht]; exact hP, va_K.moved hW.alike hK, hD⟩, hS.F ht⟩) hS.2.2 d_M_add_173
  have J68 : ∀ (v4 : Int32) (t0 : Int32) (t1 : Int32) (σ : MPS) (H : Heap) (locs : List Loc) (hP : va_P (mG md) classes (MW md σ) H) (hD : va_D A (MW md σ)) (hS : va_S A s.heap H locs) (ls : Array Slot) (hl : lv_has ls 6 [(0, .ref (mA md 0)), (4, .int v4)]) (hE : w_M_add_J68 post v4 t0 t1 σ), W p l e (headSpec ws_M_add { frames := 0, cells := 0, slots := 0, locals := 0 }).room s m ([.ref (mA md 0), .int x0, .int x1, .int x2] : List Value).toArray below meth c H locs 0 0 (MQ below (va_Qi post (eM md A) A) ([.ref (mA md 0), .int x0, .int x1, .int x2] : List Value).toArray s 0 0 A) (F0 m 68 ls [.int t0, .int t1, .ref (mA md 11)]) := by
    intro  v4 t0 t1 σ H locs hP hD hS ls hl hE
    unfold w_M_add_J68 at hE
    obtain ⟨hI68, hE⟩ := hE
    refine va_iast (D := (mG md)) (f := mp_up σ) hx hb hK hP hD hS 11 0 rfl rfl hI68 d_M_add_68 (fun H locs hP hD hS => ?_)
    have hP : va_P (mG md) classes (MW md (ms_up σ (upd (mp_up σ) t1.toNatClampNeg t0))) H := hP
    have hD : va_D A (MW md (ms_up σ (upd (mp_up σ) t1.toNatClampNeg t0))) := hD
    have hE := hE _ rfl
    generalize (ms_up σ (upd (mp_up σ) t1.toNatClampNeg t0) : MPS) = σ68 at hP hD hE
    refine lv_aload_n hx hb d_M_add_69 rfl (lv_at hl 0 rfl) ?_
    refine va_get (D := (mG md)) (ci := 7) (v := .ref (mA md 14)) (C := R_M) (T := F_M) (N := 37) hx hb hta i_M hown hK hP 0 rfl rfl 29 (by decide) (hta _ fl_M_55) (fun _ h9 => h9) rfl d_M_add_70 ?_
    refine lv_iload hx hb d_M_add_73 (lv_at hl 1 rfl) ?_
    refine lv_aload_n hx hb d_M_add_75 rfl (lv_at hl 0 rfl) ?_
    refine va_get (D := (mG md)) (ci := 7) (v := .int (mp_deep σ68)) (C := R_M) (T := F_M) (N := 37) hx hb hta i_M hown hK hP 0 rfl rfl 15 (by decide) (hta _ fl_M_178) (fun _ h9 => h9) rfl d_M_add_76 ?_
    refine lv_iconst (v := 1) hx hb d_M_add_79 (by decide) ?_
    refine lv_iadd hx hb d_M_add_80 ?_
    obtain ⟨hI81, hE⟩ := hE
    refine va_iast (D := (mG md)) (f := mp_depth σ68) hx hb hK hP hD hS 14 0 rfl rfl hI81 d_M_add_81 (fun H locs hP hD hS => ?_)
    have hP : va_P (mG md) classes (MW md (ms_depth σ68 (upd (mp_depth σ68) v4.toNatClampNeg ((mp_deep σ68) + 1)))) H := hP
    have hD : va_D A (MW md (ms_depth σ68 (upd (mp_depth σ68) v4.toNatClampNeg ((mp_deep σ68) + 1)))) := hD
    have hE := hE _ rfl
    generalize (ms_depth σ68 (upd (mp_depth σ68) v4.toNatClampNeg ((mp_deep σ68) + 1)) : MPS) = σ81 at hP hD hE
    refine lv_aload_n hx hb d_M_add_82 rfl (lv_at hl 0 rfl) ?_
    refine va_get (D := (mG md)) (ci := 7) (v := .ref (mA md 12)) (C := R_M) (T := F_M) (N := 37) hx hb hta i_M hown hK hP 0 rfl rfl 27 (by decide) (hta _ fl_M_49) (fun _ h9 => h9) rfl d_M_add_83 ?_
    refine lv_iload hx hb d_M_add_86 (lv_at hl 1 rfl) ?_
    refine lv_iconst (v := -1) hx hb d_M_add_88 (by decide) ?_
    obtain ⟨hI89, hE⟩ := hE
    refine va_iast (D := (mG md)) (f := mp_first σ81) hx hb hK hP hD hS 12 0 rfl rfl hI89 d_M_add_89 (fun H locs hP hD hS => ?_)
    have hP : va_P (mG md) classes (MW md (ms_first σ81 (upd (mp_first σ81) v4.toNatClampNeg (-1)))) H := hP
    have hD : va_D A (MW md (ms_first σ81 (upd (mp_first σ81) v4.toNatClampNeg (-1)))) := hD
    have hE := hE _ rfl
    generalize (ms_first σ81 (upd (mp_first σ81) v4.toNatClampNeg (-1)) : MPS) = σ89 at hP hD hE
    refine lv_aload_n hx hb d_M_add_90 rfl (lv_at hl 0 rfl) ?_
    refine va_get (D := (mG md)) (ci := 7) (v := .ref (mA md 13)) (C := R_M) (T := F_M) (N := 37) hx hb hta i_M hown hK hP 0 rfl rfl 28 (by decide) (hta _ fl_M_52) (fun _ h9 => h9) rfl d_M_add_91 ?_
    refine lv_iload hx hb d_M_add_94 (lv_at hl 1 rfl) ?_
    refine lv_iconst (v := -1) hx hb d_M_add_96 (by decide) ?_
    obtain ⟨hI97, hE⟩ := hE
    refine va_iast (D := (mG md)) (f := mp_next σ89) hx hb hK hP hD hS 13 0 rfl rfl hI97 d_M_add_97 (fun H locs hP hD hS => ?_)
    have hP : va_P (mG md) classes (MW md (ms_next σ89 (upd (mp_next σ89) v4.toNatClampNeg (-1)))) H := hP
    have hD : va_D A (MW md (ms_next σ89 (upd (mp_next σ89) v4.toNatClampNeg (-1)))) := hD
    have hE := hE _ rfl
    generalize (ms_next σ89 (upd (mp_next σ89) v4.toNatClampNeg (-1)) : MPS) = σ97 at hP hD hE
    refine lv_aload_n hx hb d_M_add_98 rfl (lv_at hl 0 rfl) ?_
    refine va_get (D := (mG md)) (ci := 7) (v := .ref (mA md 15)) (C := R_M) (T := F_M) (N := 37) hx hb hta i_M hown hK hP 0 rfl rfl 30 (by decide) (hta _ fl_M_58) (fun _ h9 => h9) rfl d_M_add_99 ?_
    refine lv_iload hx hb d_M_add_102 (lv_at hl 1 rfl) ?_
    refine lv_iconst (v := -1) hx hb d_M_add_104 (by decide) ?_
    obtain ⟨hI105, hE⟩ := hE
    refine va_iast (D := (mG md)) (f := mp_last σ97) hx hb hK hP hD hS 15 0 rfl rfl hI105 d_M_add_105 (fun H locs hP hD hS => ?_)
    have hP : va_P (mG md) classes (MW md (ms_last σ97 (upd (mp_last σ97) v4.toNatClampNeg (-1)))) H := hP
    have hD : va_D A (MW md (ms_last σ97 (upd (mp_last σ97) v4.toNatClampNeg (-1)))) := hD
    have hE := hE _ rfl
    generalize (ms_last σ97 (upd (mp_last σ97) v4.toNatClampNeg (-1)) : MPS) = σ105 at hP hD hE
    refine lv_aload_n hx hb d_M_add_106 rfl (lv_at hl 0 rfl) ?_
    refine va_get (D := (mG md)) (ci := 7) (v := .int (mp_deep σ105)) (C := R_M) (T := F_M) (N := 37) hx hb hta i_M hown hK hP 0 rfl rfl 15 (by decide) (hta _ fl_M_178) (fun _ h9 => h9) rfl d_M_add_107 ?_
    refine lv_if_ne (tgt := 116) hx hb d_M_add_110 (by decide) (fun cc110 => ?_) (fun cc110 => ?_)
    · have hE := hE.2 cc110
      refine lv_aload_n hx hb d_M_add_116 rfl (lv_at hl 0 rfl) ?_
      refine va_get (D := (mG md)) (ci := 7) (v := .ref (mA md 11)) (C := R_M) (T := F_M) (N := 37) hx hb hta i_M hown hK hP 0 rfl rfl 26 (by decide) (hta _ fl_M_46) (fun _ h9 => h9) rfl d_M_add_117 ?_
      refine lv_iload hx hb d_M_add_120 (lv_at hl 1 rfl) ?_
      obtain ⟨hI122, hE⟩ := hE
      refine va_iald (D := (mG md)) (f := mp_up σ105) hx hb hK hP 11 0 rfl rfl hI122 d_M_add_122 ?_
      refine lv_istore (lv' := [(5, .int ((mp_up σ105) v4.toNatClampNeg)), (0, .ref (mA md 0)), (4, .int v4)]) hx hb d_M_add_123 hl (by decide) rfl (fun ls hl => ?_)
      refine lv_aload_n hx hb d_M_add_125 rfl (lv_at hl 1 rfl) ?_
      refine va_get (D := (mG md)) (ci := 7) (v := .ref (mA md 12)) (C := R_M) (T := F_M) (N := 37) hx hb hta i_M hown hK hP 0 rfl rfl 27 (by decide) (hta _ fl_M_49) (fun _ h9 => h9) rfl d_M_add_126 ?_
      refine lv_iload hx hb d_M_add_129 (lv_at hl 0 rfl) ?_
      obtain ⟨hI131, hE⟩ := hE
      refine va_iald (D := (mG md)) (f := mp_first σ105) hx hb hK hP 12 0 rfl rfl hI131 d_M_add_131 ?_
      refine lv_iconst (v := -1) hx hb d_M_add_132 (by decide) ?_
      refine lv_icmp_ne (tgt := 148) hx hb d_M_add_133 (by decide) (fun cc133 => ?_) (fun cc133 => ?_)
      · have hE := hE.2 cc133
        refine lv_aload_n hx hb d_M_add_148 rfl (lv_at hl 1 rfl) ?_
        refine va_get (D := (mG md)) (ci := 7) (v := .ref (mA md 13)) (C := R_M) (T := F_M) (N := 37) hx hb hta i_M hown hK hP 0 rfl rfl 28 (by decide) (hta _ fl_M_52) (fun _ h9 => h9) rfl d_M_add_149 ?_
        refine lv_aload_n hx hb d_M_add_152 rfl (lv_at hl 1 rfl) ?_
        refine va_get (D := (mG md)) (ci := 7) (v := .ref (mA md 15)) (C := R_M) (T := F_M) (N := 37) hx hb hta i_M hown hK hP 0 rfl rfl 30 (by decide) (hta _ fl_M_58) (fun _ h9 => h9) rfl d_M_add_153 ?_
        refine lv_iload hx hb d_M_add_156 (lv_at hl 0 rfl) ?_
        obtain ⟨hI158, hE⟩ := hE
        refine va_iald (D := (mG md)) (f := mp_last σ105) hx hb hK hP 15 0 rfl rfl hI158 d_M_add_158 ?_
        refine lv_iload hx hb d_M_add_159 (lv_at hl 2 rfl) ?_
        obtain ⟨hI161, hE⟩ := hE
        refine va_iast (D := (mG md)) (f := mp_next σ105) hx hb hK hP hD hS 13 0 rfl rfl hI161 d_M_add_161 (fun H locs hP hD hS => ?_)
        have hP : va_P (mG md) classes (MW md (ms_next σ105 (upd (mp_next σ105) ((mp_last σ105) ((mp_up σ105) v4.toNatClampNeg).toNatClampNeg).toNatClampNeg v4))) H := hP
        have hD : va_D A (MW md (ms_next σ105 (upd (mp_next σ105) ((mp_last σ105) ((mp_up σ105) v4.toNatClampNeg).toNatClampNeg).toNatClampNeg v4))) := hD
        have hE := hE _ rfl
        generalize (ms_next σ105 (upd (mp_next σ105) ((mp_last σ105) ((mp_up σ105) v4.toNatClampNeg).toNatClampNeg).toNatClampNeg v4) : MPS) = σ161 at hP hD hE
        exact J162  v4 ((mp_up σ105) v4.toNatClampNeg) σ161 _ _ hP hD hS _ (lv_sub hl [1, 2, 0] rfl) hE
      · have hE := hE.1 cc133
        refine lv_aload_n hx hb d_M_add_136 rfl (lv_at hl 1 rfl) ?_
        refine va_get (D := (mG md)) (ci := 7) (v := .ref (mA md 12)) (C := R_M) (T := F_M) (N := 37) hx hb hta i_M hown hK hP 0 rfl rfl 27 (by decide) (hta _ fl_M_49) (fun _ h9 => h9) rfl d_M_add_137 ?_
        refine lv_iload hx hb d_M_add_140 (lv_at hl 0 rfl) ?_
        refine lv_iload hx hb d_M_add_142 (lv_at hl 2 rfl) ?_
        obtain ⟨hI144, hE⟩ := hE
        refine va_iast (D := (mG md)) (f := mp_first σ105) hx hb hK hP hD hS 12 0 rfl rfl hI144 d_M_add_144 (fun H locs hP hD hS => ?_)
        have hP : va_P (mG md) classes (MW md (ms_first σ105 (upd (mp_first σ105) ((mp_up σ105) v4.toNatClampNeg).toNatClampNeg v4))) H := hP
        have hD : va_D A (MW md (ms_first σ105 (upd (mp_first σ105) ((mp_up σ105) v4.toNatClampNeg).toNatClampNeg v4))) := hD
        have hE := hE _ rfl
        generalize (ms_first σ105 (upd (mp_first σ105) ((mp_up σ105) v4.toNatClampNeg).toNatClampNeg v4) : MPS) = σ144 at hP hD hE
        refine lv_goto (tgt := 162) hx hb d_M_add_145 (by decide) ?_
        exact J162  v4 ((mp_up σ105) v4.toNatClampNeg) σ144 _ _ hP hD hS _ (lv_sub hl [1, 2, 0] rfl) hE
    · have hE := hE.1 cc110
      refine lv_iload hx hb d_M_add_113 (lv_at hl 1 rfl) ?_
      exact W.iret (v := v4) hx hb hr (fun t ht hW => ⟨⟨_, σ105, rfl, hE, by rw [ht]; exact hP, va_K.moved hW.alike hK, hD⟩, hS.F ht⟩) hS.2.2 d_M_add_115
  unfold w_M_add at hE
  refine lv_aload_n hx hb d_M_add_0 rfl (lv_at hl 0 rfl) ?_
  refine va_get (D := (mG md)) (ci := 7) (v := .int (mp_nodes σ)) (C := R_M) (T := F_M) (N := 37) hx hb hta i_M hown hK hP 0 rfl rfl 32 (by decide) (hta _ fl_M_175) (fun _ h9 => h9) rfl d_M_add_1 ?_
  refine lv_istore (lv' := [(4, .int (mp_nodes σ)), (0, .ref (mA md 0)), (1, .int x0), (2, .int x1), (3, .int x2)]) hx hb d_M_add_4 hl (by decide) rfl (fun ls hl => ?_)
  refine lv_aload_n hx hb d_M_add_6 rfl (lv_at hl 1 rfl) ?_
  refine lv_dup hx hb d_M_add_7 rfl ?_
  refine va_get (D := (mG md)) (ci := 7) (v := .int (mp_nodes σ)) (C := R_M) (T := F_M) (N := 37) hx hb hta i_M hown hK hP 0 rfl rfl 32 (by decide) (hta _ fl_M_175) (fun _ h9 => h9) rfl d_M_add_8 ?_
  refine lv_iconst (v := 1) hx hb d_M_add_11 (by decide) ?_
  refine lv_iadd hx hb d_M_add_12 ?_
  refine va_put (D := (mG md)) (ci := 7) (v := .int ((mp_nodes σ) + 1)) (ty := .int) (C := R_M) (T := F_M) (N := 37) hx hb hta i_M t_M t_M_ok n_M hown hK hP hD hS 0 rfl rfl 32 (by decide) (hta _ fl_M_175) (fun _ h9 => h9) rfl (by decide +kernel) rfl rfl (Nat.le_of_ble_eq_true rfl) d_M_add_13 (fun H locs hP hD hS => ?_)
  have hP : va_P (mG md) classes (MW md (ms_nodes σ ((mp_nodes σ) + 1))) H := hP
  have hD : va_D A (MW md (ms_nodes σ ((mp_nodes σ) + 1))) := hD
  have hE := hE _ rfl
  generalize (ms_nodes σ ((mp_nodes σ) + 1) : MPS) = σ13 at hP hD hE
  refine lv_aload_n hx hb d_M_add_16 rfl (lv_at hl 1 rfl) ?_
  refine va_get (D := (mG md)) (ci := 7) (v := .ref (mA md 8)) (C := R_M) (T := F_M) (N := 37) hx hb hta i_M hown hK hP 0 rfl rfl 23 (by decide) (hta _ fl_M_36) (fun _ h9 => h9) rfl d_M_add_17 ?_
  refine lv_iload hx hb d_M_add_20 (lv_at hl 0 rfl) ?_
  refine lv_iload_n hx hb d_M_add_22 rfl (lv_at hl 2 rfl) ?_
  obtain ⟨hI23, hE⟩ := hE
  refine va_zast (D := (mG md)) (f := mp_isElement σ13) hx hb hK hP hD hS 8 2 rfl rfl hI23 d_M_add_23 (fun H locs hP hD hS => ?_)
  have hP : va_P (mG md) classes (MW md (ms_isElement σ13 (upd (mp_isElement σ13) (mp_nodes σ).toNatClampNeg (vp_nar .boolean x0)))) H := hP
  have hD : va_D A (MW md (ms_isElement σ13 (upd (mp_isElement σ13) (mp_nodes σ).toNatClampNeg (vp_nar .boolean x0)))) := hD
  have hE := hE _ rfl
  generalize (ms_isElement σ13 (upd (mp_isElement σ13) (mp_nodes σ).toNatClampNeg (vp_nar .boolean x0)) : MPS) = σ23 at hP hD hE
  refine lv_aload_n hx hb d_M_add_24 rfl (lv_at hl 1 rfl) ?_
  refine va_get (D := (mG md)) (ci := 7) (v := .ref (mA md 9)) (C := R_M) (T := F_M) (N := 37) hx hb hta i_M hown hK hP 0 rfl rfl 24 (by decide) (hta _ fl_M_40) (fun _ h9 => h9) rfl d_M_add_25 ?_
  refine lv_iload hx hb d_M_add_28 (lv_at hl 0 rfl) ?_
  refine lv_iload_n hx hb d_M_add_30 rfl (lv_at hl 3 rfl) ?_
  obtain ⟨hI31, hE⟩ := hE
  refine va_iast (D := (mG md)) (f := mp_begins σ23) hx hb hK hP hD hS 9 0 rfl rfl hI31 d_M_add_31 (fun H locs hP hD hS => ?_)
  have hP : va_P (mG md) classes (MW md (ms_begins σ23 (upd (mp_begins σ23) (mp_nodes σ).toNatClampNeg x1))) H := hP
  have hD : va_D A (MW md (ms_begins σ23 (upd (mp_begins σ23) (mp_nodes σ).toNatClampNeg x1))) := hD
  have hE := hE _ rfl
  generalize (ms_begins σ23 (upd (mp_begins σ23) (mp_nodes σ).toNatClampNeg x1) : MPS) = σ31 at hP hD hE
  refine lv_aload_n hx hb d_M_add_32 rfl (lv_at hl 1 rfl) ?_
  refine va_get (D := (mG md)) (ci := 7) (v := .ref (mA md 10)) (C := R_M) (T := F_M) (N := 37) hx hb hta i_M hown hK hP 0 rfl rfl 25 (by decide) (hta _ fl_M_43) (fun _ h9 => h9) rfl d_M_add_33 ?_
  refine lv_iload hx hb d_M_add_36 (lv_at hl 0 rfl) ?_
  refine lv_iload_n hx hb d_M_add_38 rfl (lv_at hl 4 rfl) ?_
  obtain ⟨hI39, hE⟩ := hE
  refine va_iast (D := (mG md)) (f := mp_ends σ31) hx hb hK hP hD hS 10 0 rfl rfl hI39 d_M_add_39 (fun H locs hP hD hS => ?_)
  have hP : va_P (mG md) classes (MW md (ms_ends σ31 (upd (mp_ends σ31) (mp_nodes σ).toNatClampNeg x2))) H := hP
  have hD : va_D A (MW md (ms_ends σ31 (upd (mp_ends σ31) (mp_nodes σ).toNatClampNeg x2))) := hD
  have hE := hE _ rfl
  generalize (ms_ends σ31 (upd (mp_ends σ31) (mp_nodes σ).toNatClampNeg x2) : MPS) = σ39 at hP hD hE
  refine lv_aload_n hx hb d_M_add_40 rfl (lv_at hl 1 rfl) ?_
  refine va_get (D := (mG md)) (ci := 7) (v := .ref (mA md 11)) (C := R_M) (T := F_M) (N := 37) hx hb hta i_M hown hK hP 0 rfl rfl 26 (by decide) (hta _ fl_M_46) (fun _ h9 => h9) rfl d_M_add_41 ?_
  refine lv_iload hx hb d_M_add_44 (lv_at hl 0 rfl) ?_
  refine lv_aload_n hx hb d_M_add_46 rfl (lv_at hl 1 rfl) ?_
  refine va_get (D := (mG md)) (ci := 7) (v := .int (mp_deep σ39)) (C := R_M) (T := F_M) (N := 37) hx hb hta i_M hown hK hP 0 rfl rfl 15 (by decide) (hta _ fl_M_178) (fun _ h9 => h9) rfl d_M_add_47 ?_
  refine lv_if_ne (tgt := 57) hx hb d_M_add_50 (by decide) (fun cc50 => ?_) (fun cc50 => ?_)
  · have hE := hE.2 cc50
    refine lv_aload_n hx hb d_M_add_57 rfl (lv_at hl 1 rfl) ?_
    refine va_get (D := (mG md)) (ci := 7) (v := .ref (mA md 16)) (C := R_M) (T := F_M) (N := 37) hx hb hta i_M hown hK hP 0 rfl rfl 31 (by decide) (hta _ fl_M_61) (fun _ h9 => h9) rfl d_M_add_58 ?_
    refine lv_aload_n hx hb d_M_add_61 rfl (lv_at hl 1 rfl) ?_
    refine va_get (D := (mG md)) (ci := 7) (v := .int (mp_deep σ39)) (C := R_M) (T := F_M) (N := 37) hx hb hta i_M hown hK hP 0 rfl rfl 15 (by decide) (hta _ fl_M_178) (fun _ h9 => h9) rfl d_M_add_62 ?_
    refine lv_iconst (v := 1) hx hb d_M_add_65 (by decide) ?_
    refine lv_isub hx hb d_M_add_66 ?_
    obtain ⟨hI67, hE⟩ := hE
    refine va_iald (D := (mG md)) (f := mp_openNode σ39) hx hb hK hP 16 0 rfl rfl hI67 d_M_add_67 ?_
    exact J68  (mp_nodes σ) ((mp_openNode σ39) ((mp_deep σ39) - 1).toNatClampNeg) (mp_nodes σ) σ39 _ _ hP hD hS _ (lv_sub hl [1, 0] rfl) hE
  · have hE := hE.1 cc50
    refine lv_iconst (v := -1) hx hb d_M_add_53 (by decide) ?_
    refine lv_goto (tgt := 68) hx hb d_M_add_54 (by decide) ?_
    exact J68  (mp_nodes σ) (-1) (mp_nodes σ) σ39 _ _ hP hD hS _ (lv_sub hl [1, 0] rfl) hE
theorem fl_M_181 : Cond.fieldLink "PlainPagesModel" 181 "PlainPagesModel" "elements" "I" ∈ aW := aW_in 918 (by decide +kernel) rfl
theorem fl_M_29 : Cond.fieldLink "PlainPagesModel" 29 "PlainPagesModel" "openAt" "[I" ∈ aW := aW_in 921 (by decide +kernel) rfl
theorem fl_M_33 : Cond.fieldLink "PlainPagesModel" 33 "PlainPagesModel" "openMany" "[I" ∈ aW := aW_in 922 (by decide +kernel) rfl
theorem ok_M_184 : okV "PlainPagesModel" 184 R_M y_M_add b_M_add 6 (some .int) 3 := ⟨aW_in 1073 (by decide +kernel) rfl, aW_in 1075 (by decide +kernel) rfl, aW_in 46 (by decide +kernel) rfl, aW_in 92 (by decide +kernel) rfl, cd_M_add, rfl, by decide +kernel, by decide +kernel, by decide +kernel⟩
theorem ok_M_188 : okV "PlainPagesModel" 188 R_M y_M_skipWhite b_M_skipWhite 1 none 0 := ⟨aW_in 1049 (by decide +kernel) rfl, aW_in 1051 (by decide +kernel) rfl, aW_in 43 (by decide +kernel) rfl, aW_in 92 (by decide +kernel) rfl, cd_M_skipWhite, rfl, by decide +kernel, by decide +kernel, by decide +kernel⟩
theorem ok_M_191 : okV "PlainPagesModel" 191 R_M y_M_takeAttribute b_M_takeAttribute 4 none 1 := ⟨aW_in 1077 (by decide +kernel) rfl, aW_in 1079 (by decide +kernel) rfl, aW_in 47 (by decide +kernel) rfl, aW_in 92 (by decide +kernel) rfl, cd_M_takeAttribute, rfl, by decide +kernel, by decide +kernel, by decide +kernel⟩
theorem d_M_takeBeginning_0 : decode b_M_takeBeginning 0 = .ok (.aload_n 0, 1) := by decide +kernel
theorem d_M_takeBeginning_1 : decode b_M_takeBeginning 1 = .ok (.getfield 101, 3) := by decide +kernel
theorem d_M_takeBeginning_4 : decode b_M_takeBeginning 4 = .ok (.istore_n 1, 1) := by decide +kernel
theorem d_M_takeBeginning_5 : decode b_M_takeBeginning 5 = .ok (.aload_n 0, 1) := by decide +kernel
theorem d_M_takeBeginning_6 : decode b_M_takeBeginning 6 = .ok (.getfield 178, 3) := by decide +kernel
theorem d_M_takeBeginning_9 : decode b_M_takeBeginning 9 = .ok (.bipush 40, 2) := by decide +kernel
theorem d_M_takeBeginning_11 : decode b_M_takeBeginning 11 = .ok (.if_icmp .eq 13, 3) := by decide +kernel
theorem d_M_takeBeginning_14 : decode b_M_takeBeginning 14 = .ok (.aload_n 0, 1) := by decide +kernel
theorem d_M_takeBeginning_15 : decode b_M_takeBeginning 15 = .ok (.getfield 181, 3) := by decide +kernel
theorem d_M_takeBeginning_18 : decode b_M_takeBeginning 18 = .ok (.sipush 300, 3) := by decide +kernel
theorem d_M_takeBeginning_21 : decode b_M_takeBeginning 21 = .ok (.if_icmp .ne 9, 3) := by decide +kernel
theorem d_M_takeBeginning_24 : decode b_M_takeBeginning 24 = .ok (.aload_n 0, 1) := by decide +kernel
theorem d_M_takeBeginning_25 : decode b_M_takeBeginning 25 = .ok (.iconst 1, 1) := by decide +kernel
theorem d_M_takeBeginning_26 : decode b_M_takeBeginning 26 = .ok (.putfield 111, 3) := by decide +kernel
theorem d_M_takeBeginning_29 : decode b_M_takeBeginning 29 = .ok (.return_, 1) := by decide +kernel
theorem d_M_takeBeginning_30 : decode b_M_takeBeginning 30 = .ok (.aload_n 0, 1) := by decide +kernel
theorem d_M_takeBeginning_31 : decode b_M_takeBeginning 31 = .ok (.dup, 1) := by decide +kernel
theorem d_M_takeBeginning_32 : decode b_M_takeBeginning 32 = .ok (.getfield 101, 3) := by decide +kernel
theorem d_M_takeBeginning_35 : decode b_M_takeBeginning 35 = .ok (.iconst 1, 1) := by decide +kernel
theorem d_M_takeBeginning_36 : decode b_M_takeBeginning 36 = .ok (.iadd, 1) := by decide +kernel
theorem d_M_takeBeginning_37 : decode b_M_takeBeginning 37 = .ok (.putfield 101, 3) := by decide +kernel
theorem d_M_takeBeginning_40 : decode b_M_takeBeginning 40 = .ok (.aload_n 0, 1) := by decide +kernel
theorem d_M_takeBeginning_41 : decode b_M_takeBeginning 41 = .ok (.getfield 29, 3) := by decide +kernel
theorem d_M_takeBeginning_44 : decode b_M_takeBeginning 44 = .ok (.aload_n 0, 1) := by decide +kernel
theorem d_M_takeBeginning_45 : decode b_M_takeBeginning 45 = .ok (.getfield 178, 3) := by decide +kernel
theorem d_M_takeBeginning_48 : decode b_M_takeBeginning 48 = .ok (.aload_n 0, 1) := by decide +kernel
theorem d_M_takeBeginning_49 : decode b_M_takeBeginning 49 = .ok (.getfield 101, 3) := by decide +kernel
theorem d_M_takeBeginning_52 : decode b_M_takeBeginning 52 = .ok (.iastore, 1) := by decide +kernel
theorem d_M_takeBeginning_53 : decode b_M_takeBeginning 53 = .ok (.aload_n 0, 1) := by decide +kernel
theorem d_M_takeBeginning_54 : decode b_M_takeBeginning 54 = .ok (.getfield 33, 3) := by decide +kernel
theorem d_M_takeBeginning_57 : decode b_M_takeBeginning 57 = .ok (.aload_n 0, 1) := by decide +kernel
theorem d_M_takeBeginning_58 : decode b_M_takeBeginning 58 = .ok (.getfield 178, 3) := by decide +kernel
theorem d_M_takeBeginning_61 : decode b_M_takeBeginning 61 = .ok (.aload_n 0, 1) := by decide +kernel
theorem d_M_takeBeginning_62 : decode b_M_takeBeginning 62 = .ok (.invokevirtual 165, 3) := by decide +kernel
theorem d_M_takeBeginning_65 : decode b_M_takeBeginning 65 = .ok (.iastore, 1) := by decide +kernel
theorem d_M_takeBeginning_66 : decode b_M_takeBeginning 66 = .ok (.aload_n 0, 1) := by decide +kernel
theorem d_M_takeBeginning_67 : decode b_M_takeBeginning 67 = .ok (.dup, 1) := by decide +kernel
theorem d_M_takeBeginning_68 : decode b_M_takeBeginning 68 = .ok (.getfield 181, 3) := by decide +kernel
theorem d_M_takeBeginning_71 : decode b_M_takeBeginning 71 = .ok (.iconst 1, 1) := by decide +kernel
theorem d_M_takeBeginning_72 : decode b_M_takeBeginning 72 = .ok (.iadd, 1) := by decide +kernel
theorem d_M_takeBeginning_73 : decode b_M_takeBeginning 73 = .ok (.putfield 181, 3) := by decide +kernel
theorem d_M_takeBeginning_76 : decode b_M_takeBeginning 76 = .ok (.aload_n 0, 1) := by decide +kernel
theorem d_M_takeBeginning_77 : decode b_M_takeBeginning 77 = .ok (.getfield 111, 3) := by decide +kernel
theorem d_M_takeBeginning_80 : decode b_M_takeBeginning 80 = .ok (.ifCond .eq 7, 3) := by decide +kernel
theorem d_M_takeBeginning_83 : decode b_M_takeBeginning 83 = .ok (.iconst (-1), 1) := by decide +kernel
theorem d_M_takeBeginning_84 : decode b_M_takeBeginning 84 = .ok (.goto 10, 3) := by decide +kernel
theorem d_M_takeBeginning_87 : decode b_M_takeBeginning 87 = .ok (.aload_n 0, 1) := by decide +kernel
theorem d_M_takeBeginning_88 : decode b_M_takeBeginning 88 = .ok (.iconst 1, 1) := by decide +kernel
theorem d_M_takeBeginning_89 : decode b_M_takeBeginning 89 = .ok (.iload_n 1, 1) := by decide +kernel
theorem d_M_takeBeginning_90 : decode b_M_takeBeginning 90 = .ok (.iload_n 1, 1) := by decide +kernel
theorem d_M_takeBeginning_91 : decode b_M_takeBeginning 91 = .ok (.invokevirtual 184, 3) := by decide +kernel
theorem d_M_takeBeginning_94 : decode b_M_takeBeginning 94 = .ok (.istore_n 2, 1) := by decide +kernel
theorem d_M_takeBeginning_95 : decode b_M_takeBeginning 95 = .ok (.aload_n 0, 1) := by decide +kernel
theorem d_M_takeBeginning_96 : decode b_M_takeBeginning 96 = .ok (.getfield 111, 3) := by decide +kernel
theorem d_M_takeBeginning_99 : decode b_M_takeBeginning 99 = .ok (.ifCond .ne 7, 3) := by decide +kernel
theorem d_M_takeBeginning_102 : decode b_M_takeBeginning 102 = .ok (.iconst 1, 1) := by decide +kernel
theorem d_M_takeBeginning_103 : decode b_M_takeBeginning 103 = .ok (.goto 4, 3) := by decide +kernel
theorem d_M_takeBeginning_106 : decode b_M_takeBeginning 106 = .ok (.iconst 0, 1) := by decide +kernel
theorem d_M_takeBeginning_107 : decode b_M_takeBeginning 107 = .ok (.istore_n 3, 1) := by decide +kernel
theorem d_M_takeBeginning_108 : decode b_M_takeBeginning 108 = .ok (.iload_n 3, 1) := by decide +kernel
theorem d_M_takeBeginning_109 : decode b_M_takeBeginning 109 = .ok (.ifCond .eq 65, 3) := by decide +kernel
theorem d_M_takeBeginning_112 : decode b_M_takeBeginning 112 = .ok (.aload_n 0, 1) := by decide +kernel
theorem d_M_takeBeginning_113 : decode b_M_takeBeginning 113 = .ok (.getfield 111, 3) := by decide +kernel
theorem d_M_takeBeginning_116 : decode b_M_takeBeginning 116 = .ok (.ifCond .ne 58, 3) := by decide +kernel
theorem d_M_takeBeginning_119 : decode b_M_takeBeginning 119 = .ok (.aload_n 0, 1) := by decide +kernel
theorem d_M_takeBeginning_120 : decode b_M_takeBeginning 120 = .ok (.aload_n 0, 1) := by decide +kernel
theorem d_M_takeBeginning_121 : decode b_M_takeBeginning 121 = .ok (.getfield 101, 3) := by decide +kernel
theorem d_M_takeBeginning_124 : decode b_M_takeBeginning 124 = .ok (.invokevirtual 95, 3) := by decide +kernel
theorem d_M_takeBeginning_127 : decode b_M_takeBeginning 127 = .ok (.invokestatic 104, 3) := by decide +kernel
theorem d_M_takeBeginning_130 : decode b_M_takeBeginning 130 = .ok (.istore 4, 2) := by decide +kernel
theorem d_M_takeBeginning_132 : decode b_M_takeBeginning 132 = .ok (.aload_n 0, 1) := by decide +kernel
theorem d_M_takeBeginning_133 : decode b_M_takeBeginning 133 = .ok (.invokevirtual 188, 3) := by decide +kernel
theorem d_M_takeBeginning_136 : decode b_M_takeBeginning 136 = .ok (.iload 4, 2) := by decide +kernel
theorem d_M_takeBeginning_138 : decode b_M_takeBeginning 138 = .ok (.ifCond .eq 22, 3) := by decide +kernel
theorem d_M_takeBeginning_141 : decode b_M_takeBeginning 141 = .ok (.aload_n 0, 1) := by decide +kernel
theorem d_M_takeBeginning_142 : decode b_M_takeBeginning 142 = .ok (.aload_n 0, 1) := by decide +kernel
theorem d_M_takeBeginning_143 : decode b_M_takeBeginning 143 = .ok (.getfield 101, 3) := by decide +kernel
theorem d_M_takeBeginning_146 : decode b_M_takeBeginning 146 = .ok (.invokevirtual 95, 3) := by decide +kernel
theorem d_M_takeBeginning_149 : decode b_M_takeBeginning 149 = .ok (.iconst 1, 1) := by decide +kernel
theorem d_M_takeBeginning_150 : decode b_M_takeBeginning 150 = .ok (.invokestatic 107, 3) := by decide +kernel
theorem d_M_takeBeginning_153 : decode b_M_takeBeginning 153 = .ok (.ifCond .eq 7, 3) := by decide +kernel
theorem d_M_takeBeginning_156 : decode b_M_takeBeginning 156 = .ok (.iconst 1, 1) := by decide +kernel
theorem d_M_takeBeginning_157 : decode b_M_takeBeginning 157 = .ok (.goto 4, 3) := by decide +kernel
theorem d_M_takeBeginning_160 : decode b_M_takeBeginning 160 = .ok (.iconst 0, 1) := by decide +kernel
theorem d_M_takeBeginning_161 : decode b_M_takeBeginning 161 = .ok (.istore_n 3, 1) := by decide +kernel
theorem d_M_takeBeginning_162 : decode b_M_takeBeginning 162 = .ok (.iload_n 3, 1) := by decide +kernel
theorem d_M_takeBeginning_163 : decode b_M_takeBeginning 163 = .ok (.ifCond .eq 8, 3) := by decide +kernel
theorem d_M_takeBeginning_166 : decode b_M_takeBeginning 166 = .ok (.aload_n 0, 1) := by decide +kernel
theorem d_M_takeBeginning_167 : decode b_M_takeBeginning 167 = .ok (.iload_n 1, 1) := by decide +kernel
theorem d_M_takeBeginning_168 : decode b_M_takeBeginning 168 = .ok (.invokevirtual 191, 3) := by decide +kernel
theorem d_M_takeBeginning_171 : decode b_M_takeBeginning 171 = .ok (.goto (-63), 3) := by decide +kernel
theorem d_M_takeBeginning_174 : decode b_M_takeBeginning 174 = .ok (.aload_n 0, 1) := by decide +kernel
theorem d_M_takeBeginning_175 : decode b_M_takeBeginning 175 = .ok (.getfield 111, 3) := by decide +kernel
theorem d_M_takeBeginning_178 : decode b_M_takeBeginning 178 = .ok (.ifCond .eq 4, 3) := by decide +kernel
theorem d_M_takeBeginning_181 : decode b_M_takeBeginning 181 = .ok (.return_, 1) := by decide +kernel
theorem d_M_takeBeginning_182 : decode b_M_takeBeginning 182 = .ok (.aload_n 0, 1) := by decide +kernel
theorem d_M_takeBeginning_183 : decode b_M_takeBeginning 183 = .ok (.aload_n 0, 1) := by decide +kernel
theorem d_M_takeBeginning_184 : decode b_M_takeBeginning 184 = .ok (.getfield 101, 3) := by decide +kernel
theorem d_M_takeBeginning_187 : decode b_M_takeBeginning 187 = .ok (.invokevirtual 95, 3) := by decide +kernel
theorem d_M_takeBeginning_190 : decode b_M_takeBeginning 190 = .ok (.bipush 47, 2) := by decide +kernel
theorem d_M_takeBeginning_192 : decode b_M_takeBeginning 192 = .ok (.if_icmp .ne 45, 3) := by decide +kernel
theorem d_M_takeBeginning_195 : decode b_M_takeBeginning 195 = .ok (.aload_n 0, 1) := by decide +kernel
theorem d_M_takeBeginning_196 : decode b_M_takeBeginning 196 = .ok (.dup, 1) := by decide +kernel
theorem d_M_takeBeginning_197 : decode b_M_takeBeginning 197 = .ok (.getfield 101, 3) := by decide +kernel
theorem d_M_takeBeginning_200 : decode b_M_takeBeginning 200 = .ok (.iconst 1, 1) := by decide +kernel
theorem d_M_takeBeginning_201 : decode b_M_takeBeginning 201 = .ok (.iadd, 1) := by decide +kernel
theorem d_M_takeBeginning_202 : decode b_M_takeBeginning 202 = .ok (.putfield 101, 3) := by decide +kernel
theorem d_M_takeBeginning_205 : decode b_M_takeBeginning 205 = .ok (.aload_n 0, 1) := by decide +kernel
theorem d_M_takeBeginning_206 : decode b_M_takeBeginning 206 = .ok (.aload_n 0, 1) := by decide +kernel
theorem d_M_takeBeginning_207 : decode b_M_takeBeginning 207 = .ok (.getfield 101, 3) := by decide +kernel
theorem d_M_takeBeginning_210 : decode b_M_takeBeginning 210 = .ok (.invokevirtual 95, 3) := by decide +kernel
theorem d_M_takeBeginning_213 : decode b_M_takeBeginning 213 = .ok (.bipush 62, 2) := by decide +kernel
theorem d_M_takeBeginning_215 : decode b_M_takeBeginning 215 = .ok (.if_icmp .ne 16, 3) := by decide +kernel
theorem d_M_takeBeginning_218 : decode b_M_takeBeginning 218 = .ok (.aload_n 0, 1) := by decide +kernel
theorem d_M_takeBeginning_219 : decode b_M_takeBeginning 219 = .ok (.dup, 1) := by decide +kernel
theorem d_M_takeBeginning_220 : decode b_M_takeBeginning 220 = .ok (.getfield 101, 3) := by decide +kernel
theorem d_M_takeBeginning_223 : decode b_M_takeBeginning 223 = .ok (.iconst 1, 1) := by decide +kernel
theorem d_M_takeBeginning_224 : decode b_M_takeBeginning 224 = .ok (.iadd, 1) := by decide +kernel
theorem d_M_takeBeginning_225 : decode b_M_takeBeginning 225 = .ok (.putfield 101, 3) := by decide +kernel
theorem d_M_takeBeginning_228 : decode b_M_takeBeginning 228 = .ok (.goto 8, 3) := by decide +kernel
theorem d_M_takeBeginning_231 : decode b_M_takeBeginning 231 = .ok (.aload_n 0, 1) := by decide +kernel
theorem d_M_takeBeginning_232 : decode b_M_takeBeginning 232 = .ok (.iconst 1, 1) := by decide +kernel
theorem d_M_takeBeginning_233 : decode b_M_takeBeginning 233 = .ok (.putfield 111, 3) := by decide +kernel
theorem d_M_takeBeginning_236 : decode b_M_takeBeginning 236 = .ok (.return_, 1) := by decide +kernel
theorem d_M_takeBeginning_237 : decode b_M_takeBeginning 237 = .ok (.aload_n 0, 1) := by decide +kernel
theorem d_M_takeBeginning_238 : decode b_M_takeBeginning 238 = .ok (.aload_n 0, 1) := by decide +kernel
theorem d_M_takeBeginning_239 : decode b_M_takeBeginning 239 = .ok (.getfield 101, 3) := by decide +kernel
theorem d_M_takeBeginning_242 : decode b_M_takeBeginning 242 = .ok (.invokevirtual 95, 3) := by decide +kernel
theorem d_M_takeBeginning_245 : decode b_M_takeBeginning 245 = .ok (.bipush 62, 2) := by decide +kernel
theorem d_M_takeBeginning_247 : decode b_M_takeBeginning 247 = .ok (.if_icmp .eq 9, 3) := by decide +kernel
theorem d_M_takeBeginning_250 : decode b_M_takeBeginning 250 = .ok (.aload_n 0, 1) := by decide +kernel
theorem d_M_takeBeginning_251 : decode b_M_takeBeginning 251 = .ok (.iconst 1, 1) := by decide +kernel
theorem d_M_takeBeginning_252 : decode b_M_takeBeginning 252 = .ok (.putfield 111, 3) := by decide +kernel
theorem d_M_takeBeginning_255 : decode b_M_takeBeginning 255 = .ok (.return_, 1) := by decide +kernel
theorem d_M_takeBeginning_256 : decode b_M_takeBeginning 256 = .ok (.aload_n 0, 1) := by decide +kernel
theorem d_M_takeBeginning_257 : decode b_M_takeBeginning 257 = .ok (.dup, 1) := by decide +kernel
theorem d_M_takeBeginning_258 : decode b_M_takeBeginning 258 = .ok (.getfield 101, 3) := by decide +kernel
theorem d_M_takeBeginning_261 : decode b_M_takeBeginning 261 = .ok (.iconst 1, 1) := by decide +kernel
theorem d_M_takeBeginning_262 : decode b_M_takeBeginning 262 = .ok (.iadd, 1) := by decide +kernel
theorem d_M_takeBeginning_263 : decode b_M_takeBeginning 263 = .ok (.putfield 101, 3) := by decide +kernel
theorem d_M_takeBeginning_266 : decode b_M_takeBeginning 266 = .ok (.aload_n 0, 1) := by decide +kernel
theorem d_M_takeBeginning_267 : decode b_M_takeBeginning 267 = .ok (.getfield 61, 3) := by decide +kernel
theorem d_M_takeBeginning_270 : decode b_M_takeBeginning 270 = .ok (.aload_n 0, 1) := by decide +kernel
theorem d_M_takeBeginning_271 : decode b_M_takeBeginning 271 = .ok (.getfield 178, 3) := by decide +kernel
theorem d_M_takeBeginning_274 : decode b_M_takeBeginning 274 = .ok (.iload_n 2, 1) := by decide +kernel
theorem d_M_takeBeginning_275 : decode b_M_takeBeginning 275 = .ok (.iastore, 1) := by decide +kernel
theorem d_M_takeBeginning_276 : decode b_M_takeBeginning 276 = .ok (.aload_n 0, 1) := by decide +kernel
theorem d_M_takeBeginning_277 : decode b_M_takeBeginning 277 = .ok (.dup, 1) := by decide +kernel
theorem d_M_takeBeginning_278 : decode b_M_takeBeginning 278 = .ok (.getfield 178, 3) := by decide +kernel
theorem d_M_takeBeginning_281 : decode b_M_takeBeginning 281 = .ok (.iconst 1, 1) := by decide +kernel
theorem d_M_takeBeginning_282 : decode b_M_takeBeginning 282 = .ok (.iadd, 1) := by decide +kernel
theorem d_M_takeBeginning_283 : decode b_M_takeBeginning 283 = .ok (.putfield 178, 3) := by decide +kernel
theorem d_M_takeBeginning_286 : decode b_M_takeBeginning 286 = .ok (.return_, 1) := by decide +kernel
def w_M_takeBeginning_J174   (post : MPS → Prop) (v2 : Int32) (σ : MPS) : Prop := (((mp_bad σ) = 0 → w_M_x σ (mp_at σ) (fun r187 => ((r187 = 47 → (∀ σ202 : MPS, σ202 = ms_at σ ((mp_at σ) + 1) → w_M_x σ202 (mp_at σ202) (fun r210 => ((r210 = 62 → (∀ σ225 : MPS, σ225 = ms_at σ202 ((mp_at σ202) + 1) → post σ225)) ∧ (¬ r210 = 62 → (∀ σ233 : MPS, σ233 = ms_bad σ202 1 → post σ233)))))) ∧ (¬ r187 = 47 → w_M_x σ (mp_at σ) (fun r242 => ((r242 = 62 → (∀ σ263 : MPS, σ263 = ms_at σ ((mp_at σ) + 1) → (vp_in (mp_deep σ263) 42 ∧ (∀ σ275 : MPS, σ275 = ms_openNode σ263 (upd (mp_openNode σ263) (mp_deep σ263).toNatClampNeg v2) → (∀ σ283 : MPS, σ283 = ms_deep σ275 ((mp_deep σ275) + 1) → post σ283))))) ∧ (¬ r242 = 62 → (∀ σ252 : MPS, σ252 = ms_bad σ 1 → post σ252)))))))) ∧ (¬ (mp_bad σ) = 0 → post σ))
def w_M_takeBeginning_J171  (v1 : Int32) (v2 : Int32) (K : Int32 → MPS → Prop) (post : MPS → Prop) (v3 : Int32) (σ : MPS) : Prop := K v3 σ
def w_M_takeBeginning_J161  (v1 : Int32) (v2 : Int32) (K : Int32 → MPS → Prop) (post : MPS → Prop) (t0 : Int32) (σ : MPS) : Prop := ((t0 = 0 → w_M_takeBeginning_J171 v1 v2 (K) post t0 σ) ∧ (¬ t0 = 0 → w_M_takeAttribute σ v1 (fun σ168 => w_M_takeBeginning_J171 v1 v2 (K) post t0 σ168)))
def w_M_takeBeginning_J160  (v1 : Int32) (v2 : Int32) (K : Int32 → MPS → Prop) (post : MPS → Prop) (σ : MPS) : Prop := w_M_takeBeginning_J161 v1 v2 (K) post 0 σ
def w_M_takeBeginning_L108  (v1 : Int32) (v2 : Int32) (post : MPS → Prop) : Nat → Int32 → MPS → Prop
  | 0, _, _ => False
  | n + 1, v3, σ => ((v3 = 0 → w_M_takeBeginning_J174 post v2 σ) ∧ (¬ v3 = 0 → (((mp_bad σ) = 0 → w_M_x σ (mp_at σ) (fun r124 => w_M_isWhite  r124 (fun r127 => w_M_skipWhite σ  (fun σ133 => ((r127 = 0 → w_M_takeBeginning_J160 v1 v2 (w_M_takeBeginning_L108 v1 v2 post n) post σ133) ∧ (¬ r127 = 0 → w_M_x σ133 (mp_at σ133) (fun r146 => w_M_isNameSign  r146 1 (fun r150 => ((r150 = 0 → w_M_takeBeginning_J160 v1 v2 (w_M_takeBeginning_L108 v1 v2 post n) post σ133) ∧ (¬ r150 = 0 → w_M_takeBeginning_J161 v1 v2 (w_M_takeBeginning_L108 v1 v2 post n) post 1 σ133)))))))))) ∧ (¬ (mp_bad σ) = 0 → w_M_takeBeginning_J174 post v2 σ))))
def w_M_takeBeginning_J107   (post : MPS → Prop) (v1 : Int32) (v2 : Int32) (t0 : Int32) (σ : MPS) : Prop := (∃ n, w_M_takeBeginning_L108 v1 v2 post n t0 σ)
def w_M_takeBeginning_J94   (post : MPS → Prop) (v1 : Int32) (t0 : Int32) (σ : MPS) : Prop := (((mp_bad σ) = 0 → w_M_takeBeginning_J107 post v1 t0 1 σ) ∧ (¬ (mp_bad σ) = 0 → w_M_takeBeginning_J107 post v1 t0 0 σ))
def w_M_takeBeginning_J24   (post : MPS → Prop) (σ : MPS) : Prop := (∀ σ26 : MPS, σ26 = ms_bad σ 1 → post σ26)
def w_M_takeBeginning  (σ : MPS)  (post : MPS → Prop) : Prop := (((mp_deep σ) = 40 → w_M_takeBeginning_J24 post σ) ∧ (¬ (mp_deep σ) = 40 → (((mp_elements σ) = 300 → w_M_takeBeginning_J24 post σ) ∧ (¬ (mp_elements σ) = 300 → (∀ σ37 : MPS, σ37 = ms_at σ ((mp_at σ) + 1) → (vp_in (mp_deep σ37) 41 ∧ (∀ σ52 : MPS, σ52 = ms_openAt σ37 (upd (mp_openAt σ37) (mp_deep σ37).toNatClampNeg (mp_at σ37)) → w_M_takeName σ52  (fun r62 σ62 => (vp_in (mp_deep σ52) 41 ∧ (∀ σ65 : MPS, σ65 = ms_openMany σ62 (upd (mp_openMany σ62) (mp_deep σ52).toNatClampNeg r62) → (∀ σ73 : MPS, σ73 = ms_elements σ65 ((mp_elements σ65) + 1) → (((mp_bad σ73) = 0 → w_M_add σ73 1 (mp_at σ) (mp_at σ) (fun r91 σ91 => w_M_takeBeginning_J94 post (mp_at σ) r91 σ91)) ∧ (¬ (mp_bad σ73) = 0 → w_M_takeBeginning_J94 post (mp_at σ) (-1) σ73)))))))))))))
set_option maxHeartbeats 4000000 in
set_option maxRecDepth 100000 in
theorem c_M_takeBeginning (l : Launch) (md : MD) (sz : Nat) (σ : MPS)   (post : MPS → Prop) (hE : w_M_takeBeginning σ post) : Met l y_M_takeBeginning ws_M_takeBeginning { frames := 5, cells := 0, slots := 0, locals := 116 } (va_Pc [.ref (mA md 0)] (gM md σ sz)) (va_Qv post (eM md (va_A (MW md σ) sz)) (va_A (MW md σ) sz)) 0 0 (va_A (MW md σ) sz) := by
  refine Met.ofW (cc := b_M_takeBeginning) (maxL := 5) (ret := none) (by decide) rfl ?_
  intro p e s m args below meth c s₁ B hml hv
  obtain ⟨rfl, hsz, hP, hK, hD0⟩ := hv
  have hx := B.exec
  have hb := B.bytes
  have hr := B.returns
  have hta : ∀ w ∈ aW, w.before _ s = true := fun w h => atoms_spec (ws := ws_M_takeBeginning) B.pre w (List.mem_cons_of_mem _ h)
  have hown : s.vm.findClass R_M = some m.cls := findClass_of_methodNamed B.named
  have hlocks := B.notSynchronized
  subst hsz
  have hD := hD0.self (sz := s.heap.size)
  generalize hAe : va_A (MW md σ) s.heap.size = A at hD ⊢
  have hA : ∀ q : Nat, s.heap.size ≤ q → A q := fun q h => by rw [← hAe]; exact Or.inr h
  have hS : va_S A s.heap s.heap [] := va_S.rf
  have hP : va_P (mG md) classes (MW md σ) s.heap := hP
  have hl := lv_entry ([.ref (mA md 0)]) (n := 5) (Nat.le_of_ble_eq_true rfl)
  rw [lg_entry_eq]
  generalize (lg_sl ([.ref (mA md 0)]) ++ List.replicate (5 - (lg_sl ([.ref (mA md 0)])).length) Slot.unset).toArray = ls at hl ⊢
  have hl : lv_has ls 5 [(0, .ref (mA md 0))] := hl
  have J174 : ∀ (v2 : Int32) (σ : MPS) (H : Heap) (locs : List Loc) (hP : va_P (mG md) classes (MW md σ) H) (hD : va_D A (MW md σ)) (hS : va_S A s.heap H locs) (ls : Array Slot) (hl : lv_has ls 5 [(0, .ref (mA md 0)), (2, .int v2)]) (hE : w_M_takeBeginning_J174 post v2 σ), W p l e (headSpec ws_M_takeBeginning { frames := 5, cells := 0, slots := 0, locals := 116 }).room s m ([.ref (mA md 0)] : List Value).toArray below meth c H locs 0 0 (MQ below (va_Qv post (eM md A) A) ([.ref (mA md 0)] : List Value).toArray s 0 0 A) (F0 m 174 ls []) := by
    intro  v2 σ H locs hP hD hS ls hl hE
    unfold w_M_takeBeginning_J174 at hE
    refine lv_aload_n hx hb d_M_takeBeginning_174 rfl (lv_at hl 0 rfl) ?_
    refine va_get (D := (mG md)) (ci := 7) (v := .int (mp_bad σ)) (C := R_M) (T := F_M) (N := 37) hx hb hta i_M hown hK hP 0 rfl rfl 16 (by decide) (hta _ fl_M_111) (fun _ h9 => h9) rfl d_M_takeBeginning_175 ?_
    refine lv_if_eq (tgt := 182) hx hb d_M_takeBeginning_178 (by decide) (fun cc178 => ?_) (fun cc178 => ?_)
    · have hE := hE.1 cc178
      refine lv_aload_n hx hb d_M_takeBeginning_182 rfl (lv_at hl 0 rfl) ?_
      refine lv_aload_n hx hb d_M_takeBeginning_183 rfl (lv_at hl 0 rfl) ?_
      refine va_get (D := (mG md)) (ci := 7) (v := .int (mp_at σ)) (C := R_M) (T := F_M) (N := 37) hx hb hta i_M hown hK hP 0 rfl rfl 13 (by decide) (hta _ fl_M_101) (fun _ h9 => h9) rfl d_M_takeBeginning_184 ?_
      refine ro_V (b0 := (mA md 0)) (As := [.int (mp_at σ)]) (rest := []) ⟨hx, hb, hml, hown, hta⟩ (c_M_x l md σ (mp_at σ)  _ hE) ok_M_95 ⟨Nat.le_of_ble_eq_true rfl, Nat.le_of_ble_eq_true rfl⟩ blind_rM (va_recv hK hP (ci := 7) (q0 := 0) rfl rfl) (rM_of hP hK) rfl hl.1 rfl (Nat.le_of_ble_eq_true rfl) d_M_takeBeginning_187 ⟨Nat.zero_le _, Nat.zero_le _⟩ (fun r187 hE => ?_)
      refine lv_bipush (v := 47) hx hb d_M_takeBeginning_190 (by decide) ?_
      refine lv_icmp_ne (tgt := 237) hx hb d_M_takeBeginning_192 (by decide) (fun cc192 => ?_) (fun cc192 => ?_)
      · have hE := hE.2 cc192
        refine lv_aload_n hx hb d_M_takeBeginning_237 rfl (lv_at hl 0 rfl) ?_
        refine lv_aload_n hx hb d_M_takeBeginning_238 rfl (lv_at hl 0 rfl) ?_
        refine va_get (D := (mG md)) (ci := 7) (v := .int (mp_at σ)) (C := R_M) (T := F_M) (N := 37) hx hb hta i_M hown hK hP 0 rfl rfl 13 (by decide) (hta _ fl_M_101) (fun _ h9 => h9) rfl d_M_takeBeginning_239 ?_
        refine ro_V (b0 := (mA md 0)) (As := [.int (mp_at σ)]) (rest := []) ⟨hx, hb, hml, hown, hta⟩ (c_M_x l md σ (mp_at σ)  _ hE) ok_M_95 ⟨Nat.le_of_ble_eq_true rfl, Nat.le_of_ble_eq_true rfl⟩ blind_rM (va_recv hK hP (ci := 7) (q0 := 0) rfl rfl) (rM_of hP hK) rfl hl.1 rfl (Nat.le_of_ble_eq_true rfl) d_M_takeBeginning_242 ⟨Nat.zero_le _, Nat.zero_le _⟩ (fun r242 hE => ?_)
        refine lv_bipush (v := 62) hx hb d_M_takeBeginning_245 (by decide) ?_
        refine lv_icmp_eq (tgt := 256) hx hb d_M_takeBeginning_247 (by decide) (fun cc247 => ?_) (fun cc247 => ?_)
        · have hE := hE.1 cc247
          refine lv_aload_n hx hb d_M_takeBeginning_256 rfl (lv_at hl 0 rfl) ?_
          refine lv_dup hx hb d_M_takeBeginning_257 rfl ?_
          refine va_get (D := (mG md)) (ci := 7) (v := .int (mp_at σ)) (C := R_M) (T := F_M) (N := 37) hx hb hta i_M hown hK hP 0 rfl rfl 13 (by decide) (hta _ fl_M_101) (fun _ h9 => h9) rfl d_M_takeBeginning_258 ?_
          refine lv_iconst (v := 1) hx hb d_M_takeBeginning_261 (by decide) ?_
          refine lv_iadd hx hb d_M_takeBeginning_262 ?_
          refine va_put (D := (mG md)) (ci := 7) (v := .int ((mp_at σ) + 1)) (ty := .int) (C := R_M) (T := F_M) (N := 37) hx hb hta i_M t_M t_M_ok n_M hown hK hP hD hS 0 rfl rfl 13 (by decide) (hta _ fl_M_101) (fun _ h9 => h9) rfl (by decide +kernel) rfl rfl (Nat.le_of_ble_eq_true rfl) d_M_takeBeginning_263 (fun H locs hP hD hS => ?_)
          have hP : va_P (mG md) classes (MW md (ms_at σ ((mp_at σ) + 1))) H := hP
          have hD : va_D A (MW md (ms_at σ ((mp_at σ) + 1))) := hD
          have hE := hE _ rfl
          generalize (ms_at σ ((mp_at σ) + 1) : MPS) = σ263 at hP hD hE
          refine lv_aload_n hx hb d_M_takeBeginning_266 rfl (lv_at hl 0 rfl) ?_
          refine va_get (D := (mG md)) (ci := 7) (v := .ref (mA md 16)) (C := R_M) (T := F_M) (N := 37) hx hb hta i_M hown hK hP 0 rfl rfl 31 (by decide) (hta _ fl_M_61) (fun _ h9 => h9) rfl d_M_takeBeginning_267 ?_
          refine lv_aload_n hx hb d_M_takeBeginning_270 rfl (lv_at hl 0 rfl) ?_
          refine va_get (D := (mG md)) (ci := 7) (v := .int (mp_deep σ263)) (C := R_M) (T := F_M) (N := 37) hx hb hta i_M hown hK hP 0 rfl rfl 15 (by decide) (hta _ fl_M_178) (fun _ h9 => h9) rfl d_M_takeBeginning_271 ?_
          refine lv_iload_n hx hb d_M_takeBeginning_274 rfl (lv_at hl 1 rfl) ?_
          obtain ⟨hI275, hE⟩ := hE
          refine va_iast (D := (mG md)) (f := mp_openNode σ263) hx hb hK hP hD hS 16 0 rfl rfl hI275 d_M_takeBeginning_275 (fun H locs hP hD hS => ?_)
          have hP : va_P (mG md) classes (MW md (ms_openNode σ263 (upd (mp_openNode σ263) (mp_deep σ263).toNatClampNeg v2))) H := hP
          have hD : va_D A (MW md (ms_openNode σ263 (upd (mp_openNode σ263) (mp_deep σ263).toNatClampNeg v2))) := hD
          have hE := hE _ rfl
          generalize (ms_openNode σ263 (upd (mp_openNode σ263) (mp_deep σ263).toNatClampNeg v2) : MPS) = σ275 at hP hD hE
          refine lv_aload_n hx hb d_M_takeBeginning_276 rfl (lv_at hl 0 rfl) ?_
          refine lv_dup hx hb d_M_takeBeginning_277 rfl ?_
          refine va_get (D := (mG md)) (ci := 7) (v := .int (mp_deep σ275)) (C := R_M) (T := F_M) (N := 37) hx hb hta i_M hown hK hP 0 rfl rfl 15 (by decide) (hta _ fl_M_178) (fun _ h9 => h9) rfl d_M_takeBeginning_278 ?_
          refine lv_iconst (v := 1) hx hb d_M_takeBeginning_281 (by decide) ?_
          refine lv_iadd hx hb d_M_takeBeginning_282 ?_
          refine va_put (D := (mG md)) (ci := 7) (v := .int ((mp_deep σ275) + 1)) (ty := .int) (C := R_M) (T := F_M) (N := 37) hx hb hta i_M t_M t_M_ok n_M hown hK hP hD hS 0 rfl rfl 15 (by decide) (hta _ fl_M_178) (fun _ h9 => h9) rfl (by decide +kernel) rfl rfl (Nat.le_of_ble_eq_true rfl) d_M_takeBeginning_283 (fun H locs hP hD hS => ?_)
          have hP : va_P (mG md) classes (MW md (ms_deep σ275 ((mp_deep σ275) + 1))) H := hP
          have hD : va_D A (MW md (ms_deep σ275 ((mp_deep σ275) + 1))) := hD
          have hE := hE _ rfl
          generalize (ms_deep σ275 ((mp_deep σ275) + 1) : MPS) = σ283 at hP hD hE
          exact W.vret hx hb hr (fun t ht hW => ⟨⟨σ283, rfl, hE, by rw [ht]; exact hP, va_K.moved hW.alike hK, hD⟩, hS.F ht⟩) hS.2.2 d_M_takeBeginning_286
        · have hE := hE.2 cc247
          refine lv_aload_n hx hb d_M_takeBeginning_250 rfl (lv_at hl 0 rfl) ?_
          refine lv_iconst (v := 1) hx hb d_M_takeBeginning_251 (by decide) ?_
          refine va_put (D := (mG md)) (ci := 7) (v := .int 1) (ty := .boolean) (C := R_M) (T := F_M) (N := 37) hx hb hta i_M t_M t_M_ok n_M hown hK hP hD hS 0 rfl rfl 16 (by decide) (hta _ fl_M_111) (fun _ h9 => h9) rfl (by decide +kernel) rfl rfl (Nat.le_of_ble_eq_true rfl) d_M_takeBeginning_252 (fun H locs hP hD hS => ?_)
          have hP : va_P (mG md) classes (MW md (ms_bad σ 1)) H := hP
          have hD : va_D A (MW md (ms_bad σ 1)) := hD
          have hE := hE _ rfl
          generalize (ms_bad σ 1 : MPS) = σ252 at hP hD hE
          exact W.vret hx hb hr (fun t ht hW => ⟨⟨σ252, rfl, hE, by rw [ht]; exact hP, va_K.moved hW.alike hK, hD⟩, hS.F ht⟩) hS.2.2 d_M_takeBeginning_255
      · have hE := hE.1 cc192
        refine lv_aload_n hx hb d_M_takeBeginning_195 rfl (lv_at hl 0 rfl) ?_
        refine lv_dup hx hb d_M_takeBeginning_196 rfl ?_
        refine va_get (D := (mG md)) (ci := 7) (v := .int (mp_at σ)) (C := R_M) (T := F_M) (N := 37) hx hb hta i_M hown hK hP 0 rfl rfl 13 (by decide) (hta _ fl_M_101) (fun _ h9 => h9) rfl d_M_takeBeginning_197 ?_
        refine lv_iconst (v := 1) hx hb d_M_takeBeginning_200 (by decide) ?_
        refine lv_iadd hx hb d_M_takeBeginning_201 ?_
        refine va_put (D := (mG md)) (ci := 7) (v := .int ((mp_at σ) + 1)) (ty := .int) (C := R_M) (T := F_M) (N := 37) hx hb hta i_M t_M t_M_ok n_M hown hK hP hD hS 0 rfl rfl 13 (by decide) (hta _ fl_M_101) (fun _ h9 => h9) rfl (by decide +kernel) rfl rfl (Nat.le_of_ble_eq_true rfl) d_M_takeBeginning_202 (fun H locs hP hD hS => ?_)
        have hP : va_P (mG md) classes (MW md (ms_at σ ((mp_at σ) + 1))) H := hP
        have hD : va_D A (MW md (ms_at σ ((mp_at σ) + 1))) := hD
        have hE := hE _ rfl
        generalize (ms_at σ ((mp_at σ) + 1) : MPS) = σ202 at hP hD hE
        refine lv_aload_n hx hb d_M_takeBeginning_205 rfl (lv_at hl 0 rfl) ?_
        refine lv_aload_n hx hb d_M_takeBeginning_206 rfl (lv_at hl 0 rfl) ?_
        refine va_get (D := (mG md)) (ci := 7) (v := .int (mp_at σ202)) (C := R_M) (T := F_M) (N := 37) hx hb hta i_M hown hK hP 0 rfl rfl 13 (by decide) (hta _ fl_M_101) (fun _ h9 => h9) rfl d_M_takeBeginning_207 ?_
        refine ro_V (b0 := (mA md 0)) (As := [.int (mp_at σ202)]) (rest := []) ⟨hx, hb, hml, hown, hta⟩ (c_M_x l md σ202 (mp_at σ202)  _ hE) ok_M_95 ⟨Nat.le_of_ble_eq_true rfl, Nat.le_of_ble_eq_true rfl⟩ blind_rM (va_recv hK hP (ci := 7) (q0 := 0) rfl rfl) (rM_of hP hK) rfl hl.1 rfl (Nat.le_of_ble_eq_true rfl) d_M_takeBeginning_210 ⟨Nat.zero_le _, Nat.zero_le _⟩ (fun r210 hE => ?_)
        refine lv_bipush (v := 62) hx hb d_M_takeBeginning_213 (by decide) ?_
        refine lv_icmp_ne (tgt := 231) hx hb d_M_takeBeginning_215 (by decide) (fun cc215 => ?_) (fun cc215 => ?_)
        · have hE := hE.2 cc215
          refine lv_aload_n hx hb d_M_takeBeginning_231 rfl (lv_at hl 0 rfl) ?_
          refine lv_iconst (v := 1) hx hb d_M_takeBeginning_232 (by decide) ?_
          refine va_put (D := (mG md)) (ci := 7) (v := .int 1) (ty := .boolean) (C := R_M) (T := F_M) (N := 37) hx hb hta i_M t_M t_M_ok n_M hown hK hP hD hS 0 rfl rfl 16 (by decide) (hta _ fl_M_111) (fun _ h9 => h9) rfl (by decide +kernel) rfl rfl (Nat.le_of_ble_eq_true rfl) d_M_takeBeginning_233 (fun H locs hP hD hS => ?_)
          have hP : va_P (mG md) classes (MW md (ms_bad σ202 1)) H := hP
          have hD : va_D A (MW md (ms_bad σ202 1)) := hD
          have hE := hE _ rfl
          generalize (ms_bad σ202 1 : MPS) = σ233 at hP hD hE
          exact W.vret hx hb hr (fun t ht hW => ⟨⟨σ233, rfl, hE, by rw [ht]; exact hP, va_K.moved hW.alike hK, hD⟩, hS.F ht⟩) hS.2.2 d_M_takeBeginning_236
        · have hE := hE.1 cc215
          refine lv_aload_n hx hb d_M_takeBeginning_218 rfl (lv_at hl 0 rfl) ?_
          refine lv_dup hx hb d_M_takeBeginning_219 rfl ?_
          refine va_get (D := (mG md)) (ci := 7) (v := .int (mp_at σ202)) (C := R_M) (T := F_M) (N := 37) hx hb hta i_M hown hK hP 0 rfl rfl 13 (by decide) (hta _ fl_M_101) (fun _ h9 => h9) rfl d_M_takeBeginning_220 ?_
          refine lv_iconst (v := 1) hx hb d_M_takeBeginning_223 (by decide) ?_
          refine lv_iadd hx hb d_M_takeBeginning_224 ?_
          refine va_put (D := (mG md)) (ci := 7) (v := .int ((mp_at σ202) + 1)) (ty := .int) (C := R_M) (T := F_M) (N := 37) hx hb hta i_M t_M t_M_ok n_M hown hK hP hD hS 0 rfl rfl 13 (by decide) (hta _ fl_M_101) (fun _ h9 => h9) rfl (by decide +kernel) rfl rfl (Nat.le_of_ble_eq_true rfl) d_M_takeBeginning_225 (fun H locs hP hD hS => ?_)
          have hP : va_P (mG md) classes (MW md (ms_at σ202 ((mp_at σ202) + 1))) H := hP
          have hD : va_D A (MW md (ms_at σ202 ((mp_at σ202) + 1))) := hD
          have hE := hE _ rfl
          generalize (ms_at σ202 ((mp_at σ202) + 1) : MPS) = σ225 at hP hD hE
          refine lv_goto (tgt := 236) hx hb d_M_takeBeginning_228 (by decide) ?_
          exact W.vret hx hb hr (fun t ht hW => ⟨⟨σ225, rfl, hE, by rw [ht]; exact hP, va_K.moved hW.alike hK, hD⟩, hS.F ht⟩) hS.2.2 d_M_takeBeginning_236
    · have hE := hE.2 cc178
      exact W.vret hx hb hr (fun t ht hW => ⟨⟨σ, rfl, hE, by rw [ht]; exact hP, va_K.moved hW.alike hK, hD⟩, hS.F ht⟩) hS.2.2 d_M_takeBeginning_181
  have L108 : ∀ (v1 : Int32) (v2 : Int32) (n : Nat) (v3 : Int32) (σ : MPS) (H : Heap) (locs : List Loc) (hP : va_P (mG md) classes (MW md σ) H) (hD : va_D A (MW md σ)) (hS : va_S A s.heap H locs) (ls : Array Slot) (hl : lv_has ls 5 [(0, .ref (mA md 0)), (1, .int v1), (2, .int v2), (3, .int v3)]) (hE : w_M_takeBeginning_L108 v1 v2 post n v3 σ), W p l e (headSpec ws_M_takeBeginning { frames := 5, cells := 0, slots := 0, locals := 116 }).room s m ([.ref (mA md 0)] : List Value).toArray below meth c H locs 0 0 (MQ below (va_Qv post (eM md A) A) ([.ref (mA md 0)] : List Value).toArray s 0 0 A) (F0 m 108 ls []) := by
    intro v1 v2 n
    induction n with
    | zero => intro v3 σ H locs hP hD hS ls hl hE; exact hE.elim
    | succ n ih108 =>
      have J171 : ∀ (v3 : Int32) (σ : MPS) (H : Heap) (locs : List Loc) (hP : va_P (mG md) classes (MW md σ) H) (hD : va_D A (MW md σ)) (hS : va_S A s.heap H locs) (ls : Array Slot) (hl : lv_has ls 5 [(0, .ref (mA md 0)), (1, .int v1), (2, .int v2), (3, .int v3)]) (hE : w_M_takeBeginning_J171 v1 v2 (w_M_takeBeginning_L108 v1 v2 post n) post v3 σ), W p l e (headSpec ws_M_takeBeginning { frames := 5, cells := 0, slots := 0, locals := 116 }).room s m ([.ref (mA md 0)] : List Value).toArray below meth c H locs 0 0 (MQ below (va_Qv post (eM md A) A) ([.ref (mA md 0)] : List Value).toArray s 0 0 A) (F0 m 171 ls []) := by
        intro  v3 σ H locs hP hD hS ls hl hE
        unfold w_M_takeBeginning_J171 at hE
        refine lv_goto (tgt := 108) hx hb d_M_takeBeginning_171 (by decide) ?_
        exact ih108 v3 σ _ _ hP hD hS _ (lv_sub hl [0, 1, 2, 3] rfl) hE
      have J161 : ∀ (t0 : Int32) (σ : MPS) (H : Heap) (locs : List Loc) (hP : va_P (mG md) classes (MW md σ) H) (hD : va_D A (MW md σ)) (hS : va_S A s.heap H locs) (ls : Array Slot) (hl : lv_has ls 5 [(0, .ref (mA md 0)), (1, .int v1), (2, .int v2)]) (hE : w_M_takeBeginning_J161 v1 v2 (w_M_takeBeginning_L108 v1 v2 post n) post t0 σ), W p l e (headSpec ws_M_takeBeginning { frames := 5, cells := 0, slots := 0, locals := 116 }).room s m ([.ref (mA md 0)] : List Value).toArray below meth c H locs 0 0 (MQ below (va_Qv post (eM md A) A) ([.ref (mA md 0)] : List Value).toArray s 0 0 A) (F0 m 161 ls [.int t0]) := by
        intro  t0 σ H locs hP hD hS ls hl hE
        unfold w_M_takeBeginning_J161 at hE
        refine lv_istore_n (lv' := [(3, .int t0), (0, .ref (mA md 0)), (1, .int v1), (2, .int v2)]) hx hb d_M_takeBeginning_161 rfl hl (by decide) rfl (fun ls hl => ?_)
        refine lv_iload_n hx hb d_M_takeBeginning_162 rfl (lv_at hl 0 rfl) ?_
        refine lv_if_eq (tgt := 171) hx hb d_M_takeBeginning_163 (by decide) (fun cc163 => ?_) (fun cc163 => ?_)
        · have hE := hE.1 cc163
          exact J171  t0 σ _ _ hP hD hS _ (lv_sub hl [1, 2, 3, 0] rfl) hE
        · have hE := hE.2 cc163
          refine lv_aload_n hx hb d_M_takeBeginning_166 rfl (lv_at hl 1 rfl) ?_
          refine lv_iload_n hx hb d_M_takeBeginning_167 rfl (lv_at hl 2 rfl) ?_
          refine mm_v (b0 := (mA md 0)) (As := [.int v1]) (rest := []) ⟨hx, hb, hml, hown, hta⟩ (c_M_takeAttribute l md _ σ v1 _ hE) ok_M_191 ⟨Nat.le_of_ble_eq_true rfl, Nat.le_of_ble_eq_true rfl⟩ (va_recv hK hP (ci := 7) (q0 := 0) rfl rfl) hP hK hD hS hA rfl hl.1 rfl (Nat.le_of_ble_eq_true rfl) d_M_takeBeginning_168 ⟨Nat.zero_le _, Nat.zero_le _⟩ (fun σ168 H locs hE hP hD hS => ?_)
          exact J171  t0 σ168 _ _ hP hD hS _ (lv_sub hl [1, 2, 3, 0] rfl) hE
      have J160 : ∀ (σ : MPS) (H : Heap) (locs : List Loc) (hP : va_P (mG md) classes (MW md σ) H) (hD : va_D A (MW md σ)) (hS : va_S A s.heap H locs) (ls : Array Slot) (hl : lv_has ls 5 [(0, .ref (mA md 0)), (1, .int v1), (2, .int v2)]) (hE : w_M_takeBeginning_J160 v1 v2 (w_M_takeBeginning_L108 v1 v2 post n) post σ), W p l e (headSpec ws_M_takeBeginning { frames := 5, cells := 0, slots := 0, locals := 116 }).room s m ([.ref (mA md 0)] : List Value).toArray below meth c H locs 0 0 (MQ below (va_Qv post (eM md A) A) ([.ref (mA md 0)] : List Value).toArray s 0 0 A) (F0 m 160 ls []) := by
        intro  σ H locs hP hD hS ls hl hE
        unfold w_M_takeBeginning_J160 at hE
        refine lv_iconst (v := 0) hx hb d_M_takeBeginning_160 (by decide) ?_
        exact J161  0 σ _ _ hP hD hS _ (lv_sub hl [0, 1, 2] rfl) hE
      intro v3 σ H locs hP hD hS ls hl hE
      unfold w_M_takeBeginning_L108 at hE
      refine lv_iload_n hx hb d_M_takeBeginning_108 rfl (lv_at hl 3 rfl) ?_
      refine lv_if_eq (tgt := 174) hx hb d_M_takeBeginning_109 (by decide) (fun cc109 => ?_) (fun cc109 => ?_)
      · have hE := hE.1 cc109
        exact J174  v2 σ _ _ hP hD hS _ (lv_sub hl [0, 2] rfl) hE
      · have hE := hE.2 cc109
        refine lv_aload_n hx hb d_M_takeBeginning_112 rfl (lv_at hl 0 rfl) ?_
        refine va_get (D := (mG md)) (ci := 7) (v := .int (mp_bad σ)) (C := R_M) (T := F_M) (N := 37) hx hb hta i_M hown hK hP 0 rfl rfl 16 (by decide) (hta _ fl_M_111) (fun _ h9 => h9) rfl d_M_takeBeginning_113 ?_
        refine lv_if_ne (tgt := 174) hx hb d_M_takeBeginning_116 (by decide) (fun cc116 => ?_) (fun cc116 => ?_)
        · have hE := hE.2 cc116
          exact J174  v2 σ _ _ hP hD hS _ (lv_sub hl [0, 2] rfl) hE
        · have hE := hE.1 cc116
          refine lv_aload_n hx hb d_M_takeBeginning_119 rfl (lv_at hl 0 rfl) ?_
          refine lv_aload_n hx hb d_M_takeBeginning_120 rfl (lv_at hl 0 rfl) ?_
          refine va_get (D := (mG md)) (ci := 7) (v := .int (mp_at σ)) (C := R_M) (T := F_M) (N := 37) hx hb hta i_M hown hK hP 0 rfl rfl 13 (by decide) (hta _ fl_M_101) (fun _ h9 => h9) rfl d_M_takeBeginning_121 ?_
          refine ro_V (b0 := (mA md 0)) (As := [.int (mp_at σ)]) (rest := []) ⟨hx, hb, hml, hown, hta⟩ (c_M_x l md σ (mp_at σ)  _ hE) ok_M_95 ⟨Nat.le_of_ble_eq_true rfl, Nat.le_of_ble_eq_true rfl⟩ blind_rM (va_recv hK hP (ci := 7) (q0 := 0) rfl rfl) (rM_of hP hK) rfl hl.1 rfl (Nat.le_of_ble_eq_true rfl) d_M_takeBeginning_124 ⟨Nat.zero_le _, Nat.zero_le _⟩ (fun r124 hE => ?_)
          refine ro_S  (As := [.int r124]) (rest := []) ⟨hx, hb, hml, hown, hta⟩ (c_M_isWhite l r124  _ hE) ok_M_104 ⟨Nat.le_of_ble_eq_true rfl, Nat.le_of_ble_eq_true rfl⟩ blind_true  (fun _ _ _ => trivial) rfl hl.1 rfl (Nat.le_of_ble_eq_true rfl) d_M_takeBeginning_127 ⟨Nat.zero_le _, Nat.zero_le _⟩ (fun r127 hE => ?_)
          refine lv_istore (lv' := [(4, .int r127), (0, .ref (mA md 0)), (1, .int v1), (2, .int v2), (3, .int v3)]) hx hb d_M_takeBeginning_130 hl (by decide) rfl (fun ls hl => ?_)
          refine lv_aload_n hx hb d_M_takeBeginning_132 rfl (lv_at hl 1 rfl) ?_
          refine mm_v (b0 := (mA md 0)) (As := []) (rest := []) ⟨hx, hb, hml, hown, hta⟩ (c_M_skipWhite l md _ σ  _ hE) ok_M_188 ⟨Nat.le_of_ble_eq_true rfl, Nat.le_of_ble_eq_true rfl⟩ (va_recv hK hP (ci := 7) (q0 := 0) rfl rfl) hP hK hD hS hA rfl hl.1 rfl (Nat.le_of_ble_eq_true rfl) d_M_takeBeginning_133 ⟨Nat.zero_le _, Nat.zero_le _⟩ (fun σ133 H locs hE hP hD hS => ?_)
          refine lv_iload hx hb d_M_takeBeginning_136 (lv_at hl 0 rfl) ?_
          refine lv_if_eq (tgt := 160) hx hb d_M_takeBeginning_138 (by decide) (fun cc138 => ?_) (fun cc138 => ?_)
          · have hE := hE.1 cc138
            exact J160  σ133 _ _ hP hD hS _ (lv_sub hl [1, 2, 3] rfl) hE
          · have hE := hE.2 cc138
            refine lv_aload_n hx hb d_M_takeBeginning_141 rfl (lv_at hl 1 rfl) ?_
            refine lv_aload_n hx hb d_M_takeBeginning_142 rfl (lv_at hl 1 rfl) ?_
            refine va_get (D := (mG md)) (ci := 7) (v := .int (mp_at σ133)) (C := R_M) (T := F_M) (N := 37) hx hb hta i_M hown hK hP 0 rfl rfl 13 (by decide) (hta _ fl_M_101) (fun _ h9 => h9) rfl d_M_takeBeginning_143 ?_
            refine ro_V (b0 := (mA md 0)) (As := [.int (mp_at σ133)]) (rest := []) ⟨hx, hb, hml, hown, hta⟩ (c_M_x l md σ133 (mp_at σ133)  _ hE) ok_M_95 ⟨Nat.le_of_ble_eq_true rfl, Nat.le_of_ble_eq_true rfl⟩ blind_rM (va_recv hK hP (ci := 7) (q0 := 0) rfl rfl) (rM_of hP hK) rfl hl.1 rfl (Nat.le_of_ble_eq_true rfl) d_M_takeBeginning_146 ⟨Nat.zero_le _, Nat.zero_le _⟩ (fun r146 hE => ?_)
            refine lv_iconst (v := 1) hx hb d_M_takeBeginning_149 (by decide) ?_
            refine ro_S  (As := [.int r146, .int 1]) (rest := []) ⟨hx, hb, hml, hown, hta⟩ (c_M_isNameSign l r146 1  _ hE) ok_M_107 ⟨Nat.le_of_ble_eq_true rfl, Nat.le_of_ble_eq_true rfl⟩ blind_true  (fun _ _ _ => trivial) rfl hl.1 rfl (Nat.le_of_ble_eq_true rfl) d_M_takeBeginning_150 ⟨Nat.zero_le _, Nat.zero_le _⟩ (fun r150 hE => ?_)
            refine lv_if_eq (tgt := 160) hx hb d_M_takeBeginning_153 (by decide) (fun cc153 => ?_) (fun cc153 => ?_)
            · have hE := hE.1 cc153
              exact J160  σ133 _ _ hP hD hS _ (lv_sub hl [1, 2, 3] rfl) hE
            · have hE := hE.2 cc153
              refine lv_iconst (v := 1) hx hb d_M_takeBeginning_156 (by decide) ?_
              refine lv_goto (tgt := 161) hx hb d_M_takeBeginning_157 (by decide) ?_
              exact J161  1 σ133 _ _ hP hD hS _ (lv_sub hl [1, 2, 3] rfl) hE
  have J107 : ∀ (v1 : Int32) (v2 : Int32) (t0 : Int32) (σ : MPS) (H : Heap) (locs : List Loc) (hP : va_P (mG md) classes (MW md σ) H) (hD : va_D A (MW md σ)) (hS : va_S A s.heap H locs) (ls : Array Slot) (hl : lv_has ls 5 [(0, .ref (mA md 0)), (1, .int v1), (2, .int v2)]) (hE : w_M_takeBeginning_J107 post v1 v2 t0 σ), W p l e (headSpec ws_M_takeBeginning { frames := 5, cells := 0, slots := 0, locals := 116 }).room s m ([.ref (mA md 0)] : List Value).toArray below meth c H locs 0 0 (MQ below (va_Qv post (eM md A) A) ([.ref (mA md 0)] : List Value).toArray s 0 0 A) (F0 m 107 ls [.int t0]) := by
    intro  v1 v2 t0 σ H locs hP hD hS ls hl hE
    unfold w_M_takeBeginning_J107 at hE
    refine lv_istore_n (lv' := [(3, .int t0), (0, .ref (mA md 0)), (1, .int v1), (2, .int v2)]) hx hb d_M_takeBeginning_107 rfl hl (by decide) rfl (fun ls hl => ?_)
    obtain ⟨n, hE⟩ := hE
    exact L108 v1 v2 n t0 σ _ _ hP hD hS _ (lv_sub hl [1, 2, 3, 0] rfl) hE
  have J94 : ∀ (v1 : Int32) (t0 : Int32) (σ : MPS) (H : Heap) (locs : List Loc) (hP : va_P (mG md) classes (MW md σ) H) (hD : va_D A (MW md σ)) (hS : va_S A s.heap H locs) (ls : Array Slot) (hl : lv_has ls 5 [(0, .ref (mA md 0)), (1, .int v1)]) (hE : w_M_takeBeginning_J94 post v1 t0 σ), W p l e (headSpec ws_M_takeBeginning { frames := 5, cells := 0, slots := 0, locals := 116 }).room s m ([.ref (mA md 0)] : List Value).toArray below meth c H locs 0 0 (MQ below (va_Qv post (eM md A) A) ([.ref (mA md 0)] : List Value).toArray s 0 0 A) (F0 m 94 ls [.int t0]) := by
    intro  v1 t0 σ H locs hP hD hS ls hl hE
    unfold w_M_takeBeginning_J94 at hE
    refine lv_istore_n (lv' := [(2, .int t0), (0, .ref (mA md 0)), (1, .int v1)]) hx hb d_M_takeBeginning_94 rfl hl (by decide) rfl (fun ls hl => ?_)
    refine lv_aload_n hx hb d_M_takeBeginning_95 rfl (lv_at hl 1 rfl) ?_
    refine va_get (D := (mG md)) (ci := 7) (v := .int (mp_bad σ)) (C := R_M) (T := F_M) (N := 37) hx hb hta i_M hown hK hP 0 rfl rfl 16 (by decide) (hta _ fl_M_111) (fun _ h9 => h9) rfl d_M_takeBeginning_96 ?_
    refine lv_if_ne (tgt := 106) hx hb d_M_takeBeginning_99 (by decide) (fun cc99 => ?_) (fun cc99 => ?_)
    · have hE := hE.2 cc99
      refine lv_iconst (v := 0) hx hb d_M_takeBeginning_106 (by decide) ?_
      exact J107  v1 t0 0 σ _ _ hP hD hS _ (lv_sub hl [1, 2, 0] rfl) hE
    · have hE := hE.1 cc99
      refine lv_iconst (v := 1) hx hb d_M_takeBeginning_102 (by decide) ?_
      refine lv_goto (tgt := 107) hx hb d_M_takeBeginning_103 (by decide) ?_
      exact J107  v1 t0 1 σ _ _ hP hD hS _ (lv_sub hl [1, 2, 0] rfl) hE
  have J24 : ∀ (σ : MPS) (H : Heap) (locs : List Loc) (hP : va_P (mG md) classes (MW md σ) H) (hD : va_D A (MW md σ)) (hS : va_S A s.heap H locs) (ls : Array Slot) (hl : lv_has ls 5 [(0, .ref (mA md 0))]) (hE : w_M_takeBeginning_J24 post σ), W p l e (headSpec ws_M_takeBeginning { frames := 5, cells := 0, slots := 0, locals := 116 }).room s m ([.ref (mA md 0)] : List Value).toArray below meth c H locs 0 0 (MQ below (va_Qv post (eM md A) A) ([.ref (mA md 0)] : List Value).toArray s 0 0 A) (F0 m 24 ls []) := by
    intro  σ H locs hP hD hS ls hl hE
    unfold w_M_takeBeginning_J24 at hE
    refine lv_aload_n hx hb d_M_takeBeginning_24 rfl (lv_at hl 0 rfl) ?_
    refine lv_iconst (v := 1) hx hb d_M_takeBeginning_25 (by decide) ?_
    refine va_put (D := (mG md)) (ci := 7) (v := .int 1) (ty := .boolean) (C := R_M) (T := F_M) (N := 37) hx hb hta i_M t_M t_M_ok n_M hown hK hP hD hS 0 rfl rfl 16 (by decide) (hta _ fl_M_111) (fun _ h9 => h9) rfl (by decide +kernel) rfl rfl (Nat.le_of_ble_eq_true rfl) d_M_takeBeginning_26 (fun H locs hP hD hS => ?_)
    have hP : va_P (mG md) classes (MW md (ms_bad σ 1)) H := hP
    have hD : va_D A (MW md (ms_bad σ 1)) := hD
    have hE := hE _ rfl
    generalize (ms_bad σ 1 : MPS) = σ26 at hP hD hE
    exact W.vret hx hb hr (fun t ht hW => ⟨⟨σ26, rfl, hE, by rw [ht]; exact hP, va_K.moved hW.alike hK, hD⟩, hS.F ht⟩) hS.2.2 d_M_takeBeginning_29
  unfold w_M_takeBeginning at hE
  refine lv_aload_n hx hb d_M_takeBeginning_0 rfl (lv_at hl 0 rfl) ?_
  refine va_get (D := (mG md)) (ci := 7) (v := .int (mp_at σ)) (C := R_M) (T := F_M) (N := 37) hx hb hta i_M hown hK hP 0 rfl rfl 13 (by decide) (hta _ fl_M_101) (fun _ h9 => h9) rfl d_M_takeBeginning_1 ?_
  refine lv_istore_n (lv' := [(1, .int (mp_at σ)), (0, .ref (mA md 0))]) hx hb d_M_takeBeginning_4 rfl hl (by decide) rfl (fun ls hl => ?_)
  refine lv_aload_n hx hb d_M_takeBeginning_5 rfl (lv_at hl 1 rfl) ?_
  refine va_get (D := (mG md)) (ci := 7) (v := .int (mp_deep σ)) (C := R_M) (T := F_M) (N := 37) hx hb hta i_M hown hK hP 0 rfl rfl 15 (by decide) (hta _ fl_M_178) (fun _ h9 => h9) rfl d_M_takeBeginning_6 ?_
  refine lv_bipush (v := 40) hx hb d_M_takeBeginning_9 (by decide) ?_
  refine lv_icmp_eq (tgt := 24) hx hb d_M_takeBeginning_11 (by decide) (fun cc11 => ?_) (fun cc11 => ?_)
  · have hE := hE.1 cc11
    exact J24  σ _ _ hP hD hS _ (lv_sub hl [1] rfl) hE
  · have hE := hE.2 cc11
    refine lv_aload_n hx hb d_M_takeBeginning_14 rfl (lv_at hl 1 rfl) ?_
    refine va_get (D := (mG md)) (ci := 7) (v := .int (mp_elements σ)) (C := R_M) (T := F_M) (N := 37) hx hb hta i_M hown hK hP 0 rfl rfl 14 (by decide) (hta _ fl_M_181) (fun _ h9 => h9) rfl d_M_takeBeginning_15 ?_
    refine lv_sipush (v := 300) hx hb d_M_takeBeginning_18 (by decide) ?_
    refine lv_icmp_ne (tgt := 30) hx hb d_M_takeBeginning_21 (by decide) (fun cc21 => ?_) (fun cc21 => ?_)
    · have hE := hE.2 cc21
      refine lv_aload_n hx hb d_M_takeBeginning_30 rfl (lv_at hl 1 rfl) ?_
      refine lv_dup hx hb d_M_takeBeginning_31 rfl ?_
      refine va_get (D := (mG md)) (ci := 7) (v := .int (mp_at σ)) (C := R_M) (T := F_M) (N := 37) hx hb hta i_M hown hK hP 0 rfl rfl 13 (by decide) (hta _ fl_M_101) (fun _ h9 => h9) rfl d_M_takeBeginning_32 ?_
      refine lv_iconst (v := 1) hx hb d_M_takeBeginning_35 (by decide) ?_
      refine lv_iadd hx hb d_M_takeBeginning_36 ?_
      refine va_put (D := (mG md)) (ci := 7) (v := .int ((mp_at σ) + 1)) (ty := .int) (C := R_M) (T := F_M) (N := 37) hx hb hta i_M t_M t_M_ok n_M hown hK hP hD hS 0 rfl rfl 13 (by decide) (hta _ fl_M_101) (fun _ h9 => h9) rfl (by decide +kernel) rfl rfl (Nat.le_of_ble_eq_true rfl) d_M_takeBeginning_37 (fun H locs hP hD hS => ?_)
      have hP : va_P (mG md) classes (MW md (ms_at σ ((mp_at σ) + 1))) H := hP
      have hD : va_D A (MW md (ms_at σ ((mp_at σ) + 1))) := hD
      have hE := hE _ rfl
      generalize (ms_at σ ((mp_at σ) + 1) : MPS) = σ37 at hP hD hE
      refine lv_aload_n hx hb d_M_takeBeginning_40 rfl (lv_at hl 1 rfl) ?_
      refine va_get (D := (mG md)) (ci := 7) (v := .ref (mA md 6)) (C := R_M) (T := F_M) (N := 37) hx hb hta i_M hown hK hP 0 rfl rfl 17 (by decide) (hta _ fl_M_29) (fun _ h9 => h9) rfl d_M_takeBeginning_41 ?_
      refine lv_aload_n hx hb d_M_takeBeginning_44 rfl (lv_at hl 1 rfl) ?_
      refine va_get (D := (mG md)) (ci := 7) (v := .int (mp_deep σ37)) (C := R_M) (T := F_M) (N := 37) hx hb hta i_M hown hK hP 0 rfl rfl 15 (by decide) (hta _ fl_M_178) (fun _ h9 => h9) rfl d_M_takeBeginning_45 ?_
      refine lv_aload_n hx hb d_M_takeBeginning_48 rfl (lv_at hl 1 rfl) ?_
      refine va_get (D := (mG md)) (ci := 7) (v := .int (mp_at σ37)) (C := R_M) (T := F_M) (N := 37) hx hb hta i_M hown hK hP 0 rfl rfl 13 (by decide) (hta _ fl_M_101) (fun _ h9 => h9) rfl d_M_takeBeginning_49 ?_
      obtain ⟨hI52, hE⟩ := hE
      refine va_iast (D := (mG md)) (f := mp_openAt σ37) hx hb hK hP hD hS 6 0 rfl rfl hI52 d_M_takeBeginning_52 (fun H locs hP hD hS => ?_)
      have hP : va_P (mG md) classes (MW md (ms_openAt σ37 (upd (mp_openAt σ37) (mp_deep σ37).toNatClampNeg (mp_at σ37)))) H := hP
      have hD : va_D A (MW md (ms_openAt σ37 (upd (mp_openAt σ37) (mp_deep σ37).toNatClampNeg (mp_at σ37)))) := hD
      have hE := hE _ rfl
      generalize (ms_openAt σ37 (upd (mp_openAt σ37) (mp_deep σ37).toNatClampNeg (mp_at σ37)) : MPS) = σ52 at hP hD hE
      refine lv_aload_n hx hb d_M_takeBeginning_53 rfl (lv_at hl 1 rfl) ?_
      refine va_get (D := (mG md)) (ci := 7) (v := .ref (mA md 7)) (C := R_M) (T := F_M) (N := 37) hx hb hta i_M hown hK hP 0 rfl rfl 18 (by decide) (hta _ fl_M_33) (fun _ h9 => h9) rfl d_M_takeBeginning_54 ?_
      refine lv_aload_n hx hb d_M_takeBeginning_57 rfl (lv_at hl 1 rfl) ?_
      refine va_get (D := (mG md)) (ci := 7) (v := .int (mp_deep σ52)) (C := R_M) (T := F_M) (N := 37) hx hb hta i_M hown hK hP 0 rfl rfl 15 (by decide) (hta _ fl_M_178) (fun _ h9 => h9) rfl d_M_takeBeginning_58 ?_
      refine lv_aload_n hx hb d_M_takeBeginning_61 rfl (lv_at hl 1 rfl) ?_
      refine mm_i (b0 := (mA md 0)) (As := []) (rest := [.int (mp_deep σ52), .ref (mA md 7)]) ⟨hx, hb, hml, hown, hta⟩ (c_M_takeName l md _ σ52  _ hE) ok_M_165 ⟨Nat.le_of_ble_eq_true rfl, Nat.le_of_ble_eq_true rfl⟩ (va_recv hK hP (ci := 7) (q0 := 0) rfl rfl) hP hK hD hS hA rfl hl.1 rfl (Nat.le_of_ble_eq_true rfl) d_M_takeBeginning_62 ⟨Nat.zero_le _, Nat.zero_le _⟩ (fun r62 σ62 H locs hE hP hD hS => ?_)
      obtain ⟨hI65, hE⟩ := hE
      refine va_iast (D := (mG md)) (f := mp_openMany σ62) hx hb hK hP hD hS 7 0 rfl rfl hI65 d_M_takeBeginning_65 (fun H locs hP hD hS => ?_)
      have hP : va_P (mG md) classes (MW md (ms_openMany σ62 (upd (mp_openMany σ62) (mp_deep σ52).toNatClampNeg r62))) H := hP
      have hD : va_D A (MW md (ms_openMany σ62 (upd (mp_openMany σ62) (mp_deep σ52).toNatClampNeg r62))) := hD
      have hE := hE _ rfl
      generalize (ms_openMany σ62 (upd (mp_openMany σ62) (mp_deep σ52).toNatClampNeg r62) : MPS) = σ65 at hP hD hE
      refine lv_aload_n hx hb d_M_takeBeginning_66 rfl (lv_at hl 1 rfl) ?_
      refine lv_dup hx hb d_M_takeBeginning_67 rfl ?_
      refine va_get (D := (mG md)) (ci := 7) (v := .int (mp_elements σ65)) (C := R_M) (T := F_M) (N := 37) hx hb hta i_M hown hK hP 0 rfl rfl 14 (by decide) (hta _ fl_M_181) (fun _ h9 => h9) rfl d_M_takeBeginning_68 ?_
      refine lv_iconst (v := 1) hx hb d_M_takeBeginning_71 (by decide) ?_
      refine lv_iadd hx hb d_M_takeBeginning_72 ?_
      refine va_put (D := (mG md)) (ci := 7) (v := .int ((mp_elements σ65) + 1)) (ty := .int) (C := R_M) (T := F_M) (N := 37) hx hb hta i_M t_M t_M_ok n_M hown hK hP hD hS 0 rfl rfl 14 (by decide) (hta _ fl_M_181) (fun _ h9 => h9) rfl (by decide +kernel) rfl rfl (Nat.le_of_ble_eq_true rfl) d_M_takeBeginning_73 (fun H locs hP hD hS => ?_)
      have hP : va_P (mG md) classes (MW md (ms_elements σ65 ((mp_elements σ65) + 1))) H := hP
      have hD : va_D A (MW md (ms_elements σ65 ((mp_elements σ65) + 1))) := hD
      have hE := hE _ rfl
      generalize (ms_elements σ65 ((mp_elements σ65) + 1) : MPS) = σ73 at hP hD hE
      refine lv_aload_n hx hb d_M_takeBeginning_76 rfl (lv_at hl 1 rfl) ?_
      refine va_get (D := (mG md)) (ci := 7) (v := .int (mp_bad σ73)) (C := R_M) (T := F_M) (N := 37) hx hb hta i_M hown hK hP 0 rfl rfl 16 (by decide) (hta _ fl_M_111) (fun _ h9 => h9) rfl d_M_takeBeginning_77 ?_
      refine lv_if_eq (tgt := 87) hx hb d_M_takeBeginning_80 (by decide) (fun cc80 => ?_) (fun cc80 => ?_)
      · have hE := hE.1 cc80
        refine lv_aload_n hx hb d_M_takeBeginning_87 rfl (lv_at hl 1 rfl) ?_
        refine lv_iconst (v := 1) hx hb d_M_takeBeginning_88 (by decide) ?_
        refine lv_iload_n hx hb d_M_takeBeginning_89 rfl (lv_at hl 0 rfl) ?_
        refine lv_iload_n hx hb d_M_takeBeginning_90 rfl (lv_at hl 0 rfl) ?_
        refine mm_i (b0 := (mA md 0)) (As := [.int 1, .int (mp_at σ), .int (mp_at σ)]) (rest := []) ⟨hx, hb, hml, hown, hta⟩ (c_M_add l md _ σ73 1 (mp_at σ) (mp_at σ) _ hE) ok_M_184 ⟨Nat.le_of_ble_eq_true rfl, Nat.le_of_ble_eq_true rfl⟩ (va_recv hK hP (ci := 7) (q0 := 0) rfl rfl) hP hK hD hS hA rfl hl.1 rfl (Nat.le_of_ble_eq_true rfl) d_M_takeBeginning_91 ⟨Nat.zero_le _, Nat.zero_le _⟩ (fun r91 σ91 H locs hE hP hD hS => ?_)
        exact J94  (mp_at σ) r91 σ91 _ _ hP hD hS _ (lv_sub hl [1, 0] rfl) hE
      · have hE := hE.2 cc80
        refine lv_iconst (v := -1) hx hb d_M_takeBeginning_83 (by decide) ?_
        refine lv_goto (tgt := 94) hx hb d_M_takeBeginning_84 (by decide) ?_
        exact J94  (mp_at σ) (-1) σ73 _ _ hP hD hS _ (lv_sub hl [1, 0] rfl) hE
    · have hE := hE.1 cc21
      exact J24  σ _ _ hP hD hS _ (lv_sub hl [1] rfl) hE

theorem d_M_takeEnding_0 : decode b_M_takeEnding 0 = .ok (.aload_n 0, 1) := by decide +kernel
theorem d_M_takeEnding_1 : decode b_M_takeEnding 1 = .ok (.dup, 1) := by decide +kernel
theorem d_M_takeEnding_2 : decode b_M_takeEnding 2 = .ok (.getfield 101, 3) := by decide +kernel
theorem d_M_takeEnding_5 : decode b_M_takeEnding 5 = .ok (.iconst 2, 1) := by decide +kernel
theorem d_M_takeEnding_6 : decode b_M_takeEnding 6 = .ok (.iadd, 1) := by decide +kernel
theorem d_M_takeEnding_7 : decode b_M_takeEnding 7 = .ok (.putfield 101, 3) := by decide +kernel
theorem d_M_takeEnding_10 : decode b_M_takeEnding 10 = .ok (.aload_n 0, 1) := by decide +kernel
theorem d_M_takeEnding_11 : decode b_M_takeEnding 11 = .ok (.getfield 101, 3) := by decide +kernel
theorem d_M_takeEnding_14 : decode b_M_takeEnding 14 = .ok (.istore_n 1, 1) := by decide +kernel
theorem d_M_takeEnding_15 : decode b_M_takeEnding 15 = .ok (.aload_n 0, 1) := by decide +kernel
theorem d_M_takeEnding_16 : decode b_M_takeEnding 16 = .ok (.invokevirtual 165, 3) := by decide +kernel
theorem d_M_takeEnding_19 : decode b_M_takeEnding 19 = .ok (.istore_n 2, 1) := by decide +kernel
theorem d_M_takeEnding_20 : decode b_M_takeEnding 20 = .ok (.aload_n 0, 1) := by decide +kernel
theorem d_M_takeEnding_21 : decode b_M_takeEnding 21 = .ok (.getfield 111, 3) := by decide +kernel
theorem d_M_takeEnding_24 : decode b_M_takeEnding 24 = .ok (.ifCond .eq 4, 3) := by decide +kernel
theorem d_M_takeEnding_27 : decode b_M_takeEnding 27 = .ok (.return_, 1) := by decide +kernel
theorem d_M_takeEnding_28 : decode b_M_takeEnding 28 = .ok (.iload_n 2, 1) := by decide +kernel
theorem d_M_takeEnding_29 : decode b_M_takeEnding 29 = .ok (.aload_n 0, 1) := by decide +kernel
theorem d_M_takeEnding_30 : decode b_M_takeEnding 30 = .ok (.getfield 33, 3) := by decide +kernel
theorem d_M_takeEnding_33 : decode b_M_takeEnding 33 = .ok (.aload_n 0, 1) := by decide +kernel
theorem d_M_takeEnding_34 : decode b_M_takeEnding 34 = .ok (.getfield 178, 3) := by decide +kernel
theorem d_M_takeEnding_37 : decode b_M_takeEnding 37 = .ok (.iconst 1, 1) := by decide +kernel
theorem d_M_takeEnding_38 : decode b_M_takeEnding 38 = .ok (.isub, 1) := by decide +kernel
theorem d_M_takeEnding_39 : decode b_M_takeEnding 39 = .ok (.iaload, 1) := by decide +kernel
theorem d_M_takeEnding_40 : decode b_M_takeEnding 40 = .ok (.if_icmp .ne 23, 3) := by decide +kernel
theorem d_M_takeEnding_43 : decode b_M_takeEnding 43 = .ok (.aload_n 0, 1) := by decide +kernel
theorem d_M_takeEnding_44 : decode b_M_takeEnding 44 = .ok (.iload_n 1, 1) := by decide +kernel
theorem d_M_takeEnding_45 : decode b_M_takeEnding 45 = .ok (.aload_n 0, 1) := by decide +kernel
theorem d_M_takeEnding_46 : decode b_M_takeEnding 46 = .ok (.getfield 29, 3) := by decide +kernel
theorem d_M_takeEnding_49 : decode b_M_takeEnding 49 = .ok (.aload_n 0, 1) := by decide +kernel
theorem d_M_takeEnding_50 : decode b_M_takeEnding 50 = .ok (.getfield 178, 3) := by decide +kernel
theorem d_M_takeEnding_53 : decode b_M_takeEnding 53 = .ok (.iconst 1, 1) := by decide +kernel
theorem d_M_takeEnding_54 : decode b_M_takeEnding 54 = .ok (.isub, 1) := by decide +kernel
theorem d_M_takeEnding_55 : decode b_M_takeEnding 55 = .ok (.iaload, 1) := by decide +kernel
theorem d_M_takeEnding_56 : decode b_M_takeEnding 56 = .ok (.iload_n 2, 1) := by decide +kernel
theorem d_M_takeEnding_57 : decode b_M_takeEnding 57 = .ok (.invokevirtual 161, 3) := by decide +kernel
theorem d_M_takeEnding_60 : decode b_M_takeEnding 60 = .ok (.ifCond .ne 14, 3) := by decide +kernel
theorem d_M_takeEnding_63 : decode b_M_takeEnding 63 = .ok (.aload_n 0, 1) := by decide +kernel
theorem d_M_takeEnding_64 : decode b_M_takeEnding 64 = .ok (.iload_n 1, 1) := by decide +kernel
theorem d_M_takeEnding_65 : decode b_M_takeEnding 65 = .ok (.putfield 101, 3) := by decide +kernel
theorem d_M_takeEnding_68 : decode b_M_takeEnding 68 = .ok (.aload_n 0, 1) := by decide +kernel
theorem d_M_takeEnding_69 : decode b_M_takeEnding 69 = .ok (.iconst 1, 1) := by decide +kernel
theorem d_M_takeEnding_70 : decode b_M_takeEnding 70 = .ok (.putfield 111, 3) := by decide +kernel
theorem d_M_takeEnding_73 : decode b_M_takeEnding 73 = .ok (.return_, 1) := by decide +kernel
theorem d_M_takeEnding_74 : decode b_M_takeEnding 74 = .ok (.aload_n 0, 1) := by decide +kernel
theorem d_M_takeEnding_75 : decode b_M_takeEnding 75 = .ok (.invokevirtual 188, 3) := by decide +kernel
theorem d_M_takeEnding_78 : decode b_M_takeEnding 78 = .ok (.aload_n 0, 1) := by decide +kernel
theorem d_M_takeEnding_79 : decode b_M_takeEnding 79 = .ok (.aload_n 0, 1) := by decide +kernel
theorem d_M_takeEnding_80 : decode b_M_takeEnding 80 = .ok (.getfield 101, 3) := by decide +kernel
theorem d_M_takeEnding_83 : decode b_M_takeEnding 83 = .ok (.invokevirtual 95, 3) := by decide +kernel
theorem d_M_takeEnding_86 : decode b_M_takeEnding 86 = .ok (.bipush 62, 2) := by decide +kernel
theorem d_M_takeEnding_88 : decode b_M_takeEnding 88 = .ok (.if_icmp .eq 11, 3) := by decide +kernel
theorem d_M_takeEnding_91 : decode b_M_takeEnding 91 = .ok (.aload_n 0, 1) := by decide +kernel
theorem d_M_takeEnding_92 : decode b_M_takeEnding 92 = .ok (.iconst 1, 1) := by decide +kernel
theorem d_M_takeEnding_93 : decode b_M_takeEnding 93 = .ok (.putfield 111, 3) := by decide +kernel
theorem d_M_takeEnding_96 : decode b_M_takeEnding 96 = .ok (.goto 13, 3) := by decide +kernel
theorem d_M_takeEnding_99 : decode b_M_takeEnding 99 = .ok (.aload_n 0, 1) := by decide +kernel
theorem d_M_takeEnding_100 : decode b_M_takeEnding 100 = .ok (.dup, 1) := by decide +kernel
theorem d_M_takeEnding_101 : decode b_M_takeEnding 101 = .ok (.getfield 101, 3) := by decide +kernel
theorem d_M_takeEnding_104 : decode b_M_takeEnding 104 = .ok (.iconst 1, 1) := by decide +kernel
theorem d_M_takeEnding_105 : decode b_M_takeEnding 105 = .ok (.iadd, 1) := by decide +kernel
theorem d_M_takeEnding_106 : decode b_M_takeEnding 106 = .ok (.putfield 101, 3) := by decide +kernel
theorem d_M_takeEnding_109 : decode b_M_takeEnding 109 = .ok (.aload_n 0, 1) := by decide +kernel
theorem d_M_takeEnding_110 : decode b_M_takeEnding 110 = .ok (.dup, 1) := by decide +kernel
theorem d_M_takeEnding_111 : decode b_M_takeEnding 111 = .ok (.getfield 178, 3) := by decide +kernel
theorem d_M_takeEnding_114 : decode b_M_takeEnding 114 = .ok (.iconst 1, 1) := by decide +kernel
theorem d_M_takeEnding_115 : decode b_M_takeEnding 115 = .ok (.isub, 1) := by decide +kernel
theorem d_M_takeEnding_116 : decode b_M_takeEnding 116 = .ok (.putfield 178, 3) := by decide +kernel
theorem d_M_takeEnding_119 : decode b_M_takeEnding 119 = .ok (.return_, 1) := by decide +kernel
def w_M_takeEnding_J109   (post : MPS → Prop) (σ : MPS) : Prop := (∀ σ116 : MPS, σ116 = ms_deep σ ((mp_deep σ) - 1) → post σ116)
def w_M_takeEnding_J63   (post : MPS → Prop) (v1 : Int32) (σ : MPS) : Prop := (∀ σ65 : MPS, σ65 = ms_at σ v1 → (∀ σ70 : MPS, σ70 = ms_bad σ65 1 → post σ70))
def w_M_takeEnding  (σ : MPS)  (post : MPS → Prop) : Prop := (∀ σ7 : MPS, σ7 = ms_at σ ((mp_at σ) + 2) → w_M_takeName σ7  (fun r16 σ16 => (((mp_bad σ16) = 0 → (vp_in ((mp_deep σ16) - 1) 41 ∧ ((r16 = ((mp_openMany σ16) ((mp_deep σ16) - 1).toNatClampNeg) → (vp_in ((mp_deep σ16) - 1) 41 ∧ w_M_areAlike σ16 (mp_at σ7) ((mp_openAt σ16) ((mp_deep σ16) - 1).toNatClampNeg) r16 (fun r57 => ((r57 = 0 → w_M_takeEnding_J63 post (mp_at σ7) σ16) ∧ (¬ r57 = 0 → w_M_skipWhite σ16  (fun σ75 => w_M_x σ75 (mp_at σ75) (fun r83 => ((r83 = 62 → (∀ σ106 : MPS, σ106 = ms_at σ75 ((mp_at σ75) + 1) → w_M_takeEnding_J109 post σ106)) ∧ (¬ r83 = 62 → (∀ σ93 : MPS, σ93 = ms_bad σ75 1 → w_M_takeEnding_J109 post σ93)))))))))) ∧ (¬ r16 = ((mp_openMany σ16) ((mp_deep σ16) - 1).toNatClampNeg) → w_M_takeEnding_J63 post (mp_at σ7) σ16)))) ∧ (¬ (mp_bad σ16) = 0 → post σ16))))
set_option maxHeartbeats 4000000 in
set_option maxRecDepth 100000 in
theorem c_M_takeEnding (l : Launch) (md : MD) (sz : Nat) (σ : MPS)   (post : MPS → Prop) (hE : w_M_takeEnding σ post) : Met l y_M_takeEnding ws_M_takeEnding { frames := 3, cells := 0, slots := 0, locals := 62 } (va_Pc [.ref (mA md 0)] (gM md σ sz)) (va_Qv post (eM md (va_A (MW md σ) sz)) (va_A (MW md σ) sz)) 0 0 (va_A (MW md σ) sz) := by
  refine Met.ofW (cc := b_M_takeEnding) (maxL := 3) (ret := none) (by decide) rfl ?_
  intro p e s m args below meth c s₁ B hml hv
  obtain ⟨rfl, hsz, hP, hK, hD0⟩ := hv
  have hx := B.exec
  have hb := B.bytes
  have hr := B.returns
  have hta : ∀ w ∈ aW, w.before _ s = true := fun w h => atoms_spec (ws := ws_M_takeEnding) B.pre w (List.mem_cons_of_mem _ h)
  have hown : s.vm.findClass R_M = some m.cls := findClass_of_methodNamed B.named
  have hlocks := B.notSynchronized
  subst hsz
  have hD := hD0.self (sz := s.heap.size)
  generalize hAe : va_A (MW md σ) s.heap.size = A at hD ⊢
  have hA : ∀ q : Nat, s.heap.size ≤ q → A q := fun q h => by rw [← hAe]; exact Or.inr h
  have hS : va_S A s.heap s.heap [] := va_S.rf
  have hP : va_P (mG md) classes (MW md σ) s.heap := hP
  have hl := lv_entry ([.ref (mA md 0)]) (n := 3) (Nat.le_of_ble_eq_true rfl)
  rw [lg_entry_eq]
  generalize (lg_sl ([.ref (mA md 0)]) ++ List.replicate (3 - (lg_sl ([.ref (mA md 0)])).length) Slot.unset).toArray = ls at hl ⊢
  have hl : lv_has ls 3 [(0, .ref (mA md 0))] := hl
  have J109 : ∀ (σ : MPS) (H : Heap) (locs : List Loc) (hP : va_P (mG md) classes (MW md σ) H) (hD : va_D A (MW md σ)) (hS : va_S A s.heap H locs) (ls : Array Slot) (hl : lv_has ls 3 [(0, .ref (mA md 0))]) (hE : w_M_takeEnding_J109 post σ), W p l e (headSpec ws_M_takeEnding { frames := 3, cells := 0, slots := 0, locals := 62 }).room s m ([.ref (mA md 0)] : List Value).toArray below meth c H locs 0 0 (MQ below (va_Qv post (eM md A) A) ([.ref (mA md 0)] : List Value).toArray s 0 0 A) (F0 m 109 ls []) := by
    intro  σ H locs hP hD hS ls hl hE
    unfold w_M_takeEnding_J109 at hE
    refine lv_aload_n hx hb d_M_takeEnding_109 rfl (lv_at hl 0 rfl) ?_
    refine lv_dup hx hb d_M_takeEnding_110 rfl ?_
    refine va_get (D := (mG md)) (ci := 7) (v := .int (mp_deep σ)) (C := R_M) (T := F_M) (N := 37) hx hb hta i_M hown hK hP 0 rfl rfl 15 (by decide) (hta _ fl_M_178) (fun _ h9 => h9) rfl d_M_takeEnding_111 ?_
    refine lv_iconst (v := 1) hx hb d_M_takeEnding_114 (by decide) ?_
    refine lv_isub hx hb d_M_takeEnding_115 ?_
    refine va_put (D := (mG md)) (ci := 7) (v := .int ((mp_deep σ) - 1)) (ty := .int) (C := R_M) (T := F_M) (N := 37) hx hb hta i_M t_M t_M_ok n_M hown hK hP hD hS 0 rfl rfl 15 (by decide) (hta _ fl_M_178) (fun _ h9 => h9) rfl (by decide +kernel) rfl rfl (Nat.le_of_ble_eq_true rfl) d_M_takeEnding_116 (fun H locs hP hD hS => ?_)
    have hP : va_P (mG md) classes (MW md (ms_deep σ ((mp_deep σ) - 1))) H := hP
    have hD : va_D A (MW md (ms_deep σ ((mp_deep σ) - 1))) := hD
    have hE := hE _ rfl
    generalize (ms_deep σ ((mp_deep σ) - 1) : MPS) = σ116 at hP hD hE
    exact W.vret hx hb hr (fun t ht hW => ⟨⟨σ116, rfl, hE, by rw [ht]; exact hP, va_K.moved hW.alike hK, hD⟩, hS.F ht⟩) hS.2.2 d_M_takeEnding_119
  have J63 : ∀ (v1 : Int32) (σ : MPS) (H : Heap) (locs : List Loc) (hP : va_P (mG md) classes (MW md σ) H) (hD : va_D A (MW md σ)) (hS : va_S A s.heap H locs) (ls : Array Slot) (hl : lv_has ls 3 [(0, .ref (mA md 0)), (1, .int v1)]) (hE : w_M_takeEnding_J63 post v1 σ), W p l e (headSpec ws_M_takeEnding { frames := 3, cells := 0, slots := 0, locals := 62 }).room s m ([.ref (mA md 0)] : List Value).toArray below meth c H locs 0 0 (MQ below (va_Qv post (eM md A) A) ([.ref (mA md 0)] : List Value).toArray s 0 0 A) (F0 m 63 ls []) := by
    intro  v1 σ H locs hP hD hS ls hl hE
    unfold w_M_takeEnding_J63 at hE
    refine lv_aload_n hx hb d_M_takeEnding_63 rfl (lv_at hl 0 rfl) ?_
    refine lv_iload_n hx hb d_M_takeEnding_64 rfl (lv_at hl 1 rfl) ?_
    refine va_put (D := (mG md)) (ci := 7) (v := .int v1) (ty := .int) (C := R_M) (T := F_M) (N := 37) hx hb hta i_M t_M t_M_ok n_M hown hK hP hD hS 0 rfl rfl 13 (by decide) (hta _ fl_M_101) (fun _ h9 => h9) rfl (by decide +kernel) rfl rfl (Nat.le_of_ble_eq_true rfl) d_M_takeEnding_65 (fun H locs hP hD hS => ?_)
    have hP : va_P (mG md) classes (MW md (ms_at σ v1)) H := hP
    have hD : va_D A (MW md (ms_at σ v1)) := hD
    have hE := hE _ rfl
    generalize (ms_at σ v1 : MPS) = σ65 at hP hD hE
    refine lv_aload_n hx hb d_M_takeEnding_68 rfl (lv_at hl 0 rfl) ?_
    refine lv_iconst (v := 1) hx hb d_M_takeEnding_69 (by decide) ?_
    refine va_put (D := (mG md)) (ci := 7) (v := .int 1) (ty := .boolean) (C := R_M) (T := F_M) (N := 37) hx hb hta i_M t_M t_M_ok n_M hown hK hP hD hS 0 rfl rfl 16 (by decide) (hta _ fl_M_111) (fun _ h9 => h9) rfl (by decide +kernel) rfl rfl (Nat.le_of_ble_eq_true rfl) d_M_takeEnding_70 (fun H locs hP hD hS => ?_)
    have hP : va_P (mG md) classes (MW md (ms_bad σ65 1)) H := hP
    have hD : va_D A (MW md (ms_bad σ65 1)) := hD
    have hE := hE _ rfl
    generalize (ms_bad σ65 1 : MPS) = σ70 at hP hD hE
    exact W.vret hx hb hr (fun t ht hW => ⟨⟨σ70, rfl, hE, by rw [ht]; exact hP, va_K.moved hW.alike hK, hD⟩, hS.F ht⟩) hS.2.2 d_M_takeEnding_73
  unfold w_M_takeEnding at hE
  refine lv_aload_n hx hb d_M_takeEnding_0 rfl (lv_at hl 0 rfl) ?_
  refine lv_dup hx hb d_M_takeEnding_1 rfl ?_
  refine va_get (D := (mG md)) (ci := 7) (v := .int (mp_at σ)) (C := R_M) (T := F_M) (N := 37) hx hb hta i_M hown hK hP 0 rfl rfl 13 (by decide) (hta _ fl_M_101) (fun _ h9 => h9) rfl d_M_takeEnding_2 ?_
  refine lv_iconst (v := 2) hx hb d_M_takeEnding_5 (by decide) ?_
  refine lv_iadd hx hb d_M_takeEnding_6 ?_
  refine va_put (D := (mG md)) (ci := 7) (v := .int ((mp_at σ) + 2)) (ty := .int) (C := R_M) (T := F_M) (N := 37) hx hb hta i_M t_M t_M_ok n_M hown hK hP hD hS 0 rfl rfl 13 (by decide) (hta _ fl_M_101) (fun _ h9 => h9) rfl (by decide +kernel) rfl rfl (Nat.le_of_ble_eq_true rfl) d_M_takeEnding_7 (fun H locs hP hD hS => ?_)
  have hP : va_P (mG md) classes (MW md (ms_at σ ((mp_at σ) + 2))) H := hP
  have hD : va_D A (MW md (ms_at σ ((mp_at σ) + 2))) := hD
  have hE := hE _ rfl
  generalize (ms_at σ ((mp_at σ) + 2) : MPS) = σ7 at hP hD hE
  refine lv_aload_n hx hb d_M_takeEnding_10 rfl (lv_at hl 0 rfl) ?_
  refine va_get (D := (mG md)) (ci := 7) (v := .int (mp_at σ7)) (C := R_M) (T := F_M) (N := 37) hx hb hta i_M hown hK hP 0 rfl rfl 13 (by decide) (hta _ fl_M_101) (fun _ h9 => h9) rfl d_M_takeEnding_11 ?_
  refine lv_istore_n (lv' := [(1, .int (mp_at σ7)), (0, .ref (mA md 0))]) hx hb d_M_takeEnding_14 rfl hl (by decide) rfl (fun ls hl => ?_)
  refine lv_aload_n hx hb d_M_takeEnding_15 rfl (lv_at hl 1 rfl) ?_
  refine mm_i (b0 := (mA md 0)) (As := []) (rest := []) ⟨hx, hb, hml, hown, hta⟩ (c_M_takeName l md _ σ7  _ hE) ok_M_165 ⟨Nat.le_of_ble_eq_true rfl, Nat.le_of_ble_eq_true rfl⟩ (va_recv hK hP (ci := 7) (q0 := 0) rfl rfl) hP hK hD hS hA rfl hl.1 rfl (Nat.le_of_ble_eq_true rfl) d_M_takeEnding_16 ⟨Nat.zero_le _, Nat.zero_le _⟩ (fun r16 σ16 H locs hE hP hD hS => ?_)
  refine lv_istore_n (lv' := [(2, .int r16), (1, .int (mp_at σ7)), (0, .ref (mA md 0))]) hx hb d_M_takeEnding_19 rfl hl (by decide) rfl (fun ls hl => ?_)
  refine lv_aload_n hx hb d_M_takeEnding_20 rfl (lv_at hl 2 rfl) ?_
  refine va_get (D := (mG md)) (ci := 7) (v := .int (mp_bad σ16)) (C := R_M) (T := F_M) (N := 37) hx hb hta i_M hown hK hP 0 rfl rfl 16 (by decide) (hta _ fl_M_111) (fun _ h9 => h9) rfl d_M_takeEnding_21 ?_
  refine lv_if_eq (tgt := 28) hx hb d_M_takeEnding_24 (by decide) (fun cc24 => ?_) (fun cc24 => ?_)
  · have hE := hE.1 cc24
    refine lv_iload_n hx hb d_M_takeEnding_28 rfl (lv_at hl 0 rfl) ?_
    refine lv_aload_n hx hb d_M_takeEnding_29 rfl (lv_at hl 2 rfl) ?_
    refine va_get (D := (mG md)) (ci := 7) (v := .ref (mA md 7)) (C := R_M) (T := F_M) (N := 37) hx hb hta i_M hown hK hP 0 rfl rfl 18 (by decide) (hta _ fl_M_33) (fun _ h9 => h9) rfl d_M_takeEnding_30 ?_
    refine lv_aload_n hx hb d_M_takeEnding_33 rfl (lv_at hl 2 rfl) ?_
    refine va_get (D := (mG md)) (ci := 7) (v := .int (mp_deep σ16)) (C := R_M) (T := F_M) (N := 37) hx hb hta i_M hown hK hP 0 rfl rfl 15 (by decide) (hta _ fl_M_178) (fun _ h9 => h9) rfl d_M_takeEnding_34 ?_
    refine lv_iconst (v := 1) hx hb d_M_takeEnding_37 (by decide) ?_
    refine lv_isub hx hb d_M_takeEnding_38 ?_
    obtain ⟨hI39, hE⟩ := hE
    refine va_iald (D := (mG md)) (f := mp_openMany σ16) hx hb hK hP 7 0 rfl rfl hI39 d_M_takeEnding_39 ?_
    refine lv_icmp_ne (tgt := 63) hx hb d_M_takeEnding_40 (by decide) (fun cc40 => ?_) (fun cc40 => ?_)
    · have hE := hE.2 cc40
      exact J63  (mp_at σ7) σ16 _ _ hP hD hS _ (lv_sub hl [2, 1] rfl) hE
    · have hE := hE.1 cc40
      refine lv_aload_n hx hb d_M_takeEnding_43 rfl (lv_at hl 2 rfl) ?_
      refine lv_iload_n hx hb d_M_takeEnding_44 rfl (lv_at hl 1 rfl) ?_
      refine lv_aload_n hx hb d_M_takeEnding_45 rfl (lv_at hl 2 rfl) ?_
      refine va_get (D := (mG md)) (ci := 7) (v := .ref (mA md 6)) (C := R_M) (T := F_M) (N := 37) hx hb hta i_M hown hK hP 0 rfl rfl 17 (by decide) (hta _ fl_M_29) (fun _ h9 => h9) rfl d_M_takeEnding_46 ?_
      refine lv_aload_n hx hb d_M_takeEnding_49 rfl (lv_at hl 2 rfl) ?_
      refine va_get (D := (mG md)) (ci := 7) (v := .int (mp_deep σ16)) (C := R_M) (T := F_M) (N := 37) hx hb hta i_M hown hK hP 0 rfl rfl 15 (by decide) (hta _ fl_M_178) (fun _ h9 => h9) rfl d_M_takeEnding_50 ?_
      refine lv_iconst (v := 1) hx hb d_M_takeEnding_53 (by decide) ?_
      refine lv_isub hx hb d_M_takeEnding_54 ?_
      obtain ⟨hI55, hE⟩ := hE
      refine va_iald (D := (mG md)) (f := mp_openAt σ16) hx hb hK hP 6 0 rfl rfl hI55 d_M_takeEnding_55 ?_
      refine lv_iload_n hx hb d_M_takeEnding_56 rfl (lv_at hl 0 rfl) ?_
      refine ro_V (b0 := (mA md 0)) (As := [.int (mp_at σ7), .int ((mp_openAt σ16) ((mp_deep σ16) - 1).toNatClampNeg), .int r16]) (rest := []) ⟨hx, hb, hml, hown, hta⟩ (c_M_areAlike l md σ16 (mp_at σ7) ((mp_openAt σ16) ((mp_deep σ16) - 1).toNatClampNeg) r16  _ hE) ok_M_161 ⟨Nat.le_of_ble_eq_true rfl, Nat.le_of_ble_eq_true rfl⟩ blind_rM (va_recv hK hP (ci := 7) (q0 := 0) rfl rfl) (rM_of hP hK) rfl hl.1 rfl (Nat.le_of_ble_eq_true rfl) d_M_takeEnding_57 ⟨Nat.zero_le _, Nat.zero_le _⟩ (fun r57 hE => ?_)
      refine lv_if_ne (tgt := 74) hx hb d_M_takeEnding_60 (by decide) (fun cc60 => ?_) (fun cc60 => ?_)
      · have hE := hE.2 cc60
        refine lv_aload_n hx hb d_M_takeEnding_74 rfl (lv_at hl 2 rfl) ?_
        refine mm_v (b0 := (mA md 0)) (As := []) (rest := []) ⟨hx, hb, hml, hown, hta⟩ (c_M_skipWhite l md _ σ16  _ hE) ok_M_188 ⟨Nat.le_of_ble_eq_true rfl, Nat.le_of_ble_eq_true rfl⟩ (va_recv hK hP (ci := 7) (q0 := 0) rfl rfl) hP hK hD hS hA rfl hl.1 rfl (Nat.le_of_ble_eq_true rfl) d_M_takeEnding_75 ⟨Nat.zero_le _, Nat.zero_le _⟩ (fun σ75 H locs hE hP hD hS => ?_)
        refine lv_aload_n hx hb d_M_takeEnding_78 rfl (lv_at hl 2 rfl) ?_
        refine lv_aload_n hx hb d_M_takeEnding_79 rfl (lv_at hl 2 rfl) ?_
        refine va_get (D := (mG md)) (ci := 7) (v := .int (mp_at σ75)) (C := R_M) (T := F_M) (N := 37) hx hb hta i_M hown hK hP 0 rfl rfl 13 (by decide) (hta _ fl_M_101) (fun _ h9 => h9) rfl d_M_takeEnding_80 ?_
        refine ro_V (b0 := (mA md 0)) (As := [.int (mp_at σ75)]) (rest := []) ⟨hx, hb, hml, hown, hta⟩ (c_M_x l md σ75 (mp_at σ75)  _ hE) ok_M_95 ⟨Nat.le_of_ble_eq_true rfl, Nat.le_of_ble_eq_true rfl⟩ blind_rM (va_recv hK hP (ci := 7) (q0 := 0) rfl rfl) (rM_of hP hK) rfl hl.1 rfl (Nat.le_of_ble_eq_true rfl) d_M_takeEnding_83 ⟨Nat.zero_le _, Nat.zero_le _⟩ (fun r83 hE => ?_)
        refine lv_bipush (v := 62) hx hb d_M_takeEnding_86 (by decide) ?_
        refine lv_icmp_eq (tgt := 99) hx hb d_M_takeEnding_88 (by decide) (fun cc88 => ?_) (fun cc88 => ?_)
        · have hE := hE.1 cc88
          refine lv_aload_n hx hb d_M_takeEnding_99 rfl (lv_at hl 2 rfl) ?_
          refine lv_dup hx hb d_M_takeEnding_100 rfl ?_
          refine va_get (D := (mG md)) (ci := 7) (v := .int (mp_at σ75)) (C := R_M) (T := F_M) (N := 37) hx hb hta i_M hown hK hP 0 rfl rfl 13 (by decide) (hta _ fl_M_101) (fun _ h9 => h9) rfl d_M_takeEnding_101 ?_
          refine lv_iconst (v := 1) hx hb d_M_takeEnding_104 (by decide) ?_
          refine lv_iadd hx hb d_M_takeEnding_105 ?_
          refine va_put (D := (mG md)) (ci := 7) (v := .int ((mp_at σ75) + 1)) (ty := .int) (C := R_M) (T := F_M) (N := 37) hx hb hta i_M t_M t_M_ok n_M hown hK hP hD hS 0 rfl rfl 13 (by decide) (hta _ fl_M_101) (fun _ h9 => h9) rfl (by decide +kernel) rfl rfl (Nat.le_of_ble_eq_true rfl) d_M_takeEnding_106 (fun H locs hP hD hS => ?_)
          have hP : va_P (mG md) classes (MW md (ms_at σ75 ((mp_at σ75) + 1))) H := hP
          have hD : va_D A (MW md (ms_at σ75 ((mp_at σ75) + 1))) := hD
          have hE := hE _ rfl
          generalize (ms_at σ75 ((mp_at σ75) + 1) : MPS) = σ106 at hP hD hE
          exact J109  σ106 _ _ hP hD hS _ (lv_sub hl [2] rfl) hE
        · have hE := hE.2 cc88
          refine lv_aload_n hx hb d_M_takeEnding_91 rfl (lv_at hl 2 rfl) ?_
          refine lv_iconst (v := 1) hx hb d_M_takeEnding_92 (by decide) ?_
          refine va_put (D := (mG md)) (ci := 7) (v := .int 1) (ty := .boolean) (C := R_M) (T := F_M) (N := 37) hx hb hta i_M t_M t_M_ok n_M hown hK hP hD hS 0 rfl rfl 16 (by decide) (hta _ fl_M_111) (fun _ h9 => h9) rfl (by decide +kernel) rfl rfl (Nat.le_of_ble_eq_true rfl) d_M_takeEnding_93 (fun H locs hP hD hS => ?_)
          have hP : va_P (mG md) classes (MW md (ms_bad σ75 1)) H := hP
          have hD : va_D A (MW md (ms_bad σ75 1)) := hD
          have hE := hE _ rfl
          generalize (ms_bad σ75 1 : MPS) = σ93 at hP hD hE
          refine lv_goto (tgt := 109) hx hb d_M_takeEnding_96 (by decide) ?_
          exact J109  σ93 _ _ hP hD hS _ (lv_sub hl [2] rfl) hE
      · have hE := hE.1 cc60
        exact J63  (mp_at σ7) σ16 _ _ hP hD hS _ (lv_sub hl [2, 1] rfl) hE
  · have hE := hE.2 cc24
    exact W.vret hx hb hr (fun t ht hW => ⟨⟨σ16, rfl, hE, by rw [ht]; exact hP, va_K.moved hW.alike hK, hD⟩, hS.F ht⟩) hS.2.2 d_M_takeEnding_27

theorem d_M_takeText_0 : decode b_M_takeText 0 = .ok (.aload_n 0, 1) := by decide +kernel
theorem d_M_takeText_1 : decode b_M_takeText 1 = .ok (.getfield 101, 3) := by decide +kernel
theorem d_M_takeText_4 : decode b_M_takeText 4 = .ok (.istore_n 1, 1) := by decide +kernel
theorem d_M_takeText_5 : decode b_M_takeText 5 = .ok (.aload_n 0, 1) := by decide +kernel
theorem d_M_takeText_6 : decode b_M_takeText 6 = .ok (.getfield 111, 3) := by decide +kernel
theorem d_M_takeText_9 : decode b_M_takeText 9 = .ok (.ifCond .ne 34, 3) := by decide +kernel
theorem d_M_takeText_12 : decode b_M_takeText 12 = .ok (.aload_n 0, 1) := by decide +kernel
theorem d_M_takeText_13 : decode b_M_takeText 13 = .ok (.getfield 101, 3) := by decide +kernel
theorem d_M_takeText_16 : decode b_M_takeText 16 = .ok (.aload_n 0, 1) := by decide +kernel
theorem d_M_takeText_17 : decode b_M_takeText 17 = .ok (.getfield 92, 3) := by decide +kernel
theorem d_M_takeText_20 : decode b_M_takeText 20 = .ok (.if_icmp .ge 23, 3) := by decide +kernel
theorem d_M_takeText_23 : decode b_M_takeText 23 = .ok (.aload_n 0, 1) := by decide +kernel
theorem d_M_takeText_24 : decode b_M_takeText 24 = .ok (.aload_n 0, 1) := by decide +kernel
theorem d_M_takeText_25 : decode b_M_takeText 25 = .ok (.getfield 101, 3) := by decide +kernel
theorem d_M_takeText_28 : decode b_M_takeText 28 = .ok (.invokevirtual 95, 3) := by decide +kernel
theorem d_M_takeText_31 : decode b_M_takeText 31 = .ok (.bipush 60, 2) := by decide +kernel
theorem d_M_takeText_33 : decode b_M_takeText 33 = .ok (.if_icmp .eq 10, 3) := by decide +kernel
theorem d_M_takeText_36 : decode b_M_takeText 36 = .ok (.aload_n 0, 1) := by decide +kernel
theorem d_M_takeText_37 : decode b_M_takeText 37 = .ok (.invokevirtual 172, 3) := by decide +kernel
theorem d_M_takeText_40 : decode b_M_takeText 40 = .ok (.goto (-35), 3) := by decide +kernel
theorem d_M_takeText_43 : decode b_M_takeText 43 = .ok (.aload_n 0, 1) := by decide +kernel
theorem d_M_takeText_44 : decode b_M_takeText 44 = .ok (.getfield 111, 3) := by decide +kernel
theorem d_M_takeText_47 : decode b_M_takeText 47 = .ok (.ifCond .ne 19, 3) := by decide +kernel
theorem d_M_takeText_50 : decode b_M_takeText 50 = .ok (.aload_n 0, 1) := by decide +kernel
theorem d_M_takeText_51 : decode b_M_takeText 51 = .ok (.getfield 101, 3) := by decide +kernel
theorem d_M_takeText_54 : decode b_M_takeText 54 = .ok (.aload_n 0, 1) := by decide +kernel
theorem d_M_takeText_55 : decode b_M_takeText 55 = .ok (.getfield 92, 3) := by decide +kernel
theorem d_M_takeText_58 : decode b_M_takeText 58 = .ok (.if_icmp .ne 8, 3) := by decide +kernel
theorem d_M_takeText_61 : decode b_M_takeText 61 = .ok (.aload_n 0, 1) := by decide +kernel
theorem d_M_takeText_62 : decode b_M_takeText 62 = .ok (.iconst 1, 1) := by decide +kernel
theorem d_M_takeText_63 : decode b_M_takeText 63 = .ok (.putfield 111, 3) := by decide +kernel
theorem d_M_takeText_66 : decode b_M_takeText 66 = .ok (.aload_n 0, 1) := by decide +kernel
theorem d_M_takeText_67 : decode b_M_takeText 67 = .ok (.getfield 111, 3) := by decide +kernel
theorem d_M_takeText_70 : decode b_M_takeText 70 = .ok (.ifCond .ne 14, 3) := by decide +kernel
theorem d_M_takeText_73 : decode b_M_takeText 73 = .ok (.aload_n 0, 1) := by decide +kernel
theorem d_M_takeText_74 : decode b_M_takeText 74 = .ok (.iconst 0, 1) := by decide +kernel
theorem d_M_takeText_75 : decode b_M_takeText 75 = .ok (.iload_n 1, 1) := by decide +kernel
theorem d_M_takeText_76 : decode b_M_takeText 76 = .ok (.aload_n 0, 1) := by decide +kernel
theorem d_M_takeText_77 : decode b_M_takeText 77 = .ok (.getfield 101, 3) := by decide +kernel
theorem d_M_takeText_80 : decode b_M_takeText 80 = .ok (.invokevirtual 184, 3) := by decide +kernel
theorem d_M_takeText_83 : decode b_M_takeText 83 = .ok (.istore_n 2, 1) := by decide +kernel
theorem d_M_takeText_84 : decode b_M_takeText 84 = .ok (.return_, 1) := by decide +kernel
def w_M_takeText_J66   (post : MPS → Prop) (v1 : Int32) (σ : MPS) : Prop := (((mp_bad σ) = 0 → w_M_add σ 0 v1 (mp_at σ) (fun r80 σ80 => post σ80)) ∧ (¬ (mp_bad σ) = 0 → post σ))
def w_M_takeText_J43   (post : MPS → Prop) (v1 : Int32) (σ : MPS) : Prop := (((mp_bad σ) = 0 → (((mp_at σ) = (mp_size σ) → (∀ σ63 : MPS, σ63 = ms_bad σ 1 → w_M_takeText_J66 post v1 σ63)) ∧ (¬ (mp_at σ) = (mp_size σ) → w_M_takeText_J66 post v1 σ))) ∧ (¬ (mp_bad σ) = 0 → w_M_takeText_J66 post v1 σ))
def w_M_takeText_L5  (v1 : Int32) (post : MPS → Prop) : Nat → MPS → Prop
  | 0, _ => False
  | n + 1, σ => (((mp_bad σ) = 0 → (((mp_size σ) ≤ (mp_at σ) → w_M_takeText_J43 post v1 σ) ∧ (¬ (mp_size σ) ≤ (mp_at σ) → w_M_x σ (mp_at σ) (fun r28 => ((r28 = 60 → w_M_takeText_J43 post v1 σ) ∧ (¬ r28 = 60 → w_M_takeCharacter σ  (fun σ37 => w_M_takeText_L5 v1 post n σ37))))))) ∧ (¬ (mp_bad σ) = 0 → w_M_takeText_J43 post v1 σ))
def w_M_takeText  (σ : MPS)  (post : MPS → Prop) : Prop := (∃ n, w_M_takeText_L5 (mp_at σ) post n σ)
set_option maxHeartbeats 4000000 in
set_option maxRecDepth 100000 in
theorem c_M_takeText (l : Launch) (md : MD) (sz : Nat) (σ : MPS)   (post : MPS → Prop) (hE : w_M_takeText σ post) : Met l y_M_takeText ws_M_takeText { frames := 4, cells := 0, slots := 0, locals := 93 } (va_Pc [.ref (mA md 0)] (gM md σ sz)) (va_Qv post (eM md (va_A (MW md σ) sz)) (va_A (MW md σ) sz)) 0 0 (va_A (MW md σ) sz) := by
  refine Met.ofW (cc := b_M_takeText) (maxL := 3) (ret := none) (by decide) rfl ?_
  intro p e s m args below meth c s₁ B hml hv
  obtain ⟨rfl, hsz, hP, hK, hD0⟩ := hv
  have hx := B.exec
  have hb := B.bytes
  have hr := B.returns
  have hta : ∀ w ∈ aW, w.before _ s = true := fun w h => atoms_spec (ws := ws_M_takeText) B.pre w (List.mem_cons_of_mem _ h)
  have hown : s.vm.findClass R_M = some m.cls := findClass_of_methodNamed B.named
  have hlocks := B.notSynchronized
  subst hsz
  have hD := hD0.self (sz := s.heap.size)
  generalize hAe : va_A (MW md σ) s.heap.size = A at hD ⊢
  have hA : ∀ q : Nat, s.heap.size ≤ q → A q := fun q h => by rw [← hAe]; exact Or.inr h
  have hS : va_S A s.heap s.heap [] := va_S.rf
  have hP : va_P (mG md) classes (MW md σ) s.heap := hP
  have hl := lv_entry ([.ref (mA md 0)]) (n := 3) (Nat.le_of_ble_eq_true rfl)
  rw [lg_entry_eq]
  generalize (lg_sl ([.ref (mA md 0)]) ++ List.replicate (3 - (lg_sl ([.ref (mA md 0)])).length) Slot.unset).toArray = ls at hl ⊢
  have hl : lv_has ls 3 [(0, .ref (mA md 0))] := hl
  have J66 : ∀ (v1 : Int32) (σ : MPS) (H : Heap) (locs : List Loc) (hP : va_P (mG md) classes (MW md σ) H) (hD : va_D A (MW md σ)) (hS : va_S A s.heap H locs) (ls : Array Slot) (hl : lv_has ls 3 [(0, .ref (mA md 0)), (1, .int v1)]) (hE : w_M_takeText_J66 post v1 σ), W p l e (headSpec ws_M_takeText { frames := 4, cells := 0, slots := 0, locals := 93 }).room s m ([.ref (mA md 0)] : List Value).toArray below meth c H locs 0 0 (MQ below (va_Qv post (eM md A) A) ([.ref (mA md 0)] : List Value).toArray s 0 0 A) (F0 m 66 ls []) := by
    intro  v1 σ H locs hP hD hS ls hl hE
    unfold w_M_takeText_J66 at hE
    refine lv_aload_n hx hb d_M_takeText_66 rfl (lv_at hl 0 rfl) ?_
    refine va_get (D := (mG md)) (ci := 7) (v := .int (mp_bad σ)) (C := R_M) (T := F_M) (N := 37) hx hb hta i_M hown hK hP 0 rfl rfl 16 (by decide) (hta _ fl_M_111) (fun _ h9 => h9) rfl d_M_takeText_67 ?_
    refine lv_if_ne (tgt := 84) hx hb d_M_takeText_70 (by decide) (fun cc70 => ?_) (fun cc70 => ?_)
    · have hE := hE.2 cc70
      exact W.vret hx hb hr (fun t ht hW => ⟨⟨σ, rfl, hE, by rw [ht]; exact hP, va_K.moved hW.alike hK, hD⟩, hS.F ht⟩) hS.2.2 d_M_takeText_84
    · have hE := hE.1 cc70
      refine lv_aload_n hx hb d_M_takeText_73 rfl (lv_at hl 0 rfl) ?_
      refine lv_iconst (v := 0) hx hb d_M_takeText_74 (by decide) ?_
      refine lv_iload_n hx hb d_M_takeText_75 rfl (lv_at hl 1 rfl) ?_
      refine lv_aload_n hx hb d_M_takeText_76 rfl (lv_at hl 0 rfl) ?_
      refine va_get (D := (mG md)) (ci := 7) (v := .int (mp_at σ)) (C := R_M) (T := F_M) (N := 37) hx hb hta i_M hown hK hP 0 rfl rfl 13 (by decide) (hta _ fl_M_101) (fun _ h9 => h9) rfl d_M_takeText_77 ?_
      refine mm_i (b0 := (mA md 0)) (As := [.int 0, .int v1, .int (mp_at σ)]) (rest := []) ⟨hx, hb, hml, hown, hta⟩ (c_M_add l md _ σ 0 v1 (mp_at σ) _ hE) ok_M_184 ⟨Nat.le_of_ble_eq_true rfl, Nat.le_of_ble_eq_true rfl⟩ (va_recv hK hP (ci := 7) (q0 := 0) rfl rfl) hP hK hD hS hA rfl hl.1 rfl (Nat.le_of_ble_eq_true rfl) d_M_takeText_80 ⟨Nat.zero_le _, Nat.zero_le _⟩ (fun r80 σ80 H locs hE hP hD hS => ?_)
      refine lv_istore_n (lv' := [(2, .int r80), (0, .ref (mA md 0)), (1, .int v1)]) hx hb d_M_takeText_83 rfl hl (by decide) rfl (fun ls hl => ?_)
      exact W.vret hx hb hr (fun t ht hW => ⟨⟨σ80, rfl, hE, by rw [ht]; exact hP, va_K.moved hW.alike hK, hD⟩, hS.F ht⟩) hS.2.2 d_M_takeText_84
  have J43 : ∀ (v1 : Int32) (σ : MPS) (H : Heap) (locs : List Loc) (hP : va_P (mG md) classes (MW md σ) H) (hD : va_D A (MW md σ)) (hS : va_S A s.heap H locs) (ls : Array Slot) (hl : lv_has ls 3 [(0, .ref (mA md 0)), (1, .int v1)]) (hE : w_M_takeText_J43 post v1 σ), W p l e (headSpec ws_M_takeText { frames := 4, cells := 0, slots := 0, locals := 93 }).room s m ([.ref (mA md 0)] : List Value).toArray below meth c H locs 0 0 (MQ below (va_Qv post (eM md A) A) ([.ref (mA md 0)] : List Value).toArray s 0 0 A) (F0 m 43 ls []) := by
    intro  v1 σ H locs hP hD hS ls hl hE
    unfold w_M_takeText_J43 at hE
    refine lv_aload_n hx hb d_M_takeText_43 rfl (lv_at hl 0 rfl) ?_
    refine va_get (D := (mG md)) (ci := 7) (v := .int (mp_bad σ)) (C := R_M) (T := F_M) (N := 37) hx hb hta i_M hown hK hP 0 rfl rfl 16 (by decide) (hta _ fl_M_111) (fun _ h9 => h9) rfl d_M_takeText_44 ?_
    refine lv_if_ne (tgt := 66) hx hb d_M_takeText_47 (by decide) (fun cc47 => ?_) (fun cc47 => ?_)
    · have hE := hE.2 cc47
      exact J66  v1 σ _ _ hP hD hS _ (lv_sub hl [0, 1] rfl) hE
    · have hE := hE.1 cc47
      refine lv_aload_n hx hb d_M_takeText_50 rfl (lv_at hl 0 rfl) ?_
      refine va_get (D := (mG md)) (ci := 7) (v := .int (mp_at σ)) (C := R_M) (T := F_M) (N := 37) hx hb hta i_M hown hK hP 0 rfl rfl 13 (by decide) (hta _ fl_M_101) (fun _ h9 => h9) rfl d_M_takeText_51 ?_
      refine lv_aload_n hx hb d_M_takeText_54 rfl (lv_at hl 0 rfl) ?_
      refine va_get (D := (mG md)) (ci := 7) (v := .int (mp_size σ)) (C := R_M) (T := F_M) (N := 37) hx hb hta i_M hown hK hP 0 rfl rfl 7 (by decide) (hta _ fl_M_92) (fun _ h9 => h9) rfl d_M_takeText_55 ?_
      refine lv_icmp_ne (tgt := 66) hx hb d_M_takeText_58 (by decide) (fun cc58 => ?_) (fun cc58 => ?_)
      · have hE := hE.2 cc58
        exact J66  v1 σ _ _ hP hD hS _ (lv_sub hl [0, 1] rfl) hE
      · have hE := hE.1 cc58
        refine lv_aload_n hx hb d_M_takeText_61 rfl (lv_at hl 0 rfl) ?_
        refine lv_iconst (v := 1) hx hb d_M_takeText_62 (by decide) ?_
        refine va_put (D := (mG md)) (ci := 7) (v := .int 1) (ty := .boolean) (C := R_M) (T := F_M) (N := 37) hx hb hta i_M t_M t_M_ok n_M hown hK hP hD hS 0 rfl rfl 16 (by decide) (hta _ fl_M_111) (fun _ h9 => h9) rfl (by decide +kernel) rfl rfl (Nat.le_of_ble_eq_true rfl) d_M_takeText_63 (fun H locs hP hD hS => ?_)
        have hP : va_P (mG md) classes (MW md (ms_bad σ 1)) H := hP
        have hD : va_D A (MW md (ms_bad σ 1)) := hD
        have hE := hE _ rfl
        generalize (ms_bad σ 1 : MPS) = σ63 at hP hD hE
        exact J66  v1 σ63 _ _ hP hD hS _ (lv_sub hl [0, 1] rfl) hE
  have L5 : ∀ (v1 : Int32) (n : Nat) (σ : MPS) (H : Heap) (locs : List Loc) (hP : va_P (mG md) classes (MW md σ) H) (hD : va_D A (MW md σ)) (hS : va_S A s.heap H locs) (ls : Array Slot) (hl : lv_has ls 3 [(0, .ref (mA md 0)), (1, .int v1)]) (hE : w_M_takeText_L5 v1 post n σ), W p l e (headSpec ws_M_takeText { frames := 4, cells := 0, slots := 0, locals := 93 }).room s m ([.ref (mA md 0)] : List Value).toArray below meth c H locs 0 0 (MQ below (va_Qv post (eM md A) A) ([.ref (mA md 0)] : List Value).toArray s 0 0 A) (F0 m 5 ls []) := by
    intro v1 n
    induction n with
    | zero => intro σ H locs hP hD hS ls hl hE; exact hE.elim
    | succ n ih5 =>
      intro σ H locs hP hD hS ls hl hE
      unfold w_M_takeText_L5 at hE
      refine lv_aload_n hx hb d_M_takeText_5 rfl (lv_at hl 0 rfl) ?_
      refine va_get (D := (mG md)) (ci := 7) (v := .int (mp_bad σ)) (C := R_M) (T := F_M) (N := 37) hx hb hta i_M hown hK hP 0 rfl rfl 16 (by decide) (hta _ fl_M_111) (fun _ h9 => h9) rfl d_M_takeText_6 ?_
      refine lv_if_ne (tgt := 43) hx hb d_M_takeText_9 (by decide) (fun cc9 => ?_) (fun cc9 => ?_)
      · have hE := hE.2 cc9
        exact J43  v1 σ _ _ hP hD hS _ (lv_sub hl [0, 1] rfl) hE
      · have hE := hE.1 cc9
        refine lv_aload_n hx hb d_M_takeText_12 rfl (lv_at hl 0 rfl) ?_
        refine va_get (D := (mG md)) (ci := 7) (v := .int (mp_at σ)) (C := R_M) (T := F_M) (N := 37) hx hb hta i_M hown hK hP 0 rfl rfl 13 (by decide) (hta _ fl_M_101) (fun _ h9 => h9) rfl d_M_takeText_13 ?_
        refine lv_aload_n hx hb d_M_takeText_16 rfl (lv_at hl 0 rfl) ?_
        refine va_get (D := (mG md)) (ci := 7) (v := .int (mp_size σ)) (C := R_M) (T := F_M) (N := 37) hx hb hta i_M hown hK hP 0 rfl rfl 7 (by decide) (hta _ fl_M_92) (fun _ h9 => h9) rfl d_M_takeText_17 ?_
        refine lv_icmp_ge (tgt := 43) hx hb d_M_takeText_20 (by decide) (fun cc20 => ?_) (fun cc20 => ?_)
        · have hE := hE.1 cc20
          exact J43  v1 σ _ _ hP hD hS _ (lv_sub hl [0, 1] rfl) hE
        · have hE := hE.2 cc20
          refine lv_aload_n hx hb d_M_takeText_23 rfl (lv_at hl 0 rfl) ?_
          refine lv_aload_n hx hb d_M_takeText_24 rfl (lv_at hl 0 rfl) ?_
          refine va_get (D := (mG md)) (ci := 7) (v := .int (mp_at σ)) (C := R_M) (T := F_M) (N := 37) hx hb hta i_M hown hK hP 0 rfl rfl 13 (by decide) (hta _ fl_M_101) (fun _ h9 => h9) rfl d_M_takeText_25 ?_
          refine ro_V (b0 := (mA md 0)) (As := [.int (mp_at σ)]) (rest := []) ⟨hx, hb, hml, hown, hta⟩ (c_M_x l md σ (mp_at σ)  _ hE) ok_M_95 ⟨Nat.le_of_ble_eq_true rfl, Nat.le_of_ble_eq_true rfl⟩ blind_rM (va_recv hK hP (ci := 7) (q0 := 0) rfl rfl) (rM_of hP hK) rfl hl.1 rfl (Nat.le_of_ble_eq_true rfl) d_M_takeText_28 ⟨Nat.zero_le _, Nat.zero_le _⟩ (fun r28 hE => ?_)
          refine lv_bipush (v := 60) hx hb d_M_takeText_31 (by decide) ?_
          refine lv_icmp_eq (tgt := 43) hx hb d_M_takeText_33 (by decide) (fun cc33 => ?_) (fun cc33 => ?_)
          · have hE := hE.1 cc33
            exact J43  v1 σ _ _ hP hD hS _ (lv_sub hl [0, 1] rfl) hE
          · have hE := hE.2 cc33
            refine lv_aload_n hx hb d_M_takeText_36 rfl (lv_at hl 0 rfl) ?_
            refine mm_v (b0 := (mA md 0)) (As := []) (rest := []) ⟨hx, hb, hml, hown, hta⟩ (c_M_takeCharacter l md _ σ  _ hE) ok_M_172 ⟨Nat.le_of_ble_eq_true rfl, Nat.le_of_ble_eq_true rfl⟩ (va_recv hK hP (ci := 7) (q0 := 0) rfl rfl) hP hK hD hS hA rfl hl.1 rfl (Nat.le_of_ble_eq_true rfl) d_M_takeText_37 ⟨Nat.zero_le _, Nat.zero_le _⟩ (fun σ37 H locs hE hP hD hS => ?_)
            refine lv_goto (tgt := 5) hx hb d_M_takeText_40 (by decide) ?_
            exact ih5 σ37 _ _ hP hD hS _ (lv_sub hl [0, 1] rfl) hE
  unfold w_M_takeText at hE
  refine lv_aload_n hx hb d_M_takeText_0 rfl (lv_at hl 0 rfl) ?_
  refine va_get (D := (mG md)) (ci := 7) (v := .int (mp_at σ)) (C := R_M) (T := F_M) (N := 37) hx hb hta i_M hown hK hP 0 rfl rfl 13 (by decide) (hta _ fl_M_101) (fun _ h9 => h9) rfl d_M_takeText_1 ?_
  refine lv_istore_n (lv' := [(1, .int (mp_at σ)), (0, .ref (mA md 0))]) hx hb d_M_takeText_4 rfl hl (by decide) rfl (fun ls hl => ?_)
  obtain ⟨n, hE⟩ := hE
  exact L5 (mp_at σ) n σ _ _ hP hD hS _ (lv_sub hl [1, 0] rfl) hE
theorem ok_M_195 : okV "PlainPagesModel" 195 R_M y_M_isDeclared b_M_isDeclared 3 (some .boolean) 0 := ⟨aW_in 1041 (by decide +kernel) rfl, aW_in 1043 (by decide +kernel) rfl, aW_in 41 (by decide +kernel) rfl, aW_in 92 (by decide +kernel) rfl, cd_M_isDeclared, rfl, by decide +kernel, by decide +kernel, by decide +kernel⟩
theorem ok_M_199 : okV "PlainPagesModel" 199 R_M y_M_takeBeginning b_M_takeBeginning 5 none 0 := ⟨aW_in 1056 (by decide +kernel) rfl, aW_in 1058 (by decide +kernel) rfl, aW_in 44 (by decide +kernel) rfl, aW_in 92 (by decide +kernel) rfl, cd_M_takeBeginning, rfl, by decide +kernel, by decide +kernel, by decide +kernel⟩
theorem ok_M_205 : okV "PlainPagesModel" 205 R_M y_M_takeEnding b_M_takeEnding 3 none 0 := ⟨aW_in 1135 (by decide +kernel) rfl, aW_in 1137 (by decide +kernel) rfl, aW_in 57 (by decide +kernel) rfl, aW_in 92 (by decide +kernel) rfl, cd_M_takeEnding, rfl, by decide +kernel, by decide +kernel, by decide +kernel⟩
theorem ok_M_202 : okV "PlainPagesModel" 202 R_M y_M_takeText b_M_takeText 3 none 0 := ⟨aW_in 1131 (by decide +kernel) rfl, aW_in 1133 (by decide +kernel) rfl, aW_in 56 (by decide +kernel) rfl, aW_in 92 (by decide +kernel) rfl, cd_M_takeText, rfl, by decide +kernel, by decide +kernel, by decide +kernel⟩
theorem d_M_lookThrough_0 : decode b_M_lookThrough 0 = .ok (.aload_n 0, 1) := by decide +kernel
theorem d_M_lookThrough_1 : decode b_M_lookThrough 1 = .ok (.iconst 0, 1) := by decide +kernel
theorem d_M_lookThrough_2 : decode b_M_lookThrough 2 = .ok (.putfield 101, 3) := by decide +kernel
theorem d_M_lookThrough_5 : decode b_M_lookThrough 5 = .ok (.aload_n 0, 1) := by decide +kernel
theorem d_M_lookThrough_6 : decode b_M_lookThrough 6 = .ok (.iconst 0, 1) := by decide +kernel
theorem d_M_lookThrough_7 : decode b_M_lookThrough 7 = .ok (.putfield 181, 3) := by decide +kernel
theorem d_M_lookThrough_10 : decode b_M_lookThrough 10 = .ok (.aload_n 0, 1) := by decide +kernel
theorem d_M_lookThrough_11 : decode b_M_lookThrough 11 = .ok (.iconst 0, 1) := by decide +kernel
theorem d_M_lookThrough_12 : decode b_M_lookThrough 12 = .ok (.putfield 178, 3) := by decide +kernel
theorem d_M_lookThrough_15 : decode b_M_lookThrough 15 = .ok (.aload_n 0, 1) := by decide +kernel
theorem d_M_lookThrough_16 : decode b_M_lookThrough 16 = .ok (.iconst 0, 1) := by decide +kernel
theorem d_M_lookThrough_17 : decode b_M_lookThrough 17 = .ok (.putfield 175, 3) := by decide +kernel
theorem d_M_lookThrough_20 : decode b_M_lookThrough 20 = .ok (.aload_n 0, 1) := by decide +kernel
theorem d_M_lookThrough_21 : decode b_M_lookThrough 21 = .ok (.iconst 0, 1) := by decide +kernel
theorem d_M_lookThrough_22 : decode b_M_lookThrough 22 = .ok (.putfield 111, 3) := by decide +kernel
theorem d_M_lookThrough_25 : decode b_M_lookThrough 25 = .ok (.aload_n 0, 1) := by decide +kernel
theorem d_M_lookThrough_26 : decode b_M_lookThrough 26 = .ok (.invokevirtual 195, 3) := by decide +kernel
theorem d_M_lookThrough_29 : decode b_M_lookThrough 29 = .ok (.ifCond .eq 12, 3) := by decide +kernel
theorem d_M_lookThrough_32 : decode b_M_lookThrough 32 = .ok (.aload_n 0, 1) := by decide +kernel
theorem d_M_lookThrough_33 : decode b_M_lookThrough 33 = .ok (.aload_n 0, 1) := by decide +kernel
theorem d_M_lookThrough_34 : decode b_M_lookThrough 34 = .ok (.getfield 22, 3) := by decide +kernel
theorem d_M_lookThrough_37 : decode b_M_lookThrough 37 = .ok (.arraylength, 1) := by decide +kernel
theorem d_M_lookThrough_38 : decode b_M_lookThrough 38 = .ok (.putfield 101, 3) := by decide +kernel
theorem d_M_lookThrough_41 : decode b_M_lookThrough 41 = .ok (.aload_n 0, 1) := by decide +kernel
theorem d_M_lookThrough_42 : decode b_M_lookThrough 42 = .ok (.invokevirtual 188, 3) := by decide +kernel
theorem d_M_lookThrough_45 : decode b_M_lookThrough 45 = .ok (.aload_n 0, 1) := by decide +kernel
theorem d_M_lookThrough_46 : decode b_M_lookThrough 46 = .ok (.aload_n 0, 1) := by decide +kernel
theorem d_M_lookThrough_47 : decode b_M_lookThrough 47 = .ok (.getfield 101, 3) := by decide +kernel
theorem d_M_lookThrough_50 : decode b_M_lookThrough 50 = .ok (.invokevirtual 95, 3) := by decide +kernel
theorem d_M_lookThrough_53 : decode b_M_lookThrough 53 = .ok (.bipush 60, 2) := by decide +kernel
theorem d_M_lookThrough_55 : decode b_M_lookThrough 55 = .ok (.if_icmp .eq 11, 3) := by decide +kernel
theorem d_M_lookThrough_58 : decode b_M_lookThrough 58 = .ok (.aload_n 0, 1) := by decide +kernel
theorem d_M_lookThrough_59 : decode b_M_lookThrough 59 = .ok (.iconst 1, 1) := by decide +kernel
theorem d_M_lookThrough_60 : decode b_M_lookThrough 60 = .ok (.putfield 111, 3) := by decide +kernel
theorem d_M_lookThrough_63 : decode b_M_lookThrough 63 = .ok (.goto 7, 3) := by decide +kernel
theorem d_M_lookThrough_66 : decode b_M_lookThrough 66 = .ok (.aload_n 0, 1) := by decide +kernel
theorem d_M_lookThrough_67 : decode b_M_lookThrough 67 = .ok (.invokevirtual 199, 3) := by decide +kernel
theorem d_M_lookThrough_70 : decode b_M_lookThrough 70 = .ok (.aload_n 0, 1) := by decide +kernel
theorem d_M_lookThrough_71 : decode b_M_lookThrough 71 = .ok (.getfield 111, 3) := by decide +kernel
theorem d_M_lookThrough_74 : decode b_M_lookThrough 74 = .ok (.ifCond .ne 78, 3) := by decide +kernel
theorem d_M_lookThrough_77 : decode b_M_lookThrough 77 = .ok (.aload_n 0, 1) := by decide +kernel
theorem d_M_lookThrough_78 : decode b_M_lookThrough 78 = .ok (.getfield 178, 3) := by decide +kernel
theorem d_M_lookThrough_81 : decode b_M_lookThrough 81 = .ok (.ifCond .le 71, 3) := by decide +kernel
theorem d_M_lookThrough_84 : decode b_M_lookThrough 84 = .ok (.aload_n 0, 1) := by decide +kernel
theorem d_M_lookThrough_85 : decode b_M_lookThrough 85 = .ok (.getfield 101, 3) := by decide +kernel
theorem d_M_lookThrough_88 : decode b_M_lookThrough 88 = .ok (.aload_n 0, 1) := by decide +kernel
theorem d_M_lookThrough_89 : decode b_M_lookThrough 89 = .ok (.getfield 92, 3) := by decide +kernel
theorem d_M_lookThrough_92 : decode b_M_lookThrough 92 = .ok (.if_icmp .lt 11, 3) := by decide +kernel
theorem d_M_lookThrough_95 : decode b_M_lookThrough 95 = .ok (.aload_n 0, 1) := by decide +kernel
theorem d_M_lookThrough_96 : decode b_M_lookThrough 96 = .ok (.iconst 1, 1) := by decide +kernel
theorem d_M_lookThrough_97 : decode b_M_lookThrough 97 = .ok (.putfield 111, 3) := by decide +kernel
theorem d_M_lookThrough_100 : decode b_M_lookThrough 100 = .ok (.goto (-30), 3) := by decide +kernel
theorem d_M_lookThrough_103 : decode b_M_lookThrough 103 = .ok (.aload_n 0, 1) := by decide +kernel
theorem d_M_lookThrough_104 : decode b_M_lookThrough 104 = .ok (.aload_n 0, 1) := by decide +kernel
theorem d_M_lookThrough_105 : decode b_M_lookThrough 105 = .ok (.getfield 101, 3) := by decide +kernel
theorem d_M_lookThrough_108 : decode b_M_lookThrough 108 = .ok (.invokevirtual 95, 3) := by decide +kernel
theorem d_M_lookThrough_111 : decode b_M_lookThrough 111 = .ok (.bipush 60, 2) := by decide +kernel
theorem d_M_lookThrough_113 : decode b_M_lookThrough 113 = .ok (.if_icmp .eq 10, 3) := by decide +kernel
theorem d_M_lookThrough_116 : decode b_M_lookThrough 116 = .ok (.aload_n 0, 1) := by decide +kernel
theorem d_M_lookThrough_117 : decode b_M_lookThrough 117 = .ok (.invokevirtual 202, 3) := by decide +kernel
theorem d_M_lookThrough_120 : decode b_M_lookThrough 120 = .ok (.goto (-50), 3) := by decide +kernel
theorem d_M_lookThrough_123 : decode b_M_lookThrough 123 = .ok (.aload_n 0, 1) := by decide +kernel
theorem d_M_lookThrough_124 : decode b_M_lookThrough 124 = .ok (.aload_n 0, 1) := by decide +kernel
theorem d_M_lookThrough_125 : decode b_M_lookThrough 125 = .ok (.getfield 101, 3) := by decide +kernel
theorem d_M_lookThrough_128 : decode b_M_lookThrough 128 = .ok (.iconst 1, 1) := by decide +kernel
theorem d_M_lookThrough_129 : decode b_M_lookThrough 129 = .ok (.iadd, 1) := by decide +kernel
theorem d_M_lookThrough_130 : decode b_M_lookThrough 130 = .ok (.invokevirtual 95, 3) := by decide +kernel
theorem d_M_lookThrough_133 : decode b_M_lookThrough 133 = .ok (.bipush 47, 2) := by decide +kernel
theorem d_M_lookThrough_135 : decode b_M_lookThrough 135 = .ok (.if_icmp .ne 10, 3) := by decide +kernel
theorem d_M_lookThrough_138 : decode b_M_lookThrough 138 = .ok (.aload_n 0, 1) := by decide +kernel
theorem d_M_lookThrough_139 : decode b_M_lookThrough 139 = .ok (.invokevirtual 205, 3) := by decide +kernel
theorem d_M_lookThrough_142 : decode b_M_lookThrough 142 = .ok (.goto (-72), 3) := by decide +kernel
theorem d_M_lookThrough_145 : decode b_M_lookThrough 145 = .ok (.aload_n 0, 1) := by decide +kernel
theorem d_M_lookThrough_146 : decode b_M_lookThrough 146 = .ok (.invokevirtual 199, 3) := by decide +kernel
theorem d_M_lookThrough_149 : decode b_M_lookThrough 149 = .ok (.goto (-79), 3) := by decide +kernel
theorem d_M_lookThrough_152 : decode b_M_lookThrough 152 = .ok (.aload_n 0, 1) := by decide +kernel
theorem d_M_lookThrough_153 : decode b_M_lookThrough 153 = .ok (.getfield 111, 3) := by decide +kernel
theorem d_M_lookThrough_156 : decode b_M_lookThrough 156 = .ok (.ifCond .eq 4, 3) := by decide +kernel
theorem d_M_lookThrough_159 : decode b_M_lookThrough 159 = .ok (.return_, 1) := by decide +kernel
theorem d_M_lookThrough_160 : decode b_M_lookThrough 160 = .ok (.aload_n 0, 1) := by decide +kernel
theorem d_M_lookThrough_161 : decode b_M_lookThrough 161 = .ok (.invokevirtual 188, 3) := by decide +kernel
theorem d_M_lookThrough_164 : decode b_M_lookThrough 164 = .ok (.aload_n 0, 1) := by decide +kernel
theorem d_M_lookThrough_165 : decode b_M_lookThrough 165 = .ok (.aload_n 0, 1) := by decide +kernel
theorem d_M_lookThrough_166 : decode b_M_lookThrough 166 = .ok (.getfield 101, 3) := by decide +kernel
theorem d_M_lookThrough_169 : decode b_M_lookThrough 169 = .ok (.aload_n 0, 1) := by decide +kernel
theorem d_M_lookThrough_170 : decode b_M_lookThrough 170 = .ok (.getfield 92, 3) := by decide +kernel
theorem d_M_lookThrough_173 : decode b_M_lookThrough 173 = .ok (.if_icmp .ge 7, 3) := by decide +kernel
theorem d_M_lookThrough_176 : decode b_M_lookThrough 176 = .ok (.iconst 1, 1) := by decide +kernel
theorem d_M_lookThrough_177 : decode b_M_lookThrough 177 = .ok (.goto 4, 3) := by decide +kernel
theorem d_M_lookThrough_180 : decode b_M_lookThrough 180 = .ok (.iconst 0, 1) := by decide +kernel
theorem d_M_lookThrough_181 : decode b_M_lookThrough 181 = .ok (.putfield 111, 3) := by decide +kernel
theorem d_M_lookThrough_184 : decode b_M_lookThrough 184 = .ok (.return_, 1) := by decide +kernel
def w_M_lookThrough_J152   (post : MPS → Prop) (σ : MPS) : Prop := (((mp_bad σ) = 0 → w_M_skipWhite σ  (fun σ161 => (((mp_size σ161) ≤ (mp_at σ161) → (∀ σ181 : MPS, σ181 = ms_bad σ161 0 → post σ181)) ∧ (¬ (mp_size σ161) ≤ (mp_at σ161) → (∀ σ181 : MPS, σ181 = ms_bad σ161 1 → post σ181))))) ∧ (¬ (mp_bad σ) = 0 → post σ))
def w_M_lookThrough_L70   (post : MPS → Prop) : Nat → MPS → Prop
  | 0, _ => False
  | n + 1, σ => (((mp_bad σ) = 0 → (((mp_deep σ) ≤ 0 → w_M_lookThrough_J152 post σ) ∧ (¬ (mp_deep σ) ≤ 0 → (((mp_at σ) < (mp_size σ) → w_M_x σ (mp_at σ) (fun r108 => ((r108 = 60 → w_M_x σ ((mp_at σ) + 1) (fun r130 => ((r130 = 47 → w_M_takeEnding σ  (fun σ139 => w_M_lookThrough_L70 post n σ139)) ∧ (¬ r130 = 47 → w_M_takeBeginning σ  (fun σ146 => w_M_lookThrough_L70 post n σ146))))) ∧ (¬ r108 = 60 → w_M_takeText σ  (fun σ117 => w_M_lookThrough_L70 post n σ117))))) ∧ (¬ (mp_at σ) < (mp_size σ) → (∀ σ97 : MPS, σ97 = ms_bad σ 1 → w_M_lookThrough_L70 post n σ97)))))) ∧ (¬ (mp_bad σ) = 0 → w_M_lookThrough_J152 post σ))
def w_M_lookThrough_J41   (post : MPS → Prop) (σ : MPS) : Prop := w_M_skipWhite σ  (fun σ42 => w_M_x σ42 (mp_at σ42) (fun r50 => ((r50 = 60 → w_M_takeBeginning σ42  (fun σ67 => (∃ n, w_M_lookThrough_L70 post n σ67))) ∧ (¬ r50 = 60 → (∀ σ60 : MPS, σ60 = ms_bad σ42 1 → (∃ n, w_M_lookThrough_L70 post n σ60))))))
def w_M_lookThrough  (σ : MPS)  (post : MPS → Prop) : Prop := (∀ σ2 : MPS, σ2 = ms_at σ 0 → (∀ σ7 : MPS, σ7 = ms_elements σ2 0 → (∀ σ12 : MPS, σ12 = ms_deep σ7 0 → (∀ σ17 : MPS, σ17 = ms_nodes σ12 0 → (∀ σ22 : MPS, σ22 = ms_bad σ17 0 → w_M_isDeclared σ22  (fun r26 => ((r26 = 0 → w_M_lookThrough_J41 post σ22) ∧ (¬ r26 = 0 → (∀ σ38 : MPS, σ38 = ms_at σ22 (nI 38) → w_M_lookThrough_J41 post σ38)))))))))
set_option maxHeartbeats 4000000 in
set_option maxRecDepth 100000 in
theorem c_M_lookThrough (l : Launch) (md : MD) (sz : Nat) (σ : MPS)   (post : MPS → Prop) (hE : w_M_lookThrough σ post) : Met l y_M_lookThrough ws_M_lookThrough { frames := 6, cells := 0, slots := 0, locals := 140 } (va_Pc [.ref (mA md 0)] (gM md σ sz)) (va_Qv post (eM md (va_A (MW md σ) sz)) (va_A (MW md σ) sz)) 0 0 (va_A (MW md σ) sz) := by
  refine Met.ofW (cc := b_M_lookThrough) (maxL := 1) (ret := none) (by decide) rfl ?_
  intro p e s m args below meth c s₁ B hml hv
  obtain ⟨rfl, hsz, hP, hK, hD0⟩ := hv
  have hx := B.exec
  have hb := B.bytes
  have hr := B.returns
  have hta : ∀ w ∈ aW, w.before _ s = true := fun w h => atoms_spec (ws := ws_M_lookThrough) B.pre w (List.mem_cons_of_mem _ h)
  have hown : s.vm.findClass R_M = some m.cls := findClass_of_methodNamed B.named
  have hlocks := B.notSynchronized
  subst hsz
  have hD := hD0.self (sz := s.heap.size)
  generalize hAe : va_A (MW md σ) s.heap.size = A at hD ⊢
  have hA : ∀ q : Nat, s.heap.size ≤ q → A q := fun q h => by rw [← hAe]; exact Or.inr h
  have hS : va_S A s.heap s.heap [] := va_S.rf
  have hP : va_P (mG md) classes (MW md σ) s.heap := hP
  have hl := lv_entry ([.ref (mA md 0)]) (n := 1) (Nat.le_of_ble_eq_true rfl)
  rw [lg_entry_eq]
  generalize (lg_sl ([.ref (mA md 0)]) ++ List.replicate (1 - (lg_sl ([.ref (mA md 0)])).length) Slot.unset).toArray = ls at hl ⊢
  have hl : lv_has ls 1 [(0, .ref (mA md 0))] := hl
  have J152 : ∀ (σ : MPS) (H : Heap) (locs : List Loc) (hP : va_P (mG md) classes (MW md σ) H) (hD : va_D A (MW md σ)) (hS : va_S A s.heap H locs) (ls : Array Slot) (hl : lv_has ls 1 [(0, .ref (mA md 0))]) (hE : w_M_lookThrough_J152 post σ), W p l e (headSpec ws_M_lookThrough { frames := 6, cells := 0, slots := 0, locals := 140 }).room s m ([.ref (mA md 0)] : List Value).toArray below meth c H locs 0 0 (MQ below (va_Qv post (eM md A) A) ([.ref (mA md 0)] : List Value).toArray s 0 0 A) (F0 m 152 ls []) := by
    intro  σ H locs hP hD hS ls hl hE
    unfold w_M_lookThrough_J152 at hE
    refine lv_aload_n hx hb d_M_lookThrough_152 rfl (lv_at hl 0 rfl) ?_
    refine va_get (D := (mG md)) (ci := 7) (v := .int (mp_bad σ)) (C := R_M) (T := F_M) (N := 37) hx hb hta i_M hown hK hP 0 rfl rfl 16 (by decide) (hta _ fl_M_111) (fun _ h9 => h9) rfl d_M_lookThrough_153 ?_
    refine lv_if_eq (tgt := 160) hx hb d_M_lookThrough_156 (by decide) (fun cc156 => ?_) (fun cc156 => ?_)
    · have hE := hE.1 cc156
      refine lv_aload_n hx hb d_M_lookThrough_160 rfl (lv_at hl 0 rfl) ?_
      refine mm_v (b0 := (mA md 0)) (As := []) (rest := []) ⟨hx, hb, hml, hown, hta⟩ (c_M_skipWhite l md _ σ  _ hE) ok_M_188 ⟨Nat.le_of_ble_eq_true rfl, Nat.le_of_ble_eq_true rfl⟩ (va_recv hK hP (ci := 7) (q0 := 0) rfl rfl) hP hK hD hS hA rfl hl.1 rfl (Nat.le_of_ble_eq_true rfl) d_M_lookThrough_161 ⟨Nat.zero_le _, Nat.zero_le _⟩ (fun σ161 H locs hE hP hD hS => ?_)
      refine lv_aload_n hx hb d_M_lookThrough_164 rfl (lv_at hl 0 rfl) ?_
      refine lv_aload_n hx hb d_M_lookThrough_165 rfl (lv_at hl 0 rfl) ?_
      refine va_get (D := (mG md)) (ci := 7) (v := .int (mp_at σ161)) (C := R_M) (T := F_M) (N := 37) hx hb hta i_M hown hK hP 0 rfl rfl 13 (by decide) (hta _ fl_M_101) (fun _ h9 => h9) rfl d_M_lookThrough_166 ?_
      refine lv_aload_n hx hb d_M_lookThrough_169 rfl (lv_at hl 0 rfl) ?_
      refine va_get (D := (mG md)) (ci := 7) (v := .int (mp_size σ161)) (C := R_M) (T := F_M) (N := 37) hx hb hta i_M hown hK hP 0 rfl rfl 7 (by decide) (hta _ fl_M_92) (fun _ h9 => h9) rfl d_M_lookThrough_170 ?_
      refine lv_icmp_ge (tgt := 180) hx hb d_M_lookThrough_173 (by decide) (fun cc173 => ?_) (fun cc173 => ?_)
      · have hE := hE.1 cc173
        refine lv_iconst (v := 0) hx hb d_M_lookThrough_180 (by decide) ?_
        refine va_put (D := (mG md)) (ci := 7) (v := .int 0) (ty := .boolean) (C := R_M) (T := F_M) (N := 37) hx hb hta i_M t_M t_M_ok n_M hown hK hP hD hS 0 rfl rfl 16 (by decide) (hta _ fl_M_111) (fun _ h9 => h9) rfl (by decide +kernel) rfl rfl (Nat.le_of_ble_eq_true rfl) d_M_lookThrough_181 (fun H locs hP hD hS => ?_)
        have hP : va_P (mG md) classes (MW md (ms_bad σ161 0)) H := hP
        have hD : va_D A (MW md (ms_bad σ161 0)) := hD
        have hE := hE _ rfl
        generalize (ms_bad σ161 0 : MPS) = σ181 at hP hD hE
        exact W.vret hx hb hr (fun t ht hW => ⟨⟨σ181, rfl, hE, by rw [ht]; exact hP, va_K.moved hW.alike hK, hD⟩, hS.F ht⟩) hS.2.2 d_M_lookThrough_184
      · have hE := hE.2 cc173
        refine lv_iconst (v := 1) hx hb d_M_lookThrough_176 (by decide) ?_
        refine lv_goto (tgt := 181) hx hb d_M_lookThrough_177 (by decide) ?_
        refine va_put (D := (mG md)) (ci := 7) (v := .int 1) (ty := .boolean) (C := R_M) (T := F_M) (N := 37) hx hb hta i_M t_M t_M_ok n_M hown hK hP hD hS 0 rfl rfl 16 (by decide) (hta _ fl_M_111) (fun _ h9 => h9) rfl (by decide +kernel) rfl rfl (Nat.le_of_ble_eq_true rfl) d_M_lookThrough_181 (fun H locs hP hD hS => ?_)
        have hP : va_P (mG md) classes (MW md (ms_bad σ161 1)) H := hP
        have hD : va_D A (MW md (ms_bad σ161 1)) := hD
        have hE := hE _ rfl
        generalize (ms_bad σ161 1 : MPS) = σ181 at hP hD hE
        exact W.vret hx hb hr (fun t ht hW => ⟨⟨σ181, rfl, hE, by rw [ht]; exact hP, va_K.moved hW.alike hK, hD⟩, hS.F ht⟩) hS.2.2 d_M_lookThrough_184
    · have hE := hE.2 cc156
      exact W.vret hx hb hr (fun t ht hW => ⟨⟨σ, rfl, hE, by rw [ht]; exact hP, va_K.moved hW.alike hK, hD⟩, hS.F ht⟩) hS.2.2 d_M_lookThrough_159
  have L70 : ∀ (n : Nat) (σ : MPS) (H : Heap) (locs : List Loc) (hP : va_P (mG md) classes (MW md σ) H) (hD : va_D A (MW md σ)) (hS : va_S A s.heap H locs) (ls : Array Slot) (hl : lv_has ls 1 [(0, .ref (mA md 0))]) (hE : w_M_lookThrough_L70 post n σ), W p l e (headSpec ws_M_lookThrough { frames := 6, cells := 0, slots := 0, locals := 140 }).room s m ([.ref (mA md 0)] : List Value).toArray below meth c H locs 0 0 (MQ below (va_Qv post (eM md A) A) ([.ref (mA md 0)] : List Value).toArray s 0 0 A) (F0 m 70 ls []) := by
    intro n
    induction n with
    | zero => intro σ H locs hP hD hS ls hl hE; exact hE.elim
    | succ n ih70 =>
      intro σ H locs hP hD hS ls hl hE
      unfold w_M_lookThrough_L70 at hE
      refine lv_aload_n hx hb d_M_lookThrough_70 rfl (lv_at hl 0 rfl) ?_
      refine va_get (D := (mG md)) (ci := 7) (v := .int (mp_bad σ)) (C := R_M) (T := F_M) (N := 37) hx hb hta i_M hown hK hP 0 rfl rfl 16 (by decide) (hta _ fl_M_111) (fun _ h9 => h9) rfl d_M_lookThrough_71 ?_
      refine lv_if_ne (tgt := 152) hx hb d_M_lookThrough_74 (by decide) (fun cc74 => ?_) (fun cc74 => ?_)
      · have hE := hE.2 cc74
        exact J152  σ _ _ hP hD hS _ (lv_sub hl [0] rfl) hE
      · have hE := hE.1 cc74
        refine lv_aload_n hx hb d_M_lookThrough_77 rfl (lv_at hl 0 rfl) ?_
        refine va_get (D := (mG md)) (ci := 7) (v := .int (mp_deep σ)) (C := R_M) (T := F_M) (N := 37) hx hb hta i_M hown hK hP 0 rfl rfl 15 (by decide) (hta _ fl_M_178) (fun _ h9 => h9) rfl d_M_lookThrough_78 ?_
        refine lv_if_le (tgt := 152) hx hb d_M_lookThrough_81 (by decide) (fun cc81 => ?_) (fun cc81 => ?_)
        · have hE := hE.1 cc81
          exact J152  σ _ _ hP hD hS _ (lv_sub hl [0] rfl) hE
        · have hE := hE.2 cc81
          refine lv_aload_n hx hb d_M_lookThrough_84 rfl (lv_at hl 0 rfl) ?_
          refine va_get (D := (mG md)) (ci := 7) (v := .int (mp_at σ)) (C := R_M) (T := F_M) (N := 37) hx hb hta i_M hown hK hP 0 rfl rfl 13 (by decide) (hta _ fl_M_101) (fun _ h9 => h9) rfl d_M_lookThrough_85 ?_
          refine lv_aload_n hx hb d_M_lookThrough_88 rfl (lv_at hl 0 rfl) ?_
          refine va_get (D := (mG md)) (ci := 7) (v := .int (mp_size σ)) (C := R_M) (T := F_M) (N := 37) hx hb hta i_M hown hK hP 0 rfl rfl 7 (by decide) (hta _ fl_M_92) (fun _ h9 => h9) rfl d_M_lookThrough_89 ?_
          refine lv_icmp_lt (tgt := 103) hx hb d_M_lookThrough_92 (by decide) (fun cc92 => ?_) (fun cc92 => ?_)
          · have hE := hE.1 cc92
            refine lv_aload_n hx hb d_M_lookThrough_103 rfl (lv_at hl 0 rfl) ?_
            refine lv_aload_n hx hb d_M_lookThrough_104 rfl (lv_at hl 0 rfl) ?_
            refine va_get (D := (mG md)) (ci := 7) (v := .int (mp_at σ)) (C := R_M) (T := F_M) (N := 37) hx hb hta i_M hown hK hP 0 rfl rfl 13 (by decide) (hta _ fl_M_101) (fun _ h9 => h9) rfl d_M_lookThrough_105 ?_
            refine ro_V (b0 := (mA md 0)) (As := [.int (mp_at σ)]) (rest := []) ⟨hx, hb, hml, hown, hta⟩ (c_M_x l md σ (mp_at σ)  _ hE) ok_M_95 ⟨Nat.le_of_ble_eq_true rfl, Nat.le_of_ble_eq_true rfl⟩ blind_rM (va_recv hK hP (ci := 7) (q0 := 0) rfl rfl) (rM_of hP hK) rfl hl.1 rfl (Nat.le_of_ble_eq_true rfl) d_M_lookThrough_108 ⟨Nat.zero_le _, Nat.zero_le _⟩ (fun r108 hE => ?_)
            refine lv_bipush (v := 60) hx hb d_M_lookThrough_111 (by decide) ?_
            refine lv_icmp_eq (tgt := 123) hx hb d_M_lookThrough_113 (by decide) (fun cc113 => ?_) (fun cc113 => ?_)
            · have hE := hE.1 cc113
              refine lv_aload_n hx hb d_M_lookThrough_123 rfl (lv_at hl 0 rfl) ?_
              refine lv_aload_n hx hb d_M_lookThrough_124 rfl (lv_at hl 0 rfl) ?_
              refine va_get (D := (mG md)) (ci := 7) (v := .int (mp_at σ)) (C := R_M) (T := F_M) (N := 37) hx hb hta i_M hown hK hP 0 rfl rfl 13 (by decide) (hta _ fl_M_101) (fun _ h9 => h9) rfl d_M_lookThrough_125 ?_
              refine lv_iconst (v := 1) hx hb d_M_lookThrough_128 (by decide) ?_
              refine lv_iadd hx hb d_M_lookThrough_129 ?_
              refine ro_V (b0 := (mA md 0)) (As := [.int ((mp_at σ) + 1)]) (rest := []) ⟨hx, hb, hml, hown, hta⟩ (c_M_x l md σ ((mp_at σ) + 1)  _ hE) ok_M_95 ⟨Nat.le_of_ble_eq_true rfl, Nat.le_of_ble_eq_true rfl⟩ blind_rM (va_recv hK hP (ci := 7) (q0 := 0) rfl rfl) (rM_of hP hK) rfl hl.1 rfl (Nat.le_of_ble_eq_true rfl) d_M_lookThrough_130 ⟨Nat.zero_le _, Nat.zero_le _⟩ (fun r130 hE => ?_)
              refine lv_bipush (v := 47) hx hb d_M_lookThrough_133 (by decide) ?_
              refine lv_icmp_ne (tgt := 145) hx hb d_M_lookThrough_135 (by decide) (fun cc135 => ?_) (fun cc135 => ?_)
              · have hE := hE.2 cc135
                refine lv_aload_n hx hb d_M_lookThrough_145 rfl (lv_at hl 0 rfl) ?_
                refine mm_v (b0 := (mA md 0)) (As := []) (rest := []) ⟨hx, hb, hml, hown, hta⟩ (c_M_takeBeginning l md _ σ  _ hE) ok_M_199 ⟨Nat.le_of_ble_eq_true rfl, Nat.le_of_ble_eq_true rfl⟩ (va_recv hK hP (ci := 7) (q0 := 0) rfl rfl) hP hK hD hS hA rfl hl.1 rfl (Nat.le_of_ble_eq_true rfl) d_M_lookThrough_146 ⟨Nat.zero_le _, Nat.zero_le _⟩ (fun σ146 H locs hE hP hD hS => ?_)
                refine lv_goto (tgt := 70) hx hb d_M_lookThrough_149 (by decide) ?_
                exact ih70 σ146 _ _ hP hD hS _ (lv_sub hl [0] rfl) hE
              · have hE := hE.1 cc135
                refine lv_aload_n hx hb d_M_lookThrough_138 rfl (lv_at hl 0 rfl) ?_
                refine mm_v (b0 := (mA md 0)) (As := []) (rest := []) ⟨hx, hb, hml, hown, hta⟩ (c_M_takeEnding l md _ σ  _ hE) ok_M_205 ⟨Nat.le_of_ble_eq_true rfl, Nat.le_of_ble_eq_true rfl⟩ (va_recv hK hP (ci := 7) (q0 := 0) rfl rfl) hP hK hD hS hA rfl hl.1 rfl (Nat.le_of_ble_eq_true rfl) d_M_lookThrough_139 ⟨Nat.zero_le _, Nat.zero_le _⟩ (fun σ139 H locs hE hP hD hS => ?_)
                refine lv_goto (tgt := 70) hx hb d_M_lookThrough_142 (by decide) ?_
                exact ih70 σ139 _ _ hP hD hS _ (lv_sub hl [0] rfl) hE
            · have hE := hE.2 cc113
              refine lv_aload_n hx hb d_M_lookThrough_116 rfl (lv_at hl 0 rfl) ?_
              refine mm_v (b0 := (mA md 0)) (As := []) (rest := []) ⟨hx, hb, hml, hown, hta⟩ (c_M_takeText l md _ σ  _ hE) ok_M_202 ⟨Nat.le_of_ble_eq_true rfl, Nat.le_of_ble_eq_true rfl⟩ (va_recv hK hP (ci := 7) (q0 := 0) rfl rfl) hP hK hD hS hA rfl hl.1 rfl (Nat.le_of_ble_eq_true rfl) d_M_lookThrough_117 ⟨Nat.zero_le _, Nat.zero_le _⟩ (fun σ117 H locs hE hP hD hS => ?_)
              refine lv_goto (tgt := 70) hx hb d_M_lookThrough_120 (by decide) ?_
              exact ih70 σ117 _ _ hP hD hS _ (lv_sub hl [0] rfl) hE
          · have hE := hE.2 cc92
            refine lv_aload_n hx hb d_M_lookThrough_95 rfl (lv_at hl 0 rfl) ?_
            refine lv_iconst (v := 1) hx hb d_M_lookThrough_96 (by decide) ?_
            refine va_put (D := (mG md)) (ci := 7) (v := .int 1) (ty := .boolean) (C := R_M) (T := F_M) (N := 37) hx hb hta i_M t_M t_M_ok n_M hown hK hP hD hS 0 rfl rfl 16 (by decide) (hta _ fl_M_111) (fun _ h9 => h9) rfl (by decide +kernel) rfl rfl (Nat.le_of_ble_eq_true rfl) d_M_lookThrough_97 (fun H locs hP hD hS => ?_)
            have hP : va_P (mG md) classes (MW md (ms_bad σ 1)) H := hP
            have hD : va_D A (MW md (ms_bad σ 1)) := hD
            have hE := hE _ rfl
            generalize (ms_bad σ 1 : MPS) = σ97 at hP hD hE
            refine lv_goto (tgt := 70) hx hb d_M_lookThrough_100 (by decide) ?_
            exact ih70 σ97 _ _ hP hD hS _ (lv_sub hl [0] rfl) hE
  have J41 : ∀ (σ : MPS) (H : Heap) (locs : List Loc) (hP : va_P (mG md) classes (MW md σ) H) (hD : va_D A (MW md σ)) (hS : va_S A s.heap H locs) (ls : Array Slot) (hl : lv_has ls 1 [(0, .ref (mA md 0))]) (hE : w_M_lookThrough_J41 post σ), W p l e (headSpec ws_M_lookThrough { frames := 6, cells := 0, slots := 0, locals := 140 }).room s m ([.ref (mA md 0)] : List Value).toArray below meth c H locs 0 0 (MQ below (va_Qv post (eM md A) A) ([.ref (mA md 0)] : List Value).toArray s 0 0 A) (F0 m 41 ls []) := by
    intro  σ H locs hP hD hS ls hl hE
    unfold w_M_lookThrough_J41 at hE
    refine lv_aload_n hx hb d_M_lookThrough_41 rfl (lv_at hl 0 rfl) ?_
    refine mm_v (b0 := (mA md 0)) (As := []) (rest := []) ⟨hx, hb, hml, hown, hta⟩ (c_M_skipWhite l md _ σ  _ hE) ok_M_188 ⟨Nat.le_of_ble_eq_true rfl, Nat.le_of_ble_eq_true rfl⟩ (va_recv hK hP (ci := 7) (q0 := 0) rfl rfl) hP hK hD hS hA rfl hl.1 rfl (Nat.le_of_ble_eq_true rfl) d_M_lookThrough_42 ⟨Nat.zero_le _, Nat.zero_le _⟩ (fun σ42 H locs hE hP hD hS => ?_)
    refine lv_aload_n hx hb d_M_lookThrough_45 rfl (lv_at hl 0 rfl) ?_
    refine lv_aload_n hx hb d_M_lookThrough_46 rfl (lv_at hl 0 rfl) ?_
    refine va_get (D := (mG md)) (ci := 7) (v := .int (mp_at σ42)) (C := R_M) (T := F_M) (N := 37) hx hb hta i_M hown hK hP 0 rfl rfl 13 (by decide) (hta _ fl_M_101) (fun _ h9 => h9) rfl d_M_lookThrough_47 ?_
    refine ro_V (b0 := (mA md 0)) (As := [.int (mp_at σ42)]) (rest := []) ⟨hx, hb, hml, hown, hta⟩ (c_M_x l md σ42 (mp_at σ42)  _ hE) ok_M_95 ⟨Nat.le_of_ble_eq_true rfl, Nat.le_of_ble_eq_true rfl⟩ blind_rM (va_recv hK hP (ci := 7) (q0 := 0) rfl rfl) (rM_of hP hK) rfl hl.1 rfl (Nat.le_of_ble_eq_true rfl) d_M_lookThrough_50 ⟨Nat.zero_le _, Nat.zero_le _⟩ (fun r50 hE => ?_)
    refine lv_bipush (v := 60) hx hb d_M_lookThrough_53 (by decide) ?_
    refine lv_icmp_eq (tgt := 66) hx hb d_M_lookThrough_55 (by decide) (fun cc55 => ?_) (fun cc55 => ?_)
    · have hE := hE.1 cc55
      refine lv_aload_n hx hb d_M_lookThrough_66 rfl (lv_at hl 0 rfl) ?_
      refine mm_v (b0 := (mA md 0)) (As := []) (rest := []) ⟨hx, hb, hml, hown, hta⟩ (c_M_takeBeginning l md _ σ42  _ hE) ok_M_199 ⟨Nat.le_of_ble_eq_true rfl, Nat.le_of_ble_eq_true rfl⟩ (va_recv hK hP (ci := 7) (q0 := 0) rfl rfl) hP hK hD hS hA rfl hl.1 rfl (Nat.le_of_ble_eq_true rfl) d_M_lookThrough_67 ⟨Nat.zero_le _, Nat.zero_le _⟩ (fun σ67 H locs hE hP hD hS => ?_)
      obtain ⟨n, hE⟩ := hE
      exact L70  n σ67 _ _ hP hD hS _ (lv_sub hl [0] rfl) hE
    · have hE := hE.2 cc55
      refine lv_aload_n hx hb d_M_lookThrough_58 rfl (lv_at hl 0 rfl) ?_
      refine lv_iconst (v := 1) hx hb d_M_lookThrough_59 (by decide) ?_
      refine va_put (D := (mG md)) (ci := 7) (v := .int 1) (ty := .boolean) (C := R_M) (T := F_M) (N := 37) hx hb hta i_M t_M t_M_ok n_M hown hK hP hD hS 0 rfl rfl 16 (by decide) (hta _ fl_M_111) (fun _ h9 => h9) rfl (by decide +kernel) rfl rfl (Nat.le_of_ble_eq_true rfl) d_M_lookThrough_60 (fun H locs hP hD hS => ?_)
      have hP : va_P (mG md) classes (MW md (ms_bad σ42 1)) H := hP
      have hD : va_D A (MW md (ms_bad σ42 1)) := hD
      have hE := hE _ rfl
      generalize (ms_bad σ42 1 : MPS) = σ60 at hP hD hE
      refine lv_goto (tgt := 70) hx hb d_M_lookThrough_63 (by decide) ?_
      obtain ⟨n, hE⟩ := hE
      exact L70  n σ60 _ _ hP hD hS _ (lv_sub hl [0] rfl) hE
  unfold w_M_lookThrough at hE
  refine lv_aload_n hx hb d_M_lookThrough_0 rfl (lv_at hl 0 rfl) ?_
  refine lv_iconst (v := 0) hx hb d_M_lookThrough_1 (by decide) ?_
  refine va_put (D := (mG md)) (ci := 7) (v := .int 0) (ty := .int) (C := R_M) (T := F_M) (N := 37) hx hb hta i_M t_M t_M_ok n_M hown hK hP hD hS 0 rfl rfl 13 (by decide) (hta _ fl_M_101) (fun _ h9 => h9) rfl (by decide +kernel) rfl rfl (Nat.le_of_ble_eq_true rfl) d_M_lookThrough_2 (fun H locs hP hD hS => ?_)
  have hP : va_P (mG md) classes (MW md (ms_at σ 0)) H := hP
  have hD : va_D A (MW md (ms_at σ 0)) := hD
  have hE := hE _ rfl
  generalize (ms_at σ 0 : MPS) = σ2 at hP hD hE
  refine lv_aload_n hx hb d_M_lookThrough_5 rfl (lv_at hl 0 rfl) ?_
  refine lv_iconst (v := 0) hx hb d_M_lookThrough_6 (by decide) ?_
  refine va_put (D := (mG md)) (ci := 7) (v := .int 0) (ty := .int) (C := R_M) (T := F_M) (N := 37) hx hb hta i_M t_M t_M_ok n_M hown hK hP hD hS 0 rfl rfl 14 (by decide) (hta _ fl_M_181) (fun _ h9 => h9) rfl (by decide +kernel) rfl rfl (Nat.le_of_ble_eq_true rfl) d_M_lookThrough_7 (fun H locs hP hD hS => ?_)
  have hP : va_P (mG md) classes (MW md (ms_elements σ2 0)) H := hP
  have hD : va_D A (MW md (ms_elements σ2 0)) := hD
  have hE := hE _ rfl
  generalize (ms_elements σ2 0 : MPS) = σ7 at hP hD hE
  refine lv_aload_n hx hb d_M_lookThrough_10 rfl (lv_at hl 0 rfl) ?_
  refine lv_iconst (v := 0) hx hb d_M_lookThrough_11 (by decide) ?_
  refine va_put (D := (mG md)) (ci := 7) (v := .int 0) (ty := .int) (C := R_M) (T := F_M) (N := 37) hx hb hta i_M t_M t_M_ok n_M hown hK hP hD hS 0 rfl rfl 15 (by decide) (hta _ fl_M_178) (fun _ h9 => h9) rfl (by decide +kernel) rfl rfl (Nat.le_of_ble_eq_true rfl) d_M_lookThrough_12 (fun H locs hP hD hS => ?_)
  have hP : va_P (mG md) classes (MW md (ms_deep σ7 0)) H := hP
  have hD : va_D A (MW md (ms_deep σ7 0)) := hD
  have hE := hE _ rfl
  generalize (ms_deep σ7 0 : MPS) = σ12 at hP hD hE
  refine lv_aload_n hx hb d_M_lookThrough_15 rfl (lv_at hl 0 rfl) ?_
  refine lv_iconst (v := 0) hx hb d_M_lookThrough_16 (by decide) ?_
  refine va_put (D := (mG md)) (ci := 7) (v := .int 0) (ty := .int) (C := R_M) (T := F_M) (N := 37) hx hb hta i_M t_M t_M_ok n_M hown hK hP hD hS 0 rfl rfl 32 (by decide) (hta _ fl_M_175) (fun _ h9 => h9) rfl (by decide +kernel) rfl rfl (Nat.le_of_ble_eq_true rfl) d_M_lookThrough_17 (fun H locs hP hD hS => ?_)
  have hP : va_P (mG md) classes (MW md (ms_nodes σ12 0)) H := hP
  have hD : va_D A (MW md (ms_nodes σ12 0)) := hD
  have hE := hE _ rfl
  generalize (ms_nodes σ12 0 : MPS) = σ17 at hP hD hE
  refine lv_aload_n hx hb d_M_lookThrough_20 rfl (lv_at hl 0 rfl) ?_
  refine lv_iconst (v := 0) hx hb d_M_lookThrough_21 (by decide) ?_
  refine va_put (D := (mG md)) (ci := 7) (v := .int 0) (ty := .boolean) (C := R_M) (T := F_M) (N := 37) hx hb hta i_M t_M t_M_ok n_M hown hK hP hD hS 0 rfl rfl 16 (by decide) (hta _ fl_M_111) (fun _ h9 => h9) rfl (by decide +kernel) rfl rfl (Nat.le_of_ble_eq_true rfl) d_M_lookThrough_22 (fun H locs hP hD hS => ?_)
  have hP : va_P (mG md) classes (MW md (ms_bad σ17 0)) H := hP
  have hD : va_D A (MW md (ms_bad σ17 0)) := hD
  have hE := hE _ rfl
  generalize (ms_bad σ17 0 : MPS) = σ22 at hP hD hE
  refine lv_aload_n hx hb d_M_lookThrough_25 rfl (lv_at hl 0 rfl) ?_
  refine ro_V (b0 := (mA md 0)) (As := []) (rest := []) ⟨hx, hb, hml, hown, hta⟩ (c_M_isDeclared l md σ22   _ hE) ok_M_195 ⟨Nat.le_of_ble_eq_true rfl, Nat.le_of_ble_eq_true rfl⟩ blind_rM (va_recv hK hP (ci := 7) (q0 := 0) rfl rfl) (rM_of hP hK) rfl hl.1 rfl (Nat.le_of_ble_eq_true rfl) d_M_lookThrough_26 ⟨Nat.zero_le _, Nat.zero_le _⟩ (fun r26 hE => ?_)
  refine lv_if_eq (tgt := 41) hx hb d_M_lookThrough_29 (by decide) (fun cc29 => ?_) (fun cc29 => ?_)
  · have hE := hE.1 cc29
    exact J41  σ22 _ _ hP hD hS _ (lv_sub hl [0] rfl) hE
  · have hE := hE.2 cc29
    refine lv_aload_n hx hb d_M_lookThrough_32 rfl (lv_at hl 0 rfl) ?_
    refine lv_aload_n hx hb d_M_lookThrough_33 rfl (lv_at hl 0 rfl) ?_
    refine va_get (D := (mG md)) (ci := 7) (v := .ref (mA md 5)) (C := R_M) (T := F_M) (N := 37) hx hb hta i_M hown hK hP 0 rfl rfl 5 (by decide) (hta _ fl_M_22) (fun _ h9 => h9) rfl d_M_lookThrough_34 ?_
    refine va_alen (D := (mG md)) (v := nI 38) hx hb hK hP 5 1 rfl rfl rfl d_M_lookThrough_37 ?_
    refine va_put (D := (mG md)) (ci := 7) (v := .int (nI 38)) (ty := .int) (C := R_M) (T := F_M) (N := 37) hx hb hta i_M t_M t_M_ok n_M hown hK hP hD hS 0 rfl rfl 13 (by decide) (hta _ fl_M_101) (fun _ h9 => h9) rfl (by decide +kernel) rfl rfl (Nat.le_of_ble_eq_true rfl) d_M_lookThrough_38 (fun H locs hP hD hS => ?_)
    have hP : va_P (mG md) classes (MW md (ms_at σ22 (nI 38))) H := hP
    have hD : va_D A (MW md (ms_at σ22 (nI 38))) := hD
    have hE := hE _ rfl
    generalize (ms_at σ22 (nI 38) : MPS) = σ38 at hP hD hE
    exact J41  σ38 _ _ hP hD hS _ (lv_sub hl [0] rfl) hE
theorem fl_M_208 : Cond.fieldLink "PlainPagesModel" 208 "PlainPagesModel" "fault" "I" ∈ aW := aW_in 913 (by decide +kernel) rfl
theorem fl_M_25 : Cond.fieldLink "PlainPagesModel" 25 "PlainPagesModel" "faultAt" "I" ∈ aW := aW_in 914 (by decide +kernel) rfl
theorem d_M_tell_0 : decode b_M_tell 0 = .ok (.aload_n 0, 1) := by decide +kernel
theorem d_M_tell_1 : decode b_M_tell 1 = .ok (.iload_n 1, 1) := by decide +kernel
theorem d_M_tell_2 : decode b_M_tell 2 = .ok (.putfield 208, 3) := by decide +kernel
theorem d_M_tell_5 : decode b_M_tell 5 = .ok (.aload_n 0, 1) := by decide +kernel
theorem d_M_tell_6 : decode b_M_tell 6 = .ok (.iload_n 2, 1) := by decide +kernel
theorem d_M_tell_7 : decode b_M_tell 7 = .ok (.putfield 25, 3) := by decide +kernel
theorem d_M_tell_10 : decode b_M_tell 10 = .ok (.return_, 1) := by decide +kernel
def w_M_tell  (σ : MPS) (x0 : Int32) (x1 : Int32) (post : MPS → Prop) : Prop := (∀ σ2 : MPS, σ2 = ms_fault σ x0 → (∀ σ7 : MPS, σ7 = ms_faultAt σ2 x1 → post σ7))
set_option maxHeartbeats 4000000 in
set_option maxRecDepth 100000 in
theorem c_M_tell (l : Launch) (md : MD) (sz : Nat) (σ : MPS) (x0 : Int32) (x1 : Int32)  (post : MPS → Prop) (hE : w_M_tell σ x0 x1 post) : Met l y_M_tell ws_M_tell { frames := 0, cells := 0, slots := 0, locals := 0 } (va_Pc [.ref (mA md 0), .int x0, .int x1] (gM md σ sz)) (va_Qv post (eM md (va_A (MW md σ) sz)) (va_A (MW md σ) sz)) 0 0 (va_A (MW md σ) sz) := by
  refine Met.ofW (cc := b_M_tell) (maxL := 3) (ret := none) (by decide) rfl ?_
  intro p e s m args below meth c s₁ B hml hv
  obtain ⟨rfl, hsz, hP, hK, hD0⟩ := hv
  have hx := B.exec
  have hb := B.bytes
  have hr := B.returns
  have hta : ∀ w ∈ aW, w.before _ s = true := fun w h => atoms_spec (ws := ws_M_tell) B.pre w (List.mem_cons_of_mem _ h)
  have hown : s.vm.findClass R_M = some m.cls := findClass_of_methodNamed B.named
  have hlocks := B.notSynchronized
  subst hsz
  have hD := hD0.self (sz := s.heap.size)
  generalize hAe : va_A (MW md σ) s.heap.size = A at hD ⊢
  have hA : ∀ q : Nat, s.heap.size ≤ q → A q := fun q h => by rw [← hAe]; exact Or.inr h
  have hS : va_S A s.heap s.heap [] := va_S.rf
  have hP : va_P (mG md) classes (MW md σ) s.heap := hP
  have hl := lv_entry ([.ref (mA md 0), .int x0, .int x1]) (n := 3) (Nat.le_of_ble_eq_true rfl)
  rw [lg_entry_eq]
  generalize (lg_sl ([.ref (mA md 0), .int x0, .int x1]) ++ List.replicate (3 - (lg_sl ([.ref (mA md 0), .int x0, .int x1])).length) Slot.unset).toArray = ls at hl ⊢
  have hl : lv_has ls 3 [(0, .ref (mA md 0)), (1, .int x0), (2, .int x1)] := hl
  unfold w_M_tell at hE
  refine lv_aload_n hx hb d_M_tell_0 rfl (lv_at hl 0 rfl) ?_
  refine lv_iload_n hx hb d_M_tell_1 rfl (lv_at hl 1 rfl) ?_
  refine va_put (D := (mG md)) (ci := 7) (v := .int x0) (ty := .int) (C := R_M) (T := F_M) (N := 37) hx hb hta i_M t_M t_M_ok n_M hown hK hP hD hS 0 rfl rfl 9 (by decide) (hta _ fl_M_208) (fun _ h9 => h9) rfl (by decide +kernel) rfl rfl (Nat.le_of_ble_eq_true rfl) d_M_tell_2 (fun H locs hP hD hS => ?_)
  have hP : va_P (mG md) classes (MW md (ms_fault σ x0)) H := hP
  have hD : va_D A (MW md (ms_fault σ x0)) := hD
  have hE := hE _ rfl
  generalize (ms_fault σ x0 : MPS) = σ2 at hP hD hE
  refine lv_aload_n hx hb d_M_tell_5 rfl (lv_at hl 0 rfl) ?_
  refine lv_iload_n hx hb d_M_tell_6 rfl (lv_at hl 2 rfl) ?_
  refine va_put (D := (mG md)) (ci := 7) (v := .int x1) (ty := .int) (C := R_M) (T := F_M) (N := 37) hx hb hta i_M t_M t_M_ok n_M hown hK hP hD hS 0 rfl rfl 10 (by decide) (hta _ fl_M_25) (fun _ h9 => h9) rfl (by decide +kernel) rfl rfl (Nat.le_of_ble_eq_true rfl) d_M_tell_7 (fun H locs hP hD hS => ?_)
  have hP : va_P (mG md) classes (MW md (ms_faultAt σ2 x1)) H := hP
  have hD : va_D A (MW md (ms_faultAt σ2 x1)) := hD
  have hE := hE _ rfl
  generalize (ms_faultAt σ2 x1 : MPS) = σ7 at hP hD hE
  exact W.vret hx hb hr (fun t ht hW => ⟨⟨σ7, rfl, hE, by rw [ht]; exact hP, va_K.moved hW.alike hK, hD⟩, hS.F ht⟩) hS.2.2 d_M_tell_10
theorem ok_M_211 : okV "PlainPagesModel" 211 R_M y_M_lookThrough b_M_lookThrough 1 none 0 := ⟨aW_in 1037 (by decide +kernel) rfl, aW_in 1039 (by decide +kernel) rfl, aW_in 40 (by decide +kernel) rfl, aW_in 92 (by decide +kernel) rfl, cd_M_lookThrough, rfl, by decide +kernel, by decide +kernel, by decide +kernel⟩
theorem ok_M_217 : okV "PlainPagesModel" 217 R_M y_M_tell b_M_tell 3 none 2 := ⟨aW_in 1139 (by decide +kernel) rfl, aW_in 1141 (by decide +kernel) rfl, aW_in 58 (by decide +kernel) rfl, aW_in 92 (by decide +kernel) rfl, cd_M_tell, rfl, by decide +kernel, by decide +kernel, by decide +kernel⟩
theorem d_M_read_0 : decode b_M_read 0 = .ok (.iconst 0, 1) := by decide +kernel
theorem d_M_read_1 : decode b_M_read 1 = .ok (.istore_n 1, 1) := by decide +kernel
theorem d_M_read_2 : decode b_M_read 2 = .ok (.iload_n 1, 1) := by decide +kernel
theorem d_M_read_3 : decode b_M_read 3 = .ok (.aload_n 0, 1) := by decide +kernel
theorem d_M_read_4 : decode b_M_read 4 = .ok (.getfield 73, 3) := by decide +kernel
theorem d_M_read_7 : decode b_M_read 7 = .ok (.if_icmp .ge 21, 3) := by decide +kernel
theorem d_M_read_10 : decode b_M_read 10 = .ok (.aload_n 0, 1) := by decide +kernel
theorem d_M_read_11 : decode b_M_read 11 = .ok (.getfield 13, 3) := by decide +kernel
theorem d_M_read_14 : decode b_M_read 14 = .ok (.iload_n 1, 1) := by decide +kernel
theorem d_M_read_15 : decode b_M_read 15 = .ok (.aload_n 0, 1) := by decide +kernel
theorem d_M_read_16 : decode b_M_read 16 = .ok (.getfield 7, 3) := by decide +kernel
theorem d_M_read_19 : decode b_M_read 19 = .ok (.iload_n 1, 1) := by decide +kernel
theorem d_M_read_20 : decode b_M_read 20 = .ok (.baload, 1) := by decide +kernel
theorem d_M_read_21 : decode b_M_read 21 = .ok (.bastore, 1) := by decide +kernel
theorem d_M_read_22 : decode b_M_read 22 = .ok (.iinc 1 1, 3) := by decide +kernel
theorem d_M_read_25 : decode b_M_read 25 = .ok (.goto (-23), 3) := by decide +kernel
theorem d_M_read_28 : decode b_M_read 28 = .ok (.aload_n 0, 1) := by decide +kernel
theorem d_M_read_29 : decode b_M_read 29 = .ok (.aload_n 0, 1) := by decide +kernel
theorem d_M_read_30 : decode b_M_read 30 = .ok (.getfield 73, 3) := by decide +kernel
theorem d_M_read_33 : decode b_M_read 33 = .ok (.putfield 92, 3) := by decide +kernel
theorem d_M_read_36 : decode b_M_read 36 = .ok (.aload_n 0, 1) := by decide +kernel
theorem d_M_read_37 : decode b_M_read 37 = .ok (.invokevirtual 211, 3) := by decide +kernel
theorem d_M_read_40 : decode b_M_read 40 = .ok (.aload_n 0, 1) := by decide +kernel
theorem d_M_read_41 : decode b_M_read 41 = .ok (.aload_n 0, 1) := by decide +kernel
theorem d_M_read_42 : decode b_M_read 42 = .ok (.getfield 111, 3) := by decide +kernel
theorem d_M_read_45 : decode b_M_read 45 = .ok (.ifCond .ne 7, 3) := by decide +kernel
theorem d_M_read_48 : decode b_M_read 48 = .ok (.iconst 1, 1) := by decide +kernel
theorem d_M_read_49 : decode b_M_read 49 = .ok (.goto 4, 3) := by decide +kernel
theorem d_M_read_52 : decode b_M_read 52 = .ok (.iconst 0, 1) := by decide +kernel
theorem d_M_read_53 : decode b_M_read 53 = .ok (.putfield 214, 3) := by decide +kernel
theorem d_M_read_56 : decode b_M_read 56 = .ok (.aload_n 0, 1) := by decide +kernel
theorem d_M_read_57 : decode b_M_read 57 = .ok (.aload_n 0, 1) := by decide +kernel
theorem d_M_read_58 : decode b_M_read 58 = .ok (.getfield 111, 3) := by decide +kernel
theorem d_M_read_61 : decode b_M_read 61 = .ok (.ifCond .eq 7, 3) := by decide +kernel
theorem d_M_read_64 : decode b_M_read 64 = .ok (.iconst 1, 1) := by decide +kernel
theorem d_M_read_65 : decode b_M_read 65 = .ok (.goto 4, 3) := by decide +kernel
theorem d_M_read_68 : decode b_M_read 68 = .ok (.iconst 0, 1) := by decide +kernel
theorem d_M_read_69 : decode b_M_read 69 = .ok (.aload_n 0, 1) := by decide +kernel
theorem d_M_read_70 : decode b_M_read 70 = .ok (.getfield 111, 3) := by decide +kernel
theorem d_M_read_73 : decode b_M_read 73 = .ok (.ifCond .eq 10, 3) := by decide +kernel
theorem d_M_read_76 : decode b_M_read 76 = .ok (.aload_n 0, 1) := by decide +kernel
theorem d_M_read_77 : decode b_M_read 77 = .ok (.getfield 101, 3) := by decide +kernel
theorem d_M_read_80 : decode b_M_read 80 = .ok (.goto 4, 3) := by decide +kernel
theorem d_M_read_83 : decode b_M_read 83 = .ok (.iconst (-1), 1) := by decide +kernel
theorem d_M_read_84 : decode b_M_read 84 = .ok (.invokevirtual 217, 3) := by decide +kernel
theorem d_M_read_87 : decode b_M_read 87 = .ok (.aload_n 0, 1) := by decide +kernel
theorem d_M_read_88 : decode b_M_read 88 = .ok (.aload_n 0, 1) := by decide +kernel
theorem d_M_read_89 : decode b_M_read 89 = .ok (.getfield 111, 3) := by decide +kernel
theorem d_M_read_92 : decode b_M_read 92 = .ok (.ifCond .eq 7, 3) := by decide +kernel
theorem d_M_read_95 : decode b_M_read 95 = .ok (.iconst 1, 1) := by decide +kernel
theorem d_M_read_96 : decode b_M_read 96 = .ok (.goto 4, 3) := by decide +kernel
theorem d_M_read_99 : decode b_M_read 99 = .ok (.iconst 0, 1) := by decide +kernel
theorem d_M_read_100 : decode b_M_read 100 = .ok (.putfield 70, 3) := by decide +kernel
theorem d_M_read_103 : decode b_M_read 103 = .ok (.aload_n 0, 1) := by decide +kernel
theorem d_M_read_104 : decode b_M_read 104 = .ok (.getfield 111, 3) := by decide +kernel
theorem d_M_read_107 : decode b_M_read 107 = .ok (.ifCond .eq 7, 3) := by decide +kernel
theorem d_M_read_110 : decode b_M_read 110 = .ok (.iconst 0, 1) := by decide +kernel
theorem d_M_read_111 : decode b_M_read 111 = .ok (.goto 7, 3) := by decide +kernel
theorem d_M_read_114 : decode b_M_read 114 = .ok (.aload_n 0, 1) := by decide +kernel
theorem d_M_read_115 : decode b_M_read 115 = .ok (.getfield 175, 3) := by decide +kernel
theorem d_M_read_118 : decode b_M_read 118 = .ok (.ireturn, 1) := by decide +kernel
def w_M_read_J100   (post : Int32 → MPS → Prop) (t0 : Int32) (σ : MPS) : Prop := (∀ σ100 : MPS, σ100 = ms_thrown σ t0 → (((mp_bad σ100) = 0 → post (mp_nodes σ100) σ100) ∧ (¬ (mp_bad σ100) = 0 → post 0 σ100)))
def w_M_read_J84   (post : Int32 → MPS → Prop) (t0 : Int32) (t1 : Int32) (σ : MPS) : Prop := w_M_tell σ t1 t0 (fun σ84 => (((mp_bad σ84) = 0 → w_M_read_J100 post 0 σ84) ∧ (¬ (mp_bad σ84) = 0 → w_M_read_J100 post 1 σ84)))
def w_M_read_J69   (post : Int32 → MPS → Prop) (t0 : Int32) (σ : MPS) : Prop := (((mp_bad σ) = 0 → w_M_read_J84 post (-1) t0 σ) ∧ (¬ (mp_bad σ) = 0 → w_M_read_J84 post (mp_at σ) t0 σ))
def w_M_read_J53   (post : Int32 → MPS → Prop) (t0 : Int32) (σ : MPS) : Prop := (isZ t0 ∧ (∀ σ53 : MPS, σ53 = ms_known σ t0 → (((mp_bad σ53) = 0 → w_M_read_J69 post 0 σ53) ∧ (¬ (mp_bad σ53) = 0 → w_M_read_J69 post 1 σ53))))
def w_M_read_L2   (post : Int32 → MPS → Prop) : Nat → Int32 → MPS → Prop
  | 0, _, _ => False
  | n + 1, v1, σ => (((mp_taped σ) ≤ v1 → (∀ σ33 : MPS, σ33 = ms_size σ (mp_taped σ) → w_M_lookThrough σ33  (fun σ37 => (((mp_bad σ37) = 0 → w_M_read_J53 post 1 σ37) ∧ (¬ (mp_bad σ37) = 0 → w_M_read_J53 post 0 σ37))))) ∧ (¬ (mp_taped σ) ≤ v1 → (vp_in v1 4000 ∧ (vp_in v1 4000 ∧ (∀ σ21 : MPS, σ21 = ms_text σ (upd (mp_text σ) v1.toNatClampNeg (vp_nar .byte ((mp_tape σ) v1.toNatClampNeg))) → w_M_read_L2 post n (v1 + 1) σ21)))))
def w_M_read  (σ : MPS)  (post : Int32 → MPS → Prop) : Prop := (∃ n, w_M_read_L2 post n 0 σ)
set_option maxHeartbeats 4000000 in
set_option maxRecDepth 100000 in
theorem c_M_read (l : Launch) (md : MD) (sz : Nat) (σ : MPS)   (post : Int32 → MPS → Prop) (hE : w_M_read σ post) : Met l y_M_read ws_M_read { frames := 7, cells := 0, slots := 0, locals := 160 } (va_Pc [.ref (mA md 0)] (gM md σ sz)) (va_Qi post (eM md (va_A (MW md σ) sz)) (va_A (MW md σ) sz)) 0 0 (va_A (MW md σ) sz) := by
  refine Met.ofW (cc := b_M_read) (maxL := 2) (ret := (some .int)) (by decide) rfl ?_
  intro p e s m args below meth c s₁ B hml hv
  obtain ⟨rfl, hsz, hP, hK, hD0⟩ := hv
  have hx := B.exec
  have hb := B.bytes
  have hr := B.returns
  have hta : ∀ w ∈ aW, w.before _ s = true := fun w h => atoms_spec (ws := ws_M_read) B.pre w (List.mem_cons_of_mem _ h)
  have hown : s.vm.findClass R_M = some m.cls := findClass_of_methodNamed B.named
  have hlocks := B.notSynchronized
  subst hsz
  have hD := hD0.self (sz := s.heap.size)
  generalize hAe : va_A (MW md σ) s.heap.size = A at hD ⊢
  have hA : ∀ q : Nat, s.heap.size ≤ q → A q := fun q h => by rw [← hAe]; exact Or.inr h
  have hS : va_S A s.heap s.heap [] := va_S.rf
  have hP : va_P (mG md) classes (MW md σ) s.heap := hP
  have hl := lv_entry ([.ref (mA md 0)]) (n := 2) (Nat.le_of_ble_eq_true rfl)
  rw [lg_entry_eq]
  generalize (lg_sl ([.ref (mA md 0)]) ++ List.replicate (2 - (lg_sl ([.ref (mA md 0)])).length) Slot.unset).toArray = ls at hl ⊢
  have hl : lv_has ls 2 [(0, .ref (mA md 0))] := hl
  have J100 : ∀ (t0 : Int32) (σ : MPS) (H : Heap) (locs : List Loc) (hP : va_P (mG md) classes (MW md σ) H) (hD : va_D A (MW md σ)) (hS : va_S A s.heap H locs) (ls : Array Slot) (hl : lv_has ls 2 [(0, .ref (mA md 0))]) (hE : w_M_read_J100 post t0 σ), W p l e (headSpec ws_M_read { frames := 7, cells := 0, slots := 0, locals := 160 }).room s m ([.ref (mA md 0)] : List Value).toArray below meth c H locs 0 0 (MQ below (va_Qi post (eM md A) A) ([.ref (mA md 0)] : List Value).toArray s 0 0 A) (F0 m 100 ls [.int t0, .ref (mA md 0)]) := by
    intro  t0 σ H locs hP hD hS ls hl hE
    unfold w_M_read_J100 at hE
    refine va_put (D := (mG md)) (ci := 7) (v := .int t0) (ty := .int) (C := R_M) (T := F_M) (N := 37) hx hb hta i_M t_M t_M_ok n_M hown hK hP hD hS 0 rfl rfl 0 (by decide) (hta _ fl_M_70) (fun _ h9 => h9) rfl (by decide +kernel) rfl rfl (Nat.le_of_ble_eq_true rfl) d_M_read_100 (fun H locs hP hD hS => ?_)
    have hP : va_P (mG md) classes (MW md (ms_thrown σ t0)) H := hP
    have hD : va_D A (MW md (ms_thrown σ t0)) := hD
    have hE := hE _ rfl
    generalize (ms_thrown σ t0 : MPS) = σ100 at hP hD hE
    refine lv_aload_n hx hb d_M_read_103 rfl (lv_at hl 0 rfl) ?_
    refine va_get (D := (mG md)) (ci := 7) (v := .int (mp_bad σ100)) (C := R_M) (T := F_M) (N := 37) hx hb hta i_M hown hK hP 0 rfl rfl 16 (by decide) (hta _ fl_M_111) (fun _ h9 => h9) rfl d_M_read_104 ?_
    refine lv_if_eq (tgt := 114) hx hb d_M_read_107 (by decide) (fun cc107 => ?_) (fun cc107 => ?_)
    · have hE := hE.1 cc107
      refine lv_aload_n hx hb d_M_read_114 rfl (lv_at hl 0 rfl) ?_
      refine va_get (D := (mG md)) (ci := 7) (v := .int (mp_nodes σ100)) (C := R_M) (T := F_M) (N := 37) hx hb hta i_M hown hK hP 0 rfl rfl 32 (by decide) (hta _ fl_M_175) (fun _ h9 => h9) rfl d_M_read_115 ?_
      exact W.iret (v := mp_nodes σ100) hx hb hr (fun t ht hW => ⟨⟨_, σ100, rfl, hE, by rw [ht]; exact hP, va_K.moved hW.alike hK, hD⟩, hS.F ht⟩) hS.2.2 d_M_read_118
    · have hE := hE.2 cc107
      refine lv_iconst (v := 0) hx hb d_M_read_110 (by decide) ?_
      refine lv_goto (tgt := 118) hx hb d_M_read_111 (by decide) ?_
      exact W.iret (v := 0) hx hb hr (fun t ht hW => ⟨⟨_, σ100, rfl, hE, by rw [ht]; exact hP, va_K.moved hW.alike hK, hD⟩, hS.F ht⟩) hS.2.2 d_M_read_118
  have J84 : ∀ (t0 : Int32) (t1 : Int32) (σ : MPS) (H : Heap) (locs : List Loc) (hP : va_P (mG md) classes (MW md σ) H) (hD : va_D A (MW md σ)) (hS : va_S A s.heap H locs) (ls : Array Slot) (hl : lv_has ls 2 [(0, .ref (mA md 0))]) (hE : w_M_read_J84 post t0 t1 σ), W p l e (headSpec ws_M_read { frames := 7, cells := 0, slots := 0, locals := 160 }).room s m ([.ref (mA md 0)] : List Value).toArray below meth c H locs 0 0 (MQ below (va_Qi post (eM md A) A) ([.ref (mA md 0)] : List Value).toArray s 0 0 A) (F0 m 84 ls [.int t0, .int t1, .ref (mA md 0)]) := by
    intro  t0 t1 σ H locs hP hD hS ls hl hE
    unfold w_M_read_J84 at hE
    refine mm_v (b0 := (mA md 0)) (As := [.int t1, .int t0]) (rest := []) ⟨hx, hb, hml, hown, hta⟩ (c_M_tell l md _ σ t1 t0 _ hE) ok_M_217 ⟨Nat.le_of_ble_eq_true rfl, Nat.le_of_ble_eq_true rfl⟩ (va_recv hK hP (ci := 7) (q0 := 0) rfl rfl) hP hK hD hS hA rfl hl.1 rfl (Nat.le_of_ble_eq_true rfl) d_M_read_84 ⟨Nat.zero_le _, Nat.zero_le _⟩ (fun σ84 H locs hE hP hD hS => ?_)
    refine lv_aload_n hx hb d_M_read_87 rfl (lv_at hl 0 rfl) ?_
    refine lv_aload_n hx hb d_M_read_88 rfl (lv_at hl 0 rfl) ?_
    refine va_get (D := (mG md)) (ci := 7) (v := .int (mp_bad σ84)) (C := R_M) (T := F_M) (N := 37) hx hb hta i_M hown hK hP 0 rfl rfl 16 (by decide) (hta _ fl_M_111) (fun _ h9 => h9) rfl d_M_read_89 ?_
    refine lv_if_eq (tgt := 99) hx hb d_M_read_92 (by decide) (fun cc92 => ?_) (fun cc92 => ?_)
    · have hE := hE.1 cc92
      refine lv_iconst (v := 0) hx hb d_M_read_99 (by decide) ?_
      exact J100  0 σ84 _ _ hP hD hS _ (lv_sub hl [0] rfl) hE
    · have hE := hE.2 cc92
      refine lv_iconst (v := 1) hx hb d_M_read_95 (by decide) ?_
      refine lv_goto (tgt := 100) hx hb d_M_read_96 (by decide) ?_
      exact J100  1 σ84 _ _ hP hD hS _ (lv_sub hl [0] rfl) hE
  have J69 : ∀ (t0 : Int32) (σ : MPS) (H : Heap) (locs : List Loc) (hP : va_P (mG md) classes (MW md σ) H) (hD : va_D A (MW md σ)) (hS : va_S A s.heap H locs) (ls : Array Slot) (hl : lv_has ls 2 [(0, .ref (mA md 0))]) (hE : w_M_read_J69 post t0 σ), W p l e (headSpec ws_M_read { frames := 7, cells := 0, slots := 0, locals := 160 }).room s m ([.ref (mA md 0)] : List Value).toArray below meth c H locs 0 0 (MQ below (va_Qi post (eM md A) A) ([.ref (mA md 0)] : List Value).toArray s 0 0 A) (F0 m 69 ls [.int t0, .ref (mA md 0)]) := by
    intro  t0 σ H locs hP hD hS ls hl hE
    unfold w_M_read_J69 at hE
    refine lv_aload_n hx hb d_M_read_69 rfl (lv_at hl 0 rfl) ?_
    refine va_get (D := (mG md)) (ci := 7) (v := .int (mp_bad σ)) (C := R_M) (T := F_M) (N := 37) hx hb hta i_M hown hK hP 0 rfl rfl 16 (by decide) (hta _ fl_M_111) (fun _ h9 => h9) rfl d_M_read_70 ?_
    refine lv_if_eq (tgt := 83) hx hb d_M_read_73 (by decide) (fun cc73 => ?_) (fun cc73 => ?_)
    · have hE := hE.1 cc73
      refine lv_iconst (v := -1) hx hb d_M_read_83 (by decide) ?_
      exact J84  (-1) t0 σ _ _ hP hD hS _ (lv_sub hl [0] rfl) hE
    · have hE := hE.2 cc73
      refine lv_aload_n hx hb d_M_read_76 rfl (lv_at hl 0 rfl) ?_
      refine va_get (D := (mG md)) (ci := 7) (v := .int (mp_at σ)) (C := R_M) (T := F_M) (N := 37) hx hb hta i_M hown hK hP 0 rfl rfl 13 (by decide) (hta _ fl_M_101) (fun _ h9 => h9) rfl d_M_read_77 ?_
      refine lv_goto (tgt := 84) hx hb d_M_read_80 (by decide) ?_
      exact J84  (mp_at σ) t0 σ _ _ hP hD hS _ (lv_sub hl [0] rfl) hE
  have J53 : ∀ (t0 : Int32) (σ : MPS) (H : Heap) (locs : List Loc) (hP : va_P (mG md) classes (MW md σ) H) (hD : va_D A (MW md σ)) (hS : va_S A s.heap H locs) (ls : Array Slot) (hl : lv_has ls 2 [(0, .ref (mA md 0))]) (hE : w_M_read_J53 post t0 σ), W p l e (headSpec ws_M_read { frames := 7, cells := 0, slots := 0, locals := 160 }).room s m ([.ref (mA md 0)] : List Value).toArray below meth c H locs 0 0 (MQ below (va_Qi post (eM md A) A) ([.ref (mA md 0)] : List Value).toArray s 0 0 A) (F0 m 53 ls [.int t0, .ref (mA md 0)]) := by
    intro  t0 σ H locs hP hD hS ls hl hE
    unfold w_M_read_J53 at hE
    obtain ⟨hz, hE⟩ := hE
    refine va_put (D := (mG md)) (ci := 7) (v := .int t0) (ty := .boolean) (C := R_M) (T := F_M) (N := 37) hx hb hta i_M t_M t_M_ok n_M hown hK hP hD hS 0 rfl rfl 11 (by decide) (hta _ fl_M_214) (fun _ h9 => h9) rfl (by decide +kernel) (isZ_n hz) (isZ_f hz) (Nat.le_of_ble_eq_true rfl) d_M_read_53 (fun H locs hP hD hS => ?_)
    have hP : va_P (mG md) classes (MW md (ms_known σ t0)) H := hP
    have hD : va_D A (MW md (ms_known σ t0)) := hD
    have hE := hE _ rfl
    generalize (ms_known σ t0 : MPS) = σ53 at hP hD hE
    refine lv_aload_n hx hb d_M_read_56 rfl (lv_at hl 0 rfl) ?_
    refine lv_aload_n hx hb d_M_read_57 rfl (lv_at hl 0 rfl) ?_
    refine va_get (D := (mG md)) (ci := 7) (v := .int (mp_bad σ53)) (C := R_M) (T := F_M) (N := 37) hx hb hta i_M hown hK hP 0 rfl rfl 16 (by decide) (hta _ fl_M_111) (fun _ h9 => h9) rfl d_M_read_58 ?_
    refine lv_if_eq (tgt := 68) hx hb d_M_read_61 (by decide) (fun cc61 => ?_) (fun cc61 => ?_)
    · have hE := hE.1 cc61
      refine lv_iconst (v := 0) hx hb d_M_read_68 (by decide) ?_
      exact J69  0 σ53 _ _ hP hD hS _ (lv_sub hl [0] rfl) hE
    · have hE := hE.2 cc61
      refine lv_iconst (v := 1) hx hb d_M_read_64 (by decide) ?_
      refine lv_goto (tgt := 69) hx hb d_M_read_65 (by decide) ?_
      exact J69  1 σ53 _ _ hP hD hS _ (lv_sub hl [0] rfl) hE
  have L2 : ∀ (n : Nat) (v1 : Int32) (σ : MPS) (H : Heap) (locs : List Loc) (hP : va_P (mG md) classes (MW md σ) H) (hD : va_D A (MW md σ)) (hS : va_S A s.heap H locs) (ls : Array Slot) (hl : lv_has ls 2 [(0, .ref (mA md 0)), (1, .int v1)]) (hE : w_M_read_L2 post n v1 σ), W p l e (headSpec ws_M_read { frames := 7, cells := 0, slots := 0, locals := 160 }).room s m ([.ref (mA md 0)] : List Value).toArray below meth c H locs 0 0 (MQ below (va_Qi post (eM md A) A) ([.ref (mA md 0)] : List Value).toArray s 0 0 A) (F0 m 2 ls []) := by
    intro n
    induction n with
    | zero => intro v1 σ H locs hP hD hS ls hl hE; exact hE.elim
    | succ n ih2 =>
      intro v1 σ H locs hP hD hS ls hl hE
      unfold w_M_read_L2 at hE
      refine lv_iload_n hx hb d_M_read_2 rfl (lv_at hl 1 rfl) ?_
      refine lv_aload_n hx hb d_M_read_3 rfl (lv_at hl 0 rfl) ?_
      refine va_get (D := (mG md)) (ci := 7) (v := .int (mp_taped σ)) (C := R_M) (T := F_M) (N := 37) hx hb hta i_M hown hK hP 0 rfl rfl 6 (by decide) (hta _ fl_M_73) (fun _ h9 => h9) rfl d_M_read_4 ?_
      refine lv_icmp_ge (tgt := 28) hx hb d_M_read_7 (by decide) (fun cc7 => ?_) (fun cc7 => ?_)
      · have hE := hE.1 cc7
        refine lv_aload_n hx hb d_M_read_28 rfl (lv_at hl 0 rfl) ?_
        refine lv_aload_n hx hb d_M_read_29 rfl (lv_at hl 0 rfl) ?_
        refine va_get (D := (mG md)) (ci := 7) (v := .int (mp_taped σ)) (C := R_M) (T := F_M) (N := 37) hx hb hta i_M hown hK hP 0 rfl rfl 6 (by decide) (hta _ fl_M_73) (fun _ h9 => h9) rfl d_M_read_30 ?_
        refine va_put (D := (mG md)) (ci := 7) (v := .int (mp_taped σ)) (ty := .int) (C := R_M) (T := F_M) (N := 37) hx hb hta i_M t_M t_M_ok n_M hown hK hP hD hS 0 rfl rfl 7 (by decide) (hta _ fl_M_92) (fun _ h9 => h9) rfl (by decide +kernel) rfl rfl (Nat.le_of_ble_eq_true rfl) d_M_read_33 (fun H locs hP hD hS => ?_)
        have hP : va_P (mG md) classes (MW md (ms_size σ (mp_taped σ))) H := hP
        have hD : va_D A (MW md (ms_size σ (mp_taped σ))) := hD
        have hE := hE _ rfl
        generalize (ms_size σ (mp_taped σ) : MPS) = σ33 at hP hD hE
        refine lv_aload_n hx hb d_M_read_36 rfl (lv_at hl 0 rfl) ?_
        refine mm_v (b0 := (mA md 0)) (As := []) (rest := []) ⟨hx, hb, hml, hown, hta⟩ (c_M_lookThrough l md _ σ33  _ hE) ok_M_211 ⟨Nat.le_of_ble_eq_true rfl, Nat.le_of_ble_eq_true rfl⟩ (va_recv hK hP (ci := 7) (q0 := 0) rfl rfl) hP hK hD hS hA rfl hl.1 rfl (Nat.le_of_ble_eq_true rfl) d_M_read_37 ⟨Nat.zero_le _, Nat.zero_le _⟩ (fun σ37 H locs hE hP hD hS => ?_)
        refine lv_aload_n hx hb d_M_read_40 rfl (lv_at hl 0 rfl) ?_
        refine lv_aload_n hx hb d_M_read_41 rfl (lv_at hl 0 rfl) ?_
        refine va_get (D := (mG md)) (ci := 7) (v := .int (mp_bad σ37)) (C := R_M) (T := F_M) (N := 37) hx hb hta i_M hown hK hP 0 rfl rfl 16 (by decide) (hta _ fl_M_111) (fun _ h9 => h9) rfl d_M_read_42 ?_
        refine lv_if_ne (tgt := 52) hx hb d_M_read_45 (by decide) (fun cc45 => ?_) (fun cc45 => ?_)
        · have hE := hE.2 cc45
          refine lv_iconst (v := 0) hx hb d_M_read_52 (by decide) ?_
          exact J53  0 σ37 _ _ hP hD hS _ (lv_sub hl [0] rfl) hE
        · have hE := hE.1 cc45
          refine lv_iconst (v := 1) hx hb d_M_read_48 (by decide) ?_
          refine lv_goto (tgt := 53) hx hb d_M_read_49 (by decide) ?_
          exact J53  1 σ37 _ _ hP hD hS _ (lv_sub hl [0] rfl) hE
      · have hE := hE.2 cc7
        refine lv_aload_n hx hb d_M_read_10 rfl (lv_at hl 0 rfl) ?_
        refine va_get (D := (mG md)) (ci := 7) (v := .ref (mA md 2)) (C := R_M) (T := F_M) (N := 37) hx hb hta i_M hown hK hP 0 rfl rfl 2 (by decide) (hta _ fl_M_13) (fun _ h9 => h9) rfl d_M_read_11 ?_
        refine lv_iload_n hx hb d_M_read_14 rfl (lv_at hl 1 rfl) ?_
        refine lv_aload_n hx hb d_M_read_15 rfl (lv_at hl 0 rfl) ?_
        refine va_get (D := (mG md)) (ci := 7) (v := .ref (mA md 1)) (C := R_M) (T := F_M) (N := 37) hx hb hta i_M hown hK hP 0 rfl rfl 1 (by decide) (hta _ fl_M_7) (fun _ h9 => h9) rfl d_M_read_16 ?_
        refine lv_iload_n hx hb d_M_read_19 rfl (lv_at hl 1 rfl) ?_
        obtain ⟨hI20, hE⟩ := hE
        refine va_bald (D := (mG md)) (f := mp_tape σ) hx hb hK hP 1 1 rfl rfl hI20 d_M_read_20 ?_
        obtain ⟨hI21, hE⟩ := hE
        refine va_bast (D := (mG md)) (f := mp_text σ) hx hb hK hP hD hS 2 1 rfl rfl hI21 d_M_read_21 (fun H locs hP hD hS => ?_)
        have hP : va_P (mG md) classes (MW md (ms_text σ (upd (mp_text σ) v1.toNatClampNeg (vp_nar .byte ((mp_tape σ) v1.toNatClampNeg))))) H := hP
        have hD : va_D A (MW md (ms_text σ (upd (mp_text σ) v1.toNatClampNeg (vp_nar .byte ((mp_tape σ) v1.toNatClampNeg))))) := hD
        have hE := hE _ rfl
        generalize (ms_text σ (upd (mp_text σ) v1.toNatClampNeg (vp_nar .byte ((mp_tape σ) v1.toNatClampNeg))) : MPS) = σ21 at hP hD hE
        refine lv_iinc (v := v1 + 1) (lv' := [(1, .int (v1 + 1)), (0, .ref (mA md 0))]) hx hb d_M_read_22 hl (k := 1) rfl rfl (by decide) rfl (fun ls hl => ?_)
        refine lv_goto (tgt := 2) hx hb d_M_read_25 (by decide) ?_
        exact ih2 (v1 + 1) σ21 _ _ hP hD hS _ (lv_sub hl [1, 0] rfl) hE
  unfold w_M_read at hE
  refine lv_iconst (v := 0) hx hb d_M_read_0 (by decide) ?_
  refine lv_istore_n (lv' := [(1, .int 0), (0, .ref (mA md 0))]) hx hb d_M_read_1 rfl hl (by decide) rfl (fun ls hl => ?_)
  obtain ⟨n, hE⟩ := hE
  exact L2  n 0 σ _ _ hP hD hS _ (lv_sub hl [1, 0] rfl) hE

theorem d_M_hasAttribute_0 : decode b_M_hasAttribute 0 = .ok (.aload_n 0, 1) := by decide +kernel
theorem d_M_hasAttribute_1 : decode b_M_hasAttribute 1 = .ok (.aload_n 0, 1) := by decide +kernel
theorem d_M_hasAttribute_2 : decode b_M_hasAttribute 2 = .ok (.getfield 40, 3) := by decide +kernel
theorem d_M_hasAttribute_5 : decode b_M_hasAttribute 5 = .ok (.iload_n 1, 1) := by decide +kernel
theorem d_M_hasAttribute_6 : decode b_M_hasAttribute 6 = .ok (.iaload, 1) := by decide +kernel
theorem d_M_hasAttribute_7 : decode b_M_hasAttribute 7 = .ok (.invokevirtual 154, 3) := by decide +kernel
theorem d_M_hasAttribute_10 : decode b_M_hasAttribute 10 = .ok (.istore 5, 2) := by decide +kernel
theorem d_M_hasAttribute_12 : decode b_M_hasAttribute 12 = .ok (.iconst 0, 1) := by decide +kernel
theorem d_M_hasAttribute_13 : decode b_M_hasAttribute 13 = .ok (.istore 6, 2) := by decide +kernel
theorem d_M_hasAttribute_15 : decode b_M_hasAttribute 15 = .ok (.iload 6, 2) := by decide +kernel
theorem d_M_hasAttribute_17 : decode b_M_hasAttribute 17 = .ok (.ifCond .ne 57, 3) := by decide +kernel
theorem d_M_hasAttribute_20 : decode b_M_hasAttribute 20 = .ok (.aload_n 0, 1) := by decide +kernel
theorem d_M_hasAttribute_21 : decode b_M_hasAttribute 21 = .ok (.iload 5, 2) := by decide +kernel
theorem d_M_hasAttribute_23 : decode b_M_hasAttribute 23 = .ok (.aload_n 0, 1) := by decide +kernel
theorem d_M_hasAttribute_24 : decode b_M_hasAttribute 24 = .ok (.getfield 92, 3) := by decide +kernel
theorem d_M_hasAttribute_27 : decode b_M_hasAttribute 27 = .ok (.invokevirtual 157, 3) := by decide +kernel
theorem d_M_hasAttribute_30 : decode b_M_hasAttribute 30 = .ok (.ifCond .eq 44, 3) := by decide +kernel
theorem d_M_hasAttribute_33 : decode b_M_hasAttribute 33 = .ok (.aload_n 0, 1) := by decide +kernel
theorem d_M_hasAttribute_34 : decode b_M_hasAttribute 34 = .ok (.getfield 145, 3) := by decide +kernel
theorem d_M_hasAttribute_37 : decode b_M_hasAttribute 37 = .ok (.iload 4, 2) := by decide +kernel
theorem d_M_hasAttribute_39 : decode b_M_hasAttribute 39 = .ok (.if_icmp .ne 21, 3) := by decide +kernel
theorem d_M_hasAttribute_42 : decode b_M_hasAttribute 42 = .ok (.aload_n 0, 1) := by decide +kernel
theorem d_M_hasAttribute_43 : decode b_M_hasAttribute 43 = .ok (.aload_n 0, 1) := by decide +kernel
theorem d_M_hasAttribute_44 : decode b_M_hasAttribute 44 = .ok (.getfield 142, 3) := by decide +kernel
theorem d_M_hasAttribute_47 : decode b_M_hasAttribute 47 = .ok (.lload_n 2, 1) := by decide +kernel
theorem d_M_hasAttribute_48 : decode b_M_hasAttribute 48 = .ok (.iload 4, 2) := by decide +kernel
theorem d_M_hasAttribute_50 : decode b_M_hasAttribute 50 = .ok (.invokevirtual 124, 3) := by decide +kernel
theorem d_M_hasAttribute_53 : decode b_M_hasAttribute 53 = .ok (.ifCond .eq 7, 3) := by decide +kernel
theorem d_M_hasAttribute_56 : decode b_M_hasAttribute 56 = .ok (.iconst 1, 1) := by decide +kernel
theorem d_M_hasAttribute_57 : decode b_M_hasAttribute 57 = .ok (.goto 4, 3) := by decide +kernel
theorem d_M_hasAttribute_60 : decode b_M_hasAttribute 60 = .ok (.iconst 0, 1) := by decide +kernel
theorem d_M_hasAttribute_61 : decode b_M_hasAttribute 61 = .ok (.istore 6, 2) := by decide +kernel
theorem d_M_hasAttribute_63 : decode b_M_hasAttribute 63 = .ok (.aload_n 0, 1) := by decide +kernel
theorem d_M_hasAttribute_64 : decode b_M_hasAttribute 64 = .ok (.getfield 151, 3) := by decide +kernel
theorem d_M_hasAttribute_67 : decode b_M_hasAttribute 67 = .ok (.iconst 1, 1) := by decide +kernel
theorem d_M_hasAttribute_68 : decode b_M_hasAttribute 68 = .ok (.iadd, 1) := by decide +kernel
theorem d_M_hasAttribute_69 : decode b_M_hasAttribute 69 = .ok (.istore 5, 2) := by decide +kernel
theorem d_M_hasAttribute_71 : decode b_M_hasAttribute 71 = .ok (.goto (-56), 3) := by decide +kernel
theorem d_M_hasAttribute_74 : decode b_M_hasAttribute 74 = .ok (.iload 6, 2) := by decide +kernel
theorem d_M_hasAttribute_76 : decode b_M_hasAttribute 76 = .ok (.ireturn, 1) := by decide +kernel
def w_M_hasAttribute_J61  (v2 : Int64) (v4 : Int32) (K : Int32 → Int32 → MPS → Prop) (post : Int32 → MPS → Prop) (t0 : Int32) (σ : MPS) : Prop := K ((mp_valueEnd σ) + 1) t0 σ
def w_M_hasAttribute_J60  (v2 : Int64) (v4 : Int32) (K : Int32 → Int32 → MPS → Prop) (post : Int32 → MPS → Prop) (σ : MPS) : Prop := w_M_hasAttribute_J61 v2 v4 (K) post 0 σ
def w_M_hasAttribute_L15  (v2 : Int64) (v4 : Int32) (post : Int32 → MPS → Prop) : Nat → Int32 → Int32 → MPS → Prop
  | 0, _, _, _ => False
  | n + 1, v5, v6, σ => ((v6 = 0 → w_M_nextAttribute σ v5 (mp_size σ) (fun r27 σ27 => ((r27 = 0 → (narrow .boolean (.int v6) = .int v6 ∧ post v6 σ27)) ∧ (¬ r27 = 0 → (((mp_nameMany σ27) = v4 → w_M_says σ27 (mp_nameAt σ27) v2 v4 (fun r50 => ((r50 = 0 → w_M_hasAttribute_J60 v2 v4 (w_M_hasAttribute_L15 v2 v4 post n) post σ27) ∧ (¬ r50 = 0 → w_M_hasAttribute_J61 v2 v4 (w_M_hasAttribute_L15 v2 v4 post n) post 1 σ27)))) ∧ (¬ (mp_nameMany σ27) = v4 → w_M_hasAttribute_J60 v2 v4 (w_M_hasAttribute_L15 v2 v4 post n) post σ27)))))) ∧ (¬ v6 = 0 → (narrow .boolean (.int v6) = .int v6 ∧ post v6 σ)))
def w_M_hasAttribute  (σ : MPS) (x0 : Int32) (x1 : Int64) (x2 : Int32) (post : Int32 → MPS → Prop) : Prop := (vp_in x0 1000 ∧ w_M_behindName σ ((mp_begins σ) x0.toNatClampNeg) (fun r7 => (∃ n, w_M_hasAttribute_L15 x1 x2 post n r7 0 σ)))
set_option maxHeartbeats 4000000 in
set_option maxRecDepth 100000 in
theorem c_M_hasAttribute (l : Launch) (md : MD) (sz : Nat) (σ : MPS) (x0 : Int32) (x1 : Int64) (x2 : Int32)  (post : Int32 → MPS → Prop) (hE : w_M_hasAttribute σ x0 x1 x2 post) : Met l y_M_hasAttribute ws_M_hasAttribute { frames := 3, cells := 0, slots := 0, locals := 64 } (va_Pc [.ref (mA md 0), .int x0, .long x1, .int x2] (gM md σ sz)) (va_Qi post (eM md (va_A (MW md σ) sz)) (va_A (MW md σ) sz)) 0 0 (va_A (MW md σ) sz) := by
  refine Met.ofW (cc := b_M_hasAttribute) (maxL := 7) (ret := (some .boolean)) (by decide) rfl ?_
  intro p e s m args below meth c s₁ B hml hv
  obtain ⟨rfl, hsz, hP, hK, hD0⟩ := hv
  have hx := B.exec
  have hb := B.bytes
  have hr := B.returns
  have hta : ∀ w ∈ aW, w.before _ s = true := fun w h => atoms_spec (ws := ws_M_hasAttribute) B.pre w (List.mem_cons_of_mem _ h)
  have hown : s.vm.findClass R_M = some m.cls := findClass_of_methodNamed B.named
  have hlocks := B.notSynchronized
  subst hsz
  have hD := hD0.self (sz := s.heap.size)
  generalize hAe : va_A (MW md σ) s.heap.size = A at hD ⊢
  have hA : ∀ q : Nat, s.heap.size ≤ q → A q := fun q h => by rw [← hAe]; exact Or.inr h
  have hS : va_S A s.heap s.heap [] := va_S.rf
  have hP : va_P (mG md) classes (MW md σ) s.heap := hP
  have hl := lv_entry ([.ref (mA md 0), .int x0, .long x1, .int x2]) (n := 7) (Nat.le_of_ble_eq_true rfl)
  rw [lg_entry_eq]
  generalize (lg_sl ([.ref (mA md 0), .int x0, .long x1, .int x2]) ++ List.replicate (7 - (lg_sl ([.ref (mA md 0), .int x0, .long x1, .int x2])).length) Slot.unset).toArray = ls at hl ⊢
  have hl : lv_has ls 7 [(0, .ref (mA md 0)), (1, .int x0), (2, .long x1), (4, .int x2)] := hl
  have L15 : ∀ (v2 : Int64) (v4 : Int32) (n : Nat) (v5 : Int32) (v6 : Int32) (σ : MPS) (H : Heap) (locs : List Loc) (hP : va_P (mG md) classes (MW md σ) H) (hD : va_D A (MW md σ)) (hS : va_S A s.heap H locs) (ls : Array Slot) (hl : lv_has ls 7 [(0, .ref (mA md 0)), (2, .long v2), (4, .int v4), (5, .int v5), (6, .int v6)]) (hE : w_M_hasAttribute_L15 v2 v4 post n v5 v6 σ), W p l e (headSpec ws_M_hasAttribute { frames := 3, cells := 0, slots := 0, locals := 64 }).room s m ([.ref (mA md 0), .int x0, .long x1, .int x2] : List Value).toArray below meth c H locs 0 0 (MQ below (va_Qi post (eM md A) A) ([.ref (mA md 0), .int x0, .long x1, .int x2] : List Value).toArray s 0 0 A) (F0 m 15 ls []) := by
    intro v2 v4 n
    induction n with
    | zero => intro v5 v6 σ H locs hP hD hS ls hl hE; exact hE.elim
    | succ n ih15 =>
      have J61 : ∀ (t0 : Int32) (σ : MPS) (H : Heap) (locs : List Loc) (hP : va_P (mG md) classes (MW md σ) H) (hD : va_D A (MW md σ)) (hS : va_S A s.heap H locs) (ls : Array Slot) (hl : lv_has ls 7 [(0, .ref (mA md 0)), (2, .long v2), (4, .int v4)]) (hE : w_M_hasAttribute_J61 v2 v4 (w_M_hasAttribute_L15 v2 v4 post n) post t0 σ), W p l e (headSpec ws_M_hasAttribute { frames := 3, cells := 0, slots := 0, locals := 64 }).room s m ([.ref (mA md 0), .int x0, .long x1, .int x2] : List Value).toArray below meth c H locs 0 0 (MQ below (va_Qi post (eM md A) A) ([.ref (mA md 0), .int x0, .long x1, .int x2] : List Value).toArray s 0 0 A) (F0 m 61 ls [.int t0]) := by
        intro  t0 σ H locs hP hD hS ls hl hE
        unfold w_M_hasAttribute_J61 at hE
        refine lv_istore (lv' := [(6, .int t0), (0, .ref (mA md 0)), (2, .long v2), (4, .int v4)]) hx hb d_M_hasAttribute_61 hl (by decide) rfl (fun ls hl => ?_)
        refine lv_aload_n hx hb d_M_hasAttribute_63 rfl (lv_at hl 1 rfl) ?_
        refine va_get (D := (mG md)) (ci := 7) (v := .int (mp_valueEnd σ)) (C := R_M) (T := F_M) (N := 37) hx hb hta i_M hown hK hP 0 rfl rfl 22 (by decide) (hta _ fl_M_151) (fun _ h9 => h9) rfl d_M_hasAttribute_64 ?_
        refine lv_iconst (v := 1) hx hb d_M_hasAttribute_67 (by decide) ?_
        refine lv_iadd hx hb d_M_hasAttribute_68 ?_
        refine lv_istore (lv' := [(5, .int ((mp_valueEnd σ) + 1)), (6, .int t0), (0, .ref (mA md 0)), (2, .long v2), (4, .int v4)]) hx hb d_M_hasAttribute_69 hl (by decide) rfl (fun ls hl => ?_)
        refine lv_goto (tgt := 15) hx hb d_M_hasAttribute_71 (by decide) ?_
        exact ih15 ((mp_valueEnd σ) + 1) t0 σ _ _ hP hD hS _ (lv_sub hl [2, 3, 4, 0, 1] rfl) hE
      have J60 : ∀ (σ : MPS) (H : Heap) (locs : List Loc) (hP : va_P (mG md) classes (MW md σ) H) (hD : va_D A (MW md σ)) (hS : va_S A s.heap H locs) (ls : Array Slot) (hl : lv_has ls 7 [(0, .ref (mA md 0)), (2, .long v2), (4, .int v4)]) (hE : w_M_hasAttribute_J60 v2 v4 (w_M_hasAttribute_L15 v2 v4 post n) post σ), W p l e (headSpec ws_M_hasAttribute { frames := 3, cells := 0, slots := 0, locals := 64 }).room s m ([.ref (mA md 0), .int x0, .long x1, .int x2] : List Value).toArray below meth c H locs 0 0 (MQ below (va_Qi post (eM md A) A) ([.ref (mA md 0), .int x0, .long x1, .int x2] : List Value).toArray s 0 0 A) (F0 m 60 ls []) := by
        intro  σ H locs hP hD hS ls hl hE
        unfold w_M_hasAttribute_J60 at hE
        refine lv_iconst (v := 0) hx hb d_M_hasAttribute_60 (by decide) ?_
        exact J61  0 σ _ _ hP hD hS _ (lv_sub hl [0, 1, 2] rfl) hE
      intro v5 v6 σ H locs hP hD hS ls hl hE
      unfold w_M_hasAttribute_L15 at hE
      refine lv_iload hx hb d_M_hasAttribute_15 (lv_at hl 4 rfl) ?_
      refine lv_if_ne (tgt := 74) hx hb d_M_hasAttribute_17 (by decide) (fun cc17 => ?_) (fun cc17 => ?_)
      · have hE := hE.2 cc17
        refine lv_iload hx hb d_M_hasAttribute_74 (lv_at hl 4 rfl) ?_
        obtain ⟨hN, hE⟩ := hE
        exact W.zret (v := v6) hx hb hr hN (fun t ht hW => ⟨⟨_, σ, rfl, hE, by rw [ht]; exact hP, va_K.moved hW.alike hK, hD⟩, hS.F ht⟩) hS.2.2 d_M_hasAttribute_76
      · have hE := hE.1 cc17
        refine lv_aload_n hx hb d_M_hasAttribute_20 rfl (lv_at hl 0 rfl) ?_
        refine lv_iload hx hb d_M_hasAttribute_21 (lv_at hl 3 rfl) ?_
        refine lv_aload_n hx hb d_M_hasAttribute_23 rfl (lv_at hl 0 rfl) ?_
        refine va_get (D := (mG md)) (ci := 7) (v := .int (mp_size σ)) (C := R_M) (T := F_M) (N := 37) hx hb hta i_M hown hK hP 0 rfl rfl 7 (by decide) (hta _ fl_M_92) (fun _ h9 => h9) rfl d_M_hasAttribute_24 ?_
        refine mm_i (b0 := (mA md 0)) (As := [.int v5, .int (mp_size σ)]) (rest := []) ⟨hx, hb, hml, hown, hta⟩ (c_M_nextAttribute l md _ σ v5 (mp_size σ) _ hE) ok_M_157 ⟨Nat.le_of_ble_eq_true rfl, Nat.le_of_ble_eq_true rfl⟩ (va_recv hK hP (ci := 7) (q0 := 0) rfl rfl) hP hK hD hS hA rfl hl.1 rfl (Nat.le_of_ble_eq_true rfl) d_M_hasAttribute_27 ⟨Nat.zero_le _, Nat.zero_le _⟩ (fun r27 σ27 H locs hE hP hD hS => ?_)
        refine lv_if_eq (tgt := 74) hx hb d_M_hasAttribute_30 (by decide) (fun cc30 => ?_) (fun cc30 => ?_)
        · have hE := hE.1 cc30
          refine lv_iload hx hb d_M_hasAttribute_74 (lv_at hl 4 rfl) ?_
          obtain ⟨hN, hE⟩ := hE
          exact W.zret (v := v6) hx hb hr hN (fun t ht hW => ⟨⟨_, σ27, rfl, hE, by rw [ht]; exact hP, va_K.moved hW.alike hK, hD⟩, hS.F ht⟩) hS.2.2 d_M_hasAttribute_76
        · have hE := hE.2 cc30
          refine lv_aload_n hx hb d_M_hasAttribute_33 rfl (lv_at hl 0 rfl) ?_
          refine va_get (D := (mG md)) (ci := 7) (v := .int (mp_nameMany σ27)) (C := R_M) (T := F_M) (N := 37) hx hb hta i_M hown hK hP 0 rfl rfl 20 (by decide) (hta _ fl_M_145) (fun _ h9 => h9) rfl d_M_hasAttribute_34 ?_
          refine lv_iload hx hb d_M_hasAttribute_37 (lv_at hl 2 rfl) ?_
          refine lv_icmp_ne (tgt := 60) hx hb d_M_hasAttribute_39 (by decide) (fun cc39 => ?_) (fun cc39 => ?_)
          · have hE := hE.2 cc39
            exact J60  σ27 _ _ hP hD hS _ (lv_sub hl [0, 1, 2] rfl) hE
          · have hE := hE.1 cc39
            refine lv_aload_n hx hb d_M_hasAttribute_42 rfl (lv_at hl 0 rfl) ?_
            refine lv_aload_n hx hb d_M_hasAttribute_43 rfl (lv_at hl 0 rfl) ?_
            refine va_get (D := (mG md)) (ci := 7) (v := .int (mp_nameAt σ27)) (C := R_M) (T := F_M) (N := 37) hx hb hta i_M hown hK hP 0 rfl rfl 19 (by decide) (hta _ fl_M_142) (fun _ h9 => h9) rfl d_M_hasAttribute_44 ?_
            refine lv_lload_n hx hb d_M_hasAttribute_47 rfl (lv_at hl 1 rfl) ?_
            refine lv_iload hx hb d_M_hasAttribute_48 (lv_at hl 2 rfl) ?_
            refine ro_V (b0 := (mA md 0)) (As := [.int (mp_nameAt σ27), .long v2, .int v4]) (rest := []) ⟨hx, hb, hml, hown, hta⟩ (c_M_says l md σ27 (mp_nameAt σ27) v2 v4  _ hE) ok_M_124 ⟨Nat.le_of_ble_eq_true rfl, Nat.le_of_ble_eq_true rfl⟩ blind_rM (va_recv hK hP (ci := 7) (q0 := 0) rfl rfl) (rM_of hP hK) rfl hl.1 rfl (Nat.le_of_ble_eq_true rfl) d_M_hasAttribute_50 ⟨Nat.zero_le _, Nat.zero_le _⟩ (fun r50 hE => ?_)
            refine lv_if_eq (tgt := 60) hx hb d_M_hasAttribute_53 (by decide) (fun cc53 => ?_) (fun cc53 => ?_)
            · have hE := hE.1 cc53
              exact J60  σ27 _ _ hP hD hS _ (lv_sub hl [0, 1, 2] rfl) hE
            · have hE := hE.2 cc53
              refine lv_iconst (v := 1) hx hb d_M_hasAttribute_56 (by decide) ?_
              refine lv_goto (tgt := 61) hx hb d_M_hasAttribute_57 (by decide) ?_
              exact J61  1 σ27 _ _ hP hD hS _ (lv_sub hl [0, 1, 2] rfl) hE
  unfold w_M_hasAttribute at hE
  refine lv_aload_n hx hb d_M_hasAttribute_0 rfl (lv_at hl 0 rfl) ?_
  refine lv_aload_n hx hb d_M_hasAttribute_1 rfl (lv_at hl 0 rfl) ?_
  refine va_get (D := (mG md)) (ci := 7) (v := .ref (mA md 9)) (C := R_M) (T := F_M) (N := 37) hx hb hta i_M hown hK hP 0 rfl rfl 24 (by decide) (hta _ fl_M_40) (fun _ h9 => h9) rfl d_M_hasAttribute_2 ?_
  refine lv_iload_n hx hb d_M_hasAttribute_5 rfl (lv_at hl 1 rfl) ?_
  obtain ⟨hI6, hE⟩ := hE
  refine va_iald (D := (mG md)) (f := mp_begins σ) hx hb hK hP 9 0 rfl rfl hI6 d_M_hasAttribute_6 ?_
  refine ro_V (b0 := (mA md 0)) (As := [.int ((mp_begins σ) x0.toNatClampNeg)]) (rest := []) ⟨hx, hb, hml, hown, hta⟩ (c_M_behindName l md σ ((mp_begins σ) x0.toNatClampNeg)  _ hE) ok_M_154 ⟨Nat.le_of_ble_eq_true rfl, Nat.le_of_ble_eq_true rfl⟩ blind_rM (va_recv hK hP (ci := 7) (q0 := 0) rfl rfl) (rM_of hP hK) rfl hl.1 rfl (Nat.le_of_ble_eq_true rfl) d_M_hasAttribute_7 ⟨Nat.zero_le _, Nat.zero_le _⟩ (fun r7 hE => ?_)
  refine lv_istore (lv' := [(5, .int r7), (0, .ref (mA md 0)), (1, .int x0), (2, .long x1), (4, .int x2)]) hx hb d_M_hasAttribute_10 hl (by decide) rfl (fun ls hl => ?_)
  refine lv_iconst (v := 0) hx hb d_M_hasAttribute_12 (by decide) ?_
  refine lv_istore (lv' := [(6, .int 0), (5, .int r7), (0, .ref (mA md 0)), (1, .int x0), (2, .long x1), (4, .int x2)]) hx hb d_M_hasAttribute_13 hl (by decide) rfl (fun ls hl => ?_)
  obtain ⟨n, hE⟩ := hE
  exact L15 x1 x2 n r7 0 σ _ _ hP hD hS _ (lv_sub hl [2, 4, 5, 1, 0] rfl) hE
