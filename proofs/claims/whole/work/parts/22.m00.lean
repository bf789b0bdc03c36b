-- printed by wip/gen: the reference
theorem fl_M_70 : Cond.fieldLink "PlainPagesModel" 70 "PlainPagesModel" "thrown" "I" ∈ aW := aW_in 904 (by decide +kernel) rfl
theorem d_M_thrown_0 : decode b_M_thrown 0 = .ok (.aload_n 0, 1) := by decide +kernel
theorem d_M_thrown_1 : decode b_M_thrown 1 = .ok (.getfield 70, 3) := by decide +kernel
theorem d_M_thrown_4 : decode b_M_thrown 4 = .ok (.ireturn, 1) := by decide +kernel
def w_M_thrown  (σ : MPS)  (post : Int32 → Prop) : Prop := post (mp_thrown σ)
set_option maxHeartbeats 4000000 in
set_option maxRecDepth 100000 in
theorem c_M_thrown (l : Launch) (md : MD) (σ : MPS)   (post : Int32 → Prop) (hE : w_M_thrown σ post) : Met l y_M_thrown ws_M_thrown { frames := 0, cells := 0, slots := 0, locals := 0 } (va_Pc [.ref (mA md 0)] (rM md σ)) (vp_Si post) 0 0 (fun _ => False) := by
  refine Met.ofW (cc := b_M_thrown) (maxL := 1) (ret := (some .int)) (by decide) rfl ?_
  intro p e s m args below meth c s₁ B hml hv
  obtain ⟨rfl, hP, hK⟩ := hv
  have hS : va_S (fun _ : Nat => False) s.heap s.heap [] := va_S.rf
  have hx := B.exec
  have hb := B.bytes
  have hr := B.returns
  have hta : ∀ w ∈ aW, w.before _ s = true := fun w h => atoms_spec (ws := ws_M_thrown) B.pre w (List.mem_cons_of_mem _ h)
  have hown : s.vm.findClass R_M = some m.cls := findClass_of_methodNamed B.named
  have hlocks := B.notSynchronized
  have hl := lv_entry ([.ref (mA md 0)]) (n := 1) (Nat.le_of_ble_eq_true rfl)
  rw [lg_entry_eq]
  generalize (lg_sl ([.ref (mA md 0)]) ++ List.replicate (1 - (lg_sl ([.ref (mA md 0)])).length) Slot.unset).toArray = ls at hl ⊢
  have hl : lv_has ls 1 [(0, .ref (mA md 0))] := hl
  unfold w_M_thrown at hE
  refine lv_aload_n hx hb d_M_thrown_0 rfl (lv_at hl 0 rfl) ?_
  refine va_get (D := (mG md)) (ci := 7) (v := .int (mp_thrown σ)) (C := R_M) (T := F_M) (N := 37) hx hb hta i_M hown hK hP 0 rfl rfl 0 (by decide) (hta _ fl_M_70) (fun _ h9 => h9) rfl d_M_thrown_1 ?_
  exact W.iret (v := mp_thrown σ) hx hb hr (fun t ht hW => ⟨_, rfl, hE, ht⟩) (fun q h => by cases h) d_M_thrown_4
theorem lM_thrown {σ : MPS} : w_M_thrown σ (fun r => r = mp_thrown σ) := rfl
theorem f_M_thrown (l : Launch) (md : MD) (σ : MPS)    : Met l y_M_thrown ws_M_thrown { frames := 0, cells := 0, slots := 0, locals := 0 } (va_Pc [.ref (mA md 0)] (rM md σ)) (vp_Si (fun r => r = mp_thrown σ)) 0 0 (fun _ => False) := c_M_thrown l md σ  _  (lM_thrown   )
theorem fl_M_92 : Cond.fieldLink "PlainPagesModel" 92 "PlainPagesModel" "size" "I" ∈ aW := aW_in 911 (by decide +kernel) rfl
theorem fl_M_13 : Cond.fieldLink "PlainPagesModel" 13 "PlainPagesModel" "text" "[B" ∈ aW := aW_in 906 (by decide +kernel) rfl
theorem d_M_x_0 : decode b_M_x 0 = .ok (.iload_n 1, 1) := by decide +kernel
theorem d_M_x_1 : decode b_M_x 1 = .ok (.aload_n 0, 1) := by decide +kernel
theorem d_M_x_2 : decode b_M_x 2 = .ok (.getfield 92, 3) := by decide +kernel
theorem d_M_x_5 : decode b_M_x 5 = .ok (.if_icmp .ge 16, 3) := by decide +kernel
theorem d_M_x_8 : decode b_M_x 8 = .ok (.aload_n 0, 1) := by decide +kernel
theorem d_M_x_9 : decode b_M_x 9 = .ok (.getfield 13, 3) := by decide +kernel
theorem d_M_x_12 : decode b_M_x 12 = .ok (.iload_n 1, 1) := by decide +kernel
theorem d_M_x_13 : decode b_M_x 13 = .ok (.baload, 1) := by decide +kernel
theorem d_M_x_14 : decode b_M_x 14 = .ok (.sipush 255, 3) := by decide +kernel
theorem d_M_x_17 : decode b_M_x 17 = .ok (.iand, 1) := by decide +kernel
theorem d_M_x_18 : decode b_M_x 18 = .ok (.goto 4, 3) := by decide +kernel
theorem d_M_x_21 : decode b_M_x 21 = .ok (.iconst (-1), 1) := by decide +kernel
theorem d_M_x_22 : decode b_M_x 22 = .ok (.ireturn, 1) := by decide +kernel
def w_M_x  (σ : MPS) (x0 : Int32) (post : Int32 → Prop) : Prop := (((mp_size σ) ≤ x0 → post (-1)) ∧ (¬ (mp_size σ) ≤ x0 → (vp_in x0 4000 ∧ post (((mp_text σ) x0.toNatClampNeg) &&& 255))))
set_option maxHeartbeats 4000000 in
set_option maxRecDepth 100000 in
theorem c_M_x (l : Launch) (md : MD) (σ : MPS) (x0 : Int32)  (post : Int32 → Prop) (hE : w_M_x σ x0 post) : Met l y_M_x ws_M_x { frames := 0, cells := 0, slots := 0, locals := 0 } (va_Pc [.ref (mA md 0), .int x0] (rM md σ)) (vp_Si post) 0 0 (fun _ => False) := by
  refine Met.ofW (cc := b_M_x) (maxL := 2) (ret := (some .int)) (by decide) rfl ?_
  intro p e s m args below meth c s₁ B hml hv
  obtain ⟨rfl, hP, hK⟩ := hv
  have hS : va_S (fun _ : Nat => False) s.heap s.heap [] := va_S.rf
  have hx := B.exec
  have hb := B.bytes
  have hr := B.returns
  have hta : ∀ w ∈ aW, w.before _ s = true := fun w h => atoms_spec (ws := ws_M_x) B.pre w (List.mem_cons_of_mem _ h)
  have hown : s.vm.findClass R_M = some m.cls := findClass_of_methodNamed B.named
  have hlocks := B.notSynchronized
  have hl := lv_entry ([.ref (mA md 0), .int x0]) (n := 2) (Nat.le_of_ble_eq_true rfl)
  rw [lg_entry_eq]
  generalize (lg_sl ([.ref (mA md 0), .int x0]) ++ List.replicate (2 - (lg_sl ([.ref (mA md 0), .int x0])).length) Slot.unset).toArray = ls at hl ⊢
  have hl : lv_has ls 2 [(0, .ref (mA md 0)), (1, .int x0)] := hl
  unfold w_M_x at hE
  refine lv_iload_n hx hb d_M_x_0 rfl (lv_at hl 1 rfl) ?_
  refine lv_aload_n hx hb d_M_x_1 rfl (lv_at hl 0 rfl) ?_
  refine va_get (D := (mG md)) (ci := 7) (v := .int (mp_size σ)) (C := R_M) (T := F_M) (N := 37) hx hb hta i_M hown hK hP 0 rfl rfl 7 (by decide) (hta _ fl_M_92) (fun _ h9 => h9) rfl d_M_x_2 ?_
  refine lv_icmp_ge (tgt := 21) hx hb d_M_x_5 (by decide) (fun cc5 => ?_) (fun cc5 => ?_)
  · have hE := hE.1 cc5
    refine lv_iconst (v := -1) hx hb d_M_x_21 (by decide) ?_
    exact W.iret (v := (-1)) hx hb hr (fun t ht hW => ⟨_, rfl, hE, ht⟩) (fun q h => by cases h) d_M_x_22
  · have hE := hE.2 cc5
    refine lv_aload_n hx hb d_M_x_8 rfl (lv_at hl 0 rfl) ?_
    refine va_get (D := (mG md)) (ci := 7) (v := .ref (mA md 2)) (C := R_M) (T := F_M) (N := 37) hx hb hta i_M hown hK hP 0 rfl rfl 2 (by decide) (hta _ fl_M_13) (fun _ h9 => h9) rfl d_M_x_9 ?_
    refine lv_iload_n hx hb d_M_x_12 rfl (lv_at hl 1 rfl) ?_
    obtain ⟨hI13, hE⟩ := hE
    refine va_bald (D := (mG md)) (f := mp_text σ) hx hb hK hP 2 1 rfl rfl hI13 d_M_x_13 ?_
    refine lv_sipush (v := 255) hx hb d_M_x_14 (by decide) ?_
    refine lv_iand hx hb d_M_x_17 ?_
    refine lv_goto (tgt := 22) hx hb d_M_x_18 (by decide) ?_
    exact W.iret (v := ((mp_text σ) x0.toNatClampNeg) &&& 255) hx hb hr (fun t ht hW => ⟨_, rfl, hE, ht⟩) (fun q h => by cases h) d_M_x_22
/-- the byte at k of the text; -1 behind its end -/
def mX (τ : MPS) (k : Int32) : Int32 := if mp_size τ ≤ k then -1 else mp_text τ k.toNatClampNeg &&& 255
/-- k may be asked for -/
def mXk (τ : MPS) (k : Int32) : Prop := ¬ mp_size τ ≤ k → vp_in k 4000
theorem lM_x {τ : MPS} (k : Int32) (h : mXk τ k) : w_M_x τ k (fun r => r = mX τ k) := by
  unfold w_M_x mX
  refine br_c (fun h1 => (if_pos h1).symm) (fun h1 => ?_)
  rw [if_neg h1]
  exact ⟨h h1, rfl⟩
theorem f_M_x (l : Launch) (md : MD) (σ : MPS) (x0 : Int32)  (hc0 : mXk σ x0) : Met l y_M_x ws_M_x { frames := 0, cells := 0, slots := 0, locals := 0 } (va_Pc [.ref (mA md 0), .int x0] (rM md σ)) (vp_Si (fun r => r = mX σ x0)) 0 0 (fun _ => False) := c_M_x l md σ x0 _  (lM_x  x0 hc0)
theorem ok_M_95 : okV "PlainPagesModel" 95 R_M y_M_x b_M_x 2 (some .int) 1 := ⟨aW_in 1045 (by decide +kernel) rfl, aW_in 1047 (by decide +kernel) rfl, aW_in 42 (by decide +kernel) rfl, aW_in 92 (by decide +kernel) rfl, cd_M_x, rfl, by decide +kernel, by decide +kernel, by decide +kernel⟩
theorem cl_M_99 : Cond.constantLong "PlainPagesModel" 99 (255) ∈ aW := aW_in 1123 (by decide +kernel) rfl
theorem d_M_says_0 : decode b_M_says 0 = .ok (.iconst 1, 1) := by decide +kernel
theorem d_M_says_1 : decode b_M_says 1 = .ok (.istore 5, 2) := by decide +kernel
theorem d_M_says_3 : decode b_M_says 3 = .ok (.iconst 0, 1) := by decide +kernel
theorem d_M_says_4 : decode b_M_says 4 = .ok (.istore 6, 2) := by decide +kernel
theorem d_M_says_6 : decode b_M_says 6 = .ok (.iload 6, 2) := by decide +kernel
theorem d_M_says_8 : decode b_M_says 8 = .ok (.iload 4, 2) := by decide +kernel
theorem d_M_says_10 : decode b_M_says 10 = .ok (.if_icmp .ge 49, 3) := by decide +kernel
theorem d_M_says_13 : decode b_M_says 13 = .ok (.iload 5, 2) := by decide +kernel
theorem d_M_says_15 : decode b_M_says 15 = .ok (.ifCond .eq 44, 3) := by decide +kernel
theorem d_M_says_18 : decode b_M_says 18 = .ok (.aload_n 0, 1) := by decide +kernel
theorem d_M_says_19 : decode b_M_says 19 = .ok (.iload_n 1, 1) := by decide +kernel
theorem d_M_says_20 : decode b_M_says 20 = .ok (.iload 6, 2) := by decide +kernel
theorem d_M_says_22 : decode b_M_says 22 = .ok (.iadd, 1) := by decide +kernel
theorem d_M_says_23 : decode b_M_says 23 = .ok (.invokevirtual 95, 3) := by decide +kernel
theorem d_M_says_26 : decode b_M_says 26 = .ok (.lload_n 2, 1) := by decide +kernel
theorem d_M_says_27 : decode b_M_says 27 = .ok (.bipush 8, 2) := by decide +kernel
theorem d_M_says_29 : decode b_M_says 29 = .ok (.iload 4, 2) := by decide +kernel
theorem d_M_says_31 : decode b_M_says 31 = .ok (.iconst 1, 1) := by decide +kernel
theorem d_M_says_32 : decode b_M_says 32 = .ok (.isub, 1) := by decide +kernel
theorem d_M_says_33 : decode b_M_says 33 = .ok (.iload 6, 2) := by decide +kernel
theorem d_M_says_35 : decode b_M_says 35 = .ok (.isub, 1) := by decide +kernel
theorem d_M_says_36 : decode b_M_says 36 = .ok (.imul, 1) := by decide +kernel
theorem d_M_says_37 : decode b_M_says 37 = .ok (.lshr, 1) := by decide +kernel
theorem d_M_says_38 : decode b_M_says 38 = .ok (.ldc2_w 99, 3) := by decide +kernel
theorem d_M_says_41 : decode b_M_says 41 = .ok (.land, 1) := by decide +kernel
theorem d_M_says_42 : decode b_M_says 42 = .ok (.l2i, 1) := by decide +kernel
theorem d_M_says_43 : decode b_M_says 43 = .ok (.if_icmp .ne 7, 3) := by decide +kernel
theorem d_M_says_46 : decode b_M_says 46 = .ok (.iconst 1, 1) := by decide +kernel
theorem d_M_says_47 : decode b_M_says 47 = .ok (.goto 4, 3) := by decide +kernel
theorem d_M_says_50 : decode b_M_says 50 = .ok (.iconst 0, 1) := by decide +kernel
theorem d_M_says_51 : decode b_M_says 51 = .ok (.istore 5, 2) := by decide +kernel
theorem d_M_says_53 : decode b_M_says 53 = .ok (.iinc 6 1, 3) := by decide +kernel
theorem d_M_says_56 : decode b_M_says 56 = .ok (.goto (-50), 3) := by decide +kernel
theorem d_M_says_59 : decode b_M_says 59 = .ok (.iload 5, 2) := by decide +kernel
theorem d_M_says_61 : decode b_M_says 61 = .ok (.ireturn, 1) := by decide +kernel
def w_M_says_J51  (σ : MPS) (v1 : Int32) (v2 : Int64) (v4 : Int32) (K6 : Int32 → Int32 → Prop) (post : Int32 → Prop) (v6 : Int32) (t0 : Int32) : Prop := K6 t0 (v6 + 1)
def w_M_says_L6  (σ : MPS) (v1 : Int32) (v2 : Int64) (v4 : Int32) (post : Int32 → Prop) : Nat → Int32 → Int32 → Prop
  | 0, _, _ => False
  | n6 + 1, v5, v6 => ((v4 ≤ v6 → (narrow .boolean (.int v5) = .int v5 ∧ post v5)) ∧ (¬ v4 ≤ v6 → ((v5 = 0 → (narrow .boolean (.int v5) = .int v5 ∧ post v5)) ∧ (¬ v5 = 0 → (mXk σ (v1 + v6) ∧ (((mX σ (v1 + v6)) = (((v2 >>> ((8 * ((v4 - 1) - v6)).toInt64 &&& 63)) &&& 255).toInt32) → w_M_says_J51 σ v1 v2 v4 (w_M_says_L6 σ v1 v2 v4 post n6) post v6 1) ∧ (¬ (mX σ (v1 + v6)) = (((v2 >>> ((8 * ((v4 - 1) - v6)).toInt64 &&& 63)) &&& 255).toInt32) → w_M_says_J51 σ v1 v2 v4 (w_M_says_L6 σ v1 v2 v4 post n6) post v6 0)))))))
def w_M_says  (σ : MPS) (x0 : Int32) (x1 : Int64) (x2 : Int32) (post : Int32 → Prop) : Prop := (∃ n6, w_M_says_L6 σ x0 x1 x2 post n6 1 0)
set_option maxHeartbeats 4000000 in
set_option maxRecDepth 100000 in
theorem c_M_says (l : Launch) (md : MD) (σ : MPS) (x0 : Int32) (x1 : Int64) (x2 : Int32)  (post : Int32 → Prop) (hE : w_M_says σ x0 x1 x2 post) : Met l y_M_says ws_M_says { frames := 1, cells := 0, slots := 0, locals := 21 } (va_Pc [.ref (mA md 0), .int x0, .long x1, .int x2] (rM md σ)) (vp_Si post) 0 0 (fun _ => False) := by
  refine Met.ofW (cc := b_M_says) (maxL := 7) (ret := (some .boolean)) (by decide) rfl ?_
  intro p e s m args below meth c s₁ B hml hv
  obtain ⟨rfl, hP, hK⟩ := hv
  have hS : va_S (fun _ : Nat => False) s.heap s.heap [] := va_S.rf
  have hx := B.exec
  have hb := B.bytes
  have hr := B.returns
  have hta : ∀ w ∈ aW, w.before _ s = true := fun w h => atoms_spec (ws := ws_M_says) B.pre w (List.mem_cons_of_mem _ h)
  have hown : s.vm.findClass R_M = some m.cls := findClass_of_methodNamed B.named
  have hlocks := B.notSynchronized
  have hl := lv_entry ([.ref (mA md 0), .int x0, .long x1, .int x2]) (n := 7) (Nat.le_of_ble_eq_true rfl)
  rw [lg_entry_eq]
  generalize (lg_sl ([.ref (mA md 0), .int x0, .long x1, .int x2]) ++ List.replicate (7 - (lg_sl ([.ref (mA md 0), .int x0, .long x1, .int x2])).length) Slot.unset).toArray = ls at hl ⊢
  have hl : lv_has ls 7 [(0, .ref (mA md 0)), (1, .int x0), (2, .long x1), (4, .int x2)] := hl
  have L6 : ∀ (v1 : Int32) (v2 : Int64) (v4 : Int32) (n6 : Nat) (v5 : Int32) (v6 : Int32) (ls : Array Slot) (hl : lv_has ls 7 [(0, .ref (mA md 0)), (1, .int v1), (2, .long v2), (4, .int v4), (5, .int v5), (6, .int v6)]) (hE : w_M_says_L6 σ v1 v2 v4 post n6 v5 v6), W p l e (headSpec ws_M_says { frames := 1, cells := 0, slots := 0, locals := 21 }).room s m ([.ref (mA md 0), .int x0, .long x1, .int x2] : List Value).toArray below meth c s.heap [] 0 0 (MQ below (vp_Si post) ([.ref (mA md 0), .int x0, .long x1, .int x2] : List Value).toArray s 0 0 (fun _ => False)) (F0 m 6 ls []) := by
    intro v1 v2 v4 n6
    induction n6 with
    | zero => intro v5 v6 ls hl hE; exact hE.elim
    | succ n6 ih6 =>
      have J51 : ∀ (v6 : Int32) (t0 : Int32) (ls : Array Slot) (hl : lv_has ls 7 [(0, .ref (mA md 0)), (1, .int v1), (2, .long v2), (4, .int v4), (6, .int v6)]) (hE : w_M_says_J51 σ v1 v2 v4 (w_M_says_L6 σ v1 v2 v4 post n6) post v6 t0), W p l e (headSpec ws_M_says { frames := 1, cells := 0, slots := 0, locals := 21 }).room s m ([.ref (mA md 0), .int x0, .long x1, .int x2] : List Value).toArray below meth c s.heap [] 0 0 (MQ below (vp_Si post) ([.ref (mA md 0), .int x0, .long x1, .int x2] : List Value).toArray s 0 0 (fun _ => False)) (F0 m 51 ls [.int t0]) := by
        intro  v6 t0 ls hl hE
        unfold w_M_says_J51 at hE
        refine lv_istore (lv' := [(5, .int t0), (0, .ref (mA md 0)), (1, .int v1), (2, .long v2), (4, .int v4), (6, .int v6)]) hx hb d_M_says_51 hl (by decide) rfl (fun ls hl => ?_)
        refine lv_iinc (v := v6 + 1) (lv' := [(6, .int (v6 + 1)), (5, .int t0), (0, .ref (mA md 0)), (1, .int v1), (2, .long v2), (4, .int v4)]) hx hb d_M_says_53 hl (k := 5) rfl rfl (by decide) rfl (fun ls hl => ?_)
        refine lv_goto (tgt := 6) hx hb d_M_says_56 (by decide) ?_
        exact ih6 t0 (v6 + 1) _ (lv_sub hl [2, 3, 4, 5, 1, 0] rfl) hE
      intro v5 v6 ls hl hE
      unfold w_M_says_L6 at hE
      refine lv_iload hx hb d_M_says_6 (lv_at hl 5 rfl) ?_
      refine lv_iload hx hb d_M_says_8 (lv_at hl 3 rfl) ?_
      refine lv_icmp_ge (tgt := 59) hx hb d_M_says_10 (by decide) (fun cc10 => ?_) (fun cc10 => ?_)
      · have hE := hE.1 cc10
        refine lv_iload hx hb d_M_says_59 (lv_at hl 4 rfl) ?_
        obtain ⟨hN, hE⟩ := hE
        exact W.zret (v := v5) hx hb hr hN (fun t ht hW => ⟨_, rfl, hE, ht⟩) (fun q h => by cases h) d_M_says_61
      · have hE := hE.2 cc10
        refine lv_iload hx hb d_M_says_13 (lv_at hl 4 rfl) ?_
        refine lv_if_eq (tgt := 59) hx hb d_M_says_15 (by decide) (fun cc15 => ?_) (fun cc15 => ?_)
        · have hE := hE.1 cc15
          refine lv_iload hx hb d_M_says_59 (lv_at hl 4 rfl) ?_
          obtain ⟨hN, hE⟩ := hE
          exact W.zret (v := v5) hx hb hr hN (fun t ht hW => ⟨_, rfl, hE, ht⟩) (fun q h => by cases h) d_M_says_61
        · have hE := hE.2 cc15
          refine lv_aload_n hx hb d_M_says_18 rfl (lv_at hl 0 rfl) ?_
          refine lv_iload_n hx hb d_M_says_19 rfl (lv_at hl 1 rfl) ?_
          refine lv_iload hx hb d_M_says_20 (lv_at hl 5 rfl) ?_
          refine lv_iadd hx hb d_M_says_22 ?_
          obtain ⟨hc23_0, hE⟩ := hE
          refine ro_V (b0 := (mA md 0)) (As := [.int (v1 + v6)]) (rest := []) ⟨hx, hb, hml, hown, hta⟩ (f_M_x l md σ (v1 + v6) hc23_0) ok_M_95 ⟨Nat.le_of_ble_eq_true rfl, Nat.le_of_ble_eq_true rfl⟩ blind_rM (va_recv hK hP (ci := 7) (q0 := 0) rfl rfl) (rM_of hP hK) rfl hl.1 rfl (Nat.le_of_ble_eq_true rfl) d_M_says_23 ⟨Nat.zero_le _, Nat.zero_le _⟩ (fun r23 hrr => ?_)
          subst hrr
          refine lv_lload_n hx hb d_M_says_26 rfl (lv_at hl 2 rfl) ?_
          refine lv_bipush (v := 8) hx hb d_M_says_27 (by decide) ?_
          refine lv_iload hx hb d_M_says_29 (lv_at hl 3 rfl) ?_
          refine lv_iconst (v := 1) hx hb d_M_says_31 (by decide) ?_
          refine lv_isub hx hb d_M_says_32 ?_
          refine lv_iload hx hb d_M_says_33 (lv_at hl 5 rfl) ?_
          refine lv_isub hx hb d_M_says_35 ?_
          refine lv_imul hx hb d_M_says_36 ?_
          refine lv_lshr hx hb d_M_says_37 rfl ?_
          refine lv_ldc2 hx hb hown (hta _ cl_M_99) d_M_says_38 ?_
          refine lv_land hx hb d_M_says_41 ?_
          refine lv_l2i hx hb d_M_says_42 rfl ?_
          refine lv_icmp_ne (tgt := 50) hx hb d_M_says_43 (by decide) (fun cc43 => ?_) (fun cc43 => ?_)
          · have hE := hE.2 cc43
            refine lv_iconst (v := 0) hx hb d_M_says_50 (by decide) ?_
            exact J51  v6 0 _ (lv_sub hl [0, 1, 2, 3, 5] rfl) hE
          · have hE := hE.1 cc43
            refine lv_iconst (v := 1) hx hb d_M_says_46 (by decide) ?_
            refine lv_goto (tgt := 51) hx hb d_M_says_47 (by decide) ?_
            exact J51  v6 1 _ (lv_sub hl [0, 1, 2, 3, 5] rfl) hE
  unfold w_M_says at hE
  refine lv_iconst (v := 1) hx hb d_M_says_0 (by decide) ?_
  refine lv_istore (lv' := [(5, .int 1), (0, .ref (mA md 0)), (1, .int x0), (2, .long x1), (4, .int x2)]) hx hb d_M_says_1 hl (by decide) rfl (fun ls hl => ?_)
  refine lv_iconst (v := 0) hx hb d_M_says_3 (by decide) ?_
  refine lv_istore (lv' := [(6, .int 0), (5, .int 1), (0, .ref (mA md 0)), (1, .int x0), (2, .long x1), (4, .int x2)]) hx hb d_M_says_4 hl (by decide) rfl (fun ls hl => ?_)
  obtain ⟨n6, hE⟩ := hE
  exact L6 x0 x1 x2 n6 1 0 _ (lv_sub hl [2, 3, 4, 5, 1, 0] rfl) hE
theorem fl_M_22 : Cond.fieldLink "PlainPagesModel" 22 "PlainPagesModel" "declaration" "[B" ∈ aW := aW_in 909 (by decide +kernel) rfl
theorem d_M_isDeclared_0 : decode b_M_isDeclared 0 = .ok (.iconst 1, 1) := by decide +kernel
theorem d_M_isDeclared_1 : decode b_M_isDeclared 1 = .ok (.istore_n 1, 1) := by decide +kernel
theorem d_M_isDeclared_2 : decode b_M_isDeclared 2 = .ok (.iconst 0, 1) := by decide +kernel
theorem d_M_isDeclared_3 : decode b_M_isDeclared 3 = .ok (.istore_n 2, 1) := by decide +kernel
theorem d_M_isDeclared_4 : decode b_M_isDeclared 4 = .ok (.iload_n 2, 1) := by decide +kernel
theorem d_M_isDeclared_5 : decode b_M_isDeclared 5 = .ok (.aload_n 0, 1) := by decide +kernel
theorem d_M_isDeclared_6 : decode b_M_isDeclared 6 = .ok (.getfield 22, 3) := by decide +kernel
theorem d_M_isDeclared_9 : decode b_M_isDeclared 9 = .ok (.arraylength, 1) := by decide +kernel
theorem d_M_isDeclared_10 : decode b_M_isDeclared 10 = .ok (.if_icmp .ge 33, 3) := by decide +kernel
theorem d_M_isDeclared_13 : decode b_M_isDeclared 13 = .ok (.iload_n 1, 1) := by decide +kernel
theorem d_M_isDeclared_14 : decode b_M_isDeclared 14 = .ok (.ifCond .eq 29, 3) := by decide +kernel
theorem d_M_isDeclared_17 : decode b_M_isDeclared 17 = .ok (.aload_n 0, 1) := by decide +kernel
theorem d_M_isDeclared_18 : decode b_M_isDeclared 18 = .ok (.iload_n 2, 1) := by decide +kernel
theorem d_M_isDeclared_19 : decode b_M_isDeclared 19 = .ok (.invokevirtual 95, 3) := by decide +kernel
theorem d_M_isDeclared_22 : decode b_M_isDeclared 22 = .ok (.aload_n 0, 1) := by decide +kernel
theorem d_M_isDeclared_23 : decode b_M_isDeclared 23 = .ok (.getfield 22, 3) := by decide +kernel
theorem d_M_isDeclared_26 : decode b_M_isDeclared 26 = .ok (.iload_n 2, 1) := by decide +kernel
theorem d_M_isDeclared_27 : decode b_M_isDeclared 27 = .ok (.baload, 1) := by decide +kernel
theorem d_M_isDeclared_28 : decode b_M_isDeclared 28 = .ok (.if_icmp .ne 7, 3) := by decide +kernel
theorem d_M_isDeclared_31 : decode b_M_isDeclared 31 = .ok (.iconst 1, 1) := by decide +kernel
theorem d_M_isDeclared_32 : decode b_M_isDeclared 32 = .ok (.goto 4, 3) := by decide +kernel
theorem d_M_isDeclared_35 : decode b_M_isDeclared 35 = .ok (.iconst 0, 1) := by decide +kernel
theorem d_M_isDeclared_36 : decode b_M_isDeclared 36 = .ok (.istore_n 1, 1) := by decide +kernel
theorem d_M_isDeclared_37 : decode b_M_isDeclared 37 = .ok (.iinc 2 1, 3) := by decide +kernel
theorem d_M_isDeclared_40 : decode b_M_isDeclared 40 = .ok (.goto (-36), 3) := by decide +kernel
theorem d_M_isDeclared_43 : decode b_M_isDeclared 43 = .ok (.iload_n 1, 1) := by decide +kernel
theorem d_M_isDeclared_44 : decode b_M_isDeclared 44 = .ok (.ireturn, 1) := by decide +kernel
def w_M_isDeclared_J36  (σ : MPS) (K4 : Int32 → Int32 → Prop) (post : Int32 → Prop) (v2 : Int32) (t0 : Int32) : Prop := K4 t0 (v2 + 1)
def w_M_isDeclared_L4  (σ : MPS) (post : Int32 → Prop) : Nat → Int32 → Int32 → Prop
  | 0, _, _ => False
  | n4 + 1, v1, v2 => (((nI 38) ≤ v2 → (narrow .boolean (.int v1) = .int v1 ∧ post v1)) ∧ (¬ (nI 38) ≤ v2 → ((v1 = 0 → (narrow .boolean (.int v1) = .int v1 ∧ post v1)) ∧ (¬ v1 = 0 → (mXk σ v2 ∧ (vp_in v2 38 ∧ (((mX σ v2) = ((mp_declaration σ) v2.toNatClampNeg) → w_M_isDeclared_J36 σ (w_M_isDeclared_L4 σ post n4) post v2 1) ∧ (¬ (mX σ v2) = ((mp_declaration σ) v2.toNatClampNeg) → w_M_isDeclared_J36 σ (w_M_isDeclared_L4 σ post n4) post v2 0))))))))
def w_M_isDeclared  (σ : MPS)  (post : Int32 → Prop) : Prop := (∃ n4, w_M_isDeclared_L4 σ post n4 1 0)
set_option maxHeartbeats 4000000 in
set_option maxRecDepth 100000 in
theorem c_M_isDeclared (l : Launch) (md : MD) (σ : MPS)   (post : Int32 → Prop) (hE : w_M_isDeclared σ post) : Met l y_M_isDeclared ws_M_isDeclared { frames := 1, cells := 0, slots := 0, locals := 21 } (va_Pc [.ref (mA md 0)] (rM md σ)) (vp_Si post) 0 0 (fun _ => False) := by
  refine Met.ofW (cc := b_M_isDeclared) (maxL := 3) (ret := (some .boolean)) (by decide) rfl ?_
  intro p e s m args below meth c s₁ B hml hv
  obtain ⟨rfl, hP, hK⟩ := hv
  have hS : va_S (fun _ : Nat => False) s.heap s.heap [] := va_S.rf
  have hx := B.exec
  have hb := B.bytes
  have hr := B.returns
  have hta : ∀ w ∈ aW, w.before _ s = true := fun w h => atoms_spec (ws := ws_M_isDeclared) B.pre w (List.mem_cons_of_mem _ h)
  have hown : s.vm.findClass R_M = some m.cls := findClass_of_methodNamed B.named
  have hlocks := B.notSynchronized
  have hl := lv_entry ([.ref (mA md 0)]) (n := 3) (Nat.le_of_ble_eq_true rfl)
  rw [lg_entry_eq]
  generalize (lg_sl ([.ref (mA md 0)]) ++ List.replicate (3 - (lg_sl ([.ref (mA md 0)])).length) Slot.unset).toArray = ls at hl ⊢
  have hl : lv_has ls 3 [(0, .ref (mA md 0))] := hl
  have L4 : ∀ (n4 : Nat) (v1 : Int32) (v2 : Int32) (ls : Array Slot) (hl : lv_has ls 3 [(0, .ref (mA md 0)), (1, .int v1), (2, .int v2)]) (hE : w_M_isDeclared_L4 σ post n4 v1 v2), W p l e (headSpec ws_M_isDeclared { frames := 1, cells := 0, slots := 0, locals := 21 }).room s m ([.ref (mA md 0)] : List Value).toArray below meth c s.heap [] 0 0 (MQ below (vp_Si post) ([.ref (mA md 0)] : List Value).toArray s 0 0 (fun _ => False)) (F0 m 4 ls []) := by
    intro n4
    induction n4 with
    | zero => intro v1 v2 ls hl hE; exact hE.elim
    | succ n4 ih4 =>
      have J36 : ∀ (v2 : Int32) (t0 : Int32) (ls : Array Slot) (hl : lv_has ls 3 [(0, .ref (mA md 0)), (2, .int v2)]) (hE : w_M_isDeclared_J36 σ (w_M_isDeclared_L4 σ post n4) post v2 t0), W p l e (headSpec ws_M_isDeclared { frames := 1, cells := 0, slots := 0, locals := 21 }).room s m ([.ref (mA md 0)] : List Value).toArray below meth c s.heap [] 0 0 (MQ below (vp_Si post) ([.ref (mA md 0)] : List Value).toArray s 0 0 (fun _ => False)) (F0 m 36 ls [.int t0]) := by
        intro  v2 t0 ls hl hE
        unfold w_M_isDeclared_J36 at hE
        refine lv_istore_n (lv' := [(1, .int t0), (0, .ref (mA md 0)), (2, .int v2)]) hx hb d_M_isDeclared_36 rfl hl (by decide) rfl (fun ls hl => ?_)
        refine lv_iinc (v := v2 + 1) (lv' := [(2, .int (v2 + 1)), (1, .int t0), (0, .ref (mA md 0))]) hx hb d_M_isDeclared_37 hl (k := 2) rfl rfl (by decide) rfl (fun ls hl => ?_)
        refine lv_goto (tgt := 4) hx hb d_M_isDeclared_40 (by decide) ?_
        exact ih4 t0 (v2 + 1) _ (lv_sub hl [2, 1, 0] rfl) hE
      intro v1 v2 ls hl hE
      unfold w_M_isDeclared_L4 at hE
      refine lv_iload_n hx hb d_M_isDeclared_4 rfl (lv_at hl 2 rfl) ?_
      refine lv_aload_n hx hb d_M_isDeclared_5 rfl (lv_at hl 0 rfl) ?_
      refine va_get (D := (mG md)) (ci := 7) (v := .ref (mA md 5)) (C := R_M) (T := F_M) (N := 37) hx hb hta i_M hown hK hP 0 rfl rfl 5 (by decide) (hta _ fl_M_22) (fun _ h9 => h9) rfl d_M_isDeclared_6 ?_
      refine va_alen (D := (mG md)) (v := nI 38) hx hb hK hP 5 1 rfl rfl rfl d_M_isDeclared_9 ?_
      refine lv_icmp_ge (tgt := 43) hx hb d_M_isDeclared_10 (by decide) (fun cc10 => ?_) (fun cc10 => ?_)
      · have hE := hE.1 cc10
        refine lv_iload_n hx hb d_M_isDeclared_43 rfl (lv_at hl 1 rfl) ?_
        obtain ⟨hN, hE⟩ := hE
        exact W.zret (v := v1) hx hb hr hN (fun t ht hW => ⟨_, rfl, hE, ht⟩) (fun q h => by cases h) d_M_isDeclared_44
      · have hE := hE.2 cc10
        refine lv_iload_n hx hb d_M_isDeclared_13 rfl (lv_at hl 1 rfl) ?_
        refine lv_if_eq (tgt := 43) hx hb d_M_isDeclared_14 (by decide) (fun cc14 => ?_) (fun cc14 => ?_)
        · have hE := hE.1 cc14
          refine lv_iload_n hx hb d_M_isDeclared_43 rfl (lv_at hl 1 rfl) ?_
          obtain ⟨hN, hE⟩ := hE
          exact W.zret (v := v1) hx hb hr hN (fun t ht hW => ⟨_, rfl, hE, ht⟩) (fun q h => by cases h) d_M_isDeclared_44
        · have hE := hE.2 cc14
          refine lv_aload_n hx hb d_M_isDeclared_17 rfl (lv_at hl 0 rfl) ?_
          refine lv_iload_n hx hb d_M_isDeclared_18 rfl (lv_at hl 2 rfl) ?_
          obtain ⟨hc19_0, hE⟩ := hE
          refine ro_V (b0 := (mA md 0)) (As := [.int v2]) (rest := []) ⟨hx, hb, hml, hown, hta⟩ (f_M_x l md σ v2 hc19_0) ok_M_95 ⟨Nat.le_of_ble_eq_true rfl, Nat.le_of_ble_eq_true rfl⟩ blind_rM (va_recv hK hP (ci := 7) (q0 := 0) rfl rfl) (rM_of hP hK) rfl hl.1 rfl (Nat.le_of_ble_eq_true rfl) d_M_isDeclared_19 ⟨Nat.zero_le _, Nat.zero_le _⟩ (fun r19 hrr => ?_)
          subst hrr
          refine lv_aload_n hx hb d_M_isDeclared_22 rfl (lv_at hl 0 rfl) ?_
          refine va_get (D := (mG md)) (ci := 7) (v := .ref (mA md 5)) (C := R_M) (T := F_M) (N := 37) hx hb hta i_M hown hK hP 0 rfl rfl 5 (by decide) (hta _ fl_M_22) (fun _ h9 => h9) rfl d_M_isDeclared_23 ?_
          refine lv_iload_n hx hb d_M_isDeclared_26 rfl (lv_at hl 2 rfl) ?_
          obtain ⟨hI27, hE⟩ := hE
          refine va_bald (D := (mG md)) (f := mp_declaration σ) hx hb hK hP 5 1 rfl rfl hI27 d_M_isDeclared_27 ?_
          refine lv_icmp_ne (tgt := 35) hx hb d_M_isDeclared_28 (by decide) (fun cc28 => ?_) (fun cc28 => ?_)
          · have hE := hE.2 cc28
            refine lv_iconst (v := 0) hx hb d_M_isDeclared_35 (by decide) ?_
            exact J36  v2 0 _ (lv_sub hl [0, 2] rfl) hE
          · have hE := hE.1 cc28
            refine lv_iconst (v := 1) hx hb d_M_isDeclared_31 (by decide) ?_
            refine lv_goto (tgt := 36) hx hb d_M_isDeclared_32 (by decide) ?_
            exact J36  v2 1 _ (lv_sub hl [0, 2] rfl) hE
  unfold w_M_isDeclared at hE
  refine lv_iconst (v := 1) hx hb d_M_isDeclared_0 (by decide) ?_
  refine lv_istore_n (lv' := [(1, .int 1), (0, .ref (mA md 0))]) hx hb d_M_isDeclared_1 rfl hl (by decide) rfl (fun ls hl => ?_)
  refine lv_iconst (v := 0) hx hb d_M_isDeclared_2 (by decide) ?_
  refine lv_istore_n (lv' := [(2, .int 0), (1, .int 1), (0, .ref (mA md 0))]) hx hb d_M_isDeclared_3 rfl hl (by decide) rfl (fun ls hl => ?_)
  obtain ⟨n4, hE⟩ := hE
  exact L4  n4 1 0 _ (lv_sub hl [2, 1, 0] rfl) hE

theorem d_M_areAlike_0 : decode b_M_areAlike 0 = .ok (.iconst 1, 1) := by decide +kernel
theorem d_M_areAlike_1 : decode b_M_areAlike 1 = .ok (.istore 4, 2) := by decide +kernel
theorem d_M_areAlike_3 : decode b_M_areAlike 3 = .ok (.iconst 0, 1) := by decide +kernel
theorem d_M_areAlike_4 : decode b_M_areAlike 4 = .ok (.istore 5, 2) := by decide +kernel
theorem d_M_areAlike_6 : decode b_M_areAlike 6 = .ok (.iload 5, 2) := by decide +kernel
theorem d_M_areAlike_8 : decode b_M_areAlike 8 = .ok (.iload_n 3, 1) := by decide +kernel
theorem d_M_areAlike_9 : decode b_M_areAlike 9 = .ok (.if_icmp .ge 42, 3) := by decide +kernel
theorem d_M_areAlike_12 : decode b_M_areAlike 12 = .ok (.iload 4, 2) := by decide +kernel
theorem d_M_areAlike_14 : decode b_M_areAlike 14 = .ok (.ifCond .eq 37, 3) := by decide +kernel
theorem d_M_areAlike_17 : decode b_M_areAlike 17 = .ok (.aload_n 0, 1) := by decide +kernel
theorem d_M_areAlike_18 : decode b_M_areAlike 18 = .ok (.getfield 13, 3) := by decide +kernel
theorem d_M_areAlike_21 : decode b_M_areAlike 21 = .ok (.iload_n 1, 1) := by decide +kernel
theorem d_M_areAlike_22 : decode b_M_areAlike 22 = .ok (.iload 5, 2) := by decide +kernel
theorem d_M_areAlike_24 : decode b_M_areAlike 24 = .ok (.iadd, 1) := by decide +kernel
theorem d_M_areAlike_25 : decode b_M_areAlike 25 = .ok (.baload, 1) := by decide +kernel
theorem d_M_areAlike_26 : decode b_M_areAlike 26 = .ok (.aload_n 0, 1) := by decide +kernel
theorem d_M_areAlike_27 : decode b_M_areAlike 27 = .ok (.getfield 13, 3) := by decide +kernel
theorem d_M_areAlike_30 : decode b_M_areAlike 30 = .ok (.iload_n 2, 1) := by decide +kernel
theorem d_M_areAlike_31 : decode b_M_areAlike 31 = .ok (.iload 5, 2) := by decide +kernel
theorem d_M_areAlike_33 : decode b_M_areAlike 33 = .ok (.iadd, 1) := by decide +kernel
theorem d_M_areAlike_34 : decode b_M_areAlike 34 = .ok (.baload, 1) := by decide +kernel
theorem d_M_areAlike_35 : decode b_M_areAlike 35 = .ok (.if_icmp .ne 7, 3) := by decide +kernel
theorem d_M_areAlike_38 : decode b_M_areAlike 38 = .ok (.iconst 1, 1) := by decide +kernel
theorem d_M_areAlike_39 : decode b_M_areAlike 39 = .ok (.goto 4, 3) := by decide +kernel
theorem d_M_areAlike_42 : decode b_M_areAlike 42 = .ok (.iconst 0, 1) := by decide +kernel
theorem d_M_areAlike_43 : decode b_M_areAlike 43 = .ok (.istore 4, 2) := by decide +kernel
theorem d_M_areAlike_45 : decode b_M_areAlike 45 = .ok (.iinc 5 1, 3) := by decide +kernel
theorem d_M_areAlike_48 : decode b_M_areAlike 48 = .ok (.goto (-42), 3) := by decide +kernel
theorem d_M_areAlike_51 : decode b_M_areAlike 51 = .ok (.iload 4, 2) := by decide +kernel
theorem d_M_areAlike_53 : decode b_M_areAlike 53 = .ok (.ireturn, 1) := by decide +kernel
def w_M_areAlike_J43  (σ : MPS) (v1 : Int32) (v2 : Int32) (v3 : Int32) (K6 : Int32 → Int32 → Prop) (post : Int32 → Prop) (v5 : Int32) (t0 : Int32) : Prop := K6 t0 (v5 + 1)
def w_M_areAlike_L6  (σ : MPS) (v1 : Int32) (v2 : Int32) (v3 : Int32) (post : Int32 → Prop) : Nat → Int32 → Int32 → Prop
  | 0, _, _ => False
  | n6 + 1, v4, v5 => ((v3 ≤ v5 → (narrow .boolean (.int v4) = .int v4 ∧ post v4)) ∧ (¬ v3 ≤ v5 → ((v4 = 0 → (narrow .boolean (.int v4) = .int v4 ∧ post v4)) ∧ (¬ v4 = 0 → (vp_in (v1 + v5) 4000 ∧ (vp_in (v2 + v5) 4000 ∧ ((((mp_text σ) (v1 + v5).toNatClampNeg) = ((mp_text σ) (v2 + v5).toNatClampNeg) → w_M_areAlike_J43 σ v1 v2 v3 (w_M_areAlike_L6 σ v1 v2 v3 post n6) post v5 1) ∧ (¬ ((mp_text σ) (v1 + v5).toNatClampNeg) = ((mp_text σ) (v2 + v5).toNatClampNeg) → w_M_areAlike_J43 σ v1 v2 v3 (w_M_areAlike_L6 σ v1 v2 v3 post n6) post v5 0))))))))
def w_M_areAlike  (σ : MPS) (x0 : Int32) (x1 : Int32) (x2 : Int32) (post : Int32 → Prop) : Prop := (∃ n6, w_M_areAlike_L6 σ x0 x1 x2 post n6 1 0)
set_option maxHeartbeats 4000000 in
set_option maxRecDepth 100000 in
theorem c_M_areAlike (l : Launch) (md : MD) (σ : MPS) (x0 : Int32) (x1 : Int32) (x2 : Int32)  (post : Int32 → Prop) (hE : w_M_areAlike σ x0 x1 x2 post) : Met l y_M_areAlike ws_M_areAlike { frames := 0, cells := 0, slots := 0, locals := 0 } (va_Pc [.ref (mA md 0), .int x0, .int x1, .int x2] (rM md σ)) (vp_Si post) 0 0 (fun _ => False) := by
  refine Met.ofW (cc := b_M_areAlike) (maxL := 6) (ret := (some .boolean)) (by decide) rfl ?_
  intro p e s m args below meth c s₁ B hml hv
  obtain ⟨rfl, hP, hK⟩ := hv
  have hS : va_S (fun _ : Nat => False) s.heap s.heap [] := va_S.rf
  have hx := B.exec
  have hb := B.bytes
  have hr := B.returns
  have hta : ∀ w ∈ aW, w.before _ s = true := fun w h => atoms_spec (ws := ws_M_areAlike) B.pre w (List.mem_cons_of_mem _ h)
  have hown : s.vm.findClass R_M = some m.cls := findClass_of_methodNamed B.named
  have hlocks := B.notSynchronized
  have hl := lv_entry ([.ref (mA md 0), .int x0, .int x1, .int x2]) (n := 6) (Nat.le_of_ble_eq_true rfl)
  rw [lg_entry_eq]
  generalize (lg_sl ([.ref (mA md 0), .int x0, .int x1, .int x2]) ++ List.replicate (6 - (lg_sl ([.ref (mA md 0), .int x0, .int x1, .int x2])).length) Slot.unset).toArray = ls at hl ⊢
  have hl : lv_has ls 6 [(0, .ref (mA md 0)), (1, .int x0), (2, .int x1), (3, .int x2)] := hl
  have L6 : ∀ (v1 : Int32) (v2 : Int32) (v3 : Int32) (n6 : Nat) (v4 : Int32) (v5 : Int32) (ls : Array Slot) (hl : lv_has ls 6 [(0, .ref (mA md 0)), (1, .int v1), (2, .int v2), (3, .int v3), (4, .int v4), (5, .int v5)]) (hE : w_M_areAlike_L6 σ v1 v2 v3 post n6 v4 v5), W p l e (headSpec ws_M_areAlike { frames := 0, cells := 0, slots := 0, locals := 0 }).room s m ([.ref (mA md 0), .int x0, .int x1, .int x2] : List Value).toArray below meth c s.heap [] 0 0 (MQ below (vp_Si post) ([.ref (mA md 0), .int x0, .int x1, .int x2] : List Value).toArray s 0 0 (fun _ => False)) (F0 m 6 ls []) := by
    intro v1 v2 v3 n6
    induction n6 with
    | zero => intro v4 v5 ls hl hE; exact hE.elim
    | succ n6 ih6 =>
      have J43 : ∀ (v5 : Int32) (t0 : Int32) (ls : Array Slot) (hl : lv_has ls 6 [(0, .ref (mA md 0)), (1, .int v1), (2, .int v2), (3, .int v3), (5, .int v5)]) (hE : w_M_areAlike_J43 σ v1 v2 v3 (w_M_areAlike_L6 σ v1 v2 v3 post n6) post v5 t0), W p l e (headSpec ws_M_areAlike { frames := 0, cells := 0, slots := 0, locals := 0 }).room s m ([.ref (mA md 0), .int x0, .int x1, .int x2] : List Value).toArray below meth c s.heap [] 0 0 (MQ below (vp_Si post) ([.ref (mA md 0), .int x0, .int x1, .int x2] : List Value).toArray s 0 0 (fun _ => False)) (F0 m 43 ls [.int t0]) := by
        intro  v5 t0 ls hl hE
        unfold w_M_areAlike_J43 at hE
        refine lv_istore (lv' := [(4, .int t0), (0, .ref (mA md 0)), (1, .int v1), (2, .int v2), (3, .int v3), (5, .int v5)]) hx hb d_M_areAlike_43 hl (by decide) rfl (fun ls hl => ?_)
        refine lv_iinc (v := v5 + 1) (lv' := [(5, .int (v5 + 1)), (4, .int t0), (0, .ref (mA md 0)), (1, .int v1), (2, .int v2), (3, .int v3)]) hx hb d_M_areAlike_45 hl (k := 5) rfl rfl (by decide) rfl (fun ls hl => ?_)
        refine lv_goto (tgt := 6) hx hb d_M_areAlike_48 (by decide) ?_
        exact ih6 t0 (v5 + 1) _ (lv_sub hl [2, 3, 4, 5, 1, 0] rfl) hE
      intro v4 v5 ls hl hE
      unfold w_M_areAlike_L6 at hE
      refine lv_iload hx hb d_M_areAlike_6 (lv_at hl 5 rfl) ?_
      refine lv_iload_n hx hb d_M_areAlike_8 rfl (lv_at hl 3 rfl) ?_
      refine lv_icmp_ge (tgt := 51) hx hb d_M_areAlike_9 (by decide) (fun cc9 => ?_) (fun cc9 => ?_)
      · have hE := hE.1 cc9
        refine lv_iload hx hb d_M_areAlike_51 (lv_at hl 4 rfl) ?_
        obtain ⟨hN, hE⟩ := hE
        exact W.zret (v := v4) hx hb hr hN (fun t ht hW => ⟨_, rfl, hE, ht⟩) (fun q h => by cases h) d_M_areAlike_53
      · have hE := hE.2 cc9
        refine lv_iload hx hb d_M_areAlike_12 (lv_at hl 4 rfl) ?_
        refine lv_if_eq (tgt := 51) hx hb d_M_areAlike_14 (by decide) (fun cc14 => ?_) (fun cc14 => ?_)
        · have hE := hE.1 cc14
          refine lv_iload hx hb d_M_areAlike_51 (lv_at hl 4 rfl) ?_
          obtain ⟨hN, hE⟩ := hE
          exact W.zret (v := v4) hx hb hr hN (fun t ht hW => ⟨_, rfl, hE, ht⟩) (fun q h => by cases h) d_M_areAlike_53
        · have hE := hE.2 cc14
          refine lv_aload_n hx hb d_M_areAlike_17 rfl (lv_at hl 0 rfl) ?_
          refine va_get (D := (mG md)) (ci := 7) (v := .ref (mA md 2)) (C := R_M) (T := F_M) (N := 37) hx hb hta i_M hown hK hP 0 rfl rfl 2 (by decide) (hta _ fl_M_13) (fun _ h9 => h9) rfl d_M_areAlike_18 ?_
          refine lv_iload_n hx hb d_M_areAlike_21 rfl (lv_at hl 1 rfl) ?_
          refine lv_iload hx hb d_M_areAlike_22 (lv_at hl 5 rfl) ?_
          refine lv_iadd hx hb d_M_areAlike_24 ?_
          obtain ⟨hI25, hE⟩ := hE
          refine va_bald (D := (mG md)) (f := mp_text σ) hx hb hK hP 2 1 rfl rfl hI25 d_M_areAlike_25 ?_
          refine lv_aload_n hx hb d_M_areAlike_26 rfl (lv_at hl 0 rfl) ?_
          refine va_get (D := (mG md)) (ci := 7) (v := .ref (mA md 2)) (C := R_M) (T := F_M) (N := 37) hx hb hta i_M hown hK hP 0 rfl rfl 2 (by decide) (hta _ fl_M_13) (fun _ h9 => h9) rfl d_M_areAlike_27 ?_
          refine lv_iload_n hx hb d_M_areAlike_30 rfl (lv_at hl 2 rfl) ?_
          refine lv_iload hx hb d_M_areAlike_31 (lv_at hl 5 rfl) ?_
          refine lv_iadd hx hb d_M_areAlike_33 ?_
          obtain ⟨hI34, hE⟩ := hE
          refine va_bald (D := (mG md)) (f := mp_text σ) hx hb hK hP 2 1 rfl rfl hI34 d_M_areAlike_34 ?_
          refine lv_icmp_ne (tgt := 42) hx hb d_M_areAlike_35 (by decide) (fun cc35 => ?_) (fun cc35 => ?_)
          · have hE := hE.2 cc35
            refine lv_iconst (v := 0) hx hb d_M_areAlike_42 (by decide) ?_
            exact J43  v5 0 _ (lv_sub hl [0, 1, 2, 3, 5] rfl) hE
          · have hE := hE.1 cc35
            refine lv_iconst (v := 1) hx hb d_M_areAlike_38 (by decide) ?_
            refine lv_goto (tgt := 43) hx hb d_M_areAlike_39 (by decide) ?_
            exact J43  v5 1 _ (lv_sub hl [0, 1, 2, 3, 5] rfl) hE
  unfold w_M_areAlike at hE
  refine lv_iconst (v := 1) hx hb d_M_areAlike_0 (by decide) ?_
  refine lv_istore (lv' := [(4, .int 1), (0, .ref (mA md 0)), (1, .int x0), (2, .int x1), (3, .int x2)]) hx hb d_M_areAlike_1 hl (by decide) rfl (fun ls hl => ?_)
  refine lv_iconst (v := 0) hx hb d_M_areAlike_3 (by decide) ?_
  refine lv_istore (lv' := [(5, .int 0), (4, .int 1), (0, .ref (mA md 0)), (1, .int x0), (2, .int x1), (3, .int x2)]) hx hb d_M_areAlike_4 hl (by decide) rfl (fun ls hl => ?_)
  obtain ⟨n6, hE⟩ := hE
  exact L6 x0 x1 x2 n6 1 0 _ (lv_sub hl [2, 3, 4, 5, 1, 0] rfl) hE
theorem ok_M_107 : okS "PlainPagesModel" 107 y_M_isNameSign b_M_isNameSign 2 (some .boolean) 2 := ⟨aW_in 1064 (by decide +kernel) rfl, aW_in 1065 (by decide +kernel) rfl, aW_in 92 (by decide +kernel) rfl, cd_M_isNameSign, by decide +kernel, by decide +kernel, by decide +kernel⟩
theorem d_M_behindName_0 : decode b_M_behindName 0 = .ok (.iload_n 1, 1) := by decide +kernel
theorem d_M_behindName_1 : decode b_M_behindName 1 = .ok (.iconst 1, 1) := by decide +kernel
theorem d_M_behindName_2 : decode b_M_behindName 2 = .ok (.iadd, 1) := by decide +kernel
theorem d_M_behindName_3 : decode b_M_behindName 3 = .ok (.istore_n 2, 1) := by decide +kernel
theorem d_M_behindName_4 : decode b_M_behindName 4 = .ok (.aload_n 0, 1) := by decide +kernel
theorem d_M_behindName_5 : decode b_M_behindName 5 = .ok (.iload_n 2, 1) := by decide +kernel
theorem d_M_behindName_6 : decode b_M_behindName 6 = .ok (.invokevirtual 95, 3) := by decide +kernel
theorem d_M_behindName_9 : decode b_M_behindName 9 = .ok (.iconst 0, 1) := by decide +kernel
theorem d_M_behindName_10 : decode b_M_behindName 10 = .ok (.invokestatic 107, 3) := by decide +kernel
theorem d_M_behindName_13 : decode b_M_behindName 13 = .ok (.ifCond .eq 9, 3) := by decide +kernel
theorem d_M_behindName_16 : decode b_M_behindName 16 = .ok (.iinc 2 1, 3) := by decide +kernel
theorem d_M_behindName_19 : decode b_M_behindName 19 = .ok (.goto (-15), 3) := by decide +kernel
theorem d_M_behindName_22 : decode b_M_behindName 22 = .ok (.iload_n 2, 1) := by decide +kernel
theorem d_M_behindName_23 : decode b_M_behindName 23 = .ok (.ireturn, 1) := by decide +kernel
def w_M_behindName_L4  (σ : MPS) (post : Int32 → Prop) : Nat → Int32 → Prop
  | 0, _ => False
  | n4 + 1, v2 => (mXk σ v2 ∧ (((b2i (cNs (mX σ v2) 0)) = 0 → post v2) ∧ (¬ (b2i (cNs (mX σ v2) 0)) = 0 → w_M_behindName_L4 σ post n4 (v2 + 1))))
def w_M_behindName  (σ : MPS) (x0 : Int32) (post : Int32 → Prop) : Prop := (∃ n4, w_M_behindName_L4 σ post n4 (x0 + 1))
set_option maxHeartbeats 4000000 in
set_option maxRecDepth 100000 in
theorem c_M_behindName (l : Launch) (md : MD) (σ : MPS) (x0 : Int32)  (post : Int32 → Prop) (hE : w_M_behindName σ x0 post) : Met l y_M_behindName ws_M_behindName { frames := 2, cells := 0, slots := 0, locals := 41 } (va_Pc [.ref (mA md 0), .int x0] (rM md σ)) (vp_Si post) 0 0 (fun _ => False) := by
  refine Met.ofW (cc := b_M_behindName) (maxL := 3) (ret := (some .int)) (by decide) rfl ?_
  intro p e s m args below meth c s₁ B hml hv
  obtain ⟨rfl, hP, hK⟩ := hv
  have hS : va_S (fun _ : Nat => False) s.heap s.heap [] := va_S.rf
  have hx := B.exec
  have hb := B.bytes
  have hr := B.returns
  have hta : ∀ w ∈ aW, w.before _ s = true := fun w h => atoms_spec (ws := ws_M_behindName) B.pre w (List.mem_cons_of_mem _ h)
  have hown : s.vm.findClass R_M = some m.cls := findClass_of_methodNamed B.named
  have hlocks := B.notSynchronized
  have hl := lv_entry ([.ref (mA md 0), .int x0]) (n := 3) (Nat.le_of_ble_eq_true rfl)
  rw [lg_entry_eq]
  generalize (lg_sl ([.ref (mA md 0), .int x0]) ++ List.replicate (3 - (lg_sl ([.ref (mA md 0), .int x0])).length) Slot.unset).toArray = ls at hl ⊢
  have hl : lv_has ls 3 [(0, .ref (mA md 0)), (1, .int x0)] := hl
  have L4 : ∀ (n4 : Nat) (v2 : Int32) (ls : Array Slot) (hl : lv_has ls 3 [(0, .ref (mA md 0)), (2, .int v2)]) (hE : w_M_behindName_L4 σ post n4 v2), W p l e (headSpec ws_M_behindName { frames := 2, cells := 0, slots := 0, locals := 41 }).room s m ([.ref (mA md 0), .int x0] : List Value).toArray below meth c s.heap [] 0 0 (MQ below (vp_Si post) ([.ref (mA md 0), .int x0] : List Value).toArray s 0 0 (fun _ => False)) (F0 m 4 ls []) := by
    intro n4
    induction n4 with
    | zero => intro v2 ls hl hE; exact hE.elim
    | succ n4 ih4 =>
      intro v2 ls hl hE
      unfold w_M_behindName_L4 at hE
      refine lv_aload_n hx hb d_M_behindName_4 rfl (lv_at hl 0 rfl) ?_
      refine lv_iload_n hx hb d_M_behindName_5 rfl (lv_at hl 1 rfl) ?_
      obtain ⟨hc6_0, hE⟩ := hE
      refine ro_V (b0 := (mA md 0)) (As := [.int v2]) (rest := []) ⟨hx, hb, hml, hown, hta⟩ (f_M_x l md σ v2 hc6_0) ok_M_95 ⟨Nat.le_of_ble_eq_true rfl, Nat.le_of_ble_eq_true rfl⟩ blind_rM (va_recv hK hP (ci := 7) (q0 := 0) rfl rfl) (rM_of hP hK) rfl hl.1 rfl (Nat.le_of_ble_eq_true rfl) d_M_behindName_6 ⟨Nat.zero_le _, Nat.zero_le _⟩ (fun r6 hrr => ?_)
      subst hrr
      refine lv_iconst (v := 0) hx hb d_M_behindName_9 (by decide) ?_
      refine ro_S  (As := [.int (mX σ v2), .int 0]) (rest := []) ⟨hx, hb, hml, hown, hta⟩ (f_M_isNameSign l (mX σ v2) 0) ok_M_107 ⟨Nat.le_of_ble_eq_true rfl, Nat.le_of_ble_eq_true rfl⟩ blind_true  (fun _ _ _ => trivial) rfl hl.1 rfl (Nat.le_of_ble_eq_true rfl) d_M_behindName_10 ⟨Nat.zero_le _, Nat.zero_le _⟩ (fun r10 hrr => ?_)
      subst hrr
      refine lv_if_eq (tgt := 22) hx hb d_M_behindName_13 (by decide) (fun cc13 => ?_) (fun cc13 => ?_)
      · have hE := hE.1 cc13
        refine lv_iload_n hx hb d_M_behindName_22 rfl (lv_at hl 1 rfl) ?_
        exact W.iret (v := v2) hx hb hr (fun t ht hW => ⟨_, rfl, hE, ht⟩) (fun q h => by cases h) d_M_behindName_23
      · have hE := hE.2 cc13
        refine lv_iinc (v := v2 + 1) (lv' := [(2, .int (v2 + 1)), (0, .ref (mA md 0))]) hx hb d_M_behindName_16 hl (k := 1) rfl rfl (by decide) rfl (fun ls hl => ?_)
        refine lv_goto (tgt := 4) hx hb d_M_behindName_19 (by decide) ?_
        exact ih4 (v2 + 1) _ (lv_sub hl [1, 0] rfl) hE
  unfold w_M_behindName at hE
  refine lv_iload_n hx hb d_M_behindName_0 rfl (lv_at hl 1 rfl) ?_
  refine lv_iconst (v := 1) hx hb d_M_behindName_1 (by decide) ?_
  refine lv_iadd hx hb d_M_behindName_2 ?_
  refine lv_istore_n (lv' := [(2, .int (x0 + 1)), (0, .ref (mA md 0)), (1, .int x0)]) hx hb d_M_behindName_3 rfl hl (by decide) rfl (fun ls hl => ?_)
  obtain ⟨n4, hE⟩ := hE
  exact L4  n4 (x0 + 1) _ (lv_sub hl [1, 0] rfl) hE
theorem fl_M_40 : Cond.fieldLink "PlainPagesModel" 40 "PlainPagesModel" "begins" "[I" ∈ aW := aW_in 928 (by decide +kernel) rfl
theorem ok_M_154 : okV "PlainPagesModel" 154 R_M y_M_behindName b_M_behindName 3 (some .int) 1 := ⟨aW_in 1085 (by decide +kernel) rfl, aW_in 1087 (by decide +kernel) rfl, aW_in 49 (by decide +kernel) rfl, aW_in 92 (by decide +kernel) rfl, cd_M_behindName, rfl, by decide +kernel, by decide +kernel, by decide +kernel⟩
theorem d_M_nameSize_0 : decode b_M_nameSize 0 = .ok (.aload_n 0, 1) := by decide +kernel
theorem d_M_nameSize_1 : decode b_M_nameSize 1 = .ok (.aload_n 0, 1) := by decide +kernel
theorem d_M_nameSize_2 : decode b_M_nameSize 2 = .ok (.getfield 40, 3) := by decide +kernel
theorem d_M_nameSize_5 : decode b_M_nameSize 5 = .ok (.iload_n 1, 1) := by decide +kernel
theorem d_M_nameSize_6 : decode b_M_nameSize 6 = .ok (.iaload, 1) := by decide +kernel
theorem d_M_nameSize_7 : decode b_M_nameSize 7 = .ok (.invokevirtual 154, 3) := by decide +kernel
theorem d_M_nameSize_10 : decode b_M_nameSize 10 = .ok (.aload_n 0, 1) := by decide +kernel
theorem d_M_nameSize_11 : decode b_M_nameSize 11 = .ok (.getfield 40, 3) := by decide +kernel
theorem d_M_nameSize_14 : decode b_M_nameSize 14 = .ok (.iload_n 1, 1) := by decide +kernel
theorem d_M_nameSize_15 : decode b_M_nameSize 15 = .ok (.iaload, 1) := by decide +kernel
theorem d_M_nameSize_16 : decode b_M_nameSize 16 = .ok (.isub, 1) := by decide +kernel
theorem d_M_nameSize_17 : decode b_M_nameSize 17 = .ok (.iconst 1, 1) := by decide +kernel
theorem d_M_nameSize_18 : decode b_M_nameSize 18 = .ok (.isub, 1) := by decide +kernel
theorem d_M_nameSize_19 : decode b_M_nameSize 19 = .ok (.ireturn, 1) := by decide +kernel
def w_M_nameSize  (σ : MPS) (x0 : Int32) (post : Int32 → Prop) : Prop := (vp_in x0 1000 ∧ w_M_behindName σ ((mp_begins σ) x0.toNatClampNeg) (fun r7 => (vp_in x0 1000 ∧ post ((r7 - ((mp_begins σ) x0.toNatClampNeg)) - 1))))
set_option maxHeartbeats 4000000 in
set_option maxRecDepth 100000 in
theorem c_M_nameSize (l : Launch) (md : MD) (σ : MPS) (x0 : Int32)  (post : Int32 → Prop) (hE : w_M_nameSize σ x0 post) : Met l y_M_nameSize ws_M_nameSize { frames := 3, cells := 0, slots := 0, locals := 63 } (va_Pc [.ref (mA md 0), .int x0] (rM md σ)) (vp_Si post) 0 0 (fun _ => False) := by
  refine Met.ofW (cc := b_M_nameSize) (maxL := 2) (ret := (some .int)) (by decide) rfl ?_
  intro p e s m args below meth c s₁ B hml hv
  obtain ⟨rfl, hP, hK⟩ := hv
  have hS : va_S (fun _ : Nat => False) s.heap s.heap [] := va_S.rf
  have hx := B.exec
  have hb := B.bytes
  have hr := B.returns
  have hta : ∀ w ∈ aW, w.before _ s = true := fun w h => atoms_spec (ws := ws_M_nameSize) B.pre w (List.mem_cons_of_mem _ h)
  have hown : s.vm.findClass R_M = some m.cls := findClass_of_methodNamed B.named
  have hlocks := B.notSynchronized
  have hl := lv_entry ([.ref (mA md 0), .int x0]) (n := 2) (Nat.le_of_ble_eq_true rfl)
  rw [lg_entry_eq]
  generalize (lg_sl ([.ref (mA md 0), .int x0]) ++ List.replicate (2 - (lg_sl ([.ref (mA md 0), .int x0])).length) Slot.unset).toArray = ls at hl ⊢
  have hl : lv_has ls 2 [(0, .ref (mA md 0)), (1, .int x0)] := hl
  unfold w_M_nameSize at hE
  refine lv_aload_n hx hb d_M_nameSize_0 rfl (lv_at hl 0 rfl) ?_
  refine lv_aload_n hx hb d_M_nameSize_1 rfl (lv_at hl 0 rfl) ?_
  refine va_get (D := (mG md)) (ci := 7) (v := .ref (mA md 9)) (C := R_M) (T := F_M) (N := 37) hx hb hta i_M hown hK hP 0 rfl rfl 24 (by decide) (hta _ fl_M_40) (fun _ h9 => h9) rfl d_M_nameSize_2 ?_
  refine lv_iload_n hx hb d_M_nameSize_5 rfl (lv_at hl 1 rfl) ?_
  obtain ⟨hI6, hE⟩ := hE
  refine va_iald (D := (mG md)) (f := mp_begins σ) hx hb hK hP 9 0 rfl rfl hI6 d_M_nameSize_6 ?_
  refine ro_V (b0 := (mA md 0)) (As := [.int ((mp_begins σ) x0.toNatClampNeg)]) (rest := []) ⟨hx, hb, hml, hown, hta⟩ (c_M_behindName l md σ ((mp_begins σ) x0.toNatClampNeg)  _ hE) ok_M_154 ⟨Nat.le_of_ble_eq_true rfl, Nat.le_of_ble_eq_true rfl⟩ blind_rM (va_recv hK hP (ci := 7) (q0 := 0) rfl rfl) (rM_of hP hK) rfl hl.1 rfl (Nat.le_of_ble_eq_true rfl) d_M_nameSize_7 ⟨Nat.zero_le _, Nat.zero_le _⟩ (fun r7 hE => ?_)
  refine lv_aload_n hx hb d_M_nameSize_10 rfl (lv_at hl 0 rfl) ?_
  refine va_get (D := (mG md)) (ci := 7) (v := .ref (mA md 9)) (C := R_M) (T := F_M) (N := 37) hx hb hta i_M hown hK hP 0 rfl rfl 24 (by decide) (hta _ fl_M_40) (fun _ h9 => h9) rfl d_M_nameSize_11 ?_
  refine lv_iload_n hx hb d_M_nameSize_14 rfl (lv_at hl 1 rfl) ?_
  obtain ⟨hI15, hE⟩ := hE
  refine va_iald (D := (mG md)) (f := mp_begins σ) hx hb hK hP 9 0 rfl rfl hI15 d_M_nameSize_15 ?_
  refine lv_isub hx hb d_M_nameSize_16 ?_
  refine lv_iconst (v := 1) hx hb d_M_nameSize_17 (by decide) ?_
  refine lv_isub hx hb d_M_nameSize_18 ?_
  exact W.iret (v := (r7 - ((mp_begins σ) x0.toNatClampNeg)) - 1) hx hb hr (fun t ht hW => ⟨_, rfl, hE, ht⟩) (fun q h => by cases h) d_M_nameSize_19
theorem fl_M_36 : Cond.fieldLink "PlainPagesModel" 36 "PlainPagesModel" "isElement" "[Z" ∈ aW := aW_in 927 (by decide +kernel) rfl
theorem ok_M_221 : okV "PlainPagesModel" 221 R_M y_M_nameSize b_M_nameSize 2 (some .int) 1 := ⟨aW_in 1151 (by decide +kernel) rfl, aW_in 1153 (by decide +kernel) rfl, aW_in 60 (by decide +kernel) rfl, aW_in 92 (by decide +kernel) rfl, cd_M_nameSize, rfl, by decide +kernel, by decide +kernel, by decide +kernel⟩
theorem ok_M_124 : okV "PlainPagesModel" 124 R_M y_M_says b_M_says 7 (some .boolean) 3 := ⟨aW_in 1119 (by decide +kernel) rfl, aW_in 1121 (by decide +kernel) rfl, aW_in 55 (by decide +kernel) rfl, aW_in 92 (by decide +kernel) rfl, cd_M_says, rfl, by decide +kernel, by decide +kernel, by decide +kernel⟩
theorem d_M_isNamed_0 : decode b_M_isNamed 0 = .ok (.aload_n 0, 1) := by decide +kernel
theorem d_M_isNamed_1 : decode b_M_isNamed 1 = .ok (.getfield 36, 3) := by decide +kernel
theorem d_M_isNamed_4 : decode b_M_isNamed 4 = .ok (.iload_n 1, 1) := by decide +kernel
theorem d_M_isNamed_5 : decode b_M_isNamed 5 = .ok (.baload, 1) := by decide +kernel
theorem d_M_isNamed_6 : decode b_M_isNamed 6 = .ok (.ifCond .eq 35, 3) := by decide +kernel
theorem d_M_isNamed_9 : decode b_M_isNamed 9 = .ok (.aload_n 0, 1) := by decide +kernel
theorem d_M_isNamed_10 : decode b_M_isNamed 10 = .ok (.iload_n 1, 1) := by decide +kernel
theorem d_M_isNamed_11 : decode b_M_isNamed 11 = .ok (.invokevirtual 221, 3) := by decide +kernel
theorem d_M_isNamed_14 : decode b_M_isNamed 14 = .ok (.iload 4, 2) := by decide +kernel
theorem d_M_isNamed_16 : decode b_M_isNamed 16 = .ok (.if_icmp .ne 25, 3) := by decide +kernel
theorem d_M_isNamed_19 : decode b_M_isNamed 19 = .ok (.aload_n 0, 1) := by decide +kernel
theorem d_M_isNamed_20 : decode b_M_isNamed 20 = .ok (.aload_n 0, 1) := by decide +kernel
theorem d_M_isNamed_21 : decode b_M_isNamed 21 = .ok (.getfield 40, 3) := by decide +kernel
theorem d_M_isNamed_24 : decode b_M_isNamed 24 = .ok (.iload_n 1, 1) := by decide +kernel
theorem d_M_isNamed_25 : decode b_M_isNamed 25 = .ok (.iaload, 1) := by decide +kernel
theorem d_M_isNamed_26 : decode b_M_isNamed 26 = .ok (.iconst 1, 1) := by decide +kernel
theorem d_M_isNamed_27 : decode b_M_isNamed 27 = .ok (.iadd, 1) := by decide +kernel
theorem d_M_isNamed_28 : decode b_M_isNamed 28 = .ok (.lload_n 2, 1) := by decide +kernel
theorem d_M_isNamed_29 : decode b_M_isNamed 29 = .ok (.iload 4, 2) := by decide +kernel
theorem d_M_isNamed_31 : decode b_M_isNamed 31 = .ok (.invokevirtual 124, 3) := by decide +kernel
theorem d_M_isNamed_34 : decode b_M_isNamed 34 = .ok (.ifCond .eq 7, 3) := by decide +kernel
theorem d_M_isNamed_37 : decode b_M_isNamed 37 = .ok (.iconst 1, 1) := by decide +kernel
theorem d_M_isNamed_38 : decode b_M_isNamed 38 = .ok (.goto 4, 3) := by decide +kernel
theorem d_M_isNamed_41 : decode b_M_isNamed 41 = .ok (.iconst 0, 1) := by decide +kernel
theorem d_M_isNamed_42 : decode b_M_isNamed 42 = .ok (.ireturn, 1) := by decide +kernel
def w_M_isNamed  (σ : MPS) (x0 : Int32) (x1 : Int64) (x2 : Int32) (post : Int32 → Prop) : Prop := (vp_in x0 1000 ∧ ((((mp_isElement σ) x0.toNatClampNeg) = 0 → post 0) ∧ (¬ ((mp_isElement σ) x0.toNatClampNeg) = 0 → w_M_nameSize σ x0 (fun r11 => ((r11 = x2 → (vp_in x0 1000 ∧ w_M_says σ (((mp_begins σ) x0.toNatClampNeg) + 1) x1 x2 (fun r31 => ((r31 = 0 → post 0) ∧ (¬ r31 = 0 → post 1))))) ∧ (¬ r11 = x2 → post 0))))))
set_option maxHeartbeats 4000000 in
set_option maxRecDepth 100000 in
theorem c_M_isNamed (l : Launch) (md : MD) (σ : MPS) (x0 : Int32) (x1 : Int64) (x2 : Int32)  (post : Int32 → Prop) (hE : w_M_isNamed σ x0 x1 x2 post) : Met l y_M_isNamed ws_M_isNamed { frames := 4, cells := 0, slots := 0, locals := 84 } (va_Pc [.ref (mA md 0), .int x0, .long x1, .int x2] (rM md σ)) (vp_Si post) 0 0 (fun _ => False) := by
  refine Met.ofW (cc := b_M_isNamed) (maxL := 5) (ret := (some .boolean)) (by decide) rfl ?_
  intro p e s m args below meth c s₁ B hml hv
  obtain ⟨rfl, hP, hK⟩ := hv
  have hS : va_S (fun _ : Nat => False) s.heap s.heap [] := va_S.rf
  have hx := B.exec
  have hb := B.bytes
  have hr := B.returns
  have hta : ∀ w ∈ aW, w.before _ s = true := fun w h => atoms_spec (ws := ws_M_isNamed) B.pre w (List.mem_cons_of_mem _ h)
  have hown : s.vm.findClass R_M = some m.cls := findClass_of_methodNamed B.named
  have hlocks := B.notSynchronized
  have hl := lv_entry ([.ref (mA md 0), .int x0, .long x1, .int x2]) (n := 5) (Nat.le_of_ble_eq_true rfl)
  rw [lg_entry_eq]
  generalize (lg_sl ([.ref (mA md 0), .int x0, .long x1, .int x2]) ++ List.replicate (5 - (lg_sl ([.ref (mA md 0), .int x0, .long x1, .int x2])).length) Slot.unset).toArray = ls at hl ⊢
  have hl : lv_has ls 5 [(0, .ref (mA md 0)), (1, .int x0), (2, .long x1), (4, .int x2)] := hl
  unfold w_M_isNamed at hE
  refine lv_aload_n hx hb d_M_isNamed_0 rfl (lv_at hl 0 rfl) ?_
  refine va_get (D := (mG md)) (ci := 7) (v := .ref (mA md 8)) (C := R_M) (T := F_M) (N := 37) hx hb hta i_M hown hK hP 0 rfl rfl 23 (by decide) (hta _ fl_M_36) (fun _ h9 => h9) rfl d_M_isNamed_1 ?_
  refine lv_iload_n hx hb d_M_isNamed_4 rfl (lv_at hl 1 rfl) ?_
  obtain ⟨hI5, hE⟩ := hE
  refine va_zald (D := (mG md)) (f := mp_isElement σ) hx hb hK hP 8 2 rfl rfl hI5 d_M_isNamed_5 ?_
  refine lv_if_eq (tgt := 41) hx hb d_M_isNamed_6 (by decide) (fun cc6 => ?_) (fun cc6 => ?_)
  · have hE := hE.1 cc6
    refine lv_iconst (v := 0) hx hb d_M_isNamed_41 (by decide) ?_
    exact W.zret (v := 0) hx hb hr rfl (fun t ht hW => ⟨_, rfl, hE, ht⟩) (fun q h => by cases h) d_M_isNamed_42
  · have hE := hE.2 cc6
    refine lv_aload_n hx hb d_M_isNamed_9 rfl (lv_at hl 0 rfl) ?_
    refine lv_iload_n hx hb d_M_isNamed_10 rfl (lv_at hl 1 rfl) ?_
    refine ro_V (b0 := (mA md 0)) (As := [.int x0]) (rest := []) ⟨hx, hb, hml, hown, hta⟩ (c_M_nameSize l md σ x0  _ hE) ok_M_221 ⟨Nat.le_of_ble_eq_true rfl, Nat.le_of_ble_eq_true rfl⟩ blind_rM (va_recv hK hP (ci := 7) (q0 := 0) rfl rfl) (rM_of hP hK) rfl hl.1 rfl (Nat.le_of_ble_eq_true rfl) d_M_isNamed_11 ⟨Nat.zero_le _, Nat.zero_le _⟩ (fun r11 hE => ?_)
    refine lv_iload hx hb d_M_isNamed_14 (lv_at hl 3 rfl) ?_
    refine lv_icmp_ne (tgt := 41) hx hb d_M_isNamed_16 (by decide) (fun cc16 => ?_) (fun cc16 => ?_)
    · have hE := hE.2 cc16
      refine lv_iconst (v := 0) hx hb d_M_isNamed_41 (by decide) ?_
      exact W.zret (v := 0) hx hb hr rfl (fun t ht hW => ⟨_, rfl, hE, ht⟩) (fun q h => by cases h) d_M_isNamed_42
    · have hE := hE.1 cc16
      refine lv_aload_n hx hb d_M_isNamed_19 rfl (lv_at hl 0 rfl) ?_
      refine lv_aload_n hx hb d_M_isNamed_20 rfl (lv_at hl 0 rfl) ?_
      refine va_get (D := (mG md)) (ci := 7) (v := .ref (mA md 9)) (C := R_M) (T := F_M) (N := 37) hx hb hta i_M hown hK hP 0 rfl rfl 24 (by decide) (hta _ fl_M_40) (fun _ h9 => h9) rfl d_M_isNamed_21 ?_
      refine lv_iload_n hx hb d_M_isNamed_24 rfl (lv_at hl 1 rfl) ?_
      obtain ⟨hI25, hE⟩ := hE
      refine va_iald (D := (mG md)) (f := mp_begins σ) hx hb hK hP 9 0 rfl rfl hI25 d_M_isNamed_25 ?_
      refine lv_iconst (v := 1) hx hb d_M_isNamed_26 (by decide) ?_
      refine lv_iadd hx hb d_M_isNamed_27 ?_
      refine lv_lload_n hx hb d_M_isNamed_28 rfl (lv_at hl 2 rfl) ?_
      refine lv_iload hx hb d_M_isNamed_29 (lv_at hl 3 rfl) ?_
      refine ro_V (b0 := (mA md 0)) (As := [.int (((mp_begins σ) x0.toNatClampNeg) + 1), .long x1, .int x2]) (rest := []) ⟨hx, hb, hml, hown, hta⟩ (c_M_says l md σ (((mp_begins σ) x0.toNatClampNeg) + 1) x1 x2  _ hE) ok_M_124 ⟨Nat.le_of_ble_eq_true rfl, Nat.le_of_ble_eq_true rfl⟩ blind_rM (va_recv hK hP (ci := 7) (q0 := 0) rfl rfl) (rM_of hP hK) rfl hl.1 rfl (Nat.le_of_ble_eq_true rfl) d_M_isNamed_31 ⟨Nat.zero_le _, Nat.zero_le _⟩ (fun r31 hE => ?_)
      refine lv_if_eq (tgt := 41) hx hb d_M_isNamed_34 (by decide) (fun cc34 => ?_) (fun cc34 => ?_)
      · have hE := hE.1 cc34
        refine lv_iconst (v := 0) hx hb d_M_isNamed_41 (by decide) ?_
        exact W.zret (v := 0) hx hb hr rfl (fun t ht hW => ⟨_, rfl, hE, ht⟩) (fun q h => by cases h) d_M_isNamed_42
      · have hE := hE.2 cc34
        refine lv_iconst (v := 1) hx hb d_M_isNamed_37 (by decide) ?_
        refine lv_goto (tgt := 42) hx hb d_M_isNamed_38 (by decide) ?_
        exact W.zret (v := 1) hx hb hr rfl (fun t ht hW => ⟨_, rfl, hE, ht⟩) (fun q h => by cases h) d_M_isNamed_42
