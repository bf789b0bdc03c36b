-- printed by wip/gen: the reference
theorem fl_M_73 : Cond.fieldLink "PlainPagesModel" 73 "PlainPagesModel" "taped" "I" ∈ aW := aW_in 910 (by decide +kernel) rfl
theorem fl_M_7 : Cond.fieldLink "PlainPagesModel" 7 "PlainPagesModel" "tape" "[B" ∈ aW := aW_in 905 (by decide +kernel) rfl
theorem d_M_end_0 : decode b_M_end 0 = .ok (.aload_n 0, 1) := by decide +kernel
theorem d_M_end_1 : decode b_M_end 1 = .ok (.iconst 0, 1) := by decide +kernel
theorem d_M_end_2 : decode b_M_end 2 = .ok (.putfield 70, 3) := by decide +kernel
theorem d_M_end_5 : decode b_M_end 5 = .ok (.iload_n 1, 1) := by decide +kernel
theorem d_M_end_6 : decode b_M_end 6 = .ok (.ifCond .lt 21, 3) := by decide +kernel
theorem d_M_end_9 : decode b_M_end 9 = .ok (.iload_n 1, 1) := by decide +kernel
theorem d_M_end_10 : decode b_M_end 10 = .ok (.bipush 20, 2) := by decide +kernel
theorem d_M_end_12 : decode b_M_end 12 = .ok (.if_icmp .gt 15, 3) := by decide +kernel
theorem d_M_end_15 : decode b_M_end 15 = .ok (.aload_n 0, 1) := by decide +kernel
theorem d_M_end_16 : decode b_M_end 16 = .ok (.getfield 73, 3) := by decide +kernel
theorem d_M_end_19 : decode b_M_end 19 = .ok (.iload_n 1, 1) := by decide +kernel
theorem d_M_end_20 : decode b_M_end 20 = .ok (.iadd, 1) := by decide +kernel
theorem d_M_end_21 : decode b_M_end 21 = .ok (.sipush 4000, 3) := by decide +kernel
theorem d_M_end_24 : decode b_M_end 24 = .ok (.if_icmp .le 5, 3) := by decide +kernel
theorem d_M_end_27 : decode b_M_end 27 = .ok (.iconst (-1), 1) := by decide +kernel
theorem d_M_end_28 : decode b_M_end 28 = .ok (.ireturn, 1) := by decide +kernel
theorem d_M_end_29 : decode b_M_end 29 = .ok (.iconst 0, 1) := by decide +kernel
theorem d_M_end_30 : decode b_M_end 30 = .ok (.istore_n 2, 1) := by decide +kernel
theorem d_M_end_31 : decode b_M_end 31 = .ok (.iload_n 2, 1) := by decide +kernel
theorem d_M_end_32 : decode b_M_end 32 = .ok (.iload_n 1, 1) := by decide +kernel
theorem d_M_end_33 : decode b_M_end 33 = .ok (.if_icmp .ge 26, 3) := by decide +kernel
theorem d_M_end_36 : decode b_M_end 36 = .ok (.aload_n 0, 1) := by decide +kernel
theorem d_M_end_37 : decode b_M_end 37 = .ok (.getfield 7, 3) := by decide +kernel
theorem d_M_end_40 : decode b_M_end 40 = .ok (.aload_n 0, 1) := by decide +kernel
theorem d_M_end_41 : decode b_M_end 41 = .ok (.getfield 73, 3) := by decide +kernel
theorem d_M_end_44 : decode b_M_end 44 = .ok (.iload_n 2, 1) := by decide +kernel
theorem d_M_end_45 : decode b_M_end 45 = .ok (.iadd, 1) := by decide +kernel
theorem d_M_end_46 : decode b_M_end 46 = .ok (.aload_n 0, 1) := by decide +kernel
theorem d_M_end_47 : decode b_M_end 47 = .ok (.getfield 16, 3) := by decide +kernel
theorem d_M_end_50 : decode b_M_end 50 = .ok (.iload_n 2, 1) := by decide +kernel
theorem d_M_end_51 : decode b_M_end 51 = .ok (.baload, 1) := by decide +kernel
theorem d_M_end_52 : decode b_M_end 52 = .ok (.bastore, 1) := by decide +kernel
theorem d_M_end_53 : decode b_M_end 53 = .ok (.iinc 2 1, 3) := by decide +kernel
theorem d_M_end_56 : decode b_M_end 56 = .ok (.goto (-25), 3) := by decide +kernel
theorem d_M_end_59 : decode b_M_end 59 = .ok (.aload_n 0, 1) := by decide +kernel
theorem d_M_end_60 : decode b_M_end 60 = .ok (.dup, 1) := by decide +kernel
theorem d_M_end_61 : decode b_M_end 61 = .ok (.getfield 73, 3) := by decide +kernel
theorem d_M_end_64 : decode b_M_end 64 = .ok (.iload_n 1, 1) := by decide +kernel
theorem d_M_end_65 : decode b_M_end 65 = .ok (.iadd, 1) := by decide +kernel
theorem d_M_end_66 : decode b_M_end 66 = .ok (.putfield 73, 3) := by decide +kernel
theorem d_M_end_69 : decode b_M_end 69 = .ok (.iconst 0, 1) := by decide +kernel
theorem d_M_end_70 : decode b_M_end 70 = .ok (.istore_n 2, 1) := by decide +kernel
theorem d_M_end_71 : decode b_M_end 71 = .ok (.iload_n 2, 1) := by decide +kernel
theorem d_M_end_72 : decode b_M_end 72 = .ok (.bipush 20, 2) := by decide +kernel
theorem d_M_end_74 : decode b_M_end 74 = .ok (.if_icmp .ge 16, 3) := by decide +kernel
theorem d_M_end_77 : decode b_M_end 77 = .ok (.aload_n 0, 1) := by decide +kernel
theorem d_M_end_78 : decode b_M_end 78 = .ok (.getfield 16, 3) := by decide +kernel
theorem d_M_end_81 : decode b_M_end 81 = .ok (.iload_n 2, 1) := by decide +kernel
theorem d_M_end_82 : decode b_M_end 82 = .ok (.iconst 0, 1) := by decide +kernel
theorem d_M_end_83 : decode b_M_end 83 = .ok (.bastore, 1) := by decide +kernel
theorem d_M_end_84 : decode b_M_end 84 = .ok (.iinc 2 1, 3) := by decide +kernel
theorem d_M_end_87 : decode b_M_end 87 = .ok (.goto (-16), 3) := by decide +kernel
theorem d_M_end_90 : decode b_M_end 90 = .ok (.aload_n 0, 1) := by decide +kernel
theorem d_M_end_91 : decode b_M_end 91 = .ok (.getfield 73, 3) := by decide +kernel
theorem d_M_end_94 : decode b_M_end 94 = .ok (.ireturn, 1) := by decide +kernel
def w_M_end_L71   (post : Int32 → MPS → Prop) : Nat → Int32 → MPS → Prop
  | 0, _, _ => False
  | n71 + 1, v2, σ => ((20 ≤ v2 → post (mp_taped σ) σ) ∧ (¬ 20 ≤ v2 → (vp_in v2 20 ∧ (∀ σ83 : MPS, σ83 = ms_ready σ (upd (mp_ready σ) v2.toNatClampNeg (vp_nar .byte 0)) → w_M_end_L71 post n71 (v2 + 1) σ83))))
def w_M_end_L31  (v1 : Int32) (post : Int32 → MPS → Prop) : Nat → Int32 → MPS → Prop
  | 0, _, _ => False
  | n31 + 1, v2, σ => ((v1 ≤ v2 → (∀ σ66 : MPS, σ66 = ms_taped σ ((mp_taped σ) + v1) → (∃ n71, w_M_end_L71 post n71 0 σ66))) ∧ (¬ v1 ≤ v2 → (vp_in v2 20 ∧ (vp_in ((mp_taped σ) + v2) 4000 ∧ (∀ σ52 : MPS, σ52 = ms_tape σ (upd (mp_tape σ) ((mp_taped σ) + v2).toNatClampNeg (vp_nar .byte ((mp_ready σ) v2.toNatClampNeg))) → w_M_end_L31 v1 post n31 (v2 + 1) σ52)))))
def w_M_end  (σ : MPS) (x0 : Int32) (post : Int32 → MPS → Prop) : Prop := (∀ σ2 : MPS, σ2 = ms_thrown σ 0 → ((x0 < 0 → post (-1) σ2) ∧ (¬ x0 < 0 → ((20 < x0 → post (-1) σ2) ∧ (¬ 20 < x0 → ((((mp_taped σ2) + x0) ≤ 4000 → (∃ n31, w_M_end_L31 x0 post n31 0 σ2)) ∧ (¬ ((mp_taped σ2) + x0) ≤ 4000 → post (-1) σ2)))))))
set_option maxHeartbeats 4000000 in
set_option maxRecDepth 100000 in
theorem c_M_end (l : Launch) (md : MD) (sz : Nat) (σ : MPS) (x0 : Int32)  (post : Int32 → MPS → Prop) (hE : w_M_end σ x0 post) : Met l y_M_end ws_M_end { frames := 0, cells := 0, slots := 0, locals := 0 } (va_Pc [.ref (mA md 0), .int x0] (gM md σ sz)) (va_Qi post (eM md (va_A (MW md σ) sz)) (va_A (MW md σ) sz)) 0 0 (va_A (MW md σ) sz) := by
  refine Met.ofW (cc := b_M_end) (maxL := 3) (ret := (some .int)) (by decide) rfl ?_
  intro p e s m args below meth c s₁ B hml hv
  obtain ⟨rfl, hsz, hP, hK, hD0⟩ := hv
  have hx := B.exec
  have hb := B.bytes
  have hr := B.returns
  have hta : ∀ w ∈ aW, w.before _ s = true := fun w h => atoms_spec (ws := ws_M_end) B.pre w (List.mem_cons_of_mem _ h)
  have hown : s.vm.findClass R_M = some m.cls := findClass_of_methodNamed B.named
  have hlocks := B.notSynchronized
  subst hsz
  have hD := hD0.self (sz := s.heap.size)
  generalize hAe : va_A (MW md σ) s.heap.size = A at hD ⊢
  have hA : ∀ q : Nat, s.heap.size ≤ q → A q := fun q h => by rw [← hAe]; exact Or.inr h
  have hS : va_S A s.heap s.heap [] := va_S.rf
  have hP : va_P (mG md) classes (MW md σ) s.heap := hP
  have hl := lv_entry ([.ref (mA md 0), .int x0]) (n := 3) (Nat.le_of_ble_eq_true rfl)
  rw [lg_entry_eq]
  generalize (lg_sl ([.ref (mA md 0), .int x0]) ++ List.replicate (3 - (lg_sl ([.ref (mA md 0), .int x0])).length) Slot.unset).toArray = ls at hl ⊢
  have hl : lv_has ls 3 [(0, .ref (mA md 0)), (1, .int x0)] := hl
  have L71 : ∀ (n71 : Nat) (v2 : Int32) (σ : MPS) (H : Heap) (locs : List Loc) (hP : va_P (mG md) classes (MW md σ) H) (hD : va_D A (MW md σ)) (hS : va_S A s.heap H locs) (ls : Array Slot) (hl : lv_has ls 3 [(0, .ref (mA md 0)), (2, .int v2)]) (hE : w_M_end_L71 post n71 v2 σ), W p l e (headSpec ws_M_end { frames := 0, cells := 0, slots := 0, locals := 0 }).room s m ([.ref (mA md 0), .int x0] : List Value).toArray below meth c H locs 0 0 (MQ below (va_Qi post (eM md A) A) ([.ref (mA md 0), .int x0] : List Value).toArray s 0 0 A) (F0 m 71 ls []) := by
    intro n71
    induction n71 with
    | zero => intro v2 σ H locs hP hD hS ls hl hE; exact hE.elim
    | succ n71 ih71 =>
      intro v2 σ H locs hP hD hS ls hl hE
      unfold w_M_end_L71 at hE
      refine lv_iload_n hx hb d_M_end_71 rfl (lv_at hl 1 rfl) ?_
      refine lv_bipush (v := 20) hx hb d_M_end_72 (by decide) ?_
      refine lv_icmp_ge (tgt := 90) hx hb d_M_end_74 (by decide) (fun cc74 => ?_) (fun cc74 => ?_)
      · have hE := hE.1 cc74
        refine lv_aload_n hx hb d_M_end_90 rfl (lv_at hl 0 rfl) ?_
        refine va_get (D := (mG md)) (ci := 7) (v := .int (mp_taped σ)) (C := R_M) (T := F_M) (N := 37) hx hb hta i_M hown hK hP 0 rfl rfl 6 (by decide) (hta _ fl_M_73) (fun _ h9 => h9) rfl d_M_end_91 ?_
        exact W.iret (v := mp_taped σ) hx hb hr (fun t ht hW => ⟨⟨_, σ, rfl, hE, by rw [ht]; exact hP, va_K.moved hW.alike hK, hD⟩, hS.F ht⟩) hS.2.2 d_M_end_94
      · have hE := hE.2 cc74
        refine lv_aload_n hx hb d_M_end_77 rfl (lv_at hl 0 rfl) ?_
        refine va_get (D := (mG md)) (ci := 7) (v := .ref (mA md 3)) (C := R_M) (T := F_M) (N := 37) hx hb hta i_M hown hK hP 0 rfl rfl 3 (by decide) (hta _ fl_M_16) (fun _ h9 => h9) rfl d_M_end_78 ?_
        refine lv_iload_n hx hb d_M_end_81 rfl (lv_at hl 1 rfl) ?_
        refine lv_iconst (v := 0) hx hb d_M_end_82 (by decide) ?_
        obtain ⟨hI83, hE⟩ := hE
        refine va_bast (D := (mG md)) (f := mp_ready σ) hx hb hK hP hD hS 3 1 rfl rfl hI83 d_M_end_83 (fun H locs hP hD hS => ?_)
        have hP := mwP_ready hP
        have hD := mwD_ready hD
        have hE := hE _ rfl
        generalize (ms_ready σ (upd (mp_ready σ) v2.toNatClampNeg (vp_nar .byte 0)) : MPS) = σ83 at hP hD hE
        refine lv_iinc (v := v2 + 1) (lv' := [(2, .int (v2 + 1)), (0, .ref (mA md 0))]) hx hb d_M_end_84 hl (k := 1) rfl rfl (by decide) rfl (fun ls hl => ?_)
        refine lv_goto (tgt := 71) hx hb d_M_end_87 (by decide) ?_
        exact ih71 (v2 + 1) σ83 _ _ hP hD hS _ (lv_sub hl [1, 0] rfl) hE
  have L31 : ∀ (v1 : Int32) (n31 : Nat) (v2 : Int32) (σ : MPS) (H : Heap) (locs : List Loc) (hP : va_P (mG md) classes (MW md σ) H) (hD : va_D A (MW md σ)) (hS : va_S A s.heap H locs) (ls : Array Slot) (hl : lv_has ls 3 [(0, .ref (mA md 0)), (1, .int v1), (2, .int v2)]) (hE : w_M_end_L31 v1 post n31 v2 σ), W p l e (headSpec ws_M_end { frames := 0, cells := 0, slots := 0, locals := 0 }).room s m ([.ref (mA md 0), .int x0] : List Value).toArray below meth c H locs 0 0 (MQ below (va_Qi post (eM md A) A) ([.ref (mA md 0), .int x0] : List Value).toArray s 0 0 A) (F0 m 31 ls []) := by
    intro v1 n31
    induction n31 with
    | zero => intro v2 σ H locs hP hD hS ls hl hE; exact hE.elim
    | succ n31 ih31 =>
      intro v2 σ H locs hP hD hS ls hl hE
      unfold w_M_end_L31 at hE
      refine lv_iload_n hx hb d_M_end_31 rfl (lv_at hl 2 rfl) ?_
      refine lv_iload_n hx hb d_M_end_32 rfl (lv_at hl 1 rfl) ?_
      refine lv_icmp_ge (tgt := 59) hx hb d_M_end_33 (by decide) (fun cc33 => ?_) (fun cc33 => ?_)
      · have hE := hE.1 cc33
        refine lv_aload_n hx hb d_M_end_59 rfl (lv_at hl 0 rfl) ?_
        refine lv_dup hx hb d_M_end_60 rfl ?_
        refine va_get (D := (mG md)) (ci := 7) (v := .int (mp_taped σ)) (C := R_M) (T := F_M) (N := 37) hx hb hta i_M hown hK hP 0 rfl rfl 6 (by decide) (hta _ fl_M_73) (fun _ h9 => h9) rfl d_M_end_61 ?_
        refine lv_iload_n hx hb d_M_end_64 rfl (lv_at hl 1 rfl) ?_
        refine lv_iadd hx hb d_M_end_65 ?_
        refine va_put (D := (mG md)) (ci := 7) (v := .int ((mp_taped σ) + v1)) (ty := .int) (C := R_M) (T := F_M) (N := 37) hx hb hta i_M t_M t_M_ok n_M hown hK hP hD hS 0 rfl rfl 6 (by decide) (hta _ fl_M_73) (fun _ h9 => h9) rfl (by decide +kernel) rfl rfl (Nat.le_of_ble_eq_true rfl) d_M_end_66 (fun H locs hP hD hS => ?_)
        have hP := mwP_taped hP
        have hD := mwD_taped hD
        have hE := hE _ rfl
        generalize (ms_taped σ ((mp_taped σ) + v1) : MPS) = σ66 at hP hD hE
        refine lv_iconst (v := 0) hx hb d_M_end_69 (by decide) ?_
        refine lv_istore_n (lv' := [(2, .int 0), (0, .ref (mA md 0)), (1, .int v1)]) hx hb d_M_end_70 rfl hl (by decide) rfl (fun ls hl => ?_)
        obtain ⟨n71, hE⟩ := hE
        exact L71  n71 0 σ66 _ _ hP hD hS _ (lv_sub hl [1, 0] rfl) hE
      · have hE := hE.2 cc33
        refine lv_aload_n hx hb d_M_end_36 rfl (lv_at hl 0 rfl) ?_
        refine va_get (D := (mG md)) (ci := 7) (v := .ref (mA md 1)) (C := R_M) (T := F_M) (N := 37) hx hb hta i_M hown hK hP 0 rfl rfl 1 (by decide) (hta _ fl_M_7) (fun _ h9 => h9) rfl d_M_end_37 ?_
        refine lv_aload_n hx hb d_M_end_40 rfl (lv_at hl 0 rfl) ?_
        refine va_get (D := (mG md)) (ci := 7) (v := .int (mp_taped σ)) (C := R_M) (T := F_M) (N := 37) hx hb hta i_M hown hK hP 0 rfl rfl 6 (by decide) (hta _ fl_M_73) (fun _ h9 => h9) rfl d_M_end_41 ?_
        refine lv_iload_n hx hb d_M_end_44 rfl (lv_at hl 2 rfl) ?_
        refine lv_iadd hx hb d_M_end_45 ?_
        refine lv_aload_n hx hb d_M_end_46 rfl (lv_at hl 0 rfl) ?_
        refine va_get (D := (mG md)) (ci := 7) (v := .ref (mA md 3)) (C := R_M) (T := F_M) (N := 37) hx hb hta i_M hown hK hP 0 rfl rfl 3 (by decide) (hta _ fl_M_16) (fun _ h9 => h9) rfl d_M_end_47 ?_
        refine lv_iload_n hx hb d_M_end_50 rfl (lv_at hl 2 rfl) ?_
        obtain ⟨hI51, hE⟩ := hE
        refine va_bald (D := (mG md)) (f := mp_ready σ) hx hb hK hP 3 1 rfl rfl hI51 d_M_end_51 ?_
        obtain ⟨hI52, hE⟩ := hE
        refine va_bast (D := (mG md)) (f := mp_tape σ) hx hb hK hP hD hS 1 1 rfl rfl hI52 d_M_end_52 (fun H locs hP hD hS => ?_)
        have hP := mwP_tape hP
        have hD := mwD_tape hD
        have hE := hE _ rfl
        generalize (ms_tape σ (upd (mp_tape σ) ((mp_taped σ) + v2).toNatClampNeg (vp_nar .byte ((mp_ready σ) v2.toNatClampNeg))) : MPS) = σ52 at hP hD hE
        refine lv_iinc (v := v2 + 1) (lv' := [(2, .int (v2 + 1)), (0, .ref (mA md 0)), (1, .int v1)]) hx hb d_M_end_53 hl (k := 2) rfl rfl (by decide) rfl (fun ls hl => ?_)
        refine lv_goto (tgt := 31) hx hb d_M_end_56 (by decide) ?_
        exact ih31 (v2 + 1) σ52 _ _ hP hD hS _ (lv_sub hl [1, 2, 0] rfl) hE
  unfold w_M_end at hE
  refine lv_aload_n hx hb d_M_end_0 rfl (lv_at hl 0 rfl) ?_
  refine lv_iconst (v := 0) hx hb d_M_end_1 (by decide) ?_
  refine va_put (D := (mG md)) (ci := 7) (v := .int 0) (ty := .int) (C := R_M) (T := F_M) (N := 37) hx hb hta i_M t_M t_M_ok n_M hown hK hP hD hS 0 rfl rfl 0 (by decide) (hta _ fl_M_70) (fun _ h9 => h9) rfl (by decide +kernel) rfl rfl (Nat.le_of_ble_eq_true rfl) d_M_end_2 (fun H locs hP hD hS => ?_)
  have hP := mwP_thrown hP
  have hD := mwD_thrown hD
  have hE := hE _ rfl
  generalize (ms_thrown σ 0 : MPS) = σ2 at hP hD hE
  refine lv_iload_n hx hb d_M_end_5 rfl (lv_at hl 1 rfl) ?_
  refine lv_if_lt (tgt := 27) hx hb d_M_end_6 (by decide) (fun cc6 => ?_) (fun cc6 => ?_)
  · have hE := hE.1 cc6
    refine lv_iconst (v := -1) hx hb d_M_end_27 (by decide) ?_
    exact W.iret (v := (-1)) hx hb hr (fun t ht hW => ⟨⟨_, σ2, rfl, hE, by rw [ht]; exact hP, va_K.moved hW.alike hK, hD⟩, hS.F ht⟩) hS.2.2 d_M_end_28
  · have hE := hE.2 cc6
    refine lv_iload_n hx hb d_M_end_9 rfl (lv_at hl 1 rfl) ?_
    refine lv_bipush (v := 20) hx hb d_M_end_10 (by decide) ?_
    refine lv_icmp_gt (tgt := 27) hx hb d_M_end_12 (by decide) (fun cc12 => ?_) (fun cc12 => ?_)
    · have hE := hE.1 cc12
      refine lv_iconst (v := -1) hx hb d_M_end_27 (by decide) ?_
      exact W.iret (v := (-1)) hx hb hr (fun t ht hW => ⟨⟨_, σ2, rfl, hE, by rw [ht]; exact hP, va_K.moved hW.alike hK, hD⟩, hS.F ht⟩) hS.2.2 d_M_end_28
    · have hE := hE.2 cc12
      refine lv_aload_n hx hb d_M_end_15 rfl (lv_at hl 0 rfl) ?_
      refine va_get (D := (mG md)) (ci := 7) (v := .int (mp_taped σ2)) (C := R_M) (T := F_M) (N := 37) hx hb hta i_M hown hK hP 0 rfl rfl 6 (by decide) (hta _ fl_M_73) (fun _ h9 => h9) rfl d_M_end_16 ?_
      refine lv_iload_n hx hb d_M_end_19 rfl (lv_at hl 1 rfl) ?_
      refine lv_iadd hx hb d_M_end_20 ?_
      refine lv_sipush (v := 4000) hx hb d_M_end_21 (by decide) ?_
      refine lv_icmp_le (tgt := 29) hx hb d_M_end_24 (by decide) (fun cc24 => ?_) (fun cc24 => ?_)
      · have hE := hE.1 cc24
        refine lv_iconst (v := 0) hx hb d_M_end_29 (by decide) ?_
        refine lv_istore_n (lv' := [(2, .int 0), (0, .ref (mA md 0)), (1, .int x0)]) hx hb d_M_end_30 rfl hl (by decide) rfl (fun ls hl => ?_)
        obtain ⟨n31, hE⟩ := hE
        exact L31 x0 n31 0 σ2 _ _ hP hD hS _ (lv_sub hl [1, 2, 0] rfl) hE
      · have hE := hE.2 cc24
        refine lv_iconst (v := -1) hx hb d_M_end_27 (by decide) ?_
        exact W.iret (v := (-1)) hx hb hr (fun t ht hW => ⟨⟨_, σ2, rfl, hE, by rw [ht]; exact hP, va_K.moved hW.alike hK, hD⟩, hS.F ht⟩) hS.2.2 d_M_end_28

theorem d_M_wipe_0 : decode b_M_wipe 0 = .ok (.aload_n 0, 1) := by decide +kernel
theorem d_M_wipe_1 : decode b_M_wipe 1 = .ok (.iconst 0, 1) := by decide +kernel
theorem d_M_wipe_2 : decode b_M_wipe 2 = .ok (.putfield 70, 3) := by decide +kernel
theorem d_M_wipe_5 : decode b_M_wipe 5 = .ok (.aload_n 0, 1) := by decide +kernel
theorem d_M_wipe_6 : decode b_M_wipe 6 = .ok (.iconst 0, 1) := by decide +kernel
theorem d_M_wipe_7 : decode b_M_wipe 7 = .ok (.putfield 73, 3) := by decide +kernel
theorem d_M_wipe_10 : decode b_M_wipe 10 = .ok (.return_, 1) := by decide +kernel
def w_M_wipe  (σ : MPS)  (post : MPS → Prop) : Prop := (∀ σ2 : MPS, σ2 = ms_thrown σ 0 → (∀ σ7 : MPS, σ7 = ms_taped σ2 0 → post σ7))
set_option maxHeartbeats 4000000 in
set_option maxRecDepth 100000 in
theorem c_M_wipe (l : Launch) (md : MD) (sz : Nat) (σ : MPS)   (post : MPS → Prop) (hE : w_M_wipe σ post) : Met l y_M_wipe ws_M_wipe { frames := 0, cells := 0, slots := 0, locals := 0 } (va_Pc [.ref (mA md 0)] (gM md σ sz)) (va_Qv post (eM md (va_A (MW md σ) sz)) (va_A (MW md σ) sz)) 0 0 (va_A (MW md σ) sz) := by
  refine Met.ofW (cc := b_M_wipe) (maxL := 1) (ret := none) (by decide) rfl ?_
  intro p e s m args below meth c s₁ B hml hv
  obtain ⟨rfl, hsz, hP, hK, hD0⟩ := hv
  have hx := B.exec
  have hb := B.bytes
  have hr := B.returns
  have hta : ∀ w ∈ aW, w.before _ s = true := fun w h => atoms_spec (ws := ws_M_wipe) B.pre w (List.mem_cons_of_mem _ h)
  have hown : s.vm.findClass R_M = some m.cls := findClass_of_methodNamed B.named
  have hlocks := B.notSynchronized
  subst hsz
  have hD := hD0.self (sz := s.heap.size)
  generalize hAe : va_A (MW md σ) s.heap.size = A at hD ⊢
  have hA : ∀ q : Nat, s.heap.size ≤ q → A q := fun q h => by rw [← hAe]; exact Or.inr h
  have hS : va_S A s.heap s.heap [] := va_S.rf
  have hP : va_P (mG md) classes (MW md σ) s.heap := hP
  have hl := lv_entry ([.ref (mA md 0)]) (n := 1) (Nat.le_of_ble_eq_true rfl)
  rw [lg_entry_eq]
  generalize (lg_sl ([.ref (mA md 0)]) ++ List.replicate (1 - (lg_sl ([.ref (mA md 0)])).length) Slot.unset).toArray = ls at hl ⊢
  have hl : lv_has ls 1 [(0, .ref (mA md 0))] := hl
  unfold w_M_wipe at hE
  refine lv_aload_n hx hb d_M_wipe_0 rfl (lv_at hl 0 rfl) ?_
  refine lv_iconst (v := 0) hx hb d_M_wipe_1 (by decide) ?_
  refine va_put (D := (mG md)) (ci := 7) (v := .int 0) (ty := .int) (C := R_M) (T := F_M) (N := 37) hx hb hta i_M t_M t_M_ok n_M hown hK hP hD hS 0 rfl rfl 0 (by decide) (hta _ fl_M_70) (fun _ h9 => h9) rfl (by decide +kernel) rfl rfl (Nat.le_of_ble_eq_true rfl) d_M_wipe_2 (fun H locs hP hD hS => ?_)
  have hP := mwP_thrown hP
  have hD := mwD_thrown hD
  have hE := hE _ rfl
  generalize (ms_thrown σ 0 : MPS) = σ2 at hP hD hE
  refine lv_aload_n hx hb d_M_wipe_5 rfl (lv_at hl 0 rfl) ?_
  refine lv_iconst (v := 0) hx hb d_M_wipe_6 (by decide) ?_
  refine va_put (D := (mG md)) (ci := 7) (v := .int 0) (ty := .int) (C := R_M) (T := F_M) (N := 37) hx hb hta i_M t_M t_M_ok n_M hown hK hP hD hS 0 rfl rfl 6 (by decide) (hta _ fl_M_73) (fun _ h9 => h9) rfl (by decide +kernel) rfl rfl (Nat.le_of_ble_eq_true rfl) d_M_wipe_7 (fun H locs hP hD hS => ?_)
  have hP := mwP_taped hP
  have hD := mwD_taped hD
  have hE := hE _ rfl
  generalize (ms_taped σ2 0 : MPS) = σ7 at hP hD hE
  exact W.vret hx hb hr (fun t ht hW => ⟨⟨σ7, rfl, hE, by rw [ht]; exact hP, va_K.moved hW.alike hK, hD⟩, hS.F ht⟩) hS.2.2 d_M_wipe_10
theorem fl_M_101 : Cond.fieldLink "PlainPagesModel" 101 "PlainPagesModel" "at" "I" ∈ aW := aW_in 917 (by decide +kernel) rfl
theorem ok_M_104 : okS "PlainPagesModel" 104 y_M_isWhite b_M_isWhite 1 (some .boolean) 1 := ⟨aW_in 1053 (by decide +kernel) rfl, aW_in 1054 (by decide +kernel) rfl, aW_in 92 (by decide +kernel) rfl, cd_M_isWhite, by decide +kernel, by decide +kernel, by decide +kernel⟩
theorem d_M_skipWhite_0 : decode b_M_skipWhite 0 = .ok (.aload_n 0, 1) := by decide +kernel
theorem d_M_skipWhite_1 : decode b_M_skipWhite 1 = .ok (.aload_n 0, 1) := by decide +kernel
theorem d_M_skipWhite_2 : decode b_M_skipWhite 2 = .ok (.getfield 101, 3) := by decide +kernel
theorem d_M_skipWhite_5 : decode b_M_skipWhite 5 = .ok (.invokevirtual 95, 3) := by decide +kernel
theorem d_M_skipWhite_8 : decode b_M_skipWhite 8 = .ok (.invokestatic 104, 3) := by decide +kernel
theorem d_M_skipWhite_11 : decode b_M_skipWhite 11 = .ok (.ifCond .eq 16, 3) := by decide +kernel
theorem d_M_skipWhite_14 : decode b_M_skipWhite 14 = .ok (.aload_n 0, 1) := by decide +kernel
theorem d_M_skipWhite_15 : decode b_M_skipWhite 15 = .ok (.dup, 1) := by decide +kernel
theorem d_M_skipWhite_16 : decode b_M_skipWhite 16 = .ok (.getfield 101, 3) := by decide +kernel
theorem d_M_skipWhite_19 : decode b_M_skipWhite 19 = .ok (.iconst 1, 1) := by decide +kernel
theorem d_M_skipWhite_20 : decode b_M_skipWhite 20 = .ok (.iadd, 1) := by decide +kernel
theorem d_M_skipWhite_21 : decode b_M_skipWhite 21 = .ok (.putfield 101, 3) := by decide +kernel
theorem d_M_skipWhite_24 : decode b_M_skipWhite 24 = .ok (.goto (-24), 3) := by decide +kernel
theorem d_M_skipWhite_27 : decode b_M_skipWhite 27 = .ok (.return_, 1) := by decide +kernel
def w_M_skipWhite_L0   (post : MPS → Prop) : Nat → MPS → Prop
  | 0, _ => False
  | n0 + 1, σ => (mXk σ (mp_at σ) ∧ (((b2i (cWh (mX σ (mp_at σ)))) = 0 → post σ) ∧ (¬ (b2i (cWh (mX σ (mp_at σ)))) = 0 → (∀ σ21 : MPS, σ21 = ms_at σ ((mp_at σ) + 1) → w_M_skipWhite_L0 post n0 σ21))))
def w_M_skipWhite  (σ : MPS)  (post : MPS → Prop) : Prop := (∃ n0, w_M_skipWhite_L0 post n0 σ)
set_option maxHeartbeats 4000000 in
set_option maxRecDepth 100000 in
theorem c_M_skipWhite (l : Launch) (md : MD) (sz : Nat) (σ : MPS)   (post : MPS → Prop) (hE : w_M_skipWhite σ post) : Met l y_M_skipWhite ws_M_skipWhite { frames := 1, cells := 0, slots := 0, locals := 21 } (va_Pc [.ref (mA md 0)] (gM md σ sz)) (va_Qv post (eM md (va_A (MW md σ) sz)) (va_A (MW md σ) sz)) 0 0 (va_A (MW md σ) sz) := by
  refine Met.ofW (cc := b_M_skipWhite) (maxL := 1) (ret := none) (by decide) rfl ?_
  intro p e s m args below meth c s₁ B hml hv
  obtain ⟨rfl, hsz, hP, hK, hD0⟩ := hv
  have hx := B.exec
  have hb := B.bytes
  have hr := B.returns
  have hta : ∀ w ∈ aW, w.before _ s = true := fun w h => atoms_spec (ws := ws_M_skipWhite) B.pre w (List.mem_cons_of_mem _ h)
  have hown : s.vm.findClass R_M = some m.cls := findClass_of_methodNamed B.named
  have hlocks := B.notSynchronized
  subst hsz
  have hD := hD0.self (sz := s.heap.size)
  generalize hAe : va_A (MW md σ) s.heap.size = A at hD ⊢
  have hA : ∀ q : Nat, s.heap.size ≤ q → A q := fun q h => by rw [← hAe]; exact Or.inr h
  have hS : va_S A s.heap s.heap [] := va_S.rf
  have hP : va_P (mG md) classes (MW md σ) s.heap := hP
  have hl := lv_entry ([.ref (mA md 0)]) (n := 1) (Nat.le_of_ble_eq_true rfl)
  rw [lg_entry_eq]
  generalize (lg_sl ([.ref (mA md 0)]) ++ List.replicate (1 - (lg_sl ([.ref (mA md 0)])).length) Slot.unset).toArray = ls at hl ⊢
  have hl : lv_has ls 1 [(0, .ref (mA md 0))] := hl
  have L0 : ∀ (n0 : Nat) (σ : MPS) (H : Heap) (locs : List Loc) (hP : va_P (mG md) classes (MW md σ) H) (hD : va_D A (MW md σ)) (hS : va_S A s.heap H locs) (ls : Array Slot) (hl : lv_has ls 1 [(0, .ref (mA md 0))]) (hE : w_M_skipWhite_L0 post n0 σ), W p l e (headSpec ws_M_skipWhite { frames := 1, cells := 0, slots := 0, locals := 21 }).room s m ([.ref (mA md 0)] : List Value).toArray below meth c H locs 0 0 (MQ below (va_Qv post (eM md A) A) ([.ref (mA md 0)] : List Value).toArray s 0 0 A) (F0 m 0 ls []) := by
    intro n0
    induction n0 with
    | zero => intro σ H locs hP hD hS ls hl hE; exact hE.elim
    | succ n0 ih0 =>
      intro σ H locs hP hD hS ls hl hE
      unfold w_M_skipWhite_L0 at hE
      refine lv_aload_n hx hb d_M_skipWhite_0 rfl (lv_at hl 0 rfl) ?_
      refine lv_aload_n hx hb d_M_skipWhite_1 rfl (lv_at hl 0 rfl) ?_
      refine va_get (D := (mG md)) (ci := 7) (v := .int (mp_at σ)) (C := R_M) (T := F_M) (N := 37) hx hb hta i_M hown hK hP 0 rfl rfl 13 (by decide) (hta _ fl_M_101) (fun _ h9 => h9) rfl d_M_skipWhite_2 ?_
      obtain ⟨hc5_0, hE⟩ := hE
      refine ro_V (b0 := (mA md 0)) (As := [.int (mp_at σ)]) (rest := []) ⟨hx, hb, hml, hown, hta⟩ (f_M_x l md σ (mp_at σ) hc5_0) ok_M_95 ⟨Nat.le_of_ble_eq_true rfl, Nat.le_of_ble_eq_true rfl⟩ blind_rM (va_recv hK hP (ci := 7) (q0 := 0) rfl rfl) (rM_of hP hK) rfl hl.1 rfl (Nat.le_of_ble_eq_true rfl) d_M_skipWhite_5 ⟨Nat.zero_le _, Nat.zero_le _⟩ (fun r5 hrr => ?_)
      subst hrr
      refine ro_S  (As := [.int (mX σ (mp_at σ))]) (rest := []) ⟨hx, hb, hml, hown, hta⟩ (f_M_isWhite l (mX σ (mp_at σ))) ok_M_104 ⟨Nat.le_of_ble_eq_true rfl, Nat.le_of_ble_eq_true rfl⟩ blind_true  (fun _ _ _ => trivial) rfl hl.1 rfl (Nat.le_of_ble_eq_true rfl) d_M_skipWhite_8 ⟨Nat.zero_le _, Nat.zero_le _⟩ (fun r8 hrr => ?_)
      subst hrr
      refine lv_if_eq (tgt := 27) hx hb d_M_skipWhite_11 (by decide) (fun cc11 => ?_) (fun cc11 => ?_)
      · have hE := hE.1 cc11
        exact W.vret hx hb hr (fun t ht hW => ⟨⟨σ, rfl, hE, by rw [ht]; exact hP, va_K.moved hW.alike hK, hD⟩, hS.F ht⟩) hS.2.2 d_M_skipWhite_27
      · have hE := hE.2 cc11
        refine lv_aload_n hx hb d_M_skipWhite_14 rfl (lv_at hl 0 rfl) ?_
        refine lv_dup hx hb d_M_skipWhite_15 rfl ?_
        refine va_get (D := (mG md)) (ci := 7) (v := .int (mp_at σ)) (C := R_M) (T := F_M) (N := 37) hx hb hta i_M hown hK hP 0 rfl rfl 13 (by decide) (hta _ fl_M_101) (fun _ h9 => h9) rfl d_M_skipWhite_16 ?_
        refine lv_iconst (v := 1) hx hb d_M_skipWhite_19 (by decide) ?_
        refine lv_iadd hx hb d_M_skipWhite_20 ?_
        refine va_put (D := (mG md)) (ci := 7) (v := .int ((mp_at σ) + 1)) (ty := .int) (C := R_M) (T := F_M) (N := 37) hx hb hta i_M t_M t_M_ok n_M hown hK hP hD hS 0 rfl rfl 13 (by decide) (hta _ fl_M_101) (fun _ h9 => h9) rfl (by decide +kernel) rfl rfl (Nat.le_of_ble_eq_true rfl) d_M_skipWhite_21 (fun H locs hP hD hS => ?_)
        have hP := mwP_at hP
        have hD := mwD_at hD
        have hE := hE _ rfl
        generalize (ms_at σ ((mp_at σ) + 1) : MPS) = σ21 at hP hD hE
        refine lv_goto (tgt := 0) hx hb d_M_skipWhite_24 (by decide) ?_
        exact ih0 σ21 _ _ hP hD hS _ (lv_sub hl [0] rfl) hE
  unfold w_M_skipWhite at hE
  obtain ⟨n0, hE⟩ := hE
  exact L0  n0 σ _ _ hP hD hS _ (lv_sub hl [0] rfl) hE
theorem fl_M_111 : Cond.fieldLink "PlainPagesModel" 111 "PlainPagesModel" "bad" "Z" ∈ aW := aW_in 920 (by decide +kernel) rfl
theorem d_M_takeName_0 : decode b_M_takeName 0 = .ok (.aload_n 0, 1) := by decide +kernel
theorem d_M_takeName_1 : decode b_M_takeName 1 = .ok (.getfield 101, 3) := by decide +kernel
theorem d_M_takeName_4 : decode b_M_takeName 4 = .ok (.istore_n 1, 1) := by decide +kernel
theorem d_M_takeName_5 : decode b_M_takeName 5 = .ok (.aload_n 0, 1) := by decide +kernel
theorem d_M_takeName_6 : decode b_M_takeName 6 = .ok (.aload_n 0, 1) := by decide +kernel
theorem d_M_takeName_7 : decode b_M_takeName 7 = .ok (.getfield 101, 3) := by decide +kernel
theorem d_M_takeName_10 : decode b_M_takeName 10 = .ok (.invokevirtual 95, 3) := by decide +kernel
theorem d_M_takeName_13 : decode b_M_takeName 13 = .ok (.iconst 1, 1) := by decide +kernel
theorem d_M_takeName_14 : decode b_M_takeName 14 = .ok (.invokestatic 107, 3) := by decide +kernel
theorem d_M_takeName_17 : decode b_M_takeName 17 = .ok (.ifCond .ne 8, 3) := by decide +kernel
theorem d_M_takeName_20 : decode b_M_takeName 20 = .ok (.aload_n 0, 1) := by decide +kernel
theorem d_M_takeName_21 : decode b_M_takeName 21 = .ok (.iconst 1, 1) := by decide +kernel
theorem d_M_takeName_22 : decode b_M_takeName 22 = .ok (.putfield 111, 3) := by decide +kernel
theorem d_M_takeName_25 : decode b_M_takeName 25 = .ok (.aload_n 0, 1) := by decide +kernel
theorem d_M_takeName_26 : decode b_M_takeName 26 = .ok (.getfield 111, 3) := by decide +kernel
theorem d_M_takeName_29 : decode b_M_takeName 29 = .ok (.ifCond .ne 50, 3) := by decide +kernel
theorem d_M_takeName_32 : decode b_M_takeName 32 = .ok (.aload_n 0, 1) := by decide +kernel
theorem d_M_takeName_33 : decode b_M_takeName 33 = .ok (.aload_n 0, 1) := by decide +kernel
theorem d_M_takeName_34 : decode b_M_takeName 34 = .ok (.getfield 101, 3) := by decide +kernel
theorem d_M_takeName_37 : decode b_M_takeName 37 = .ok (.invokevirtual 95, 3) := by decide +kernel
theorem d_M_takeName_40 : decode b_M_takeName 40 = .ok (.iconst 0, 1) := by decide +kernel
theorem d_M_takeName_41 : decode b_M_takeName 41 = .ok (.invokestatic 107, 3) := by decide +kernel
theorem d_M_takeName_44 : decode b_M_takeName 44 = .ok (.ifCond .eq 35, 3) := by decide +kernel
theorem d_M_takeName_47 : decode b_M_takeName 47 = .ok (.aload_n 0, 1) := by decide +kernel
theorem d_M_takeName_48 : decode b_M_takeName 48 = .ok (.getfield 101, 3) := by decide +kernel
theorem d_M_takeName_51 : decode b_M_takeName 51 = .ok (.iload_n 1, 1) := by decide +kernel
theorem d_M_takeName_52 : decode b_M_takeName 52 = .ok (.isub, 1) := by decide +kernel
theorem d_M_takeName_53 : decode b_M_takeName 53 = .ok (.bipush 30, 2) := by decide +kernel
theorem d_M_takeName_55 : decode b_M_takeName 55 = .ok (.if_icmp .ne 11, 3) := by decide +kernel
theorem d_M_takeName_58 : decode b_M_takeName 58 = .ok (.aload_n 0, 1) := by decide +kernel
theorem d_M_takeName_59 : decode b_M_takeName 59 = .ok (.iconst 1, 1) := by decide +kernel
theorem d_M_takeName_60 : decode b_M_takeName 60 = .ok (.putfield 111, 3) := by decide +kernel
theorem d_M_takeName_63 : decode b_M_takeName 63 = .ok (.goto (-38), 3) := by decide +kernel
theorem d_M_takeName_66 : decode b_M_takeName 66 = .ok (.aload_n 0, 1) := by decide +kernel
theorem d_M_takeName_67 : decode b_M_takeName 67 = .ok (.dup, 1) := by decide +kernel
theorem d_M_takeName_68 : decode b_M_takeName 68 = .ok (.getfield 101, 3) := by decide +kernel
theorem d_M_takeName_71 : decode b_M_takeName 71 = .ok (.iconst 1, 1) := by decide +kernel
theorem d_M_takeName_72 : decode b_M_takeName 72 = .ok (.iadd, 1) := by decide +kernel
theorem d_M_takeName_73 : decode b_M_takeName 73 = .ok (.putfield 101, 3) := by decide +kernel
theorem d_M_takeName_76 : decode b_M_takeName 76 = .ok (.goto (-51), 3) := by decide +kernel
theorem d_M_takeName_79 : decode b_M_takeName 79 = .ok (.aload_n 0, 1) := by decide +kernel
theorem d_M_takeName_80 : decode b_M_takeName 80 = .ok (.getfield 101, 3) := by decide +kernel
theorem d_M_takeName_83 : decode b_M_takeName 83 = .ok (.iload_n 1, 1) := by decide +kernel
theorem d_M_takeName_84 : decode b_M_takeName 84 = .ok (.isub, 1) := by decide +kernel
theorem d_M_takeName_85 : decode b_M_takeName 85 = .ok (.ireturn, 1) := by decide +kernel
def w_M_takeName_J79   (post : Int32 → MPS → Prop) (v1 : Int32) (σ : MPS) : Prop := post ((mp_at σ) - v1) σ
def w_M_takeName_L25  (v1 : Int32) (post : Int32 → MPS → Prop) : Nat → MPS → Prop
  | 0, _ => False
  | n25 + 1, σ => (((mp_bad σ) = 0 → (mXk σ (mp_at σ) ∧ (((b2i (cNs (mX σ (mp_at σ)) 0)) = 0 → w_M_takeName_J79 post v1 σ) ∧ (¬ (b2i (cNs (mX σ (mp_at σ)) 0)) = 0 → ((((mp_at σ) - v1) = 30 → (∀ σ60 : MPS, σ60 = ms_bad σ 1 → w_M_takeName_L25 v1 post n25 σ60)) ∧ (¬ ((mp_at σ) - v1) = 30 → (∀ σ73 : MPS, σ73 = ms_at σ ((mp_at σ) + 1) → w_M_takeName_L25 v1 post n25 σ73))))))) ∧ (¬ (mp_bad σ) = 0 → w_M_takeName_J79 post v1 σ))
def w_M_takeName  (σ : MPS)  (post : Int32 → MPS → Prop) : Prop := (mXk σ (mp_at σ) ∧ (((b2i (cNs (mX σ (mp_at σ)) 1)) = 0 → (∀ σ22 : MPS, σ22 = ms_bad σ 1 → (∃ n25, w_M_takeName_L25 (mp_at σ) post n25 σ22))) ∧ (¬ (b2i (cNs (mX σ (mp_at σ)) 1)) = 0 → (∃ n25, w_M_takeName_L25 (mp_at σ) post n25 σ))))
set_option maxHeartbeats 4000000 in
set_option maxRecDepth 100000 in
theorem c_M_takeName (l : Launch) (md : MD) (sz : Nat) (σ : MPS)   (post : Int32 → MPS → Prop) (hE : w_M_takeName σ post) : Met l y_M_takeName ws_M_takeName { frames := 2, cells := 0, slots := 0, locals := 41 } (va_Pc [.ref (mA md 0)] (gM md σ sz)) (va_Qi post (eM md (va_A (MW md σ) sz)) (va_A (MW md σ) sz)) 0 0 (va_A (MW md σ) sz) := by
  refine Met.ofW (cc := b_M_takeName) (maxL := 2) (ret := (some .int)) (by decide) rfl ?_
  intro p e s m args below meth c s₁ B hml hv
  obtain ⟨rfl, hsz, hP, hK, hD0⟩ := hv
  have hx := B.exec
  have hb := B.bytes
  have hr := B.returns
  have hta : ∀ w ∈ aW, w.before _ s = true := fun w h => atoms_spec (ws := ws_M_takeName) B.pre w (List.mem_cons_of_mem _ h)
  have hown : s.vm.findClass R_M = some m.cls := findClass_of_methodNamed B.named
  have hlocks := B.notSynchronized
  subst hsz
  have hD := hD0.self (sz := s.heap.size)
  generalize hAe : va_A (MW md σ) s.heap.size = A at hD ⊢
  have hA : ∀ q : Nat, s.heap.size ≤ q → A q := fun q h => by rw [← hAe]; exact Or.inr h
  have hS : va_S A s.heap s.heap [] := va_S.rf
  have hP : va_P (mG md) classes (MW md σ) s.heap := hP
  have hl := lv_entry ([.ref (mA md 0)]) (n := 2) (Nat.le_of_ble_eq_true rfl)
  rw [lg_entry_eq]
  generalize (lg_sl ([.ref (mA md 0)]) ++ List.replicate (2 - (lg_sl ([.ref (mA md 0)])).length) Slot.unset).toArray = ls at hl ⊢
  have hl : lv_has ls 2 [(0, .ref (mA md 0))] := hl
  have J79 : ∀ (v1 : Int32) (σ : MPS) (H : Heap) (locs : List Loc) (hP : va_P (mG md) classes (MW md σ) H) (hD : va_D A (MW md σ)) (hS : va_S A s.heap H locs) (ls : Array Slot) (hl : lv_has ls 2 [(0, .ref (mA md 0)), (1, .int v1)]) (hE : w_M_takeName_J79 post v1 σ), W p l e (headSpec ws_M_takeName { frames := 2, cells := 0, slots := 0, locals := 41 }).room s m ([.ref (mA md 0)] : List Value).toArray below meth c H locs 0 0 (MQ below (va_Qi post (eM md A) A) ([.ref (mA md 0)] : List Value).toArray s 0 0 A) (F0 m 79 ls []) := by
    intro  v1 σ H locs hP hD hS ls hl hE
    unfold w_M_takeName_J79 at hE
    refine lv_aload_n hx hb d_M_takeName_79 rfl (lv_at hl 0 rfl) ?_
    refine va_get (D := (mG md)) (ci := 7) (v := .int (mp_at σ)) (C := R_M) (T := F_M) (N := 37) hx hb hta i_M hown hK hP 0 rfl rfl 13 (by decide) (hta _ fl_M_101) (fun _ h9 => h9) rfl d_M_takeName_80 ?_
    refine lv_iload_n hx hb d_M_takeName_83 rfl (lv_at hl 1 rfl) ?_
    refine lv_isub hx hb d_M_takeName_84 ?_
    exact W.iret (v := (mp_at σ) - v1) hx hb hr (fun t ht hW => ⟨⟨_, σ, rfl, hE, by rw [ht]; exact hP, va_K.moved hW.alike hK, hD⟩, hS.F ht⟩) hS.2.2 d_M_takeName_85
  have L25 : ∀ (v1 : Int32) (n25 : Nat) (σ : MPS) (H : Heap) (locs : List Loc) (hP : va_P (mG md) classes (MW md σ) H) (hD : va_D A (MW md σ)) (hS : va_S A s.heap H locs) (ls : Array Slot) (hl : lv_has ls 2 [(0, .ref (mA md 0)), (1, .int v1)]) (hE : w_M_takeName_L25 v1 post n25 σ), W p l e (headSpec ws_M_takeName { frames := 2, cells := 0, slots := 0, locals := 41 }).room s m ([.ref (mA md 0)] : List Value).toArray below meth c H locs 0 0 (MQ below (va_Qi post (eM md A) A) ([.ref (mA md 0)] : List Value).toArray s 0 0 A) (F0 m 25 ls []) := by
    intro v1 n25
    induction n25 with
    | zero => intro σ H locs hP hD hS ls hl hE; exact hE.elim
    | succ n25 ih25 =>
      intro σ H locs hP hD hS ls hl hE
      unfold w_M_takeName_L25 at hE
      refine lv_aload_n hx hb d_M_takeName_25 rfl (lv_at hl 0 rfl) ?_
      refine va_get (D := (mG md)) (ci := 7) (v := .int (mp_bad σ)) (C := R_M) (T := F_M) (N := 37) hx hb hta i_M hown hK hP 0 rfl rfl 16 (by decide) (hta _ fl_M_111) (fun _ h9 => h9) rfl d_M_takeName_26 ?_
      refine lv_if_ne (tgt := 79) hx hb d_M_takeName_29 (by decide) (fun cc29 => ?_) (fun cc29 => ?_)
      · have hE := hE.2 cc29
        exact J79  v1 σ _ _ hP hD hS _ (lv_sub hl [0, 1] rfl) hE
      · have hE := hE.1 cc29
        refine lv_aload_n hx hb d_M_takeName_32 rfl (lv_at hl 0 rfl) ?_
        refine lv_aload_n hx hb d_M_takeName_33 rfl (lv_at hl 0 rfl) ?_
        refine va_get (D := (mG md)) (ci := 7) (v := .int (mp_at σ)) (C := R_M) (T := F_M) (N := 37) hx hb hta i_M hown hK hP 0 rfl rfl 13 (by decide) (hta _ fl_M_101) (fun _ h9 => h9) rfl d_M_takeName_34 ?_
        obtain ⟨hc37_0, hE⟩ := hE
        refine ro_V (b0 := (mA md 0)) (As := [.int (mp_at σ)]) (rest := []) ⟨hx, hb, hml, hown, hta⟩ (f_M_x l md σ (mp_at σ) hc37_0) ok_M_95 ⟨Nat.le_of_ble_eq_true rfl, Nat.le_of_ble_eq_true rfl⟩ blind_rM (va_recv hK hP (ci := 7) (q0 := 0) rfl rfl) (rM_of hP hK) rfl hl.1 rfl (Nat.le_of_ble_eq_true rfl) d_M_takeName_37 ⟨Nat.zero_le _, Nat.zero_le _⟩ (fun r37 hrr => ?_)
        subst hrr
        refine lv_iconst (v := 0) hx hb d_M_takeName_40 (by decide) ?_
        refine ro_S  (As := [.int (mX σ (mp_at σ)), .int 0]) (rest := []) ⟨hx, hb, hml, hown, hta⟩ (f_M_isNameSign l (mX σ (mp_at σ)) 0) ok_M_107 ⟨Nat.le_of_ble_eq_true rfl, Nat.le_of_ble_eq_true rfl⟩ blind_true  (fun _ _ _ => trivial) rfl hl.1 rfl (Nat.le_of_ble_eq_true rfl) d_M_takeName_41 ⟨Nat.zero_le _, Nat.zero_le _⟩ (fun r41 hrr => ?_)
        subst hrr
        refine lv_if_eq (tgt := 79) hx hb d_M_takeName_44 (by decide) (fun cc44 => ?_) (fun cc44 => ?_)
        · have hE := hE.1 cc44
          exact J79  v1 σ _ _ hP hD hS _ (lv_sub hl [0, 1] rfl) hE
        · have hE := hE.2 cc44
          refine lv_aload_n hx hb d_M_takeName_47 rfl (lv_at hl 0 rfl) ?_
          refine va_get (D := (mG md)) (ci := 7) (v := .int (mp_at σ)) (C := R_M) (T := F_M) (N := 37) hx hb hta i_M hown hK hP 0 rfl rfl 13 (by decide) (hta _ fl_M_101) (fun _ h9 => h9) rfl d_M_takeName_48 ?_
          refine lv_iload_n hx hb d_M_takeName_51 rfl (lv_at hl 1 rfl) ?_
          refine lv_isub hx hb d_M_takeName_52 ?_
          refine lv_bipush (v := 30) hx hb d_M_takeName_53 (by decide) ?_
          refine lv_icmp_ne (tgt := 66) hx hb d_M_takeName_55 (by decide) (fun cc55 => ?_) (fun cc55 => ?_)
          · have hE := hE.2 cc55
            refine lv_aload_n hx hb d_M_takeName_66 rfl (lv_at hl 0 rfl) ?_
            refine lv_dup hx hb d_M_takeName_67 rfl ?_
            refine va_get (D := (mG md)) (ci := 7) (v := .int (mp_at σ)) (C := R_M) (T := F_M) (N := 37) hx hb hta i_M hown hK hP 0 rfl rfl 13 (by decide) (hta _ fl_M_101) (fun _ h9 => h9) rfl d_M_takeName_68 ?_
            refine lv_iconst (v := 1) hx hb d_M_takeName_71 (by decide) ?_
            refine lv_iadd hx hb d_M_takeName_72 ?_
            refine va_put (D := (mG md)) (ci := 7) (v := .int ((mp_at σ) + 1)) (ty := .int) (C := R_M) (T := F_M) (N := 37) hx hb hta i_M t_M t_M_ok n_M hown hK hP hD hS 0 rfl rfl 13 (by decide) (hta _ fl_M_101) (fun _ h9 => h9) rfl (by decide +kernel) rfl rfl (Nat.le_of_ble_eq_true rfl) d_M_takeName_73 (fun H locs hP hD hS => ?_)
            have hP := mwP_at hP
            have hD := mwD_at hD
            have hE := hE _ rfl
            generalize (ms_at σ ((mp_at σ) + 1) : MPS) = σ73 at hP hD hE
            refine lv_goto (tgt := 25) hx hb d_M_takeName_76 (by decide) ?_
            exact ih25 σ73 _ _ hP hD hS _ (lv_sub hl [0, 1] rfl) hE
          · have hE := hE.1 cc55
            refine lv_aload_n hx hb d_M_takeName_58 rfl (lv_at hl 0 rfl) ?_
            refine lv_iconst (v := 1) hx hb d_M_takeName_59 (by decide) ?_
            refine va_put (D := (mG md)) (ci := 7) (v := .int 1) (ty := .boolean) (C := R_M) (T := F_M) (N := 37) hx hb hta i_M t_M t_M_ok n_M hown hK hP hD hS 0 rfl rfl 16 (by decide) (hta _ fl_M_111) (fun _ h9 => h9) rfl (by decide +kernel) rfl rfl (Nat.le_of_ble_eq_true rfl) d_M_takeName_60 (fun H locs hP hD hS => ?_)
            have hP := mwP_bad hP
            have hD := mwD_bad hD
            have hE := hE _ rfl
            generalize (ms_bad σ 1 : MPS) = σ60 at hP hD hE
            refine lv_goto (tgt := 25) hx hb d_M_takeName_63 (by decide) ?_
            exact ih25 σ60 _ _ hP hD hS _ (lv_sub hl [0, 1] rfl) hE
  unfold w_M_takeName at hE
  refine lv_aload_n hx hb d_M_takeName_0 rfl (lv_at hl 0 rfl) ?_
  refine va_get (D := (mG md)) (ci := 7) (v := .int (mp_at σ)) (C := R_M) (T := F_M) (N := 37) hx hb hta i_M hown hK hP 0 rfl rfl 13 (by decide) (hta _ fl_M_101) (fun _ h9 => h9) rfl d_M_takeName_1 ?_
  refine lv_istore_n (lv' := [(1, .int (mp_at σ)), (0, .ref (mA md 0))]) hx hb d_M_takeName_4 rfl hl (by decide) rfl (fun ls hl => ?_)
  refine lv_aload_n hx hb d_M_takeName_5 rfl (lv_at hl 1 rfl) ?_
  refine lv_aload_n hx hb d_M_takeName_6 rfl (lv_at hl 1 rfl) ?_
  refine va_get (D := (mG md)) (ci := 7) (v := .int (mp_at σ)) (C := R_M) (T := F_M) (N := 37) hx hb hta i_M hown hK hP 0 rfl rfl 13 (by decide) (hta _ fl_M_101) (fun _ h9 => h9) rfl d_M_takeName_7 ?_
  obtain ⟨hc10_0, hE⟩ := hE
  refine ro_V (b0 := (mA md 0)) (As := [.int (mp_at σ)]) (rest := []) ⟨hx, hb, hml, hown, hta⟩ (f_M_x l md σ (mp_at σ) hc10_0) ok_M_95 ⟨Nat.le_of_ble_eq_true rfl, Nat.le_of_ble_eq_true rfl⟩ blind_rM (va_recv hK hP (ci := 7) (q0 := 0) rfl rfl) (rM_of hP hK) rfl hl.1 rfl (Nat.le_of_ble_eq_true rfl) d_M_takeName_10 ⟨Nat.zero_le _, Nat.zero_le _⟩ (fun r10 hrr => ?_)
  subst hrr
  refine lv_iconst (v := 1) hx hb d_M_takeName_13 (by decide) ?_
  refine ro_S  (As := [.int (mX σ (mp_at σ)), .int 1]) (rest := []) ⟨hx, hb, hml, hown, hta⟩ (f_M_isNameSign l (mX σ (mp_at σ)) 1) ok_M_107 ⟨Nat.le_of_ble_eq_true rfl, Nat.le_of_ble_eq_true rfl⟩ blind_true  (fun _ _ _ => trivial) rfl hl.1 rfl (Nat.le_of_ble_eq_true rfl) d_M_takeName_14 ⟨Nat.zero_le _, Nat.zero_le _⟩ (fun r14 hrr => ?_)
  subst hrr
  refine lv_if_ne (tgt := 25) hx hb d_M_takeName_17 (by decide) (fun cc17 => ?_) (fun cc17 => ?_)
  · have hE := hE.2 cc17
    obtain ⟨n25, hE⟩ := hE
    exact L25 (mp_at σ) n25 σ _ _ hP hD hS _ (lv_sub hl [1, 0] rfl) hE
  · have hE := hE.1 cc17
    refine lv_aload_n hx hb d_M_takeName_20 rfl (lv_at hl 1 rfl) ?_
    refine lv_iconst (v := 1) hx hb d_M_takeName_21 (by decide) ?_
    refine va_put (D := (mG md)) (ci := 7) (v := .int 1) (ty := .boolean) (C := R_M) (T := F_M) (N := 37) hx hb hta i_M t_M t_M_ok n_M hown hK hP hD hS 0 rfl rfl 16 (by decide) (hta _ fl_M_111) (fun _ h9 => h9) rfl (by decide +kernel) rfl rfl (Nat.le_of_ble_eq_true rfl) d_M_takeName_22 (fun H locs hP hD hS => ?_)
    have hP := mwP_bad hP
    have hD := mwD_bad hD
    have hE := hE _ rfl
    generalize (ms_bad σ 1 : MPS) = σ22 at hP hD hE
    obtain ⟨n25, hE⟩ := hE
    exact L25 (mp_at σ) n25 σ22 _ _ hP hD hS _ (lv_sub hl [1, 0] rfl) hE
