-- printed by wip/gen: the reference

theorem d_M_isLinked_0 : decode b_M_isLinked 0 = .ok (.aload_n 0, 1) := by decide +kernel
theorem d_M_isLinked_1 : decode b_M_isLinked 1 = .ok (.aload_n 0, 1) := by decide +kernel
theorem d_M_isLinked_2 : decode b_M_isLinked 2 = .ok (.getfield 214, 3) := by decide +kernel
theorem d_M_isLinked_5 : decode b_M_isLinked 5 = .ok (.ifCond .eq 7, 3) := by decide +kernel
theorem d_M_isLinked_8 : decode b_M_isLinked 8 = .ok (.iconst 0, 1) := by decide +kernel
theorem d_M_isLinked_9 : decode b_M_isLinked 9 = .ok (.goto 4, 3) := by decide +kernel
theorem d_M_isLinked_12 : decode b_M_isLinked 12 = .ok (.iconst 1, 1) := by decide +kernel
theorem d_M_isLinked_13 : decode b_M_isLinked 13 = .ok (.putfield 70, 3) := by decide +kernel
theorem d_M_isLinked_16 : decode b_M_isLinked 16 = .ok (.aload_n 0, 1) := by decide +kernel
theorem d_M_isLinked_17 : decode b_M_isLinked 17 = .ok (.getfield 70, 3) := by decide +kernel
theorem d_M_isLinked_20 : decode b_M_isLinked 20 = .ok (.ifCond .le 5, 3) := by decide +kernel
theorem d_M_isLinked_23 : decode b_M_isLinked 23 = .ok (.iconst 0, 1) := by decide +kernel
theorem d_M_isLinked_24 : decode b_M_isLinked 24 = .ok (.ireturn, 1) := by decide +kernel
theorem d_M_isLinked_25 : decode b_M_isLinked 25 = .ok (.aload_n 0, 1) := by decide +kernel
theorem d_M_isLinked_26 : decode b_M_isLinked 26 = .ok (.iconst 0, 1) := by decide +kernel
theorem d_M_isLinked_27 : decode b_M_isLinked 27 = .ok (.iconst (-1), 1) := by decide +kernel
theorem d_M_isLinked_28 : decode b_M_isLinked 28 = .ok (.invokevirtual 217, 3) := by decide +kernel
theorem d_M_isLinked_31 : decode b_M_isLinked 31 = .ok (.iconst 0, 1) := by decide +kernel
theorem d_M_isLinked_32 : decode b_M_isLinked 32 = .ok (.istore_n 1, 1) := by decide +kernel
theorem d_M_isLinked_33 : decode b_M_isLinked 33 = .ok (.iload_n 1, 1) := by decide +kernel
theorem d_M_isLinked_34 : decode b_M_isLinked 34 = .ok (.aload_n 0, 1) := by decide +kernel
theorem d_M_isLinked_35 : decode b_M_isLinked 35 = .ok (.getfield 175, 3) := by decide +kernel
theorem d_M_isLinked_38 : decode b_M_isLinked 38 = .ok (.if_icmp .ge 95, 3) := by decide +kernel
theorem d_M_isLinked_41 : decode b_M_isLinked 41 = .ok (.aload_n 0, 1) := by decide +kernel
theorem d_M_isLinked_42 : decode b_M_isLinked 42 = .ok (.getfield 208, 3) := by decide +kernel
theorem d_M_isLinked_45 : decode b_M_isLinked 45 = .ok (.ifCond .ne 88, 3) := by decide +kernel
theorem d_M_isLinked_48 : decode b_M_isLinked 48 = .ok (.aload_n 0, 1) := by decide +kernel
theorem d_M_isLinked_49 : decode b_M_isLinked 49 = .ok (.iload_n 1, 1) := by decide +kernel
theorem d_M_isLinked_50 : decode b_M_isLinked 50 = .ok (.ldc2_w 251, 3) := by decide +kernel
theorem d_M_isLinked_53 : decode b_M_isLinked 53 = .ok (.iconst 1, 1) := by decide +kernel
theorem d_M_isLinked_54 : decode b_M_isLinked 54 = .ok (.invokevirtual 230, 3) := by decide +kernel
theorem d_M_isLinked_57 : decode b_M_isLinked 57 = .ok (.ifCond .eq 70, 3) := by decide +kernel
theorem d_M_isLinked_60 : decode b_M_isLinked 60 = .ok (.aload_n 0, 1) := by decide +kernel
theorem d_M_isLinked_61 : decode b_M_isLinked 61 = .ok (.iload_n 1, 1) := by decide +kernel
theorem d_M_isLinked_62 : decode b_M_isLinked 62 = .ok (.ldc2_w 289, 3) := by decide +kernel
theorem d_M_isLinked_65 : decode b_M_isLinked 65 = .ok (.iconst 4, 1) := by decide +kernel
theorem d_M_isLinked_66 : decode b_M_isLinked 66 = .ok (.invokevirtual 274, 3) := by decide +kernel
theorem d_M_isLinked_69 : decode b_M_isLinked 69 = .ok (.ifCond .ne 6, 3) := by decide +kernel
theorem d_M_isLinked_72 : decode b_M_isLinked 72 = .ok (.goto 55, 3) := by decide +kernel
theorem d_M_isLinked_75 : decode b_M_isLinked 75 = .ok (.aload_n 0, 1) := by decide +kernel
theorem d_M_isLinked_76 : decode b_M_isLinked 76 = .ok (.invokevirtual 277, 3) := by decide +kernel
theorem d_M_isLinked_79 : decode b_M_isLinked 79 = .ok (.aload_n 0, 1) := by decide +kernel
theorem d_M_isLinked_80 : decode b_M_isLinked 80 = .ok (.getfield 269, 3) := by decide +kernel
theorem d_M_isLinked_83 : decode b_M_isLinked 83 = .ok (.ifCond .eq 44, 3) := by decide +kernel
theorem d_M_isLinked_86 : decode b_M_isLinked 86 = .ok (.aload_n 0, 1) := by decide +kernel
theorem d_M_isLinked_87 : decode b_M_isLinked 87 = .ok (.getfield 64, 3) := by decide +kernel
theorem d_M_isLinked_90 : decode b_M_isLinked 90 = .ok (.iconst 0, 1) := by decide +kernel
theorem d_M_isLinked_91 : decode b_M_isLinked 91 = .ok (.iaload, 1) := by decide +kernel
theorem d_M_isLinked_92 : decode b_M_isLinked 92 = .ok (.bipush 35, 2) := by decide +kernel
theorem d_M_isLinked_94 : decode b_M_isLinked 94 = .ok (.if_icmp .eq 6, 3) := by decide +kernel
theorem d_M_isLinked_97 : decode b_M_isLinked 97 = .ok (.goto 30, 3) := by decide +kernel
theorem d_M_isLinked_100 : decode b_M_isLinked 100 = .ok (.aload_n 0, 1) := by decide +kernel
theorem d_M_isLinked_101 : decode b_M_isLinked 101 = .ok (.iconst 1, 1) := by decide +kernel
theorem d_M_isLinked_102 : decode b_M_isLinked 102 = .ok (.invokevirtual 283, 3) := by decide +kernel
theorem d_M_isLinked_105 : decode b_M_isLinked 105 = .ok (.aload_n 0, 1) := by decide +kernel
theorem d_M_isLinked_106 : decode b_M_isLinked 106 = .ok (.aload_n 0, 1) := by decide +kernel
theorem d_M_isLinked_107 : decode b_M_isLinked 107 = .ok (.getfield 175, 3) := by decide +kernel
theorem d_M_isLinked_110 : decode b_M_isLinked 110 = .ok (.invokevirtual 286, 3) := by decide +kernel
theorem d_M_isLinked_113 : decode b_M_isLinked 113 = .ok (.ifCond .ge 14, 3) := by decide +kernel
theorem d_M_isLinked_116 : decode b_M_isLinked 116 = .ok (.aload_n 0, 1) := by decide +kernel
theorem d_M_isLinked_117 : decode b_M_isLinked 117 = .ok (.iconst 3, 1) := by decide +kernel
theorem d_M_isLinked_118 : decode b_M_isLinked 118 = .ok (.aload_n 0, 1) := by decide +kernel
theorem d_M_isLinked_119 : decode b_M_isLinked 119 = .ok (.getfield 40, 3) := by decide +kernel
theorem d_M_isLinked_122 : decode b_M_isLinked 122 = .ok (.iload_n 1, 1) := by decide +kernel
theorem d_M_isLinked_123 : decode b_M_isLinked 123 = .ok (.iaload, 1) := by decide +kernel
theorem d_M_isLinked_124 : decode b_M_isLinked 124 = .ok (.invokevirtual 217, 3) := by decide +kernel
theorem d_M_isLinked_127 : decode b_M_isLinked 127 = .ok (.iinc 1 1, 3) := by decide +kernel
theorem d_M_isLinked_130 : decode b_M_isLinked 130 = .ok (.goto (-97), 3) := by decide +kernel
theorem d_M_isLinked_133 : decode b_M_isLinked 133 = .ok (.aload_n 0, 1) := by decide +kernel
theorem d_M_isLinked_134 : decode b_M_isLinked 134 = .ok (.getfield 208, 3) := by decide +kernel
theorem d_M_isLinked_137 : decode b_M_isLinked 137 = .ok (.ifCond .ne 7, 3) := by decide +kernel
theorem d_M_isLinked_140 : decode b_M_isLinked 140 = .ok (.iconst 1, 1) := by decide +kernel
theorem d_M_isLinked_141 : decode b_M_isLinked 141 = .ok (.goto 4, 3) := by decide +kernel
theorem d_M_isLinked_144 : decode b_M_isLinked 144 = .ok (.iconst 0, 1) := by decide +kernel
theorem d_M_isLinked_145 : decode b_M_isLinked 145 = .ok (.ireturn, 1) := by decide +kernel
def w_M_isLinked_J133   (post : Int32 → MPS → Prop) (σ : MPS) : Prop := (((mp_fault σ) = 0 → post 1 σ) ∧ (¬ (mp_fault σ) = 0 → post 0 σ))
def w_M_isLinked_J127   (K33 : Int32 → MPS → Prop) (post : Int32 → MPS → Prop) (v1 : Int32) (σ : MPS) : Prop := K33 (v1 + 1) σ
def w_M_isLinked_L33   (post : Int32 → MPS → Prop) : Nat → Int32 → MPS → Prop
  | 0, _, _ => False
  | n33 + 1, v1, σ => (((mp_nodes σ) ≤ v1 → w_M_isLinked_J133 post σ) ∧ (¬ (mp_nodes σ) ≤ v1 → (((mp_fault σ) = 0 → w_M_isNamed σ v1 97 1 (fun r54 => ((r54 = 0 → w_M_isLinked_J127 (w_M_isLinked_L33 post n33) post v1 σ) ∧ (¬ r54 = 0 → w_M_hasAttribute σ v1 1752327526 4 (fun r66 σ66 => ((r66 = 0 → w_M_isLinked_J127 (w_M_isLinked_L33 post n33) post v1 σ66) ∧ (¬ r66 = 0 → w_M_takeValue σ66  (fun σ76 => (((mp_valueMany σ76) = 0 → w_M_isLinked_J127 (w_M_isLinked_L33 post n33) post v1 σ76) ∧ (¬ (mp_valueMany σ76) = 0 → (vp_in 0 4000 ∧ ((((mp_value σ76) (0 : Int32).toNatClampNeg) = 35 → w_M_want σ76 1 (fun σ102 => w_M_withId σ102 (mp_nodes σ102) (fun r110 σ110 => ((0 ≤ r110 → w_M_isLinked_J127 (w_M_isLinked_L33 post n33) post v1 σ110) ∧ (¬ 0 ≤ r110 → (vp_in v1 1000 ∧ w_M_tell σ110 3 ((mp_begins σ110) v1.toNatClampNeg) (fun σ124 => w_M_isLinked_J127 (w_M_isLinked_L33 post n33) post v1 σ124))))))) ∧ (¬ ((mp_value σ76) (0 : Int32).toNatClampNeg) = 35 → w_M_isLinked_J127 (w_M_isLinked_L33 post n33) post v1 σ76))))))))))))) ∧ (¬ (mp_fault σ) = 0 → w_M_isLinked_J133 post σ))))
def w_M_isLinked_J13   (post : Int32 → MPS → Prop) (t0 : Int32) (σ : MPS) : Prop := (∀ σ13 : MPS, σ13 = ms_thrown σ t0 → (((mp_thrown σ13) ≤ 0 → w_M_tell σ13 0 (-1) (fun σ28 => (∃ n33, w_M_isLinked_L33 post n33 0 σ28))) ∧ (¬ (mp_thrown σ13) ≤ 0 → post 0 σ13)))
def w_M_isLinked  (σ : MPS)  (post : Int32 → MPS → Prop) : Prop := (((mp_known σ) = 0 → w_M_isLinked_J13 post 1 σ) ∧ (¬ (mp_known σ) = 0 → w_M_isLinked_J13 post 0 σ))
set_option maxHeartbeats 4000000 in
set_option maxRecDepth 100000 in
theorem c_M_isLinked (l : Launch) (md : MD) (sz : Nat) (σ : MPS)   (post : Int32 → MPS → Prop) (hE : w_M_isLinked σ post) : Met l y_M_isLinked ws_M_isLinked { frames := 5, cells := 0, slots := 0, locals := 119 } (va_Pc [.ref (mA md 0)] (gM md σ sz)) (va_Qi post (eM md (va_A (MW md σ) sz)) (va_A (MW md σ) sz)) 0 0 (va_A (MW md σ) sz) := by
  refine Met.ofW (cc := b_M_isLinked) (maxL := 2) (ret := (some .boolean)) (by decide) rfl ?_
  intro p e s m args below meth c s₁ B hml hv
  obtain ⟨rfl, hsz, hP, hK, hD0⟩ := hv
  have hx := B.exec
  have hb := B.bytes
  have hr := B.returns
  have hta : ∀ w ∈ aW, w.before _ s = true := fun w h => atoms_spec (ws := ws_M_isLinked) B.pre w (List.mem_cons_of_mem _ h)
  have hown : s.vm.findClass R_M = some m.cls := findClass_of_methodNamed B.named
  have hlocks := B.notSynchronized
  subst hsz
  have hD := hD0.self (sz := s.heap.size)
  generalize hAe : va_A (MW md σ) s.heap.size = A at hD ⊢
  have hA : ∀ q : Nat, s.heap.size ≤ q → A q := fun q h => by rw [← hAe]; exact Or.inr h
  have hS : va_S A s.heap s.heap [] := va_S.rf
  have hP : va_P (mG md) classes (MW md σ) s.heap := hP
  have hl := lv_entry ([.ref (mA md 0)]) (n := 2) (Nat.le_of_ble_eq_true rfl)
  rw [lg_entry_eq]
  generalize (lg_sl ([.ref (mA md 0)]) ++ List.replicate (2 - (lg_sl ([.ref (mA md 0)])).length) Slot.unset).toArray = ls at hl ⊢
  have hl : lv_has ls 2 [(0, .ref (mA md 0))] := hl
  have J133 : ∀ (σ : MPS) (H : Heap) (locs : List Loc) (hP : va_P (mG md) classes (MW md σ) H) (hD : va_D A (MW md σ)) (hS : va_S A s.heap H locs) (ls : Array Slot) (hl : lv_has ls 2 [(0, .ref (mA md 0))]) (hE : w_M_isLinked_J133 post σ), W p l e (headSpec ws_M_isLinked { frames := 5, cells := 0, slots := 0, locals := 119 }).room s m ([.ref (mA md 0)] : List Value).toArray below meth c H locs 0 0 (MQ below (va_Qi post (eM md A) A) ([.ref (mA md 0)] : List Value).toArray s 0 0 A) (F0 m 133 ls []) := by
    intro  σ H locs hP hD hS ls hl hE
    unfold w_M_isLinked_J133 at hE
    refine lv_aload_n hx hb d_M_isLinked_133 rfl (lv_at hl 0 rfl) ?_
    refine va_get (D := (mG md)) (ci := 7) (v := .int (mp_fault σ)) (C := R_M) (T := F_M) (N := 37) hx hb hta i_M hown hK hP 0 rfl rfl 9 (by decide) (hta _ fl_M_208) (fun _ h9 => h9) rfl d_M_isLinked_134 ?_
    refine lv_if_ne (tgt := 144) hx hb d_M_isLinked_137 (by decide) (fun cc137 => ?_) (fun cc137 => ?_)
    · have hE := hE.2 cc137
      refine lv_iconst (v := 0) hx hb d_M_isLinked_144 (by decide) ?_
      exact W.zret (v := 0) hx hb hr rfl (fun t ht hW => ⟨⟨_, σ, rfl, hE, by rw [ht]; exact hP, va_K.moved hW.alike hK, hD⟩, hS.F ht⟩) hS.2.2 d_M_isLinked_145
    · have hE := hE.1 cc137
      refine lv_iconst (v := 1) hx hb d_M_isLinked_140 (by decide) ?_
      refine lv_goto (tgt := 145) hx hb d_M_isLinked_141 (by decide) ?_
      exact W.zret (v := 1) hx hb hr rfl (fun t ht hW => ⟨⟨_, σ, rfl, hE, by rw [ht]; exact hP, va_K.moved hW.alike hK, hD⟩, hS.F ht⟩) hS.2.2 d_M_isLinked_145
  have L33 : ∀ (n33 : Nat) (v1 : Int32) (σ : MPS) (H : Heap) (locs : List Loc) (hP : va_P (mG md) classes (MW md σ) H) (hD : va_D A (MW md σ)) (hS : va_S A s.heap H locs) (ls : Array Slot) (hl : lv_has ls 2 [(0, .ref (mA md 0)), (1, .int v1)]) (hE : w_M_isLinked_L33 post n33 v1 σ), W p l e (headSpec ws_M_isLinked { frames := 5, cells := 0, slots := 0, locals := 119 }).room s m ([.ref (mA md 0)] : List Value).toArray below meth c H locs 0 0 (MQ below (va_Qi post (eM md A) A) ([.ref (mA md 0)] : List Value).toArray s 0 0 A) (F0 m 33 ls []) := by
    intro n33
    induction n33 with
    | zero => intro v1 σ H locs hP hD hS ls hl hE; exact hE.elim
    | succ n33 ih33 =>
      have J127 : ∀ (v1 : Int32) (σ : MPS) (H : Heap) (locs : List Loc) (hP : va_P (mG md) classes (MW md σ) H) (hD : va_D A (MW md σ)) (hS : va_S A s.heap H locs) (ls : Array Slot) (hl : lv_has ls 2 [(0, .ref (mA md 0)), (1, .int v1)]) (hE : w_M_isLinked_J127 (w_M_isLinked_L33 post n33) post v1 σ), W p l e (headSpec ws_M_isLinked { frames := 5, cells := 0, slots := 0, locals := 119 }).room s m ([.ref (mA md 0)] : List Value).toArray below meth c H locs 0 0 (MQ below (va_Qi post (eM md A) A) ([.ref (mA md 0)] : List Value).toArray s 0 0 A) (F0 m 127 ls []) := by
        intro  v1 σ H locs hP hD hS ls hl hE
        unfold w_M_isLinked_J127 at hE
        refine lv_iinc (v := v1 + 1) (lv' := [(1, .int (v1 + 1)), (0, .ref (mA md 0))]) hx hb d_M_isLinked_127 hl (k := 1) rfl rfl (by decide) rfl (fun ls hl => ?_)
        refine lv_goto (tgt := 33) hx hb d_M_isLinked_130 (by decide) ?_
        exact ih33 (v1 + 1) σ _ _ hP hD hS _ (lv_sub hl [1, 0] rfl) hE
      intro v1 σ H locs hP hD hS ls hl hE
      unfold w_M_isLinked_L33 at hE
      refine lv_iload_n hx hb d_M_isLinked_33 rfl (lv_at hl 1 rfl) ?_
      refine lv_aload_n hx hb d_M_isLinked_34 rfl (lv_at hl 0 rfl) ?_
      refine va_get (D := (mG md)) (ci := 7) (v := .int (mp_nodes σ)) (C := R_M) (T := F_M) (N := 37) hx hb hta i_M hown hK hP 0 rfl rfl 32 (by decide) (hta _ fl_M_175) (fun _ h9 => h9) rfl d_M_isLinked_35 ?_
      refine lv_icmp_ge (tgt := 133) hx hb d_M_isLinked_38 (by decide) (fun cc38 => ?_) (fun cc38 => ?_)
      · have hE := hE.1 cc38
        exact J133  σ _ _ hP hD hS _ (lv_sub hl [0] rfl) hE
      · have hE := hE.2 cc38
        refine lv_aload_n hx hb d_M_isLinked_41 rfl (lv_at hl 0 rfl) ?_
        refine va_get (D := (mG md)) (ci := 7) (v := .int (mp_fault σ)) (C := R_M) (T := F_M) (N := 37) hx hb hta i_M hown hK hP 0 rfl rfl 9 (by decide) (hta _ fl_M_208) (fun _ h9 => h9) rfl d_M_isLinked_42 ?_
        refine lv_if_ne (tgt := 133) hx hb d_M_isLinked_45 (by decide) (fun cc45 => ?_) (fun cc45 => ?_)
        · have hE := hE.2 cc45
          exact J133  σ _ _ hP hD hS _ (lv_sub hl [0] rfl) hE
        · have hE := hE.1 cc45
          refine lv_aload_n hx hb d_M_isLinked_48 rfl (lv_at hl 0 rfl) ?_
          refine lv_iload_n hx hb d_M_isLinked_49 rfl (lv_at hl 1 rfl) ?_
          refine lv_ldc2 hx hb hown (hta _ cl_M_251) d_M_isLinked_50 ?_
          refine lv_iconst (v := 1) hx hb d_M_isLinked_53 (by decide) ?_
          refine ro_V (b0 := (mA md 0)) (As := [.int v1, .long 97, .int 1]) (rest := []) ⟨hx, hb, hml, hown, hta⟩ (c_M_isNamed l md σ v1 97 1  _ hE) ok_M_230 ⟨Nat.le_of_ble_eq_true rfl, Nat.le_of_ble_eq_true rfl⟩ blind_rM (va_recv hK hP (ci := 7) (q0 := 0) rfl rfl) (rM_of hP hK) rfl hl.1 rfl (Nat.le_of_ble_eq_true rfl) d_M_isLinked_54 ⟨Nat.zero_le _, Nat.zero_le _⟩ (fun r54 hE => ?_)
          refine lv_if_eq (tgt := 127) hx hb d_M_isLinked_57 (by decide) (fun cc57 => ?_) (fun cc57 => ?_)
          · have hE := hE.1 cc57
            exact J127  v1 σ _ _ hP hD hS _ (lv_sub hl [0, 1] rfl) hE
          · have hE := hE.2 cc57
            refine lv_aload_n hx hb d_M_isLinked_60 rfl (lv_at hl 0 rfl) ?_
            refine lv_iload_n hx hb d_M_isLinked_61 rfl (lv_at hl 1 rfl) ?_
            refine lv_ldc2 hx hb hown (hta _ cl_M_289) d_M_isLinked_62 ?_
            refine lv_iconst (v := 4) hx hb d_M_isLinked_65 (by decide) ?_
            refine mm_i (b0 := (mA md 0)) (As := [.int v1, .long 1752327526, .int 4]) (rest := []) ⟨hx, hb, hml, hown, hta⟩ (c_M_hasAttribute l md _ σ v1 1752327526 4 _ hE) ok_M_274 ⟨Nat.le_of_ble_eq_true rfl, Nat.le_of_ble_eq_true rfl⟩ (va_recv hK hP (ci := 7) (q0 := 0) rfl rfl) hP hK hD hS hA rfl hl.1 rfl (Nat.le_of_ble_eq_true rfl) d_M_isLinked_66 ⟨Nat.zero_le _, Nat.zero_le _⟩ (fun r66 σ66 H locs hE hP hD hS => ?_)
            refine lv_if_ne (tgt := 75) hx hb d_M_isLinked_69 (by decide) (fun cc69 => ?_) (fun cc69 => ?_)
            · have hE := hE.2 cc69
              refine lv_aload_n hx hb d_M_isLinked_75 rfl (lv_at hl 0 rfl) ?_
              refine mm_v (b0 := (mA md 0)) (As := []) (rest := []) ⟨hx, hb, hml, hown, hta⟩ (c_M_takeValue l md _ σ66  _ hE) ok_M_277 ⟨Nat.le_of_ble_eq_true rfl, Nat.le_of_ble_eq_true rfl⟩ (va_recv hK hP (ci := 7) (q0 := 0) rfl rfl) hP hK hD hS hA rfl hl.1 rfl (Nat.le_of_ble_eq_true rfl) d_M_isLinked_76 ⟨Nat.zero_le _, Nat.zero_le _⟩ (fun σ76 H locs hE hP hD hS => ?_)
              refine lv_aload_n hx hb d_M_isLinked_79 rfl (lv_at hl 0 rfl) ?_
              refine va_get (D := (mG md)) (ci := 7) (v := .int (mp_valueMany σ76)) (C := R_M) (T := F_M) (N := 37) hx hb hta i_M hown hK hP 0 rfl rfl 35 (by decide) (hta _ fl_M_269) (fun _ h9 => h9) rfl d_M_isLinked_80 ?_
              refine lv_if_eq (tgt := 127) hx hb d_M_isLinked_83 (by decide) (fun cc83 => ?_) (fun cc83 => ?_)
              · have hE := hE.1 cc83
                exact J127  v1 σ76 _ _ hP hD hS _ (lv_sub hl [0, 1] rfl) hE
              · have hE := hE.2 cc83
                refine lv_aload_n hx hb d_M_isLinked_86 rfl (lv_at hl 0 rfl) ?_
                refine va_get (D := (mG md)) (ci := 7) (v := .ref (mA md 17)) (C := R_M) (T := F_M) (N := 37) hx hb hta i_M hown hK hP 0 rfl rfl 33 (by decide) (hta _ fl_M_64) (fun _ h9 => h9) rfl d_M_isLinked_87 ?_
                refine lv_iconst (v := 0) hx hb d_M_isLinked_90 (by decide) ?_
                obtain ⟨hI91, hE⟩ := hE
                refine va_iald (D := (mG md)) (f := mp_value σ76) hx hb hK hP 17 0 rfl rfl hI91 d_M_isLinked_91 ?_
                refine lv_bipush (v := 35) hx hb d_M_isLinked_92 (by decide) ?_
                refine lv_icmp_eq (tgt := 100) hx hb d_M_isLinked_94 (by decide) (fun cc94 => ?_) (fun cc94 => ?_)
                · have hE := hE.1 cc94
                  refine lv_aload_n hx hb d_M_isLinked_100 rfl (lv_at hl 0 rfl) ?_
                  refine lv_iconst (v := 1) hx hb d_M_isLinked_101 (by decide) ?_
                  refine mm_v (b0 := (mA md 0)) (As := [.int 1]) (rest := []) ⟨hx, hb, hml, hown, hta⟩ (c_M_want l md _ σ76 1 _ hE) ok_M_283 ⟨Nat.le_of_ble_eq_true rfl, Nat.le_of_ble_eq_true rfl⟩ (va_recv hK hP (ci := 7) (q0 := 0) rfl rfl) hP hK hD hS hA rfl hl.1 rfl (Nat.le_of_ble_eq_true rfl) d_M_isLinked_102 ⟨Nat.zero_le _, Nat.zero_le _⟩ (fun σ102 H locs hE hP hD hS => ?_)
                  refine lv_aload_n hx hb d_M_isLinked_105 rfl (lv_at hl 0 rfl) ?_
                  refine lv_aload_n hx hb d_M_isLinked_106 rfl (lv_at hl 0 rfl) ?_
                  refine va_get (D := (mG md)) (ci := 7) (v := .int (mp_nodes σ102)) (C := R_M) (T := F_M) (N := 37) hx hb hta i_M hown hK hP 0 rfl rfl 32 (by decide) (hta _ fl_M_175) (fun _ h9 => h9) rfl d_M_isLinked_107 ?_
                  refine mm_i (b0 := (mA md 0)) (As := [.int (mp_nodes σ102)]) (rest := []) ⟨hx, hb, hml, hown, hta⟩ (c_M_withId l md _ σ102 (mp_nodes σ102) _ hE) ok_M_286 ⟨Nat.le_of_ble_eq_true rfl, Nat.le_of_ble_eq_true rfl⟩ (va_recv hK hP (ci := 7) (q0 := 0) rfl rfl) hP hK hD hS hA rfl hl.1 rfl (Nat.le_of_ble_eq_true rfl) d_M_isLinked_110 ⟨Nat.zero_le _, Nat.zero_le _⟩ (fun r110 σ110 H locs hE hP hD hS => ?_)
                  refine lv_if_ge (tgt := 127) hx hb d_M_isLinked_113 (by decide) (fun cc113 => ?_) (fun cc113 => ?_)
                  · have hE := hE.1 cc113
                    exact J127  v1 σ110 _ _ hP hD hS _ (lv_sub hl [0, 1] rfl) hE
                  · have hE := hE.2 cc113
                    refine lv_aload_n hx hb d_M_isLinked_116 rfl (lv_at hl 0 rfl) ?_
                    refine lv_iconst (v := 3) hx hb d_M_isLinked_117 (by decide) ?_
                    refine lv_aload_n hx hb d_M_isLinked_118 rfl (lv_at hl 0 rfl) ?_
                    refine va_get (D := (mG md)) (ci := 7) (v := .ref (mA md 9)) (C := R_M) (T := F_M) (N := 37) hx hb hta i_M hown hK hP 0 rfl rfl 24 (by decide) (hta _ fl_M_40) (fun _ h9 => h9) rfl d_M_isLinked_119 ?_
                    refine lv_iload_n hx hb d_M_isLinked_122 rfl (lv_at hl 1 rfl) ?_
                    obtain ⟨hI123, hE⟩ := hE
                    refine va_iald (D := (mG md)) (f := mp_begins σ110) hx hb hK hP 9 0 rfl rfl hI123 d_M_isLinked_123 ?_
                    refine mm_v (b0 := (mA md 0)) (As := [.int 3, .int ((mp_begins σ110) v1.toNatClampNeg)]) (rest := []) ⟨hx, hb, hml, hown, hta⟩ (c_M_tell l md _ σ110 3 ((mp_begins σ110) v1.toNatClampNeg) _ hE) ok_M_217 ⟨Nat.le_of_ble_eq_true rfl, Nat.le_of_ble_eq_true rfl⟩ (va_recv hK hP (ci := 7) (q0 := 0) rfl rfl) hP hK hD hS hA rfl hl.1 rfl (Nat.le_of_ble_eq_true rfl) d_M_isLinked_124 ⟨Nat.zero_le _, Nat.zero_le _⟩ (fun σ124 H locs hE hP hD hS => ?_)
                    exact J127  v1 σ124 _ _ hP hD hS _ (lv_sub hl [0, 1] rfl) hE
                · have hE := hE.2 cc94
                  refine lv_goto (tgt := 127) hx hb d_M_isLinked_97 (by decide) ?_
                  exact J127  v1 σ76 _ _ hP hD hS _ (lv_sub hl [0, 1] rfl) hE
            · have hE := hE.1 cc69
              refine lv_goto (tgt := 127) hx hb d_M_isLinked_72 (by decide) ?_
              exact J127  v1 σ66 _ _ hP hD hS _ (lv_sub hl [0, 1] rfl) hE
  have J13 : ∀ (t0 : Int32) (σ : MPS) (H : Heap) (locs : List Loc) (hP : va_P (mG md) classes (MW md σ) H) (hD : va_D A (MW md σ)) (hS : va_S A s.heap H locs) (ls : Array Slot) (hl : lv_has ls 2 [(0, .ref (mA md 0))]) (hE : w_M_isLinked_J13 post t0 σ), W p l e (headSpec ws_M_isLinked { frames := 5, cells := 0, slots := 0, locals := 119 }).room s m ([.ref (mA md 0)] : List Value).toArray below meth c H locs 0 0 (MQ below (va_Qi post (eM md A) A) ([.ref (mA md 0)] : List Value).toArray s 0 0 A) (F0 m 13 ls [.int t0, .ref (mA md 0)]) := by
    intro  t0 σ H locs hP hD hS ls hl hE
    unfold w_M_isLinked_J13 at hE
    refine va_put (D := (mG md)) (ci := 7) (v := .int t0) (ty := .int) (C := R_M) (T := F_M) (N := 37) hx hb hta i_M t_M t_M_ok n_M hown hK hP hD hS 0 rfl rfl 0 (by decide) (hta _ fl_M_70) (fun _ h9 => h9) rfl (by decide +kernel) rfl rfl (Nat.le_of_ble_eq_true rfl) d_M_isLinked_13 (fun H locs hP hD hS => ?_)
    have hP := mwP_thrown hP
    have hD := mwD_thrown hD
    have hE := hE _ rfl
    generalize (ms_thrown σ t0 : MPS) = σ13 at hP hD hE
    refine lv_aload_n hx hb d_M_isLinked_16 rfl (lv_at hl 0 rfl) ?_
    refine va_get (D := (mG md)) (ci := 7) (v := .int (mp_thrown σ13)) (C := R_M) (T := F_M) (N := 37) hx hb hta i_M hown hK hP 0 rfl rfl 0 (by decide) (hta _ fl_M_70) (fun _ h9 => h9) rfl d_M_isLinked_17 ?_
    refine lv_if_le (tgt := 25) hx hb d_M_isLinked_20 (by decide) (fun cc20 => ?_) (fun cc20 => ?_)
    · have hE := hE.1 cc20
      refine lv_aload_n hx hb d_M_isLinked_25 rfl (lv_at hl 0 rfl) ?_
      refine lv_iconst (v := 0) hx hb d_M_isLinked_26 (by decide) ?_
      refine lv_iconst (v := -1) hx hb d_M_isLinked_27 (by decide) ?_
      refine mm_v (b0 := (mA md 0)) (As := [.int 0, .int (-1)]) (rest := []) ⟨hx, hb, hml, hown, hta⟩ (c_M_tell l md _ σ13 0 (-1) _ hE) ok_M_217 ⟨Nat.le_of_ble_eq_true rfl, Nat.le_of_ble_eq_true rfl⟩ (va_recv hK hP (ci := 7) (q0 := 0) rfl rfl) hP hK hD hS hA rfl hl.1 rfl (Nat.le_of_ble_eq_true rfl) d_M_isLinked_28 ⟨Nat.zero_le _, Nat.zero_le _⟩ (fun σ28 H locs hE hP hD hS => ?_)
      refine lv_iconst (v := 0) hx hb d_M_isLinked_31 (by decide) ?_
      refine lv_istore_n (lv' := [(1, .int 0), (0, .ref (mA md 0))]) hx hb d_M_isLinked_32 rfl hl (by decide) rfl (fun ls hl => ?_)
      obtain ⟨n33, hE⟩ := hE
      exact L33  n33 0 σ28 _ _ hP hD hS _ (lv_sub hl [1, 0] rfl) hE
    · have hE := hE.2 cc20
      refine lv_iconst (v := 0) hx hb d_M_isLinked_23 (by decide) ?_
      exact W.zret (v := 0) hx hb hr rfl (fun t ht hW => ⟨⟨_, σ13, rfl, hE, by rw [ht]; exact hP, va_K.moved hW.alike hK, hD⟩, hS.F ht⟩) hS.2.2 d_M_isLinked_24
  unfold w_M_isLinked at hE
  refine lv_aload_n hx hb d_M_isLinked_0 rfl (lv_at hl 0 rfl) ?_
  refine lv_aload_n hx hb d_M_isLinked_1 rfl (lv_at hl 0 rfl) ?_
  refine va_get (D := (mG md)) (ci := 7) (v := .int (mp_known σ)) (C := R_M) (T := F_M) (N := 37) hx hb hta i_M hown hK hP 0 rfl rfl 11 (by decide) (hta _ fl_M_214) (fun _ h9 => h9) rfl d_M_isLinked_2 ?_
  refine lv_if_eq (tgt := 12) hx hb d_M_isLinked_5 (by decide) (fun cc5 => ?_) (fun cc5 => ?_)
  · have hE := hE.1 cc5
    refine lv_iconst (v := 1) hx hb d_M_isLinked_12 (by decide) ?_
    exact J13  1 σ _ _ hP hD hS _ (lv_sub hl [0] rfl) hE
  · have hE := hE.2 cc5
    refine lv_iconst (v := 0) hx hb d_M_isLinked_8 (by decide) ?_
    refine lv_goto (tgt := 13) hx hb d_M_isLinked_9 (by decide) ?_
    exact J13  0 σ _ _ hP hD hS _ (lv_sub hl [0] rfl) hE

theorem d_M_fault_0 : decode b_M_fault 0 = .ok (.aload_n 0, 1) := by decide +kernel
theorem d_M_fault_1 : decode b_M_fault 1 = .ok (.iconst 0, 1) := by decide +kernel
theorem d_M_fault_2 : decode b_M_fault 2 = .ok (.putfield 70, 3) := by decide +kernel
theorem d_M_fault_5 : decode b_M_fault 5 = .ok (.iload_n 1, 1) := by decide +kernel
theorem d_M_fault_6 : decode b_M_fault 6 = .ok (.ifCond .ne 10, 3) := by decide +kernel
theorem d_M_fault_9 : decode b_M_fault 9 = .ok (.aload_n 0, 1) := by decide +kernel
theorem d_M_fault_10 : decode b_M_fault 10 = .ok (.getfield 208, 3) := by decide +kernel
theorem d_M_fault_13 : decode b_M_fault 13 = .ok (.goto 16, 3) := by decide +kernel
theorem d_M_fault_16 : decode b_M_fault 16 = .ok (.iload_n 1, 1) := by decide +kernel
theorem d_M_fault_17 : decode b_M_fault 17 = .ok (.iconst 1, 1) := by decide +kernel
theorem d_M_fault_18 : decode b_M_fault 18 = .ok (.if_icmp .ne 10, 3) := by decide +kernel
theorem d_M_fault_21 : decode b_M_fault 21 = .ok (.aload_n 0, 1) := by decide +kernel
theorem d_M_fault_22 : decode b_M_fault 22 = .ok (.getfield 25, 3) := by decide +kernel
theorem d_M_fault_25 : decode b_M_fault 25 = .ok (.goto 4, 3) := by decide +kernel
theorem d_M_fault_28 : decode b_M_fault 28 = .ok (.iconst (-1), 1) := by decide +kernel
theorem d_M_fault_29 : decode b_M_fault 29 = .ok (.ireturn, 1) := by decide +kernel
def w_M_fault  (σ : MPS) (x0 : Int32) (post : Int32 → MPS → Prop) : Prop := (∀ σ2 : MPS, σ2 = ms_thrown σ 0 → ((x0 = 0 → post (mp_fault σ2) σ2) ∧ (¬ x0 = 0 → ((x0 = 1 → post (mp_faultAt σ2) σ2) ∧ (¬ x0 = 1 → post (-1) σ2)))))
set_option maxHeartbeats 4000000 in
set_option maxRecDepth 100000 in
theorem c_M_fault (l : Launch) (md : MD) (sz : Nat) (σ : MPS) (x0 : Int32)  (post : Int32 → MPS → Prop) (hE : w_M_fault σ x0 post) : Met l y_M_fault ws_M_fault { frames := 0, cells := 0, slots := 0, locals := 0 } (va_Pc [.ref (mA md 0), .int x0] (gM md σ sz)) (va_Qi post (eM md (va_A (MW md σ) sz)) (va_A (MW md σ) sz)) 0 0 (va_A (MW md σ) sz) := by
  refine Met.ofW (cc := b_M_fault) (maxL := 2) (ret := (some .int)) (by decide) rfl ?_
  intro p e s m args below meth c s₁ B hml hv
  obtain ⟨rfl, hsz, hP, hK, hD0⟩ := hv
  have hx := B.exec
  have hb := B.bytes
  have hr := B.returns
  have hta : ∀ w ∈ aW, w.before _ s = true := fun w h => atoms_spec (ws := ws_M_fault) B.pre w (List.mem_cons_of_mem _ h)
  have hown : s.vm.findClass R_M = some m.cls := findClass_of_methodNamed B.named
  have hlocks := B.notSynchronized
  subst hsz
  have hD := hD0.self (sz := s.heap.size)
  generalize hAe : va_A (MW md σ) s.heap.size = A at hD ⊢
  have hA : ∀ q : Nat, s.heap.size ≤ q → A q := fun q h => by rw [← hAe]; exact Or.inr h
  have hS : va_S A s.heap s.heap [] := va_S.rf
  have hP : va_P (mG md) classes (MW md σ) s.heap := hP
  have hl := lv_entry ([.ref (mA md 0), .int x0]) (n := 2) (Nat.le_of_ble_eq_true rfl)
  rw [lg_entry_eq]
  generalize (lg_sl ([.ref (mA md 0), .int x0]) ++ List.replicate (2 - (lg_sl ([.ref (mA md 0), .int x0])).length) Slot.unset).toArray = ls at hl ⊢
  have hl : lv_has ls 2 [(0, .ref (mA md 0)), (1, .int x0)] := hl
  unfold w_M_fault at hE
  refine lv_aload_n hx hb d_M_fault_0 rfl (lv_at hl 0 rfl) ?_
  refine lv_iconst (v := 0) hx hb d_M_fault_1 (by decide) ?_
  refine va_put (D := (mG md)) (ci := 7) (v := .int 0) (ty := .int) (C := R_M) (T := F_M) (N := 37) hx hb hta i_M t_M t_M_ok n_M hown hK hP hD hS 0 rfl rfl 0 (by decide) (hta _ fl_M_70) (fun _ h9 => h9) rfl (by decide +kernel) rfl rfl (Nat.le_of_ble_eq_true rfl) d_M_fault_2 (fun H locs hP hD hS => ?_)
  have hP := mwP_thrown hP
  have hD := mwD_thrown hD
  have hE := hE _ rfl
  generalize (ms_thrown σ 0 : MPS) = σ2 at hP hD hE
  refine lv_iload_n hx hb d_M_fault_5 rfl (lv_at hl 1 rfl) ?_
  refine lv_if_ne (tgt := 16) hx hb d_M_fault_6 (by decide) (fun cc6 => ?_) (fun cc6 => ?_)
  · have hE := hE.2 cc6
    refine lv_iload_n hx hb d_M_fault_16 rfl (lv_at hl 1 rfl) ?_
    refine lv_iconst (v := 1) hx hb d_M_fault_17 (by decide) ?_
    refine lv_icmp_ne (tgt := 28) hx hb d_M_fault_18 (by decide) (fun cc18 => ?_) (fun cc18 => ?_)
    · have hE := hE.2 cc18
      refine lv_iconst (v := -1) hx hb d_M_fault_28 (by decide) ?_
      exact W.iret (v := (-1)) hx hb hr (fun t ht hW => ⟨⟨_, σ2, rfl, hE, by rw [ht]; exact hP, va_K.moved hW.alike hK, hD⟩, hS.F ht⟩) hS.2.2 d_M_fault_29
    · have hE := hE.1 cc18
      refine lv_aload_n hx hb d_M_fault_21 rfl (lv_at hl 0 rfl) ?_
      refine va_get (D := (mG md)) (ci := 7) (v := .int (mp_faultAt σ2)) (C := R_M) (T := F_M) (N := 37) hx hb hta i_M hown hK hP 0 rfl rfl 10 (by decide) (hta _ fl_M_25) (fun _ h9 => h9) rfl d_M_fault_22 ?_
      refine lv_goto (tgt := 29) hx hb d_M_fault_25 (by decide) ?_
      exact W.iret (v := mp_faultAt σ2) hx hb hr (fun t ht hW => ⟨⟨_, σ2, rfl, hE, by rw [ht]; exact hP, va_K.moved hW.alike hK, hD⟩, hS.F ht⟩) hS.2.2 d_M_fault_29
  · have hE := hE.1 cc6
    refine lv_aload_n hx hb d_M_fault_9 rfl (lv_at hl 0 rfl) ?_
    refine va_get (D := (mG md)) (ci := 7) (v := .int (mp_fault σ2)) (C := R_M) (T := F_M) (N := 37) hx hb hta i_M hown hK hP 0 rfl rfl 9 (by decide) (hta _ fl_M_208) (fun _ h9 => h9) rfl d_M_fault_10 ?_
    refine lv_goto (tgt := 29) hx hb d_M_fault_13 (by decide) ?_
    exact W.iret (v := mp_fault σ2) hx hb hr (fun t ht hW => ⟨⟨_, σ2, rfl, hE, by rw [ht]; exact hP, va_K.moved hW.alike hK, hD⟩, hS.F ht⟩) hS.2.2 d_M_fault_29

theorem d_M_characters_0 : decode b_M_characters 0 = .ok (.iconst 0, 1) := by decide +kernel
theorem d_M_characters_1 : decode b_M_characters 1 = .ok (.istore_n 3, 1) := by decide +kernel
theorem d_M_characters_2 : decode b_M_characters 2 = .ok (.iload_n 1, 1) := by decide +kernel
theorem d_M_characters_3 : decode b_M_characters 3 = .ok (.istore 4, 2) := by decide +kernel
theorem d_M_characters_5 : decode b_M_characters 5 = .ok (.iload 4, 2) := by decide +kernel
theorem d_M_characters_7 : decode b_M_characters 7 = .ok (.iload_n 2, 1) := by decide +kernel
theorem d_M_characters_8 : decode b_M_characters 8 = .ok (.if_icmp .ge 26, 3) := by decide +kernel
theorem d_M_characters_11 : decode b_M_characters 11 = .ok (.aload_n 0, 1) := by decide +kernel
theorem d_M_characters_12 : decode b_M_characters 12 = .ok (.iload 4, 2) := by decide +kernel
theorem d_M_characters_14 : decode b_M_characters 14 = .ok (.invokevirtual 139, 3) := by decide +kernel
theorem d_M_characters_17 : decode b_M_characters 17 = .ok (.istore 5, 2) := by decide +kernel
theorem d_M_characters_19 : decode b_M_characters 19 = .ok (.iinc 3 1, 3) := by decide +kernel
theorem d_M_characters_22 : decode b_M_characters 22 = .ok (.iload 4, 2) := by decide +kernel
theorem d_M_characters_24 : decode b_M_characters 24 = .ok (.aload_n 0, 1) := by decide +kernel
theorem d_M_characters_25 : decode b_M_characters 25 = .ok (.getfield 76, 3) := by decide +kernel
theorem d_M_characters_28 : decode b_M_characters 28 = .ok (.iadd, 1) := by decide +kernel
theorem d_M_characters_29 : decode b_M_characters 29 = .ok (.istore 4, 2) := by decide +kernel
theorem d_M_characters_31 : decode b_M_characters 31 = .ok (.goto (-26), 3) := by decide +kernel
theorem d_M_characters_34 : decode b_M_characters 34 = .ok (.iload_n 3, 1) := by decide +kernel
theorem d_M_characters_35 : decode b_M_characters 35 = .ok (.ireturn, 1) := by decide +kernel
def w_M_characters_L5  (v2 : Int32) (post : Int32 → MPS → Prop) : Nat → Int32 → Int32 → MPS → Prop
  | 0, _, _, _ => False
  | n5 + 1, v3, v4, σ => ((v2 ≤ v4 → post v3 σ) ∧ (¬ v2 ≤ v4 → w_M_characterOf σ v4 (fun r14 σ14 => w_M_characters_L5 v2 post n5 (v3 + 1) (v4 + (mp_width σ14)) σ14)))
def w_M_characters  (σ : MPS) (x0 : Int32) (x1 : Int32) (post : Int32 → MPS → Prop) : Prop := (∃ n5, w_M_characters_L5 x1 post n5 0 x0 σ)
set_option maxHeartbeats 4000000 in
set_option maxRecDepth 100000 in
theorem c_M_characters (l : Launch) (md : MD) (sz : Nat) (σ : MPS) (x0 : Int32) (x1 : Int32)  (post : Int32 → MPS → Prop) (hE : w_M_characters σ x0 x1 post) : Met l y_M_characters ws_M_characters { frames := 3, cells := 0, slots := 0, locals := 73 } (va_Pc [.ref (mA md 0), .int x0, .int x1] (gM md σ sz)) (va_Qi post (eM md (va_A (MW md σ) sz)) (va_A (MW md σ) sz)) 0 0 (va_A (MW md σ) sz) := by
  refine Met.ofW (cc := b_M_characters) (maxL := 6) (ret := (some .int)) (by decide) rfl ?_
  intro p e s m args below meth c s₁ B hml hv
  obtain ⟨rfl, hsz, hP, hK, hD0⟩ := hv
  have hx := B.exec
  have hb := B.bytes
  have hr := B.returns
  have hta : ∀ w ∈ aW, w.before _ s = true := fun w h => atoms_spec (ws := ws_M_characters) B.pre w (List.mem_cons_of_mem _ h)
  have hown : s.vm.findClass R_M = some m.cls := findClass_of_methodNamed B.named
  have hlocks := B.notSynchronized
  subst hsz
  have hD := hD0.self (sz := s.heap.size)
  generalize hAe : va_A (MW md σ) s.heap.size = A at hD ⊢
  have hA : ∀ q : Nat, s.heap.size ≤ q → A q := fun q h => by rw [← hAe]; exact Or.inr h
  have hS : va_S A s.heap s.heap [] := va_S.rf
  have hP : va_P (mG md) classes (MW md σ) s.heap := hP
  have hl := lv_entry ([.ref (mA md 0), .int x0, .int x1]) (n := 6) (Nat.le_of_ble_eq_true rfl)
  rw [lg_entry_eq]
  generalize (lg_sl ([.ref (mA md 0), .int x0, .int x1]) ++ List.replicate (6 - (lg_sl ([.ref (mA md 0), .int x0, .int x1])).length) Slot.unset).toArray = ls at hl ⊢
  have hl : lv_has ls 6 [(0, .ref (mA md 0)), (1, .int x0), (2, .int x1)] := hl
  have L5 : ∀ (v2 : Int32) (n5 : Nat) (v3 : Int32) (v4 : Int32) (σ : MPS) (H : Heap) (locs : List Loc) (hP : va_P (mG md) classes (MW md σ) H) (hD : va_D A (MW md σ)) (hS : va_S A s.heap H locs) (ls : Array Slot) (hl : lv_has ls 6 [(0, .ref (mA md 0)), (2, .int v2), (3, .int v3), (4, .int v4)]) (hE : w_M_characters_L5 v2 post n5 v3 v4 σ), W p l e (headSpec ws_M_characters { frames := 3, cells := 0, slots := 0, locals := 73 }).room s m ([.ref (mA md 0), .int x0, .int x1] : List Value).toArray below meth c H locs 0 0 (MQ below (va_Qi post (eM md A) A) ([.ref (mA md 0), .int x0, .int x1] : List Value).toArray s 0 0 A) (F0 m 5 ls []) := by
    intro v2 n5
    induction n5 with
    | zero => intro v3 v4 σ H locs hP hD hS ls hl hE; exact hE.elim
    | succ n5 ih5 =>
      intro v3 v4 σ H locs hP hD hS ls hl hE
      unfold w_M_characters_L5 at hE
      refine lv_iload hx hb d_M_characters_5 (lv_at hl 3 rfl) ?_
      refine lv_iload_n hx hb d_M_characters_7 rfl (lv_at hl 1 rfl) ?_
      refine lv_icmp_ge (tgt := 34) hx hb d_M_characters_8 (by decide) (fun cc8 => ?_) (fun cc8 => ?_)
      · have hE := hE.1 cc8
        refine lv_iload_n hx hb d_M_characters_34 rfl (lv_at hl 2 rfl) ?_
        exact W.iret (v := v3) hx hb hr (fun t ht hW => ⟨⟨_, σ, rfl, hE, by rw [ht]; exact hP, va_K.moved hW.alike hK, hD⟩, hS.F ht⟩) hS.2.2 d_M_characters_35
      · have hE := hE.2 cc8
        refine lv_aload_n hx hb d_M_characters_11 rfl (lv_at hl 0 rfl) ?_
        refine lv_iload hx hb d_M_characters_12 (lv_at hl 3 rfl) ?_
        refine mm_i (b0 := (mA md 0)) (As := [.int v4]) (rest := []) ⟨hx, hb, hml, hown, hta⟩ (c_M_characterOf l md _ σ v4 _ hE) ok_M_139 ⟨Nat.le_of_ble_eq_true rfl, Nat.le_of_ble_eq_true rfl⟩ (va_recv hK hP (ci := 7) (q0 := 0) rfl rfl) hP hK hD hS hA rfl hl.1 rfl (Nat.le_of_ble_eq_true rfl) d_M_characters_14 ⟨Nat.zero_le _, Nat.zero_le _⟩ (fun r14 σ14 H locs hE hP hD hS => ?_)
        refine lv_istore (lv' := [(5, .int r14), (0, .ref (mA md 0)), (2, .int v2), (3, .int v3), (4, .int v4)]) hx hb d_M_characters_17 hl (by decide) rfl (fun ls hl => ?_)
        refine lv_iinc (v := v3 + 1) (lv' := [(3, .int (v3 + 1)), (5, .int r14), (0, .ref (mA md 0)), (2, .int v2), (4, .int v4)]) hx hb d_M_characters_19 hl (k := 3) rfl rfl (by decide) rfl (fun ls hl => ?_)
        refine lv_iload hx hb d_M_characters_22 (lv_at hl 4 rfl) ?_
        refine lv_aload_n hx hb d_M_characters_24 rfl (lv_at hl 2 rfl) ?_
        refine va_get (D := (mG md)) (ci := 7) (v := .int (mp_width σ14)) (C := R_M) (T := F_M) (N := 37) hx hb hta i_M hown hK hP 0 rfl rfl 12 (by decide) (hta _ fl_M_76) (fun _ h9 => h9) rfl d_M_characters_25 ?_
        refine lv_iadd hx hb d_M_characters_28 ?_
        refine lv_istore (lv' := [(4, .int (v4 + (mp_width σ14))), (3, .int (v3 + 1)), (5, .int r14), (0, .ref (mA md 0)), (2, .int v2)]) hx hb d_M_characters_29 hl (by decide) rfl (fun ls hl => ?_)
        refine lv_goto (tgt := 5) hx hb d_M_characters_31 (by decide) ?_
        exact ih5 (v3 + 1) (v4 + (mp_width σ14)) σ14 _ _ hP hD hS _ (lv_sub hl [3, 4, 1, 0] rfl) hE
  unfold w_M_characters at hE
  refine lv_iconst (v := 0) hx hb d_M_characters_0 (by decide) ?_
  refine lv_istore_n (lv' := [(3, .int 0), (0, .ref (mA md 0)), (1, .int x0), (2, .int x1)]) hx hb d_M_characters_1 rfl hl (by decide) rfl (fun ls hl => ?_)
  refine lv_iload_n hx hb d_M_characters_2 rfl (lv_at hl 2 rfl) ?_
  refine lv_istore (lv' := [(4, .int x0), (3, .int 0), (0, .ref (mA md 0)), (1, .int x0), (2, .int x1)]) hx hb d_M_characters_3 hl (by decide) rfl (fun ls hl => ?_)
  obtain ⟨n5, hE⟩ := hE
  exact L5 x1 n5 0 x0 σ _ _ hP hD hS _ (lv_sub hl [2, 4, 1, 0] rfl) hE
theorem ok_M_323 : okV "PlainPagesModel" 323 R_M y_M_isNode b_M_isNode 2 (some .boolean) 1 := ⟨aW_in 1243 (by decide +kernel) rfl, aW_in 1245 (by decide +kernel) rfl, aW_in 71 (by decide +kernel) rfl, aW_in 92 (by decide +kernel) rfl, cd_M_isNode, rfl, by decide +kernel, by decide +kernel, by decide +kernel⟩
theorem ok_M_326 : okV "PlainPagesModel" 326 R_M y_M_characters b_M_characters 6 (some .int) 2 := ⟨aW_in 1247 (by decide +kernel) rfl, aW_in 1249 (by decide +kernel) rfl, aW_in 72 (by decide +kernel) rfl, aW_in 92 (by decide +kernel) rfl, cd_M_characters, rfl, by decide +kernel, by decide +kernel, by decide +kernel⟩
theorem d_M_node_0 : decode b_M_node 0 = .ok (.aload_n 0, 1) := by decide +kernel
theorem d_M_node_1 : decode b_M_node 1 = .ok (.iconst 0, 1) := by decide +kernel
theorem d_M_node_2 : decode b_M_node 2 = .ok (.putfield 70, 3) := by decide +kernel
theorem d_M_node_5 : decode b_M_node 5 = .ok (.aload_n 0, 1) := by decide +kernel
theorem d_M_node_6 : decode b_M_node 6 = .ok (.iload_n 1, 1) := by decide +kernel
theorem d_M_node_7 : decode b_M_node 7 = .ok (.invokevirtual 323, 3) := by decide +kernel
theorem d_M_node_10 : decode b_M_node 10 = .ok (.ifCond .ne 5, 3) := by decide +kernel
theorem d_M_node_13 : decode b_M_node 13 = .ok (.iconst (-1), 1) := by decide +kernel
theorem d_M_node_14 : decode b_M_node 14 = .ok (.ireturn, 1) := by decide +kernel
theorem d_M_node_15 : decode b_M_node 15 = .ok (.iload_n 2, 1) := by decide +kernel
theorem d_M_node_16 : decode b_M_node 16 = .ok (.tableswitch 151 0 7 #[48, 63, 70, 77, 111, 130, 137, 144], 48) := by decide +kernel
theorem d_M_node_64 : decode b_M_node 64 = .ok (.aload_n 0, 1) := by decide +kernel
theorem d_M_node_65 : decode b_M_node 65 = .ok (.getfield 36, 3) := by decide +kernel
theorem d_M_node_68 : decode b_M_node 68 = .ok (.iload_n 1, 1) := by decide +kernel
theorem d_M_node_69 : decode b_M_node 69 = .ok (.baload, 1) := by decide +kernel
theorem d_M_node_70 : decode b_M_node 70 = .ok (.ifCond .eq 7, 3) := by decide +kernel
theorem d_M_node_73 : decode b_M_node 73 = .ok (.iconst 1, 1) := by decide +kernel
theorem d_M_node_74 : decode b_M_node 74 = .ok (.goto 4, 3) := by decide +kernel
theorem d_M_node_77 : decode b_M_node 77 = .ok (.iconst 0, 1) := by decide +kernel
theorem d_M_node_78 : decode b_M_node 78 = .ok (.ireturn, 1) := by decide +kernel
theorem d_M_node_79 : decode b_M_node 79 = .ok (.aload_n 0, 1) := by decide +kernel
theorem d_M_node_80 : decode b_M_node 80 = .ok (.getfield 46, 3) := by decide +kernel
theorem d_M_node_83 : decode b_M_node 83 = .ok (.iload_n 1, 1) := by decide +kernel
theorem d_M_node_84 : decode b_M_node 84 = .ok (.iaload, 1) := by decide +kernel
theorem d_M_node_85 : decode b_M_node 85 = .ok (.ireturn, 1) := by decide +kernel
theorem d_M_node_86 : decode b_M_node 86 = .ok (.aload_n 0, 1) := by decide +kernel
theorem d_M_node_87 : decode b_M_node 87 = .ok (.getfield 40, 3) := by decide +kernel
theorem d_M_node_90 : decode b_M_node 90 = .ok (.iload_n 1, 1) := by decide +kernel
theorem d_M_node_91 : decode b_M_node 91 = .ok (.iaload, 1) := by decide +kernel
theorem d_M_node_92 : decode b_M_node 92 = .ok (.ireturn, 1) := by decide +kernel
theorem d_M_node_93 : decode b_M_node 93 = .ok (.aload_n 0, 1) := by decide +kernel
theorem d_M_node_94 : decode b_M_node 94 = .ok (.getfield 36, 3) := by decide +kernel
theorem d_M_node_97 : decode b_M_node 97 = .ok (.iload_n 1, 1) := by decide +kernel
theorem d_M_node_98 : decode b_M_node 98 = .ok (.baload, 1) := by decide +kernel
theorem d_M_node_99 : decode b_M_node 99 = .ok (.ifCond .eq 11, 3) := by decide +kernel
theorem d_M_node_102 : decode b_M_node 102 = .ok (.aload_n 0, 1) := by decide +kernel
theorem d_M_node_103 : decode b_M_node 103 = .ok (.iload_n 1, 1) := by decide +kernel
theorem d_M_node_104 : decode b_M_node 104 = .ok (.invokevirtual 221, 3) := by decide +kernel
theorem d_M_node_107 : decode b_M_node 107 = .ok (.goto 19, 3) := by decide +kernel
theorem d_M_node_110 : decode b_M_node 110 = .ok (.aload_n 0, 1) := by decide +kernel
theorem d_M_node_111 : decode b_M_node 111 = .ok (.aload_n 0, 1) := by decide +kernel
theorem d_M_node_112 : decode b_M_node 112 = .ok (.getfield 40, 3) := by decide +kernel
theorem d_M_node_115 : decode b_M_node 115 = .ok (.iload_n 1, 1) := by decide +kernel
theorem d_M_node_116 : decode b_M_node 116 = .ok (.iaload, 1) := by decide +kernel
theorem d_M_node_117 : decode b_M_node 117 = .ok (.aload_n 0, 1) := by decide +kernel
theorem d_M_node_118 : decode b_M_node 118 = .ok (.getfield 43, 3) := by decide +kernel
theorem d_M_node_121 : decode b_M_node 121 = .ok (.iload_n 1, 1) := by decide +kernel
theorem d_M_node_122 : decode b_M_node 122 = .ok (.iaload, 1) := by decide +kernel
theorem d_M_node_123 : decode b_M_node 123 = .ok (.invokevirtual 326, 3) := by decide +kernel
theorem d_M_node_126 : decode b_M_node 126 = .ok (.ireturn, 1) := by decide +kernel
theorem d_M_node_127 : decode b_M_node 127 = .ok (.aload_n 0, 1) := by decide +kernel
theorem d_M_node_128 : decode b_M_node 128 = .ok (.getfield 36, 3) := by decide +kernel
theorem d_M_node_131 : decode b_M_node 131 = .ok (.iload_n 1, 1) := by decide +kernel
theorem d_M_node_132 : decode b_M_node 132 = .ok (.baload, 1) := by decide +kernel
theorem d_M_node_133 : decode b_M_node 133 = .ok (.ifCond .eq 11, 3) := by decide +kernel
theorem d_M_node_136 : decode b_M_node 136 = .ok (.aload_n 0, 1) := by decide +kernel
theorem d_M_node_137 : decode b_M_node 137 = .ok (.iload_n 1, 1) := by decide +kernel
theorem d_M_node_138 : decode b_M_node 138 = .ok (.invokevirtual 299, 3) := by decide +kernel
theorem d_M_node_141 : decode b_M_node 141 = .ok (.goto 4, 3) := by decide +kernel
theorem d_M_node_144 : decode b_M_node 144 = .ok (.iconst 0, 1) := by decide +kernel
theorem d_M_node_145 : decode b_M_node 145 = .ok (.ireturn, 1) := by decide +kernel
theorem d_M_node_146 : decode b_M_node 146 = .ok (.aload_n 0, 1) := by decide +kernel
theorem d_M_node_147 : decode b_M_node 147 = .ok (.getfield 52, 3) := by decide +kernel
theorem d_M_node_150 : decode b_M_node 150 = .ok (.iload_n 1, 1) := by decide +kernel
theorem d_M_node_151 : decode b_M_node 151 = .ok (.iaload, 1) := by decide +kernel
theorem d_M_node_152 : decode b_M_node 152 = .ok (.ireturn, 1) := by decide +kernel
theorem d_M_node_153 : decode b_M_node 153 = .ok (.aload_n 0, 1) := by decide +kernel
theorem d_M_node_154 : decode b_M_node 154 = .ok (.getfield 49, 3) := by decide +kernel
theorem d_M_node_157 : decode b_M_node 157 = .ok (.iload_n 1, 1) := by decide +kernel
theorem d_M_node_158 : decode b_M_node 158 = .ok (.iaload, 1) := by decide +kernel
theorem d_M_node_159 : decode b_M_node 159 = .ok (.ireturn, 1) := by decide +kernel
theorem d_M_node_160 : decode b_M_node 160 = .ok (.aload_n 0, 1) := by decide +kernel
theorem d_M_node_161 : decode b_M_node 161 = .ok (.getfield 55, 3) := by decide +kernel
theorem d_M_node_164 : decode b_M_node 164 = .ok (.iload_n 1, 1) := by decide +kernel
theorem d_M_node_165 : decode b_M_node 165 = .ok (.iaload, 1) := by decide +kernel
theorem d_M_node_166 : decode b_M_node 166 = .ok (.ireturn, 1) := by decide +kernel
theorem d_M_node_167 : decode b_M_node 167 = .ok (.iconst (-1), 1) := by decide +kernel
theorem d_M_node_168 : decode b_M_node 168 = .ok (.ireturn, 1) := by decide +kernel
def w_M_node  (σ : MPS) (x0 : Int32) (x1 : Int32) (post : Int32 → MPS → Prop) : Prop := (∀ σ2 : MPS, σ2 = ms_thrown σ 0 → w_M_isNode σ2 x0 (fun r7 => ((r7 = 0 → post (-1) σ2) ∧ (¬ r7 = 0 → ((x1 = 0 → (vp_in x0 1000 ∧ ((((mp_isElement σ2) x0.toNatClampNeg) = 0 → post 0 σ2) ∧ (¬ ((mp_isElement σ2) x0.toNatClampNeg) = 0 → post 1 σ2)))) ∧ (¬ x1 = 0 → ((x1 = 1 → (vp_in x0 1000 ∧ post ((mp_up σ2) x0.toNatClampNeg) σ2)) ∧ (¬ x1 = 1 → ((x1 = 2 → (vp_in x0 1000 ∧ post ((mp_begins σ2) x0.toNatClampNeg) σ2)) ∧ (¬ x1 = 2 → ((x1 = 3 → (vp_in x0 1000 ∧ ((((mp_isElement σ2) x0.toNatClampNeg) = 0 → (vp_in x0 1000 ∧ (vp_in x0 1000 ∧ w_M_characters σ2 ((mp_begins σ2) x0.toNatClampNeg) ((mp_ends σ2) x0.toNatClampNeg) (fun r123 σ123 => post r123 σ123)))) ∧ (¬ ((mp_isElement σ2) x0.toNatClampNeg) = 0 → w_M_nameSize σ2 x0 (fun r104 => post r104 σ2))))) ∧ (¬ x1 = 3 → ((x1 = 4 → (vp_in x0 1000 ∧ ((((mp_isElement σ2) x0.toNatClampNeg) = 0 → post 0 σ2) ∧ (¬ ((mp_isElement σ2) x0.toNatClampNeg) = 0 → w_M_attributes σ2 x0 (fun r138 σ138 => post r138 σ138))))) ∧ (¬ x1 = 4 → ((x1 = 5 → (vp_in x0 1000 ∧ post ((mp_next σ2) x0.toNatClampNeg) σ2)) ∧ (¬ x1 = 5 → ((x1 = 6 → (vp_in x0 1000 ∧ post ((mp_first σ2) x0.toNatClampNeg) σ2)) ∧ (¬ x1 = 6 → ((x1 = 7 → (vp_in x0 1000 ∧ post ((mp_depth σ2) x0.toNatClampNeg) σ2)) ∧ (¬ x1 = 7 → post (-1) σ2))))))))))))))))))))
set_option maxHeartbeats 4000000 in
set_option maxRecDepth 100000 in
theorem c_M_node (l : Launch) (md : MD) (sz : Nat) (σ : MPS) (x0 : Int32) (x1 : Int32)  (post : Int32 → MPS → Prop) (hE : w_M_node σ x0 x1 post) : Met l y_M_node ws_M_node { frames := 4, cells := 0, slots := 0, locals := 98 } (va_Pc [.ref (mA md 0), .int x0, .int x1] (gM md σ sz)) (va_Qi post (eM md (va_A (MW md σ) sz)) (va_A (MW md σ) sz)) 0 0 (va_A (MW md σ) sz) := by
  refine Met.ofW (cc := b_M_node) (maxL := 3) (ret := (some .int)) (by decide) rfl ?_
  intro p e s m args below meth c s₁ B hml hv
  obtain ⟨rfl, hsz, hP, hK, hD0⟩ := hv
  have hx := B.exec
  have hb := B.bytes
  have hr := B.returns
  have hta : ∀ w ∈ aW, w.before _ s = true := fun w h => atoms_spec (ws := ws_M_node) B.pre w (List.mem_cons_of_mem _ h)
  have hown : s.vm.findClass R_M = some m.cls := findClass_of_methodNamed B.named
  have hlocks := B.notSynchronized
  subst hsz
  have hD := hD0.self (sz := s.heap.size)
  generalize hAe : va_A (MW md σ) s.heap.size = A at hD ⊢
  have hA : ∀ q : Nat, s.heap.size ≤ q → A q := fun q h => by rw [← hAe]; exact Or.inr h
  have hS : va_S A s.heap s.heap [] := va_S.rf
  have hP : va_P (mG md) classes (MW md σ) s.heap := hP
  have hl := lv_entry ([.ref (mA md 0), .int x0, .int x1]) (n := 3) (Nat.le_of_ble_eq_true rfl)
  rw [lg_entry_eq]
  generalize (lg_sl ([.ref (mA md 0), .int x0, .int x1]) ++ List.replicate (3 - (lg_sl ([.ref (mA md 0), .int x0, .int x1])).length) Slot.unset).toArray = ls at hl ⊢
  have hl : lv_has ls 3 [(0, .ref (mA md 0)), (1, .int x0), (2, .int x1)] := hl
  unfold w_M_node at hE
  refine lv_aload_n hx hb d_M_node_0 rfl (lv_at hl 0 rfl) ?_
  refine lv_iconst (v := 0) hx hb d_M_node_1 (by decide) ?_
  refine va_put (D := (mG md)) (ci := 7) (v := .int 0) (ty := .int) (C := R_M) (T := F_M) (N := 37) hx hb hta i_M t_M t_M_ok n_M hown hK hP hD hS 0 rfl rfl 0 (by decide) (hta _ fl_M_70) (fun _ h9 => h9) rfl (by decide +kernel) rfl rfl (Nat.le_of_ble_eq_true rfl) d_M_node_2 (fun H locs hP hD hS => ?_)
  have hP := mwP_thrown hP
  have hD := mwD_thrown hD
  have hE := hE _ rfl
  generalize (ms_thrown σ 0 : MPS) = σ2 at hP hD hE
  refine lv_aload_n hx hb d_M_node_5 rfl (lv_at hl 0 rfl) ?_
  refine lv_iload_n hx hb d_M_node_6 rfl (lv_at hl 1 rfl) ?_
  refine ro_V (b0 := (mA md 0)) (As := [.int x0]) (rest := []) ⟨hx, hb, hml, hown, hta⟩ (c_M_isNode l md σ2 x0  _ hE) ok_M_323 ⟨Nat.le_of_ble_eq_true rfl, Nat.le_of_ble_eq_true rfl⟩ blind_rM (va_recv hK hP (ci := 7) (q0 := 0) rfl rfl) (rM_of hP hK) rfl hl.1 rfl (Nat.le_of_ble_eq_true rfl) d_M_node_7 ⟨Nat.zero_le _, Nat.zero_le _⟩ (fun r7 hE => ?_)
  refine lv_if_ne (tgt := 15) hx hb d_M_node_10 (by decide) (fun cc10 => ?_) (fun cc10 => ?_)
  · have hE := hE.2 cc10
    refine lv_iload_n hx hb d_M_node_15 rfl (lv_at hl 2 rfl) ?_
    by_cases hs16_0 : x1 = 0
    · have hE := hE.1 hs16_0
      refine lv_tableIn (off := 48) (tgt := 64) hx hb d_M_node_16 (by rw [hs16_0]; decide) (by rw [hs16_0]; decide) (by rw [hs16_0]; decide) (by decide) ?_
      refine lv_aload_n hx hb d_M_node_64 rfl (lv_at hl 0 rfl) ?_
      refine va_get (D := (mG md)) (ci := 7) (v := .ref (mA md 8)) (C := R_M) (T := F_M) (N := 37) hx hb hta i_M hown hK hP 0 rfl rfl 23 (by decide) (hta _ fl_M_36) (fun _ h9 => h9) rfl d_M_node_65 ?_
      refine lv_iload_n hx hb d_M_node_68 rfl (lv_at hl 1 rfl) ?_
      obtain ⟨hI69, hE⟩ := hE
      refine va_zald (D := (mG md)) (f := mp_isElement σ2) hx hb hK hP 8 2 rfl rfl hI69 d_M_node_69 ?_
      refine lv_if_eq (tgt := 77) hx hb d_M_node_70 (by decide) (fun cc70 => ?_) (fun cc70 => ?_)
      · have hE := hE.1 cc70
        refine lv_iconst (v := 0) hx hb d_M_node_77 (by decide) ?_
        exact W.iret (v := 0) hx hb hr (fun t ht hW => ⟨⟨_, σ2, rfl, hE, by rw [ht]; exact hP, va_K.moved hW.alike hK, hD⟩, hS.F ht⟩) hS.2.2 d_M_node_78
      · have hE := hE.2 cc70
        refine lv_iconst (v := 1) hx hb d_M_node_73 (by decide) ?_
        refine lv_goto (tgt := 78) hx hb d_M_node_74 (by decide) ?_
        exact W.iret (v := 1) hx hb hr (fun t ht hW => ⟨⟨_, σ2, rfl, hE, by rw [ht]; exact hP, va_K.moved hW.alike hK, hD⟩, hS.F ht⟩) hS.2.2 d_M_node_78
    · have hE := hE.2 hs16_0
      by_cases hs16_1 : x1 = 1
      · have hE := hE.1 hs16_1
        refine lv_tableIn (off := 63) (tgt := 79) hx hb d_M_node_16 (by rw [hs16_1]; decide) (by rw [hs16_1]; decide) (by rw [hs16_1]; decide) (by decide) ?_
        refine lv_aload_n hx hb d_M_node_79 rfl (lv_at hl 0 rfl) ?_
        refine va_get (D := (mG md)) (ci := 7) (v := .ref (mA md 11)) (C := R_M) (T := F_M) (N := 37) hx hb hta i_M hown hK hP 0 rfl rfl 26 (by decide) (hta _ fl_M_46) (fun _ h9 => h9) rfl d_M_node_80 ?_
        refine lv_iload_n hx hb d_M_node_83 rfl (lv_at hl 1 rfl) ?_
        obtain ⟨hI84, hE⟩ := hE
        refine va_iald (D := (mG md)) (f := mp_up σ2) hx hb hK hP 11 0 rfl rfl hI84 d_M_node_84 ?_
        exact W.iret (v := (mp_up σ2) x0.toNatClampNeg) hx hb hr (fun t ht hW => ⟨⟨_, σ2, rfl, hE, by rw [ht]; exact hP, va_K.moved hW.alike hK, hD⟩, hS.F ht⟩) hS.2.2 d_M_node_85
      · have hE := hE.2 hs16_1
        by_cases hs16_2 : x1 = 2
        · have hE := hE.1 hs16_2
          refine lv_tableIn (off := 70) (tgt := 86) hx hb d_M_node_16 (by rw [hs16_2]; decide) (by rw [hs16_2]; decide) (by rw [hs16_2]; decide) (by decide) ?_
          refine lv_aload_n hx hb d_M_node_86 rfl (lv_at hl 0 rfl) ?_
          refine va_get (D := (mG md)) (ci := 7) (v := .ref (mA md 9)) (C := R_M) (T := F_M) (N := 37) hx hb hta i_M hown hK hP 0 rfl rfl 24 (by decide) (hta _ fl_M_40) (fun _ h9 => h9) rfl d_M_node_87 ?_
          refine lv_iload_n hx hb d_M_node_90 rfl (lv_at hl 1 rfl) ?_
          obtain ⟨hI91, hE⟩ := hE
          refine va_iald (D := (mG md)) (f := mp_begins σ2) hx hb hK hP 9 0 rfl rfl hI91 d_M_node_91 ?_
          exact W.iret (v := (mp_begins σ2) x0.toNatClampNeg) hx hb hr (fun t ht hW => ⟨⟨_, σ2, rfl, hE, by rw [ht]; exact hP, va_K.moved hW.alike hK, hD⟩, hS.F ht⟩) hS.2.2 d_M_node_92
        · have hE := hE.2 hs16_2
          by_cases hs16_3 : x1 = 3
          · have hE := hE.1 hs16_3
            refine lv_tableIn (off := 77) (tgt := 93) hx hb d_M_node_16 (by rw [hs16_3]; decide) (by rw [hs16_3]; decide) (by rw [hs16_3]; decide) (by decide) ?_
            refine lv_aload_n hx hb d_M_node_93 rfl (lv_at hl 0 rfl) ?_
            refine va_get (D := (mG md)) (ci := 7) (v := .ref (mA md 8)) (C := R_M) (T := F_M) (N := 37) hx hb hta i_M hown hK hP 0 rfl rfl 23 (by decide) (hta _ fl_M_36) (fun _ h9 => h9) rfl d_M_node_94 ?_
            refine lv_iload_n hx hb d_M_node_97 rfl (lv_at hl 1 rfl) ?_
            obtain ⟨hI98, hE⟩ := hE
            refine va_zald (D := (mG md)) (f := mp_isElement σ2) hx hb hK hP 8 2 rfl rfl hI98 d_M_node_98 ?_
            refine lv_if_eq (tgt := 110) hx hb d_M_node_99 (by decide) (fun cc99 => ?_) (fun cc99 => ?_)
            · have hE := hE.1 cc99
              refine lv_aload_n hx hb d_M_node_110 rfl (lv_at hl 0 rfl) ?_
              refine lv_aload_n hx hb d_M_node_111 rfl (lv_at hl 0 rfl) ?_
              refine va_get (D := (mG md)) (ci := 7) (v := .ref (mA md 9)) (C := R_M) (T := F_M) (N := 37) hx hb hta i_M hown hK hP 0 rfl rfl 24 (by decide) (hta _ fl_M_40) (fun _ h9 => h9) rfl d_M_node_112 ?_
              refine lv_iload_n hx hb d_M_node_115 rfl (lv_at hl 1 rfl) ?_
              obtain ⟨hI116, hE⟩ := hE
              refine va_iald (D := (mG md)) (f := mp_begins σ2) hx hb hK hP 9 0 rfl rfl hI116 d_M_node_116 ?_
              refine lv_aload_n hx hb d_M_node_117 rfl (lv_at hl 0 rfl) ?_
              refine va_get (D := (mG md)) (ci := 7) (v := .ref (mA md 10)) (C := R_M) (T := F_M) (N := 37) hx hb hta i_M hown hK hP 0 rfl rfl 25 (by decide) (hta _ fl_M_43) (fun _ h9 => h9) rfl d_M_node_118 ?_
              refine lv_iload_n hx hb d_M_node_121 rfl (lv_at hl 1 rfl) ?_
              obtain ⟨hI122, hE⟩ := hE
              refine va_iald (D := (mG md)) (f := mp_ends σ2) hx hb hK hP 10 0 rfl rfl hI122 d_M_node_122 ?_
              refine mm_i (b0 := (mA md 0)) (As := [.int ((mp_begins σ2) x0.toNatClampNeg), .int ((mp_ends σ2) x0.toNatClampNeg)]) (rest := []) ⟨hx, hb, hml, hown, hta⟩ (c_M_characters l md _ σ2 ((mp_begins σ2) x0.toNatClampNeg) ((mp_ends σ2) x0.toNatClampNeg) _ hE) ok_M_326 ⟨Nat.le_of_ble_eq_true rfl, Nat.le_of_ble_eq_true rfl⟩ (va_recv hK hP (ci := 7) (q0 := 0) rfl rfl) hP hK hD hS hA rfl hl.1 rfl (Nat.le_of_ble_eq_true rfl) d_M_node_123 ⟨Nat.zero_le _, Nat.zero_le _⟩ (fun r123 σ123 H locs hE hP hD hS => ?_)
              exact W.iret (v := r123) hx hb hr (fun t ht hW => ⟨⟨_, σ123, rfl, hE, by rw [ht]; exact hP, va_K.moved hW.alike hK, hD⟩, hS.F ht⟩) hS.2.2 d_M_node_126
            · have hE := hE.2 cc99
              refine lv_aload_n hx hb d_M_node_102 rfl (lv_at hl 0 rfl) ?_
              refine lv_iload_n hx hb d_M_node_103 rfl (lv_at hl 1 rfl) ?_
              refine ro_V (b0 := (mA md 0)) (As := [.int x0]) (rest := []) ⟨hx, hb, hml, hown, hta⟩ (c_M_nameSize l md σ2 x0  _ hE) ok_M_221 ⟨Nat.le_of_ble_eq_true rfl, Nat.le_of_ble_eq_true rfl⟩ blind_rM (va_recv hK hP (ci := 7) (q0 := 0) rfl rfl) (rM_of hP hK) rfl hl.1 rfl (Nat.le_of_ble_eq_true rfl) d_M_node_104 ⟨Nat.zero_le _, Nat.zero_le _⟩ (fun r104 hE => ?_)
              refine lv_goto (tgt := 126) hx hb d_M_node_107 (by decide) ?_
              exact W.iret (v := r104) hx hb hr (fun t ht hW => ⟨⟨_, σ2, rfl, hE, by rw [ht]; exact hP, va_K.moved hW.alike hK, hD⟩, hS.F ht⟩) hS.2.2 d_M_node_126
          · have hE := hE.2 hs16_3
            by_cases hs16_4 : x1 = 4
            · have hE := hE.1 hs16_4
              refine lv_tableIn (off := 111) (tgt := 127) hx hb d_M_node_16 (by rw [hs16_4]; decide) (by rw [hs16_4]; decide) (by rw [hs16_4]; decide) (by decide) ?_
              refine lv_aload_n hx hb d_M_node_127 rfl (lv_at hl 0 rfl) ?_
              refine va_get (D := (mG md)) (ci := 7) (v := .ref (mA md 8)) (C := R_M) (T := F_M) (N := 37) hx hb hta i_M hown hK hP 0 rfl rfl 23 (by decide) (hta _ fl_M_36) (fun _ h9 => h9) rfl d_M_node_128 ?_
              refine lv_iload_n hx hb d_M_node_131 rfl (lv_at hl 1 rfl) ?_
              obtain ⟨hI132, hE⟩ := hE
              refine va_zald (D := (mG md)) (f := mp_isElement σ2) hx hb hK hP 8 2 rfl rfl hI132 d_M_node_132 ?_
              refine lv_if_eq (tgt := 144) hx hb d_M_node_133 (by decide) (fun cc133 => ?_) (fun cc133 => ?_)
              · have hE := hE.1 cc133
                refine lv_iconst (v := 0) hx hb d_M_node_144 (by decide) ?_
                exact W.iret (v := 0) hx hb hr (fun t ht hW => ⟨⟨_, σ2, rfl, hE, by rw [ht]; exact hP, va_K.moved hW.alike hK, hD⟩, hS.F ht⟩) hS.2.2 d_M_node_145
              · have hE := hE.2 cc133
                refine lv_aload_n hx hb d_M_node_136 rfl (lv_at hl 0 rfl) ?_
                refine lv_iload_n hx hb d_M_node_137 rfl (lv_at hl 1 rfl) ?_
                refine mm_i (b0 := (mA md 0)) (As := [.int x0]) (rest := []) ⟨hx, hb, hml, hown, hta⟩ (c_M_attributes l md _ σ2 x0 _ hE) ok_M_299 ⟨Nat.le_of_ble_eq_true rfl, Nat.le_of_ble_eq_true rfl⟩ (va_recv hK hP (ci := 7) (q0 := 0) rfl rfl) hP hK hD hS hA rfl hl.1 rfl (Nat.le_of_ble_eq_true rfl) d_M_node_138 ⟨Nat.zero_le _, Nat.zero_le _⟩ (fun r138 σ138 H locs hE hP hD hS => ?_)
                refine lv_goto (tgt := 145) hx hb d_M_node_141 (by decide) ?_
                exact W.iret (v := r138) hx hb hr (fun t ht hW => ⟨⟨_, σ138, rfl, hE, by rw [ht]; exact hP, va_K.moved hW.alike hK, hD⟩, hS.F ht⟩) hS.2.2 d_M_node_145
            · have hE := hE.2 hs16_4
              by_cases hs16_5 : x1 = 5
              · have hE := hE.1 hs16_5
                refine lv_tableIn (off := 130) (tgt := 146) hx hb d_M_node_16 (by rw [hs16_5]; decide) (by rw [hs16_5]; decide) (by rw [hs16_5]; decide) (by decide) ?_
                refine lv_aload_n hx hb d_M_node_146 rfl (lv_at hl 0 rfl) ?_
                refine va_get (D := (mG md)) (ci := 7) (v := .ref (mA md 13)) (C := R_M) (T := F_M) (N := 37) hx hb hta i_M hown hK hP 0 rfl rfl 28 (by decide) (hta _ fl_M_52) (fun _ h9 => h9) rfl d_M_node_147 ?_
                refine lv_iload_n hx hb d_M_node_150 rfl (lv_at hl 1 rfl) ?_
                obtain ⟨hI151, hE⟩ := hE
                refine va_iald (D := (mG md)) (f := mp_next σ2) hx hb hK hP 13 0 rfl rfl hI151 d_M_node_151 ?_
                exact W.iret (v := (mp_next σ2) x0.toNatClampNeg) hx hb hr (fun t ht hW => ⟨⟨_, σ2, rfl, hE, by rw [ht]; exact hP, va_K.moved hW.alike hK, hD⟩, hS.F ht⟩) hS.2.2 d_M_node_152
              · have hE := hE.2 hs16_5
                by_cases hs16_6 : x1 = 6
                · have hE := hE.1 hs16_6
                  refine lv_tableIn (off := 137) (tgt := 153) hx hb d_M_node_16 (by rw [hs16_6]; decide) (by rw [hs16_6]; decide) (by rw [hs16_6]; decide) (by decide) ?_
                  refine lv_aload_n hx hb d_M_node_153 rfl (lv_at hl 0 rfl) ?_
                  refine va_get (D := (mG md)) (ci := 7) (v := .ref (mA md 12)) (C := R_M) (T := F_M) (N := 37) hx hb hta i_M hown hK hP 0 rfl rfl 27 (by decide) (hta _ fl_M_49) (fun _ h9 => h9) rfl d_M_node_154 ?_
                  refine lv_iload_n hx hb d_M_node_157 rfl (lv_at hl 1 rfl) ?_
                  obtain ⟨hI158, hE⟩ := hE
                  refine va_iald (D := (mG md)) (f := mp_first σ2) hx hb hK hP 12 0 rfl rfl hI158 d_M_node_158 ?_
                  exact W.iret (v := (mp_first σ2) x0.toNatClampNeg) hx hb hr (fun t ht hW => ⟨⟨_, σ2, rfl, hE, by rw [ht]; exact hP, va_K.moved hW.alike hK, hD⟩, hS.F ht⟩) hS.2.2 d_M_node_159
                · have hE := hE.2 hs16_6
                  by_cases hs16_7 : x1 = 7
                  · have hE := hE.1 hs16_7
                    refine lv_tableIn (off := 144) (tgt := 160) hx hb d_M_node_16 (by rw [hs16_7]; decide) (by rw [hs16_7]; decide) (by rw [hs16_7]; decide) (by decide) ?_
                    refine lv_aload_n hx hb d_M_node_160 rfl (lv_at hl 0 rfl) ?_
                    refine va_get (D := (mG md)) (ci := 7) (v := .ref (mA md 14)) (C := R_M) (T := F_M) (N := 37) hx hb hta i_M hown hK hP 0 rfl rfl 29 (by decide) (hta _ fl_M_55) (fun _ h9 => h9) rfl d_M_node_161 ?_
                    refine lv_iload_n hx hb d_M_node_164 rfl (lv_at hl 1 rfl) ?_
                    obtain ⟨hI165, hE⟩ := hE
                    refine va_iald (D := (mG md)) (f := mp_depth σ2) hx hb hK hP 14 0 rfl rfl hI165 d_M_node_165 ?_
                    exact W.iret (v := (mp_depth σ2) x0.toNatClampNeg) hx hb hr (fun t ht hW => ⟨⟨_, σ2, rfl, hE, by rw [ht]; exact hP, va_K.moved hW.alike hK, hD⟩, hS.F ht⟩) hS.2.2 d_M_node_166
                  · have hE := hE.2 hs16_7
                    refine lv_tableOut (tgt := 167) hx hb d_M_node_16 (by have hq := And.intro True.intro (And.intro True.intro True.intro); have q0 := lv_neT hs16_0 (a := 0) (by decide); have q1 := lv_neT hs16_1 (a := 1) (by decide); have q2 := lv_neT hs16_2 (a := 2) (by decide); have q3 := lv_neT hs16_3 (a := 3) (by decide); have q4 := lv_neT hs16_4 (a := 4) (by decide); have q5 := lv_neT hs16_5 (a := 5) (by decide); have q6 := lv_neT hs16_6 (a := 6) (by decide); have q7 := lv_neT hs16_7 (a := 7) (by decide); omega) (by decide) ?_
                    refine lv_iconst (v := -1) hx hb d_M_node_167 (by decide) ?_
                    exact W.iret (v := (-1)) hx hb hr (fun t ht hW => ⟨⟨_, σ2, rfl, hE, by rw [ht]; exact hP, va_K.moved hW.alike hK, hD⟩, hS.F ht⟩) hS.2.2 d_M_node_168
  · have hE := hE.1 cc10
    refine lv_iconst (v := -1) hx hb d_M_node_13 (by decide) ?_
    exact W.iret (v := (-1)) hx hb hr (fun t ht hW => ⟨⟨_, σ2, rfl, hE, by rw [ht]; exact hP, va_K.moved hW.alike hK, hD⟩, hS.F ht⟩) hS.2.2 d_M_node_14

theorem d_M_characterIn_0 : decode b_M_characterIn 0 = .ok (.iconst 0, 1) := by decide +kernel
theorem d_M_characterIn_1 : decode b_M_characterIn 1 = .ok (.istore 4, 2) := by decide +kernel
theorem d_M_characterIn_3 : decode b_M_characterIn 3 = .ok (.iload_n 1, 1) := by decide +kernel
theorem d_M_characterIn_4 : decode b_M_characterIn 4 = .ok (.istore 5, 2) := by decide +kernel
theorem d_M_characterIn_6 : decode b_M_characterIn 6 = .ok (.iload 5, 2) := by decide +kernel
theorem d_M_characterIn_8 : decode b_M_characterIn 8 = .ok (.iload_n 2, 1) := by decide +kernel
theorem d_M_characterIn_9 : decode b_M_characterIn 9 = .ok (.if_icmp .ge 35, 3) := by decide +kernel
theorem d_M_characterIn_12 : decode b_M_characterIn 12 = .ok (.aload_n 0, 1) := by decide +kernel
theorem d_M_characterIn_13 : decode b_M_characterIn 13 = .ok (.iload 5, 2) := by decide +kernel
theorem d_M_characterIn_15 : decode b_M_characterIn 15 = .ok (.invokevirtual 139, 3) := by decide +kernel
theorem d_M_characterIn_18 : decode b_M_characterIn 18 = .ok (.istore 6, 2) := by decide +kernel
theorem d_M_characterIn_20 : decode b_M_characterIn 20 = .ok (.iload 4, 2) := by decide +kernel
theorem d_M_characterIn_22 : decode b_M_characterIn 22 = .ok (.iload_n 3, 1) := by decide +kernel
theorem d_M_characterIn_23 : decode b_M_characterIn 23 = .ok (.if_icmp .ne 6, 3) := by decide +kernel
theorem d_M_characterIn_26 : decode b_M_characterIn 26 = .ok (.iload 6, 2) := by decide +kernel
theorem d_M_characterIn_28 : decode b_M_characterIn 28 = .ok (.ireturn, 1) := by decide +kernel
theorem d_M_characterIn_29 : decode b_M_characterIn 29 = .ok (.iinc 4 1, 3) := by decide +kernel
theorem d_M_characterIn_32 : decode b_M_characterIn 32 = .ok (.iload 5, 2) := by decide +kernel
theorem d_M_characterIn_34 : decode b_M_characterIn 34 = .ok (.aload_n 0, 1) := by decide +kernel
theorem d_M_characterIn_35 : decode b_M_characterIn 35 = .ok (.getfield 76, 3) := by decide +kernel
theorem d_M_characterIn_38 : decode b_M_characterIn 38 = .ok (.iadd, 1) := by decide +kernel
theorem d_M_characterIn_39 : decode b_M_characterIn 39 = .ok (.istore 5, 2) := by decide +kernel
theorem d_M_characterIn_41 : decode b_M_characterIn 41 = .ok (.goto (-35), 3) := by decide +kernel
theorem d_M_characterIn_44 : decode b_M_characterIn 44 = .ok (.iconst (-1), 1) := by decide +kernel
theorem d_M_characterIn_45 : decode b_M_characterIn 45 = .ok (.ireturn, 1) := by decide +kernel
def w_M_characterIn_L6  (v2 : Int32) (v3 : Int32) (post : Int32 → MPS → Prop) : Nat → Int32 → Int32 → MPS → Prop
  | 0, _, _, _ => False
  | n6 + 1, v4, v5, σ => ((v2 ≤ v5 → post (-1) σ) ∧ (¬ v2 ≤ v5 → w_M_characterOf σ v5 (fun r15 σ15 => ((v4 = v3 → post r15 σ15) ∧ (¬ v4 = v3 → w_M_characterIn_L6 v2 v3 post n6 (v4 + 1) (v5 + (mp_width σ15)) σ15)))))
def w_M_characterIn  (σ : MPS) (x0 : Int32) (x1 : Int32) (x2 : Int32) (post : Int32 → MPS → Prop) : Prop := (∃ n6, w_M_characterIn_L6 x1 x2 post n6 0 x0 σ)
set_option maxHeartbeats 4000000 in
set_option maxRecDepth 100000 in
theorem c_M_characterIn (l : Launch) (md : MD) (sz : Nat) (σ : MPS) (x0 : Int32) (x1 : Int32) (x2 : Int32)  (post : Int32 → MPS → Prop) (hE : w_M_characterIn σ x0 x1 x2 post) : Met l y_M_characterIn ws_M_characterIn { frames := 3, cells := 0, slots := 0, locals := 73 } (va_Pc [.ref (mA md 0), .int x0, .int x1, .int x2] (gM md σ sz)) (va_Qi post (eM md (va_A (MW md σ) sz)) (va_A (MW md σ) sz)) 0 0 (va_A (MW md σ) sz) := by
  refine Met.ofW (cc := b_M_characterIn) (maxL := 7) (ret := (some .int)) (by decide) rfl ?_
  intro p e s m args below meth c s₁ B hml hv
  obtain ⟨rfl, hsz, hP, hK, hD0⟩ := hv
  have hx := B.exec
  have hb := B.bytes
  have hr := B.returns
  have hta : ∀ w ∈ aW, w.before _ s = true := fun w h => atoms_spec (ws := ws_M_characterIn) B.pre w (List.mem_cons_of_mem _ h)
  have hown : s.vm.findClass R_M = some m.cls := findClass_of_methodNamed B.named
  have hlocks := B.notSynchronized
  subst hsz
  have hD := hD0.self (sz := s.heap.size)
  generalize hAe : va_A (MW md σ) s.heap.size = A at hD ⊢
  have hA : ∀ q : Nat, s.heap.size ≤ q → A q := fun q h => by rw [← hAe]; exact Or.inr h
  have hS : va_S A s.heap s.heap [] := va_S.rf
  have hP : va_P (mG md) classes (MW md σ) s.heap := hP
  have hl := lv_entry ([.ref (mA md 0), .int x0, .int x1, .int x2]) (n := 7) (Nat.le_of_ble_eq_true rfl)
  rw [lg_entry_eq]
  generalize (lg_sl ([.ref (mA md 0), .int x0, .int x1, .int x2]) ++ List.replicate (7 - (lg_sl ([.ref (mA md 0), .int x0, .int x1, .int x2])).length) Slot.unset).toArray = ls at hl ⊢
  have hl : lv_has ls 7 [(0, .ref (mA md 0)), (1, .int x0), (2, .int x1), (3, .int x2)] := hl
  have L6 : ∀ (v2 : Int32) (v3 : Int32) (n6 : Nat) (v4 : Int32) (v5 : Int32) (σ : MPS) (H : Heap) (locs : List Loc) (hP : va_P (mG md) classes (MW md σ) H) (hD : va_D A (MW md σ)) (hS : va_S A s.heap H locs) (ls : Array Slot) (hl : lv_has ls 7 [(0, .ref (mA md 0)), (2, .int v2), (3, .int v3), (4, .int v4), (5, .int v5)]) (hE : w_M_characterIn_L6 v2 v3 post n6 v4 v5 σ), W p l e (headSpec ws_M_characterIn { frames := 3, cells := 0, slots := 0, locals := 73 }).room s m ([.ref (mA md 0), .int x0, .int x1, .int x2] : List Value).toArray below meth c H locs 0 0 (MQ below (va_Qi post (eM md A) A) ([.ref (mA md 0), .int x0, .int x1, .int x2] : List Value).toArray s 0 0 A) (F0 m 6 ls []) := by
    intro v2 v3 n6
    induction n6 with
    | zero => intro v4 v5 σ H locs hP hD hS ls hl hE; exact hE.elim
    | succ n6 ih6 =>
      intro v4 v5 σ H locs hP hD hS ls hl hE
      unfold w_M_characterIn_L6 at hE
      refine lv_iload hx hb d_M_characterIn_6 (lv_at hl 4 rfl) ?_
      refine lv_iload_n hx hb d_M_characterIn_8 rfl (lv_at hl 1 rfl) ?_
      refine lv_icmp_ge (tgt := 44) hx hb d_M_characterIn_9 (by decide) (fun cc9 => ?_) (fun cc9 => ?_)
      · have hE := hE.1 cc9
        refine lv_iconst (v := -1) hx hb d_M_characterIn_44 (by decide) ?_
        exact W.iret (v := (-1)) hx hb hr (fun t ht hW => ⟨⟨_, σ, rfl, hE, by rw [ht]; exact hP, va_K.moved hW.alike hK, hD⟩, hS.F ht⟩) hS.2.2 d_M_characterIn_45
      · have hE := hE.2 cc9
        refine lv_aload_n hx hb d_M_characterIn_12 rfl (lv_at hl 0 rfl) ?_
        refine lv_iload hx hb d_M_characterIn_13 (lv_at hl 4 rfl) ?_
        refine mm_i (b0 := (mA md 0)) (As := [.int v5]) (rest := []) ⟨hx, hb, hml, hown, hta⟩ (c_M_characterOf l md _ σ v5 _ hE) ok_M_139 ⟨Nat.le_of_ble_eq_true rfl, Nat.le_of_ble_eq_true rfl⟩ (va_recv hK hP (ci := 7) (q0 := 0) rfl rfl) hP hK hD hS hA rfl hl.1 rfl (Nat.le_of_ble_eq_true rfl) d_M_characterIn_15 ⟨Nat.zero_le _, Nat.zero_le _⟩ (fun r15 σ15 H locs hE hP hD hS => ?_)
        refine lv_istore (lv' := [(6, .int r15), (0, .ref (mA md 0)), (2, .int v2), (3, .int v3), (4, .int v4), (5, .int v5)]) hx hb d_M_characterIn_18 hl (by decide) rfl (fun ls hl => ?_)
        refine lv_iload hx hb d_M_characterIn_20 (lv_at hl 4 rfl) ?_
        refine lv_iload_n hx hb d_M_characterIn_22 rfl (lv_at hl 3 rfl) ?_
        refine lv_icmp_ne (tgt := 29) hx hb d_M_characterIn_23 (by decide) (fun cc23 => ?_) (fun cc23 => ?_)
        · have hE := hE.2 cc23
          refine lv_iinc (v := v4 + 1) (lv' := [(4, .int (v4 + 1)), (6, .int r15), (0, .ref (mA md 0)), (2, .int v2), (3, .int v3), (5, .int v5)]) hx hb d_M_characterIn_29 hl (k := 4) rfl rfl (by decide) rfl (fun ls hl => ?_)
          refine lv_iload hx hb d_M_characterIn_32 (lv_at hl 5 rfl) ?_
          refine lv_aload_n hx hb d_M_characterIn_34 rfl (lv_at hl 2 rfl) ?_
          refine va_get (D := (mG md)) (ci := 7) (v := .int (mp_width σ15)) (C := R_M) (T := F_M) (N := 37) hx hb hta i_M hown hK hP 0 rfl rfl 12 (by decide) (hta _ fl_M_76) (fun _ h9 => h9) rfl d_M_characterIn_35 ?_
          refine lv_iadd hx hb d_M_characterIn_38 ?_
          refine lv_istore (lv' := [(5, .int (v5 + (mp_width σ15))), (4, .int (v4 + 1)), (6, .int r15), (0, .ref (mA md 0)), (2, .int v2), (3, .int v3)]) hx hb d_M_characterIn_39 hl (by decide) rfl (fun ls hl => ?_)
          refine lv_goto (tgt := 6) hx hb d_M_characterIn_41 (by decide) ?_
          exact ih6 (v4 + 1) (v5 + (mp_width σ15)) σ15 _ _ hP hD hS _ (lv_sub hl [3, 4, 5, 1, 0] rfl) hE
        · have hE := hE.1 cc23
          refine lv_iload hx hb d_M_characterIn_26 (lv_at hl 0 rfl) ?_
          exact W.iret (v := r15) hx hb hr (fun t ht hW => ⟨⟨_, σ15, rfl, hE, by rw [ht]; exact hP, va_K.moved hW.alike hK, hD⟩, hS.F ht⟩) hS.2.2 d_M_characterIn_28
  unfold w_M_characterIn at hE
  refine lv_iconst (v := 0) hx hb d_M_characterIn_0 (by decide) ?_
  refine lv_istore (lv' := [(4, .int 0), (0, .ref (mA md 0)), (1, .int x0), (2, .int x1), (3, .int x2)]) hx hb d_M_characterIn_1 hl (by decide) rfl (fun ls hl => ?_)
  refine lv_iload_n hx hb d_M_characterIn_3 rfl (lv_at hl 2 rfl) ?_
  refine lv_istore (lv' := [(5, .int x0), (4, .int 0), (0, .ref (mA md 0)), (1, .int x0), (2, .int x1), (3, .int x2)]) hx hb d_M_characterIn_4 hl (by decide) rfl (fun ls hl => ?_)
  obtain ⟨n6, hE⟩ := hE
  exact L6 x1 x2 n6 0 x0 σ _ _ hP hD hS _ (lv_sub hl [2, 4, 5, 1, 0] rfl) hE
