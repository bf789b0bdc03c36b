-- printed by wip/gen: the reference
theorem fl_M_142 : Cond.fieldLink "PlainPagesModel" 142 "PlainPagesModel" "nameAt" "I" ∈ aW := aW_in 923 (by decide +kernel) rfl
theorem fl_M_145 : Cond.fieldLink "PlainPagesModel" 145 "PlainPagesModel" "nameMany" "I" ∈ aW := aW_in 924 (by decide +kernel) rfl
theorem fl_M_148 : Cond.fieldLink "PlainPagesModel" 148 "PlainPagesModel" "valueAt" "I" ∈ aW := aW_in 925 (by decide +kernel) rfl
theorem fl_M_151 : Cond.fieldLink "PlainPagesModel" 151 "PlainPagesModel" "valueEnd" "I" ∈ aW := aW_in 926 (by decide +kernel) rfl
theorem d_M_nextAttribute_0 : decode b_M_nextAttribute 0 = .ok (.iload_n 1, 1) := by decide +kernel
theorem d_M_nextAttribute_1 : decode b_M_nextAttribute 1 = .ok (.istore_n 3, 1) := by decide +kernel
theorem d_M_nextAttribute_2 : decode b_M_nextAttribute 2 = .ok (.aload_n 0, 1) := by decide +kernel
theorem d_M_nextAttribute_3 : decode b_M_nextAttribute 3 = .ok (.iload_n 3, 1) := by decide +kernel
theorem d_M_nextAttribute_4 : decode b_M_nextAttribute 4 = .ok (.invokevirtual 95, 3) := by decide +kernel
theorem d_M_nextAttribute_7 : decode b_M_nextAttribute 7 = .ok (.invokestatic 104, 3) := by decide +kernel
theorem d_M_nextAttribute_10 : decode b_M_nextAttribute 10 = .ok (.ifCond .eq 9, 3) := by decide +kernel
theorem d_M_nextAttribute_13 : decode b_M_nextAttribute 13 = .ok (.iinc 3 1, 3) := by decide +kernel
theorem d_M_nextAttribute_16 : decode b_M_nextAttribute 16 = .ok (.goto (-14), 3) := by decide +kernel
theorem d_M_nextAttribute_19 : decode b_M_nextAttribute 19 = .ok (.iload_n 3, 1) := by decide +kernel
theorem d_M_nextAttribute_20 : decode b_M_nextAttribute 20 = .ok (.iload_n 2, 1) := by decide +kernel
theorem d_M_nextAttribute_21 : decode b_M_nextAttribute 21 = .ok (.if_icmp .ge 15, 3) := by decide +kernel
theorem d_M_nextAttribute_24 : decode b_M_nextAttribute 24 = .ok (.aload_n 0, 1) := by decide +kernel
theorem d_M_nextAttribute_25 : decode b_M_nextAttribute 25 = .ok (.iload_n 3, 1) := by decide +kernel
theorem d_M_nextAttribute_26 : decode b_M_nextAttribute 26 = .ok (.invokevirtual 95, 3) := by decide +kernel
theorem d_M_nextAttribute_29 : decode b_M_nextAttribute 29 = .ok (.iconst 1, 1) := by decide +kernel
theorem d_M_nextAttribute_30 : decode b_M_nextAttribute 30 = .ok (.invokestatic 107, 3) := by decide +kernel
theorem d_M_nextAttribute_33 : decode b_M_nextAttribute 33 = .ok (.ifCond .ne 5, 3) := by decide +kernel
theorem d_M_nextAttribute_36 : decode b_M_nextAttribute 36 = .ok (.iconst 0, 1) := by decide +kernel
theorem d_M_nextAttribute_37 : decode b_M_nextAttribute 37 = .ok (.ireturn, 1) := by decide +kernel
theorem d_M_nextAttribute_38 : decode b_M_nextAttribute 38 = .ok (.aload_n 0, 1) := by decide +kernel
theorem d_M_nextAttribute_39 : decode b_M_nextAttribute 39 = .ok (.iload_n 3, 1) := by decide +kernel
theorem d_M_nextAttribute_40 : decode b_M_nextAttribute 40 = .ok (.putfield 142, 3) := by decide +kernel
theorem d_M_nextAttribute_43 : decode b_M_nextAttribute 43 = .ok (.aload_n 0, 1) := by decide +kernel
theorem d_M_nextAttribute_44 : decode b_M_nextAttribute 44 = .ok (.iload_n 3, 1) := by decide +kernel
theorem d_M_nextAttribute_45 : decode b_M_nextAttribute 45 = .ok (.invokevirtual 95, 3) := by decide +kernel
theorem d_M_nextAttribute_48 : decode b_M_nextAttribute 48 = .ok (.iconst 0, 1) := by decide +kernel
theorem d_M_nextAttribute_49 : decode b_M_nextAttribute 49 = .ok (.invokestatic 107, 3) := by decide +kernel
theorem d_M_nextAttribute_52 : decode b_M_nextAttribute 52 = .ok (.ifCond .eq 9, 3) := by decide +kernel
theorem d_M_nextAttribute_55 : decode b_M_nextAttribute 55 = .ok (.iinc 3 1, 3) := by decide +kernel
theorem d_M_nextAttribute_58 : decode b_M_nextAttribute 58 = .ok (.goto (-15), 3) := by decide +kernel
theorem d_M_nextAttribute_61 : decode b_M_nextAttribute 61 = .ok (.aload_n 0, 1) := by decide +kernel
theorem d_M_nextAttribute_62 : decode b_M_nextAttribute 62 = .ok (.iload_n 3, 1) := by decide +kernel
theorem d_M_nextAttribute_63 : decode b_M_nextAttribute 63 = .ok (.aload_n 0, 1) := by decide +kernel
theorem d_M_nextAttribute_64 : decode b_M_nextAttribute 64 = .ok (.getfield 142, 3) := by decide +kernel
theorem d_M_nextAttribute_67 : decode b_M_nextAttribute 67 = .ok (.isub, 1) := by decide +kernel
theorem d_M_nextAttribute_68 : decode b_M_nextAttribute 68 = .ok (.putfield 145, 3) := by decide +kernel
theorem d_M_nextAttribute_71 : decode b_M_nextAttribute 71 = .ok (.iinc 3 2, 3) := by decide +kernel
theorem d_M_nextAttribute_74 : decode b_M_nextAttribute 74 = .ok (.aload_n 0, 1) := by decide +kernel
theorem d_M_nextAttribute_75 : decode b_M_nextAttribute 75 = .ok (.iload_n 3, 1) := by decide +kernel
theorem d_M_nextAttribute_76 : decode b_M_nextAttribute 76 = .ok (.putfield 148, 3) := by decide +kernel
theorem d_M_nextAttribute_79 : decode b_M_nextAttribute 79 = .ok (.aload_n 0, 1) := by decide +kernel
theorem d_M_nextAttribute_80 : decode b_M_nextAttribute 80 = .ok (.iload_n 3, 1) := by decide +kernel
theorem d_M_nextAttribute_81 : decode b_M_nextAttribute 81 = .ok (.invokevirtual 95, 3) := by decide +kernel
theorem d_M_nextAttribute_84 : decode b_M_nextAttribute 84 = .ok (.bipush 34, 2) := by decide +kernel
theorem d_M_nextAttribute_86 : decode b_M_nextAttribute 86 = .ok (.if_icmp .eq 9, 3) := by decide +kernel
theorem d_M_nextAttribute_89 : decode b_M_nextAttribute 89 = .ok (.iinc 3 1, 3) := by decide +kernel
theorem d_M_nextAttribute_92 : decode b_M_nextAttribute 92 = .ok (.goto (-13), 3) := by decide +kernel
theorem d_M_nextAttribute_95 : decode b_M_nextAttribute 95 = .ok (.aload_n 0, 1) := by decide +kernel
theorem d_M_nextAttribute_96 : decode b_M_nextAttribute 96 = .ok (.iload_n 3, 1) := by decide +kernel
theorem d_M_nextAttribute_97 : decode b_M_nextAttribute 97 = .ok (.putfield 151, 3) := by decide +kernel
theorem d_M_nextAttribute_100 : decode b_M_nextAttribute 100 = .ok (.iconst 1, 1) := by decide +kernel
theorem d_M_nextAttribute_101 : decode b_M_nextAttribute 101 = .ok (.ireturn, 1) := by decide +kernel
def w_M_nextAttribute_L79   (post : Int32 → MPS → Prop) : Nat → Int32 → MPS → Prop
  | 0, _, _ => False
  | n79 + 1, v3, σ => (mXk σ v3 ∧ (((mX σ v3) = 34 → (∀ σ97 : MPS, σ97 = ms_valueEnd σ v3 → post 1 σ97)) ∧ (¬ (mX σ v3) = 34 → w_M_nextAttribute_L79 post n79 (v3 + 1) σ)))
def w_M_nextAttribute_L43   (post : Int32 → MPS → Prop) : Nat → Int32 → MPS → Prop
  | 0, _, _ => False
  | n43 + 1, v3, σ => (mXk σ v3 ∧ (((b2i (cNs (mX σ v3) 0)) = 0 → (∀ σ68 : MPS, σ68 = ms_nameMany σ (v3 - (mp_nameAt σ)) → (∀ σ76 : MPS, σ76 = ms_valueAt σ68 (v3 + 2) → (∃ n79, w_M_nextAttribute_L79 post n79 (v3 + 2) σ76)))) ∧ (¬ (b2i (cNs (mX σ v3) 0)) = 0 → w_M_nextAttribute_L43 post n43 (v3 + 1) σ)))
def w_M_nextAttribute_L2  (v2 : Int32) (post : Int32 → MPS → Prop) : Nat → Int32 → MPS → Prop
  | 0, _, _ => False
  | n2 + 1, v3, σ => (mXk σ v3 ∧ (((b2i (cWh (mX σ v3))) = 0 → ((v2 ≤ v3 → post 0 σ) ∧ (¬ v2 ≤ v3 → (mXk σ v3 ∧ (((b2i (cNs (mX σ v3) 1)) = 0 → post 0 σ) ∧ (¬ (b2i (cNs (mX σ v3) 1)) = 0 → (∀ σ40 : MPS, σ40 = ms_nameAt σ v3 → (∃ n43, w_M_nextAttribute_L43 post n43 v3 σ40)))))))) ∧ (¬ (b2i (cWh (mX σ v3))) = 0 → w_M_nextAttribute_L2 v2 post n2 (v3 + 1) σ)))
def w_M_nextAttribute  (σ : MPS) (x0 : Int32) (x1 : Int32) (post : Int32 → MPS → Prop) : Prop := (∃ n2, w_M_nextAttribute_L2 x1 post n2 x0 σ)
set_option maxHeartbeats 4000000 in
set_option maxRecDepth 100000 in
theorem c_M_nextAttribute (l : Launch) (md : MD) (sz : Nat) (σ : MPS) (x0 : Int32) (x1 : Int32)  (post : Int32 → MPS → Prop) (hE : w_M_nextAttribute σ x0 x1 post) : Met l y_M_nextAttribute ws_M_nextAttribute { frames := 2, cells := 0, slots := 0, locals := 41 } (va_Pc [.ref (mA md 0), .int x0, .int x1] (gM md σ sz)) (va_Qi post (eM md (va_A (MW md σ) sz)) (va_A (MW md σ) sz)) 0 0 (va_A (MW md σ) sz) := by
  refine Met.ofW (cc := b_M_nextAttribute) (maxL := 4) (ret := (some .boolean)) (by decide) rfl ?_
  intro p e s m args below meth c s₁ B hml hv
  obtain ⟨rfl, hsz, hP, hK, hD0⟩ := hv
  have hx := B.exec
  have hb := B.bytes
  have hr := B.returns
  have hta : ∀ w ∈ aW, w.before _ s = true := fun w h => atoms_spec (ws := ws_M_nextAttribute) B.pre w (List.mem_cons_of_mem _ h)
  have hown : s.vm.findClass R_M = some m.cls := findClass_of_methodNamed B.named
  have hlocks := B.notSynchronized
  subst hsz
  have hD := hD0.self (sz := s.heap.size)
  generalize hAe : va_A (MW md σ) s.heap.size = A at hD ⊢
  have hA : ∀ q : Nat, s.heap.size ≤ q → A q := fun q h => by rw [← hAe]; exact Or.inr h
  have hS : va_S A s.heap s.heap [] := va_S.rf
  have hP : va_P (mG md) classes (MW md σ) s.heap := hP
  have hl := lv_entry ([.ref (mA md 0), .int x0, .int x1]) (n := 4) (Nat.le_of_ble_eq_true rfl)
  rw [lg_entry_eq]
  generalize (lg_sl ([.ref (mA md 0), .int x0, .int x1]) ++ List.replicate (4 - (lg_sl ([.ref (mA md 0), .int x0, .int x1])).length) Slot.unset).toArray = ls at hl ⊢
  have hl : lv_has ls 4 [(0, .ref (mA md 0)), (1, .int x0), (2, .int x1)] := hl
  have L79 : ∀ (n79 : Nat) (v3 : Int32) (σ : MPS) (H : Heap) (locs : List Loc) (hP : va_P (mG md) classes (MW md σ) H) (hD : va_D A (MW md σ)) (hS : va_S A s.heap H locs) (ls : Array Slot) (hl : lv_has ls 4 [(0, .ref (mA md 0)), (3, .int v3)]) (hE : w_M_nextAttribute_L79 post n79 v3 σ), W p l e (headSpec ws_M_nextAttribute { frames := 2, cells := 0, slots := 0, locals := 41 }).room s m ([.ref (mA md 0), .int x0, .int x1] : List Value).toArray below meth c H locs 0 0 (MQ below (va_Qi post (eM md A) A) ([.ref (mA md 0), .int x0, .int x1] : List Value).toArray s 0 0 A) (F0 m 79 ls []) := by
    intro n79
    induction n79 with
    | zero => intro v3 σ H locs hP hD hS ls hl hE; exact hE.elim
    | succ n79 ih79 =>
      intro v3 σ H locs hP hD hS ls hl hE
      unfold w_M_nextAttribute_L79 at hE
      refine lv_aload_n hx hb d_M_nextAttribute_79 rfl (lv_at hl 0 rfl) ?_
      refine lv_iload_n hx hb d_M_nextAttribute_80 rfl (lv_at hl 1 rfl) ?_
      obtain ⟨hc81_0, hE⟩ := hE
      refine ro_V (b0 := (mA md 0)) (As := [.int v3]) (rest := []) ⟨hx, hb, hml, hown, hta⟩ (f_M_x l md σ v3 hc81_0) ok_M_95 ⟨Nat.le_of_ble_eq_true rfl, Nat.le_of_ble_eq_true rfl⟩ blind_rM (va_recv hK hP (ci := 7) (q0 := 0) rfl rfl) (rM_of hP hK) rfl hl.1 rfl (Nat.le_of_ble_eq_true rfl) d_M_nextAttribute_81 ⟨Nat.zero_le _, Nat.zero_le _⟩ (fun r81 hrr => ?_)
      subst hrr
      refine lv_bipush (v := 34) hx hb d_M_nextAttribute_84 (by decide) ?_
      refine lv_icmp_eq (tgt := 95) hx hb d_M_nextAttribute_86 (by decide) (fun cc86 => ?_) (fun cc86 => ?_)
      · have hE := hE.1 cc86
        refine lv_aload_n hx hb d_M_nextAttribute_95 rfl (lv_at hl 0 rfl) ?_
        refine lv_iload_n hx hb d_M_nextAttribute_96 rfl (lv_at hl 1 rfl) ?_
        refine va_put (D := (mG md)) (ci := 7) (v := .int v3) (ty := .int) (C := R_M) (T := F_M) (N := 37) hx hb hta i_M t_M t_M_ok n_M hown hK hP hD hS 0 rfl rfl 22 (by decide) (hta _ fl_M_151) (fun _ h9 => h9) rfl (by decide +kernel) rfl rfl (Nat.le_of_ble_eq_true rfl) d_M_nextAttribute_97 (fun H locs hP hD hS => ?_)
        have hP := mwP_valueEnd hP
        have hD := mwD_valueEnd hD
        have hE := hE _ rfl
        generalize (ms_valueEnd σ v3 : MPS) = σ97 at hP hD hE
        refine lv_iconst (v := 1) hx hb d_M_nextAttribute_100 (by decide) ?_
        exact W.zret (v := 1) hx hb hr rfl (fun t ht hW => ⟨⟨_, σ97, rfl, hE, by rw [ht]; exact hP, va_K.moved hW.alike hK, hD⟩, hS.F ht⟩) hS.2.2 d_M_nextAttribute_101
      · have hE := hE.2 cc86
        refine lv_iinc (v := v3 + 1) (lv' := [(3, .int (v3 + 1)), (0, .ref (mA md 0))]) hx hb d_M_nextAttribute_89 hl (k := 1) rfl rfl (by decide) rfl (fun ls hl => ?_)
        refine lv_goto (tgt := 79) hx hb d_M_nextAttribute_92 (by decide) ?_
        exact ih79 (v3 + 1) σ _ _ hP hD hS _ (lv_sub hl [1, 0] rfl) hE
  have L43 : ∀ (n43 : Nat) (v3 : Int32) (σ : MPS) (H : Heap) (locs : List Loc) (hP : va_P (mG md) classes (MW md σ) H) (hD : va_D A (MW md σ)) (hS : va_S A s.heap H locs) (ls : Array Slot) (hl : lv_has ls 4 [(0, .ref (mA md 0)), (3, .int v3)]) (hE : w_M_nextAttribute_L43 post n43 v3 σ), W p l e (headSpec ws_M_nextAttribute { frames := 2, cells := 0, slots := 0, locals := 41 }).room s m ([.ref (mA md 0), .int x0, .int x1] : List Value).toArray below meth c H locs 0 0 (MQ below (va_Qi post (eM md A) A) ([.ref (mA md 0), .int x0, .int x1] : List Value).toArray s 0 0 A) (F0 m 43 ls []) := by
    intro n43
    induction n43 with
    | zero => intro v3 σ H locs hP hD hS ls hl hE; exact hE.elim
    | succ n43 ih43 =>
      intro v3 σ H locs hP hD hS ls hl hE
      unfold w_M_nextAttribute_L43 at hE
      refine lv_aload_n hx hb d_M_nextAttribute_43 rfl (lv_at hl 0 rfl) ?_
      refine lv_iload_n hx hb d_M_nextAttribute_44 rfl (lv_at hl 1 rfl) ?_
      obtain ⟨hc45_0, hE⟩ := hE
      refine ro_V (b0 := (mA md 0)) (As := [.int v3]) (rest := []) ⟨hx, hb, hml, hown, hta⟩ (f_M_x l md σ v3 hc45_0) ok_M_95 ⟨Nat.le_of_ble_eq_true rfl, Nat.le_of_ble_eq_true rfl⟩ blind_rM (va_recv hK hP (ci := 7) (q0 := 0) rfl rfl) (rM_of hP hK) rfl hl.1 rfl (Nat.le_of_ble_eq_true rfl) d_M_nextAttribute_45 ⟨Nat.zero_le _, Nat.zero_le _⟩ (fun r45 hrr => ?_)
      subst hrr
      refine lv_iconst (v := 0) hx hb d_M_nextAttribute_48 (by decide) ?_
      refine ro_S  (As := [.int (mX σ v3), .int 0]) (rest := []) ⟨hx, hb, hml, hown, hta⟩ (f_M_isNameSign l (mX σ v3) 0) ok_M_107 ⟨Nat.le_of_ble_eq_true rfl, Nat.le_of_ble_eq_true rfl⟩ blind_true  (fun _ _ _ => trivial) rfl hl.1 rfl (Nat.le_of_ble_eq_true rfl) d_M_nextAttribute_49 ⟨Nat.zero_le _, Nat.zero_le _⟩ (fun r49 hrr => ?_)
      subst hrr
      refine lv_if_eq (tgt := 61) hx hb d_M_nextAttribute_52 (by decide) (fun cc52 => ?_) (fun cc52 => ?_)
      · have hE := hE.1 cc52
        refine lv_aload_n hx hb d_M_nextAttribute_61 rfl (lv_at hl 0 rfl) ?_
        refine lv_iload_n hx hb d_M_nextAttribute_62 rfl (lv_at hl 1 rfl) ?_
        refine lv_aload_n hx hb d_M_nextAttribute_63 rfl (lv_at hl 0 rfl) ?_
        refine va_get (D := (mG md)) (ci := 7) (v := .int (mp_nameAt σ)) (C := R_M) (T := F_M) (N := 37) hx hb hta i_M hown hK hP 0 rfl rfl 19 (by decide) (hta _ fl_M_142) (fun _ h9 => h9) rfl d_M_nextAttribute_64 ?_
        refine lv_isub hx hb d_M_nextAttribute_67 ?_
        refine va_put (D := (mG md)) (ci := 7) (v := .int (v3 - (mp_nameAt σ))) (ty := .int) (C := R_M) (T := F_M) (N := 37) hx hb hta i_M t_M t_M_ok n_M hown hK hP hD hS 0 rfl rfl 20 (by decide) (hta _ fl_M_145) (fun _ h9 => h9) rfl (by decide +kernel) rfl rfl (Nat.le_of_ble_eq_true rfl) d_M_nextAttribute_68 (fun H locs hP hD hS => ?_)
        have hP := mwP_nameMany hP
        have hD := mwD_nameMany hD
        have hE := hE _ rfl
        generalize (ms_nameMany σ (v3 - (mp_nameAt σ)) : MPS) = σ68 at hP hD hE
        refine lv_iinc (v := v3 + 2) (lv' := [(3, .int (v3 + 2)), (0, .ref (mA md 0))]) hx hb d_M_nextAttribute_71 hl (k := 1) rfl rfl (by decide) rfl (fun ls hl => ?_)
        refine lv_aload_n hx hb d_M_nextAttribute_74 rfl (lv_at hl 1 rfl) ?_
        refine lv_iload_n hx hb d_M_nextAttribute_75 rfl (lv_at hl 0 rfl) ?_
        refine va_put (D := (mG md)) (ci := 7) (v := .int (v3 + 2)) (ty := .int) (C := R_M) (T := F_M) (N := 37) hx hb hta i_M t_M t_M_ok n_M hown hK hP hD hS 0 rfl rfl 21 (by decide) (hta _ fl_M_148) (fun _ h9 => h9) rfl (by decide +kernel) rfl rfl (Nat.le_of_ble_eq_true rfl) d_M_nextAttribute_76 (fun H locs hP hD hS => ?_)
        have hP := mwP_valueAt hP
        have hD := mwD_valueAt hD
        have hE := hE _ rfl
        generalize (ms_valueAt σ68 (v3 + 2) : MPS) = σ76 at hP hD hE
        obtain ⟨n79, hE⟩ := hE
        exact L79  n79 (v3 + 2) σ76 _ _ hP hD hS _ (lv_sub hl [1, 0] rfl) hE
      · have hE := hE.2 cc52
        refine lv_iinc (v := v3 + 1) (lv' := [(3, .int (v3 + 1)), (0, .ref (mA md 0))]) hx hb d_M_nextAttribute_55 hl (k := 1) rfl rfl (by decide) rfl (fun ls hl => ?_)
        refine lv_goto (tgt := 43) hx hb d_M_nextAttribute_58 (by decide) ?_
        exact ih43 (v3 + 1) σ _ _ hP hD hS _ (lv_sub hl [1, 0] rfl) hE
  have L2 : ∀ (v2 : Int32) (n2 : Nat) (v3 : Int32) (σ : MPS) (H : Heap) (locs : List Loc) (hP : va_P (mG md) classes (MW md σ) H) (hD : va_D A (MW md σ)) (hS : va_S A s.heap H locs) (ls : Array Slot) (hl : lv_has ls 4 [(0, .ref (mA md 0)), (2, .int v2), (3, .int v3)]) (hE : w_M_nextAttribute_L2 v2 post n2 v3 σ), W p l e (headSpec ws_M_nextAttribute { frames := 2, cells := 0, slots := 0, locals := 41 }).room s m ([.ref (mA md 0), .int x0, .int x1] : List Value).toArray below meth c H locs 0 0 (MQ below (va_Qi post (eM md A) A) ([.ref (mA md 0), .int x0, .int x1] : List Value).toArray s 0 0 A) (F0 m 2 ls []) := by
    intro v2 n2
    induction n2 with
    | zero => intro v3 σ H locs hP hD hS ls hl hE; exact hE.elim
    | succ n2 ih2 =>
      intro v3 σ H locs hP hD hS ls hl hE
      unfold w_M_nextAttribute_L2 at hE
      refine lv_aload_n hx hb d_M_nextAttribute_2 rfl (lv_at hl 0 rfl) ?_
      refine lv_iload_n hx hb d_M_nextAttribute_3 rfl (lv_at hl 2 rfl) ?_
      obtain ⟨hc4_0, hE⟩ := hE
      refine ro_V (b0 := (mA md 0)) (As := [.int v3]) (rest := []) ⟨hx, hb, hml, hown, hta⟩ (f_M_x l md σ v3 hc4_0) ok_M_95 ⟨Nat.le_of_ble_eq_true rfl, Nat.le_of_ble_eq_true rfl⟩ blind_rM (va_recv hK hP (ci := 7) (q0 := 0) rfl rfl) (rM_of hP hK) rfl hl.1 rfl (Nat.le_of_ble_eq_true rfl) d_M_nextAttribute_4 ⟨Nat.zero_le _, Nat.zero_le _⟩ (fun r4 hrr => ?_)
      subst hrr
      refine ro_S  (As := [.int (mX σ v3)]) (rest := []) ⟨hx, hb, hml, hown, hta⟩ (f_M_isWhite l (mX σ v3)) ok_M_104 ⟨Nat.le_of_ble_eq_true rfl, Nat.le_of_ble_eq_true rfl⟩ blind_true  (fun _ _ _ => trivial) rfl hl.1 rfl (Nat.le_of_ble_eq_true rfl) d_M_nextAttribute_7 ⟨Nat.zero_le _, Nat.zero_le _⟩ (fun r7 hrr => ?_)
      subst hrr
      refine lv_if_eq (tgt := 19) hx hb d_M_nextAttribute_10 (by decide) (fun cc10 => ?_) (fun cc10 => ?_)
      · have hE := hE.1 cc10
        refine lv_iload_n hx hb d_M_nextAttribute_19 rfl (lv_at hl 2 rfl) ?_
        refine lv_iload_n hx hb d_M_nextAttribute_20 rfl (lv_at hl 1 rfl) ?_
        refine lv_icmp_ge (tgt := 36) hx hb d_M_nextAttribute_21 (by decide) (fun cc21 => ?_) (fun cc21 => ?_)
        · have hE := hE.1 cc21
          refine lv_iconst (v := 0) hx hb d_M_nextAttribute_36 (by decide) ?_
          exact W.zret (v := 0) hx hb hr rfl (fun t ht hW => ⟨⟨_, σ, rfl, hE, by rw [ht]; exact hP, va_K.moved hW.alike hK, hD⟩, hS.F ht⟩) hS.2.2 d_M_nextAttribute_37
        · have hE := hE.2 cc21
          refine lv_aload_n hx hb d_M_nextAttribute_24 rfl (lv_at hl 0 rfl) ?_
          refine lv_iload_n hx hb d_M_nextAttribute_25 rfl (lv_at hl 2 rfl) ?_
          obtain ⟨hc26_0, hE⟩ := hE
          refine ro_V (b0 := (mA md 0)) (As := [.int v3]) (rest := []) ⟨hx, hb, hml, hown, hta⟩ (f_M_x l md σ v3 hc26_0) ok_M_95 ⟨Nat.le_of_ble_eq_true rfl, Nat.le_of_ble_eq_true rfl⟩ blind_rM (va_recv hK hP (ci := 7) (q0 := 0) rfl rfl) (rM_of hP hK) rfl hl.1 rfl (Nat.le_of_ble_eq_true rfl) d_M_nextAttribute_26 ⟨Nat.zero_le _, Nat.zero_le _⟩ (fun r26 hrr => ?_)
          subst hrr
          refine lv_iconst (v := 1) hx hb d_M_nextAttribute_29 (by decide) ?_
          refine ro_S  (As := [.int (mX σ v3), .int 1]) (rest := []) ⟨hx, hb, hml, hown, hta⟩ (f_M_isNameSign l (mX σ v3) 1) ok_M_107 ⟨Nat.le_of_ble_eq_true rfl, Nat.le_of_ble_eq_true rfl⟩ blind_true  (fun _ _ _ => trivial) rfl hl.1 rfl (Nat.le_of_ble_eq_true rfl) d_M_nextAttribute_30 ⟨Nat.zero_le _, Nat.zero_le _⟩ (fun r30 hrr => ?_)
          subst hrr
          refine lv_if_ne (tgt := 38) hx hb d_M_nextAttribute_33 (by decide) (fun cc33 => ?_) (fun cc33 => ?_)
          · have hE := hE.2 cc33
            refine lv_aload_n hx hb d_M_nextAttribute_38 rfl (lv_at hl 0 rfl) ?_
            refine lv_iload_n hx hb d_M_nextAttribute_39 rfl (lv_at hl 2 rfl) ?_
            refine va_put (D := (mG md)) (ci := 7) (v := .int v3) (ty := .int) (C := R_M) (T := F_M) (N := 37) hx hb hta i_M t_M t_M_ok n_M hown hK hP hD hS 0 rfl rfl 19 (by decide) (hta _ fl_M_142) (fun _ h9 => h9) rfl (by decide +kernel) rfl rfl (Nat.le_of_ble_eq_true rfl) d_M_nextAttribute_40 (fun H locs hP hD hS => ?_)
            have hP := mwP_nameAt hP
            have hD := mwD_nameAt hD
            have hE := hE _ rfl
            generalize (ms_nameAt σ v3 : MPS) = σ40 at hP hD hE
            obtain ⟨n43, hE⟩ := hE
            exact L43  n43 v3 σ40 _ _ hP hD hS _ (lv_sub hl [0, 2] rfl) hE
          · have hE := hE.1 cc33
            refine lv_iconst (v := 0) hx hb d_M_nextAttribute_36 (by decide) ?_
            exact W.zret (v := 0) hx hb hr rfl (fun t ht hW => ⟨⟨_, σ, rfl, hE, by rw [ht]; exact hP, va_K.moved hW.alike hK, hD⟩, hS.F ht⟩) hS.2.2 d_M_nextAttribute_37
      · have hE := hE.2 cc10
        refine lv_iinc (v := v3 + 1) (lv' := [(3, .int (v3 + 1)), (0, .ref (mA md 0)), (2, .int v2)]) hx hb d_M_nextAttribute_13 hl (k := 2) rfl rfl (by decide) rfl (fun ls hl => ?_)
        refine lv_goto (tgt := 2) hx hb d_M_nextAttribute_16 (by decide) ?_
        exact ih2 (v3 + 1) σ _ _ hP hD hS _ (lv_sub hl [1, 2, 0] rfl) hE
  unfold w_M_nextAttribute at hE
  refine lv_iload_n hx hb d_M_nextAttribute_0 rfl (lv_at hl 1 rfl) ?_
  refine lv_istore_n (lv' := [(3, .int x0), (0, .ref (mA md 0)), (1, .int x0), (2, .int x1)]) hx hb d_M_nextAttribute_1 rfl hl (by decide) rfl (fun ls hl => ?_)
  obtain ⟨n2, hE⟩ := hE
  exact L2 x1 n2 x0 σ _ _ hP hD hS _ (lv_sub hl [1, 3, 0] rfl) hE
theorem ok_M_157 : okV "PlainPagesModel" 157 R_M y_M_nextAttribute b_M_nextAttribute 4 (some .boolean) 2 := ⟨aW_in 1089 (by decide +kernel) rfl, aW_in 1091 (by decide +kernel) rfl, aW_in 50 (by decide +kernel) rfl, aW_in 92 (by decide +kernel) rfl, cd_M_nextAttribute, rfl, by decide +kernel, by decide +kernel, by decide +kernel⟩
theorem ok_M_161 : okV "PlainPagesModel" 161 R_M y_M_areAlike b_M_areAlike 6 (some .boolean) 3 := ⟨aW_in 1093 (by decide +kernel) rfl, aW_in 1095 (by decide +kernel) rfl, aW_in 51 (by decide +kernel) rfl, aW_in 92 (by decide +kernel) rfl, cd_M_areAlike, rfl, by decide +kernel, by decide +kernel, by decide +kernel⟩
theorem d_M_wasHad_0 : decode b_M_wasHad 0 = .ok (.iconst 0, 1) := by decide +kernel
theorem d_M_wasHad_1 : decode b_M_wasHad 1 = .ok (.istore 4, 2) := by decide +kernel
theorem d_M_wasHad_3 : decode b_M_wasHad 3 = .ok (.aload_n 0, 1) := by decide +kernel
theorem d_M_wasHad_4 : decode b_M_wasHad 4 = .ok (.iload_n 1, 1) := by decide +kernel
theorem d_M_wasHad_5 : decode b_M_wasHad 5 = .ok (.invokevirtual 154, 3) := by decide +kernel
theorem d_M_wasHad_8 : decode b_M_wasHad 8 = .ok (.istore 5, 2) := by decide +kernel
theorem d_M_wasHad_10 : decode b_M_wasHad 10 = .ok (.iload 4, 2) := by decide +kernel
theorem d_M_wasHad_12 : decode b_M_wasHad 12 = .ok (.ifCond .ne 52, 3) := by decide +kernel
theorem d_M_wasHad_15 : decode b_M_wasHad 15 = .ok (.aload_n 0, 1) := by decide +kernel
theorem d_M_wasHad_16 : decode b_M_wasHad 16 = .ok (.iload 5, 2) := by decide +kernel
theorem d_M_wasHad_18 : decode b_M_wasHad 18 = .ok (.iload_n 2, 1) := by decide +kernel
theorem d_M_wasHad_19 : decode b_M_wasHad 19 = .ok (.invokevirtual 157, 3) := by decide +kernel
theorem d_M_wasHad_22 : decode b_M_wasHad 22 = .ok (.ifCond .eq 42, 3) := by decide +kernel
theorem d_M_wasHad_25 : decode b_M_wasHad 25 = .ok (.aload_n 0, 1) := by decide +kernel
theorem d_M_wasHad_26 : decode b_M_wasHad 26 = .ok (.getfield 145, 3) := by decide +kernel
theorem d_M_wasHad_29 : decode b_M_wasHad 29 = .ok (.iload_n 3, 1) := by decide +kernel
theorem d_M_wasHad_30 : decode b_M_wasHad 30 = .ok (.if_icmp .ne 20, 3) := by decide +kernel
theorem d_M_wasHad_33 : decode b_M_wasHad 33 = .ok (.aload_n 0, 1) := by decide +kernel
theorem d_M_wasHad_34 : decode b_M_wasHad 34 = .ok (.aload_n 0, 1) := by decide +kernel
theorem d_M_wasHad_35 : decode b_M_wasHad 35 = .ok (.getfield 142, 3) := by decide +kernel
theorem d_M_wasHad_38 : decode b_M_wasHad 38 = .ok (.iload_n 2, 1) := by decide +kernel
theorem d_M_wasHad_39 : decode b_M_wasHad 39 = .ok (.iload_n 3, 1) := by decide +kernel
theorem d_M_wasHad_40 : decode b_M_wasHad 40 = .ok (.invokevirtual 161, 3) := by decide +kernel
theorem d_M_wasHad_43 : decode b_M_wasHad 43 = .ok (.ifCond .eq 7, 3) := by decide +kernel
theorem d_M_wasHad_46 : decode b_M_wasHad 46 = .ok (.iconst 1, 1) := by decide +kernel
theorem d_M_wasHad_47 : decode b_M_wasHad 47 = .ok (.goto 4, 3) := by decide +kernel
theorem d_M_wasHad_50 : decode b_M_wasHad 50 = .ok (.iconst 0, 1) := by decide +kernel
theorem d_M_wasHad_51 : decode b_M_wasHad 51 = .ok (.istore 4, 2) := by decide +kernel
theorem d_M_wasHad_53 : decode b_M_wasHad 53 = .ok (.aload_n 0, 1) := by decide +kernel
theorem d_M_wasHad_54 : decode b_M_wasHad 54 = .ok (.getfield 151, 3) := by decide +kernel
theorem d_M_wasHad_57 : decode b_M_wasHad 57 = .ok (.iconst 1, 1) := by decide +kernel
theorem d_M_wasHad_58 : decode b_M_wasHad 58 = .ok (.iadd, 1) := by decide +kernel
theorem d_M_wasHad_59 : decode b_M_wasHad 59 = .ok (.istore 5, 2) := by decide +kernel
theorem d_M_wasHad_61 : decode b_M_wasHad 61 = .ok (.goto (-51), 3) := by decide +kernel
theorem d_M_wasHad_64 : decode b_M_wasHad 64 = .ok (.iload 4, 2) := by decide +kernel
theorem d_M_wasHad_66 : decode b_M_wasHad 66 = .ok (.ireturn, 1) := by decide +kernel
def w_M_wasHad_J51  (v2 : Int32) (v3 : Int32) (K10 : Int32 → Int32 → MPS → Prop) (post : Int32 → MPS → Prop) (t0 : Int32) (σ : MPS) : Prop := K10 t0 ((mp_valueEnd σ) + 1) σ
def w_M_wasHad_J50  (v2 : Int32) (v3 : Int32) (K10 : Int32 → Int32 → MPS → Prop) (post : Int32 → MPS → Prop) (σ : MPS) : Prop := w_M_wasHad_J51 v2 v3 (K10) post 0 σ
def w_M_wasHad_L10  (v2 : Int32) (v3 : Int32) (post : Int32 → MPS → Prop) : Nat → Int32 → Int32 → MPS → Prop
  | 0, _, _, _ => False
  | n10 + 1, v4, v5, σ => ((v4 = 0 → w_M_nextAttribute σ v5 v2 (fun r19 σ19 => ((r19 = 0 → (narrow .boolean (.int v4) = .int v4 ∧ post v4 σ19)) ∧ (¬ r19 = 0 → (((mp_nameMany σ19) = v3 → w_M_areAlike σ19 (mp_nameAt σ19) v2 v3 (fun r40 => ((r40 = 0 → w_M_wasHad_J50 v2 v3 (w_M_wasHad_L10 v2 v3 post n10) post σ19) ∧ (¬ r40 = 0 → w_M_wasHad_J51 v2 v3 (w_M_wasHad_L10 v2 v3 post n10) post 1 σ19)))) ∧ (¬ (mp_nameMany σ19) = v3 → w_M_wasHad_J50 v2 v3 (w_M_wasHad_L10 v2 v3 post n10) post σ19)))))) ∧ (¬ v4 = 0 → (narrow .boolean (.int v4) = .int v4 ∧ post v4 σ)))
def w_M_wasHad  (σ : MPS) (x0 : Int32) (x1 : Int32) (x2 : Int32) (post : Int32 → MPS → Prop) : Prop := w_M_behindName σ x0 (fun r5 => (∃ n10, w_M_wasHad_L10 x1 x2 post n10 0 r5 σ))
set_option maxHeartbeats 4000000 in
set_option maxRecDepth 100000 in
theorem c_M_wasHad (l : Launch) (md : MD) (sz : Nat) (σ : MPS) (x0 : Int32) (x1 : Int32) (x2 : Int32)  (post : Int32 → MPS → Prop) (hE : w_M_wasHad σ x0 x1 x2 post) : Met l y_M_wasHad ws_M_wasHad { frames := 3, cells := 0, slots := 0, locals := 64 } (va_Pc [.ref (mA md 0), .int x0, .int x1, .int x2] (gM md σ sz)) (va_Qi post (eM md (va_A (MW md σ) sz)) (va_A (MW md σ) sz)) 0 0 (va_A (MW md σ) sz) := by
  refine Met.ofW (cc := b_M_wasHad) (maxL := 6) (ret := (some .boolean)) (by decide) rfl ?_
  intro p e s m args below meth c s₁ B hml hv
  obtain ⟨rfl, hsz, hP, hK, hD0⟩ := hv
  have hx := B.exec
  have hb := B.bytes
  have hr := B.returns
  have hta : ∀ w ∈ aW, w.before _ s = true := fun w h => atoms_spec (ws := ws_M_wasHad) B.pre w (List.mem_cons_of_mem _ h)
  have hown : s.vm.findClass R_M = some m.cls := findClass_of_methodNamed B.named
  have hlocks := B.notSynchronized
  subst hsz
  have hD := hD0.self (sz := s.heap.size)
  generalize hAe : va_A (MW md σ) s.heap.size = A at hD ⊢
  have hA : ∀ q : Nat, s.heap.size ≤ q → A q := fun q h => by rw [← hAe]; exact Or.inr h
  have hS : va_S A s.heap s.heap [] := va_S.rf
  have hP : va_P (mG md) classes (MW md σ) s.heap := hP
  have hl := lv_entry ([.ref (mA md 0), .int x0, .int x1, .int x2]) (n := 6) (Nat.le_of_ble_eq_true rfl)
  rw [lg_entry_eq]
  generalize (lg_sl ([.ref (mA md 0), .int x0, .int x1, .int x2]) ++ List.replicate (6 - (lg_sl ([.ref (mA md 0), .int x0, .int x1, .int x2])).length) Slot.unset).toArray = ls at hl ⊢
  have hl : lv_has ls 6 [(0, .ref (mA md 0)), (1, .int x0), (2, .int x1), (3, .int x2)] := hl
  have L10 : ∀ (v2 : Int32) (v3 : Int32) (n10 : Nat) (v4 : Int32) (v5 : Int32) (σ : MPS) (H : Heap) (locs : List Loc) (hP : va_P (mG md) classes (MW md σ) H) (hD : va_D A (MW md σ)) (hS : va_S A s.heap H locs) (ls : Array Slot) (hl : lv_has ls 6 [(0, .ref (mA md 0)), (2, .int v2), (3, .int v3), (4, .int v4), (5, .int v5)]) (hE : w_M_wasHad_L10 v2 v3 post n10 v4 v5 σ), W p l e (headSpec ws_M_wasHad { frames := 3, cells := 0, slots := 0, locals := 64 }).room s m ([.ref (mA md 0), .int x0, .int x1, .int x2] : List Value).toArray below meth c H locs 0 0 (MQ below (va_Qi post (eM md A) A) ([.ref (mA md 0), .int x0, .int x1, .int x2] : List Value).toArray s 0 0 A) (F0 m 10 ls []) := by
    intro v2 v3 n10
    induction n10 with
    | zero => intro v4 v5 σ H locs hP hD hS ls hl hE; exact hE.elim
    | succ n10 ih10 =>
      have J51 : ∀ (t0 : Int32) (σ : MPS) (H : Heap) (locs : List Loc) (hP : va_P (mG md) classes (MW md σ) H) (hD : va_D A (MW md σ)) (hS : va_S A s.heap H locs) (ls : Array Slot) (hl : lv_has ls 6 [(0, .ref (mA md 0)), (2, .int v2), (3, .int v3)]) (hE : w_M_wasHad_J51 v2 v3 (w_M_wasHad_L10 v2 v3 post n10) post t0 σ), W p l e (headSpec ws_M_wasHad { frames := 3, cells := 0, slots := 0, locals := 64 }).room s m ([.ref (mA md 0), .int x0, .int x1, .int x2] : List Value).toArray below meth c H locs 0 0 (MQ below (va_Qi post (eM md A) A) ([.ref (mA md 0), .int x0, .int x1, .int x2] : List Value).toArray s 0 0 A) (F0 m 51 ls [.int t0]) := by
        intro  t0 σ H locs hP hD hS ls hl hE
        unfold w_M_wasHad_J51 at hE
        refine lv_istore (lv' := [(4, .int t0), (0, .ref (mA md 0)), (2, .int v2), (3, .int v3)]) hx hb d_M_wasHad_51 hl (by decide) rfl (fun ls hl => ?_)
        refine lv_aload_n hx hb d_M_wasHad_53 rfl (lv_at hl 1 rfl) ?_
        refine va_get (D := (mG md)) (ci := 7) (v := .int (mp_valueEnd σ)) (C := R_M) (T := F_M) (N := 37) hx hb hta i_M hown hK hP 0 rfl rfl 22 (by decide) (hta _ fl_M_151) (fun _ h9 => h9) rfl d_M_wasHad_54 ?_
        refine lv_iconst (v := 1) hx hb d_M_wasHad_57 (by decide) ?_
        refine lv_iadd hx hb d_M_wasHad_58 ?_
        refine lv_istore (lv' := [(5, .int ((mp_valueEnd σ) + 1)), (4, .int t0), (0, .ref (mA md 0)), (2, .int v2), (3, .int v3)]) hx hb d_M_wasHad_59 hl (by decide) rfl (fun ls hl => ?_)
        refine lv_goto (tgt := 10) hx hb d_M_wasHad_61 (by decide) ?_
        exact ih10 t0 ((mp_valueEnd σ) + 1) σ _ _ hP hD hS _ (lv_sub hl [2, 3, 4, 1, 0] rfl) hE
      have J50 : ∀ (σ : MPS) (H : Heap) (locs : List Loc) (hP : va_P (mG md) classes (MW md σ) H) (hD : va_D A (MW md σ)) (hS : va_S A s.heap H locs) (ls : Array Slot) (hl : lv_has ls 6 [(0, .ref (mA md 0)), (2, .int v2), (3, .int v3)]) (hE : w_M_wasHad_J50 v2 v3 (w_M_wasHad_L10 v2 v3 post n10) post σ), W p l e (headSpec ws_M_wasHad { frames := 3, cells := 0, slots := 0, locals := 64 }).room s m ([.ref (mA md 0), .int x0, .int x1, .int x2] : List Value).toArray below meth c H locs 0 0 (MQ below (va_Qi post (eM md A) A) ([.ref (mA md 0), .int x0, .int x1, .int x2] : List Value).toArray s 0 0 A) (F0 m 50 ls []) := by
        intro  σ H locs hP hD hS ls hl hE
        unfold w_M_wasHad_J50 at hE
        refine lv_iconst (v := 0) hx hb d_M_wasHad_50 (by decide) ?_
        exact J51  0 σ _ _ hP hD hS _ (lv_sub hl [0, 1, 2] rfl) hE
      intro v4 v5 σ H locs hP hD hS ls hl hE
      unfold w_M_wasHad_L10 at hE
      refine lv_iload hx hb d_M_wasHad_10 (lv_at hl 3 rfl) ?_
      refine lv_if_ne (tgt := 64) hx hb d_M_wasHad_12 (by decide) (fun cc12 => ?_) (fun cc12 => ?_)
      · have hE := hE.2 cc12
        refine lv_iload hx hb d_M_wasHad_64 (lv_at hl 3 rfl) ?_
        obtain ⟨hN, hE⟩ := hE
        exact W.zret (v := v4) hx hb hr hN (fun t ht hW => ⟨⟨_, σ, rfl, hE, by rw [ht]; exact hP, va_K.moved hW.alike hK, hD⟩, hS.F ht⟩) hS.2.2 d_M_wasHad_66
      · have hE := hE.1 cc12
        refine lv_aload_n hx hb d_M_wasHad_15 rfl (lv_at hl 0 rfl) ?_
        refine lv_iload hx hb d_M_wasHad_16 (lv_at hl 4 rfl) ?_
        refine lv_iload_n hx hb d_M_wasHad_18 rfl (lv_at hl 1 rfl) ?_
        refine mm_i (b0 := (mA md 0)) (As := [.int v5, .int v2]) (rest := []) ⟨hx, hb, hml, hown, hta⟩ (c_M_nextAttribute l md _ σ v5 v2 _ hE) ok_M_157 ⟨Nat.le_of_ble_eq_true rfl, Nat.le_of_ble_eq_true rfl⟩ (va_recv hK hP (ci := 7) (q0 := 0) rfl rfl) hP hK hD hS hA rfl hl.1 rfl (Nat.le_of_ble_eq_true rfl) d_M_wasHad_19 ⟨Nat.zero_le _, Nat.zero_le _⟩ (fun r19 σ19 H locs hE hP hD hS => ?_)
        refine lv_if_eq (tgt := 64) hx hb d_M_wasHad_22 (by decide) (fun cc22 => ?_) (fun cc22 => ?_)
        · have hE := hE.1 cc22
          refine lv_iload hx hb d_M_wasHad_64 (lv_at hl 3 rfl) ?_
          obtain ⟨hN, hE⟩ := hE
          exact W.zret (v := v4) hx hb hr hN (fun t ht hW => ⟨⟨_, σ19, rfl, hE, by rw [ht]; exact hP, va_K.moved hW.alike hK, hD⟩, hS.F ht⟩) hS.2.2 d_M_wasHad_66
        · have hE := hE.2 cc22
          refine lv_aload_n hx hb d_M_wasHad_25 rfl (lv_at hl 0 rfl) ?_
          refine va_get (D := (mG md)) (ci := 7) (v := .int (mp_nameMany σ19)) (C := R_M) (T := F_M) (N := 37) hx hb hta i_M hown hK hP 0 rfl rfl 20 (by decide) (hta _ fl_M_145) (fun _ h9 => h9) rfl d_M_wasHad_26 ?_
          refine lv_iload_n hx hb d_M_wasHad_29 rfl (lv_at hl 2 rfl) ?_
          refine lv_icmp_ne (tgt := 50) hx hb d_M_wasHad_30 (by decide) (fun cc30 => ?_) (fun cc30 => ?_)
          · have hE := hE.2 cc30
            exact J50  σ19 _ _ hP hD hS _ (lv_sub hl [0, 1, 2] rfl) hE
          · have hE := hE.1 cc30
            refine lv_aload_n hx hb d_M_wasHad_33 rfl (lv_at hl 0 rfl) ?_
            refine lv_aload_n hx hb d_M_wasHad_34 rfl (lv_at hl 0 rfl) ?_
            refine va_get (D := (mG md)) (ci := 7) (v := .int (mp_nameAt σ19)) (C := R_M) (T := F_M) (N := 37) hx hb hta i_M hown hK hP 0 rfl rfl 19 (by decide) (hta _ fl_M_142) (fun _ h9 => h9) rfl d_M_wasHad_35 ?_
            refine lv_iload_n hx hb d_M_wasHad_38 rfl (lv_at hl 1 rfl) ?_
            refine lv_iload_n hx hb d_M_wasHad_39 rfl (lv_at hl 2 rfl) ?_
            refine ro_V (b0 := (mA md 0)) (As := [.int (mp_nameAt σ19), .int v2, .int v3]) (rest := []) ⟨hx, hb, hml, hown, hta⟩ (c_M_areAlike l md σ19 (mp_nameAt σ19) v2 v3  _ hE) ok_M_161 ⟨Nat.le_of_ble_eq_true rfl, Nat.le_of_ble_eq_true rfl⟩ blind_rM (va_recv hK hP (ci := 7) (q0 := 0) rfl rfl) (rM_of hP hK) rfl hl.1 rfl (Nat.le_of_ble_eq_true rfl) d_M_wasHad_40 ⟨Nat.zero_le _, Nat.zero_le _⟩ (fun r40 hE => ?_)
            refine lv_if_eq (tgt := 50) hx hb d_M_wasHad_43 (by decide) (fun cc43 => ?_) (fun cc43 => ?_)
            · have hE := hE.1 cc43
              exact J50  σ19 _ _ hP hD hS _ (lv_sub hl [0, 1, 2] rfl) hE
            · have hE := hE.2 cc43
              refine lv_iconst (v := 1) hx hb d_M_wasHad_46 (by decide) ?_
              refine lv_goto (tgt := 51) hx hb d_M_wasHad_47 (by decide) ?_
              exact J51  1 σ19 _ _ hP hD hS _ (lv_sub hl [0, 1, 2] rfl) hE
  unfold w_M_wasHad at hE
  refine lv_iconst (v := 0) hx hb d_M_wasHad_0 (by decide) ?_
  refine lv_istore (lv' := [(4, .int 0), (0, .ref (mA md 0)), (1, .int x0), (2, .int x1), (3, .int x2)]) hx hb d_M_wasHad_1 hl (by decide) rfl (fun ls hl => ?_)
  refine lv_aload_n hx hb d_M_wasHad_3 rfl (lv_at hl 1 rfl) ?_
  refine lv_iload_n hx hb d_M_wasHad_4 rfl (lv_at hl 2 rfl) ?_
  refine ro_V (b0 := (mA md 0)) (As := [.int x0]) (rest := []) ⟨hx, hb, hml, hown, hta⟩ (c_M_behindName l md σ x0  _ hE) ok_M_154 ⟨Nat.le_of_ble_eq_true rfl, Nat.le_of_ble_eq_true rfl⟩ blind_rM (va_recv hK hP (ci := 7) (q0 := 0) rfl rfl) (rM_of hP hK) rfl hl.1 rfl (Nat.le_of_ble_eq_true rfl) d_M_wasHad_5 ⟨Nat.zero_le _, Nat.zero_le _⟩ (fun r5 hE => ?_)
  refine lv_istore (lv' := [(5, .int r5), (4, .int 0), (0, .ref (mA md 0)), (1, .int x0), (2, .int x1), (3, .int x2)]) hx hb d_M_wasHad_8 hl (by decide) rfl (fun ls hl => ?_)
  obtain ⟨n10, hE⟩ := hE
  exact L10 x1 x2 n10 0 r5 σ _ _ hP hD hS _ (lv_sub hl [2, 4, 5, 1, 0] rfl) hE
theorem ok_M_165 : okV "PlainPagesModel" 165 R_M y_M_takeName b_M_takeName 2 (some .int) 0 := ⟨aW_in 1060 (by decide +kernel) rfl, aW_in 1062 (by decide +kernel) rfl, aW_in 45 (by decide +kernel) rfl, aW_in 92 (by decide +kernel) rfl, cd_M_takeName, rfl, by decide +kernel, by decide +kernel, by decide +kernel⟩
theorem ok_M_169 : okV "PlainPagesModel" 169 R_M y_M_wasHad b_M_wasHad 6 (some .boolean) 3 := ⟨aW_in 1081 (by decide +kernel) rfl, aW_in 1083 (by decide +kernel) rfl, aW_in 48 (by decide +kernel) rfl, aW_in 92 (by decide +kernel) rfl, cd_M_wasHad, rfl, by decide +kernel, by decide +kernel, by decide +kernel⟩
theorem ok_M_172 : okV "PlainPagesModel" 172 R_M y_M_takeCharacter b_M_takeCharacter 1 none 0 := ⟨aW_in 1097 (by decide +kernel) rfl, aW_in 1099 (by decide +kernel) rfl, aW_in 52 (by decide +kernel) rfl, aW_in 92 (by decide +kernel) rfl, cd_M_takeCharacter, rfl, by decide +kernel, by decide +kernel, by decide +kernel⟩
theorem d_M_takeAttribute_0 : decode b_M_takeAttribute 0 = .ok (.aload_n 0, 1) := by decide +kernel
theorem d_M_takeAttribute_1 : decode b_M_takeAttribute 1 = .ok (.getfield 101, 3) := by decide +kernel
theorem d_M_takeAttribute_4 : decode b_M_takeAttribute 4 = .ok (.istore_n 2, 1) := by decide +kernel
theorem d_M_takeAttribute_5 : decode b_M_takeAttribute 5 = .ok (.aload_n 0, 1) := by decide +kernel
theorem d_M_takeAttribute_6 : decode b_M_takeAttribute 6 = .ok (.invokevirtual 165, 3) := by decide +kernel
theorem d_M_takeAttribute_9 : decode b_M_takeAttribute 9 = .ok (.istore_n 3, 1) := by decide +kernel
theorem d_M_takeAttribute_10 : decode b_M_takeAttribute 10 = .ok (.aload_n 0, 1) := by decide +kernel
theorem d_M_takeAttribute_11 : decode b_M_takeAttribute 11 = .ok (.getfield 111, 3) := by decide +kernel
theorem d_M_takeAttribute_14 : decode b_M_takeAttribute 14 = .ok (.ifCond .eq 4, 3) := by decide +kernel
theorem d_M_takeAttribute_17 : decode b_M_takeAttribute 17 = .ok (.return_, 1) := by decide +kernel
theorem d_M_takeAttribute_18 : decode b_M_takeAttribute 18 = .ok (.aload_n 0, 1) := by decide +kernel
theorem d_M_takeAttribute_19 : decode b_M_takeAttribute 19 = .ok (.iload_n 1, 1) := by decide +kernel
theorem d_M_takeAttribute_20 : decode b_M_takeAttribute 20 = .ok (.iload_n 2, 1) := by decide +kernel
theorem d_M_takeAttribute_21 : decode b_M_takeAttribute 21 = .ok (.iload_n 3, 1) := by decide +kernel
theorem d_M_takeAttribute_22 : decode b_M_takeAttribute 22 = .ok (.invokevirtual 169, 3) := by decide +kernel
theorem d_M_takeAttribute_25 : decode b_M_takeAttribute 25 = .ok (.ifCond .eq 14, 3) := by decide +kernel
theorem d_M_takeAttribute_28 : decode b_M_takeAttribute 28 = .ok (.aload_n 0, 1) := by decide +kernel
theorem d_M_takeAttribute_29 : decode b_M_takeAttribute 29 = .ok (.iload_n 2, 1) := by decide +kernel
theorem d_M_takeAttribute_30 : decode b_M_takeAttribute 30 = .ok (.putfield 101, 3) := by decide +kernel
theorem d_M_takeAttribute_33 : decode b_M_takeAttribute 33 = .ok (.aload_n 0, 1) := by decide +kernel
theorem d_M_takeAttribute_34 : decode b_M_takeAttribute 34 = .ok (.iconst 1, 1) := by decide +kernel
theorem d_M_takeAttribute_35 : decode b_M_takeAttribute 35 = .ok (.putfield 111, 3) := by decide +kernel
theorem d_M_takeAttribute_38 : decode b_M_takeAttribute 38 = .ok (.return_, 1) := by decide +kernel
theorem d_M_takeAttribute_39 : decode b_M_takeAttribute 39 = .ok (.aload_n 0, 1) := by decide +kernel
theorem d_M_takeAttribute_40 : decode b_M_takeAttribute 40 = .ok (.aload_n 0, 1) := by decide +kernel
theorem d_M_takeAttribute_41 : decode b_M_takeAttribute 41 = .ok (.getfield 101, 3) := by decide +kernel
theorem d_M_takeAttribute_44 : decode b_M_takeAttribute 44 = .ok (.invokevirtual 95, 3) := by decide +kernel
theorem d_M_takeAttribute_47 : decode b_M_takeAttribute 47 = .ok (.bipush 61, 2) := by decide +kernel
theorem d_M_takeAttribute_49 : decode b_M_takeAttribute 49 = .ok (.if_icmp .eq 11, 3) := by decide +kernel
theorem d_M_takeAttribute_52 : decode b_M_takeAttribute 52 = .ok (.aload_n 0, 1) := by decide +kernel
theorem d_M_takeAttribute_53 : decode b_M_takeAttribute 53 = .ok (.iconst 1, 1) := by decide +kernel
theorem d_M_takeAttribute_54 : decode b_M_takeAttribute 54 = .ok (.putfield 111, 3) := by decide +kernel
theorem d_M_takeAttribute_57 : decode b_M_takeAttribute 57 = .ok (.goto 13, 3) := by decide +kernel
theorem d_M_takeAttribute_60 : decode b_M_takeAttribute 60 = .ok (.aload_n 0, 1) := by decide +kernel
theorem d_M_takeAttribute_61 : decode b_M_takeAttribute 61 = .ok (.dup, 1) := by decide +kernel
theorem d_M_takeAttribute_62 : decode b_M_takeAttribute 62 = .ok (.getfield 101, 3) := by decide +kernel
theorem d_M_takeAttribute_65 : decode b_M_takeAttribute 65 = .ok (.iconst 1, 1) := by decide +kernel
theorem d_M_takeAttribute_66 : decode b_M_takeAttribute 66 = .ok (.iadd, 1) := by decide +kernel
theorem d_M_takeAttribute_67 : decode b_M_takeAttribute 67 = .ok (.putfield 101, 3) := by decide +kernel
theorem d_M_takeAttribute_70 : decode b_M_takeAttribute 70 = .ok (.aload_n 0, 1) := by decide +kernel
theorem d_M_takeAttribute_71 : decode b_M_takeAttribute 71 = .ok (.getfield 111, 3) := by decide +kernel
theorem d_M_takeAttribute_74 : decode b_M_takeAttribute 74 = .ok (.ifCond .ne 16, 3) := by decide +kernel
theorem d_M_takeAttribute_77 : decode b_M_takeAttribute 77 = .ok (.aload_n 0, 1) := by decide +kernel
theorem d_M_takeAttribute_78 : decode b_M_takeAttribute 78 = .ok (.aload_n 0, 1) := by decide +kernel
theorem d_M_takeAttribute_79 : decode b_M_takeAttribute 79 = .ok (.getfield 101, 3) := by decide +kernel
theorem d_M_takeAttribute_82 : decode b_M_takeAttribute 82 = .ok (.invokevirtual 95, 3) := by decide +kernel
theorem d_M_takeAttribute_85 : decode b_M_takeAttribute 85 = .ok (.bipush 34, 2) := by decide +kernel
theorem d_M_takeAttribute_87 : decode b_M_takeAttribute 87 = .ok (.if_icmp .eq 9, 3) := by decide +kernel
theorem d_M_takeAttribute_90 : decode b_M_takeAttribute 90 = .ok (.aload_n 0, 1) := by decide +kernel
theorem d_M_takeAttribute_91 : decode b_M_takeAttribute 91 = .ok (.iconst 1, 1) := by decide +kernel
theorem d_M_takeAttribute_92 : decode b_M_takeAttribute 92 = .ok (.putfield 111, 3) := by decide +kernel
theorem d_M_takeAttribute_95 : decode b_M_takeAttribute 95 = .ok (.return_, 1) := by decide +kernel
theorem d_M_takeAttribute_96 : decode b_M_takeAttribute 96 = .ok (.aload_n 0, 1) := by decide +kernel
theorem d_M_takeAttribute_97 : decode b_M_takeAttribute 97 = .ok (.dup, 1) := by decide +kernel
theorem d_M_takeAttribute_98 : decode b_M_takeAttribute 98 = .ok (.getfield 101, 3) := by decide +kernel
theorem d_M_takeAttribute_101 : decode b_M_takeAttribute 101 = .ok (.iconst 1, 1) := by decide +kernel
theorem d_M_takeAttribute_102 : decode b_M_takeAttribute 102 = .ok (.iadd, 1) := by decide +kernel
theorem d_M_takeAttribute_103 : decode b_M_takeAttribute 103 = .ok (.putfield 101, 3) := by decide +kernel
theorem d_M_takeAttribute_106 : decode b_M_takeAttribute 106 = .ok (.aload_n 0, 1) := by decide +kernel
theorem d_M_takeAttribute_107 : decode b_M_takeAttribute 107 = .ok (.getfield 111, 3) := by decide +kernel
theorem d_M_takeAttribute_110 : decode b_M_takeAttribute 110 = .ok (.ifCond .ne 55, 3) := by decide +kernel
theorem d_M_takeAttribute_113 : decode b_M_takeAttribute 113 = .ok (.aload_n 0, 1) := by decide +kernel
theorem d_M_takeAttribute_114 : decode b_M_takeAttribute 114 = .ok (.aload_n 0, 1) := by decide +kernel
theorem d_M_takeAttribute_115 : decode b_M_takeAttribute 115 = .ok (.getfield 101, 3) := by decide +kernel
theorem d_M_takeAttribute_118 : decode b_M_takeAttribute 118 = .ok (.invokevirtual 95, 3) := by decide +kernel
theorem d_M_takeAttribute_121 : decode b_M_takeAttribute 121 = .ok (.bipush 34, 2) := by decide +kernel
theorem d_M_takeAttribute_123 : decode b_M_takeAttribute 123 = .ok (.if_icmp .eq 42, 3) := by decide +kernel
theorem d_M_takeAttribute_126 : decode b_M_takeAttribute 126 = .ok (.aload_n 0, 1) := by decide +kernel
theorem d_M_takeAttribute_127 : decode b_M_takeAttribute 127 = .ok (.getfield 101, 3) := by decide +kernel
theorem d_M_takeAttribute_130 : decode b_M_takeAttribute 130 = .ok (.aload_n 0, 1) := by decide +kernel
theorem d_M_takeAttribute_131 : decode b_M_takeAttribute 131 = .ok (.getfield 92, 3) := by decide +kernel
theorem d_M_takeAttribute_134 : decode b_M_takeAttribute 134 = .ok (.if_icmp .ge 16, 3) := by decide +kernel
theorem d_M_takeAttribute_137 : decode b_M_takeAttribute 137 = .ok (.aload_n 0, 1) := by decide +kernel
theorem d_M_takeAttribute_138 : decode b_M_takeAttribute 138 = .ok (.aload_n 0, 1) := by decide +kernel
theorem d_M_takeAttribute_139 : decode b_M_takeAttribute 139 = .ok (.getfield 101, 3) := by decide +kernel
theorem d_M_takeAttribute_142 : decode b_M_takeAttribute 142 = .ok (.invokevirtual 95, 3) := by decide +kernel
theorem d_M_takeAttribute_145 : decode b_M_takeAttribute 145 = .ok (.bipush 60, 2) := by decide +kernel
theorem d_M_takeAttribute_147 : decode b_M_takeAttribute 147 = .ok (.if_icmp .ne 11, 3) := by decide +kernel
theorem d_M_takeAttribute_150 : decode b_M_takeAttribute 150 = .ok (.aload_n 0, 1) := by decide +kernel
theorem d_M_takeAttribute_151 : decode b_M_takeAttribute 151 = .ok (.iconst 1, 1) := by decide +kernel
theorem d_M_takeAttribute_152 : decode b_M_takeAttribute 152 = .ok (.putfield 111, 3) := by decide +kernel
theorem d_M_takeAttribute_155 : decode b_M_takeAttribute 155 = .ok (.goto (-49), 3) := by decide +kernel
theorem d_M_takeAttribute_158 : decode b_M_takeAttribute 158 = .ok (.aload_n 0, 1) := by decide +kernel
theorem d_M_takeAttribute_159 : decode b_M_takeAttribute 159 = .ok (.invokevirtual 172, 3) := by decide +kernel
theorem d_M_takeAttribute_162 : decode b_M_takeAttribute 162 = .ok (.goto (-56), 3) := by decide +kernel
theorem d_M_takeAttribute_165 : decode b_M_takeAttribute 165 = .ok (.aload_n 0, 1) := by decide +kernel
theorem d_M_takeAttribute_166 : decode b_M_takeAttribute 166 = .ok (.getfield 111, 3) := by decide +kernel
theorem d_M_takeAttribute_169 : decode b_M_takeAttribute 169 = .ok (.ifCond .ne 13, 3) := by decide +kernel
theorem d_M_takeAttribute_172 : decode b_M_takeAttribute 172 = .ok (.aload_n 0, 1) := by decide +kernel
theorem d_M_takeAttribute_173 : decode b_M_takeAttribute 173 = .ok (.dup, 1) := by decide +kernel
theorem d_M_takeAttribute_174 : decode b_M_takeAttribute 174 = .ok (.getfield 101, 3) := by decide +kernel
theorem d_M_takeAttribute_177 : decode b_M_takeAttribute 177 = .ok (.iconst 1, 1) := by decide +kernel
theorem d_M_takeAttribute_178 : decode b_M_takeAttribute 178 = .ok (.iadd, 1) := by decide +kernel
theorem d_M_takeAttribute_179 : decode b_M_takeAttribute 179 = .ok (.putfield 101, 3) := by decide +kernel
theorem d_M_takeAttribute_182 : decode b_M_takeAttribute 182 = .ok (.return_, 1) := by decide +kernel
def w_M_takeAttribute_J165   (post : MPS → Prop) (σ : MPS) : Prop := (((mp_bad σ) = 0 → (∀ σ179 : MPS, σ179 = ms_at σ ((mp_at σ) + 1) → post σ179)) ∧ (¬ (mp_bad σ) = 0 → post σ))
def w_M_takeAttribute_J150   (K106 : MPS → Prop) (post : MPS → Prop) (σ : MPS) : Prop := (∀ σ152 : MPS, σ152 = ms_bad σ 1 → K106 σ152)
def w_M_takeAttribute_L106   (post : MPS → Prop) : Nat → MPS → Prop
  | 0, _ => False
  | n106 + 1, σ => (((mp_bad σ) = 0 → (mXk σ (mp_at σ) ∧ (((mX σ (mp_at σ)) = 34 → w_M_takeAttribute_J165 post σ) ∧ (¬ (mX σ (mp_at σ)) = 34 → (((mp_size σ) ≤ (mp_at σ) → w_M_takeAttribute_J150 (w_M_takeAttribute_L106 post n106) post σ) ∧ (¬ (mp_size σ) ≤ (mp_at σ) → (mXk σ (mp_at σ) ∧ (((mX σ (mp_at σ)) = 60 → w_M_takeAttribute_J150 (w_M_takeAttribute_L106 post n106) post σ) ∧ (¬ (mX σ (mp_at σ)) = 60 → w_M_takeCharacter σ  (fun σ159 => w_M_takeAttribute_L106 post n106 σ159)))))))))) ∧ (¬ (mp_bad σ) = 0 → w_M_takeAttribute_J165 post σ))
def w_M_takeAttribute_J90   (post : MPS → Prop) (σ : MPS) : Prop := (∀ σ92 : MPS, σ92 = ms_bad σ 1 → post σ92)
def w_M_takeAttribute_J70   (post : MPS → Prop) (σ : MPS) : Prop := (((mp_bad σ) = 0 → (mXk σ (mp_at σ) ∧ (((mX σ (mp_at σ)) = 34 → (∀ σ103 : MPS, σ103 = ms_at σ ((mp_at σ) + 1) → (∃ n106, w_M_takeAttribute_L106 post n106 σ103))) ∧ (¬ (mX σ (mp_at σ)) = 34 → w_M_takeAttribute_J90 post σ)))) ∧ (¬ (mp_bad σ) = 0 → w_M_takeAttribute_J90 post σ))
def w_M_takeAttribute  (σ : MPS) (x0 : Int32) (post : MPS → Prop) : Prop := w_M_takeName σ  (fun r6 σ6 => (((mp_bad σ6) = 0 → w_M_wasHad σ6 x0 (mp_at σ) r6 (fun r22 σ22 => ((r22 = 0 → (mXk σ22 (mp_at σ22) ∧ (((mX σ22 (mp_at σ22)) = 61 → (∀ σ67 : MPS, σ67 = ms_at σ22 ((mp_at σ22) + 1) → w_M_takeAttribute_J70 post σ67)) ∧ (¬ (mX σ22 (mp_at σ22)) = 61 → (∀ σ54 : MPS, σ54 = ms_bad σ22 1 → w_M_takeAttribute_J70 post σ54))))) ∧ (¬ r22 = 0 → (∀ σ30 : MPS, σ30 = ms_at σ22 (mp_at σ) → (∀ σ35 : MPS, σ35 = ms_bad σ30 1 → post σ35)))))) ∧ (¬ (mp_bad σ6) = 0 → post σ6)))
set_option maxHeartbeats 4000000 in
set_option maxRecDepth 100000 in
theorem c_M_takeAttribute (l : Launch) (md : MD) (sz : Nat) (σ : MPS) (x0 : Int32)  (post : MPS → Prop) (hE : w_M_takeAttribute σ x0 post) : Met l y_M_takeAttribute ws_M_takeAttribute { frames := 4, cells := 0, slots := 0, locals := 93 } (va_Pc [.ref (mA md 0), .int x0] (gM md σ sz)) (va_Qv post (eM md (va_A (MW md σ) sz)) (va_A (MW md σ) sz)) 0 0 (va_A (MW md σ) sz) := by
  refine Met.ofW (cc := b_M_takeAttribute) (maxL := 4) (ret := none) (by decide) rfl ?_
  intro p e s m args below meth c s₁ B hml hv
  obtain ⟨rfl, hsz, hP, hK, hD0⟩ := hv
  have hx := B.exec
  have hb := B.bytes
  have hr := B.returns
  have hta : ∀ w ∈ aW, w.before _ s = true := fun w h => atoms_spec (ws := ws_M_takeAttribute) B.pre w (List.mem_cons_of_mem _ h)
  have hown : s.vm.findClass R_M = some m.cls := findClass_of_methodNamed B.named
  have hlocks := B.notSynchronized
  subst hsz
  have hD := hD0.self (sz := s.heap.size)
  generalize hAe : va_A (MW md σ) s.heap.size = A at hD ⊢
  have hA : ∀ q : Nat, s.heap.size ≤ q → A q := fun q h => by rw [← hAe]; exact Or.inr h
  have hS : va_S A s.heap s.heap [] := va_S.rf
  have hP : va_P (mG md) classes (MW md σ) s.heap := hP
  have hl := lv_entry ([.ref (mA md 0), .int x0]) (n := 4) (Nat.le_of_ble_eq_true rfl)
  rw [lg_entry_eq]
  generalize (lg_sl ([.ref (mA md 0), .int x0]) ++ List.replicate (4 - (lg_sl ([.ref (mA md 0), .int x0])).length) Slot.unset).toArray = ls at hl ⊢
  have hl : lv_has ls 4 [(0, .ref (mA md 0)), (1, .int x0)] := hl
  have J165 : ∀ (σ : MPS) (H : Heap) (locs : List Loc) (hP : va_P (mG md) classes (MW md σ) H) (hD : va_D A (MW md σ)) (hS : va_S A s.heap H locs) (ls : Array Slot) (hl : lv_has ls 4 [(0, .ref (mA md 0))]) (hE : w_M_takeAttribute_J165 post σ), W p l e (headSpec ws_M_takeAttribute { frames := 4, cells := 0, slots := 0, locals := 93 }).room s m ([.ref (mA md 0), .int x0] : List Value).toArray below meth c H locs 0 0 (MQ below (va_Qv post (eM md A) A) ([.ref (mA md 0), .int x0] : List Value).toArray s 0 0 A) (F0 m 165 ls []) := by
    intro  σ H locs hP hD hS ls hl hE
    unfold w_M_takeAttribute_J165 at hE
    refine lv_aload_n hx hb d_M_takeAttribute_165 rfl (lv_at hl 0 rfl) ?_
    refine va_get (D := (mG md)) (ci := 7) (v := .int (mp_bad σ)) (C := R_M) (T := F_M) (N := 37) hx hb hta i_M hown hK hP 0 rfl rfl 16 (by decide) (hta _ fl_M_111) (fun _ h9 => h9) rfl d_M_takeAttribute_166 ?_
    refine lv_if_ne (tgt := 182) hx hb d_M_takeAttribute_169 (by decide) (fun cc169 => ?_) (fun cc169 => ?_)
    · have hE := hE.2 cc169
      exact W.vret hx hb hr (fun t ht hW => ⟨⟨σ, rfl, hE, by rw [ht]; exact hP, va_K.moved hW.alike hK, hD⟩, hS.F ht⟩) hS.2.2 d_M_takeAttribute_182
    · have hE := hE.1 cc169
      refine lv_aload_n hx hb d_M_takeAttribute_172 rfl (lv_at hl 0 rfl) ?_
      refine lv_dup hx hb d_M_takeAttribute_173 rfl ?_
      refine va_get (D := (mG md)) (ci := 7) (v := .int (mp_at σ)) (C := R_M) (T := F_M) (N := 37) hx hb hta i_M hown hK hP 0 rfl rfl 13 (by decide) (hta _ fl_M_101) (fun _ h9 => h9) rfl d_M_takeAttribute_174 ?_
      refine lv_iconst (v := 1) hx hb d_M_takeAttribute_177 (by decide) ?_
      refine lv_iadd hx hb d_M_takeAttribute_178 ?_
      refine va_put (D := (mG md)) (ci := 7) (v := .int ((mp_at σ) + 1)) (ty := .int) (C := R_M) (T := F_M) (N := 37) hx hb hta i_M t_M t_M_ok n_M hown hK hP hD hS 0 rfl rfl 13 (by decide) (hta _ fl_M_101) (fun _ h9 => h9) rfl (by decide +kernel) rfl rfl (Nat.le_of_ble_eq_true rfl) d_M_takeAttribute_179 (fun H locs hP hD hS => ?_)
      have hP := mwP_at hP
      have hD := mwD_at hD
      have hE := hE _ rfl
      generalize (ms_at σ ((mp_at σ) + 1) : MPS) = σ179 at hP hD hE
      exact W.vret hx hb hr (fun t ht hW => ⟨⟨σ179, rfl, hE, by rw [ht]; exact hP, va_K.moved hW.alike hK, hD⟩, hS.F ht⟩) hS.2.2 d_M_takeAttribute_182
  have L106 : ∀ (n106 : Nat) (σ : MPS) (H : Heap) (locs : List Loc) (hP : va_P (mG md) classes (MW md σ) H) (hD : va_D A (MW md σ)) (hS : va_S A s.heap H locs) (ls : Array Slot) (hl : lv_has ls 4 [(0, .ref (mA md 0))]) (hE : w_M_takeAttribute_L106 post n106 σ), W p l e (headSpec ws_M_takeAttribute { frames := 4, cells := 0, slots := 0, locals := 93 }).room s m ([.ref (mA md 0), .int x0] : List Value).toArray below meth c H locs 0 0 (MQ below (va_Qv post (eM md A) A) ([.ref (mA md 0), .int x0] : List Value).toArray s 0 0 A) (F0 m 106 ls []) := by
    intro n106
    induction n106 with
    | zero => intro σ H locs hP hD hS ls hl hE; exact hE.elim
    | succ n106 ih106 =>
      have J150 : ∀ (σ : MPS) (H : Heap) (locs : List Loc) (hP : va_P (mG md) classes (MW md σ) H) (hD : va_D A (MW md σ)) (hS : va_S A s.heap H locs) (ls : Array Slot) (hl : lv_has ls 4 [(0, .ref (mA md 0))]) (hE : w_M_takeAttribute_J150 (w_M_takeAttribute_L106 post n106) post σ), W p l e (headSpec ws_M_takeAttribute { frames := 4, cells := 0, slots := 0, locals := 93 }).room s m ([.ref (mA md 0), .int x0] : List Value).toArray below meth c H locs 0 0 (MQ below (va_Qv post (eM md A) A) ([.ref (mA md 0), .int x0] : List Value).toArray s 0 0 A) (F0 m 150 ls []) := by
        intro  σ H locs hP hD hS ls hl hE
        unfold w_M_takeAttribute_J150 at hE
        refine lv_aload_n hx hb d_M_takeAttribute_150 rfl (lv_at hl 0 rfl) ?_
        refine lv_iconst (v := 1) hx hb d_M_takeAttribute_151 (by decide) ?_
        refine va_put (D := (mG md)) (ci := 7) (v := .int 1) (ty := .boolean) (C := R_M) (T := F_M) (N := 37) hx hb hta i_M t_M t_M_ok n_M hown hK hP hD hS 0 rfl rfl 16 (by decide) (hta _ fl_M_111) (fun _ h9 => h9) rfl (by decide +kernel) rfl rfl (Nat.le_of_ble_eq_true rfl) d_M_takeAttribute_152 (fun H locs hP hD hS => ?_)
        have hP := mwP_bad hP
        have hD := mwD_bad hD
        have hE := hE _ rfl
        generalize (ms_bad σ 1 : MPS) = σ152 at hP hD hE
        refine lv_goto (tgt := 106) hx hb d_M_takeAttribute_155 (by decide) ?_
        exact ih106 σ152 _ _ hP hD hS _ (lv_sub hl [0] rfl) hE
      intro σ H locs hP hD hS ls hl hE
      unfold w_M_takeAttribute_L106 at hE
      refine lv_aload_n hx hb d_M_takeAttribute_106 rfl (lv_at hl 0 rfl) ?_
      refine va_get (D := (mG md)) (ci := 7) (v := .int (mp_bad σ)) (C := R_M) (T := F_M) (N := 37) hx hb hta i_M hown hK hP 0 rfl rfl 16 (by decide) (hta _ fl_M_111) (fun _ h9 => h9) rfl d_M_takeAttribute_107 ?_
      refine lv_if_ne (tgt := 165) hx hb d_M_takeAttribute_110 (by decide) (fun cc110 => ?_) (fun cc110 => ?_)
      · have hE := hE.2 cc110
        exact J165  σ _ _ hP hD hS _ (lv_sub hl [0] rfl) hE
      · have hE := hE.1 cc110
        refine lv_aload_n hx hb d_M_takeAttribute_113 rfl (lv_at hl 0 rfl) ?_
        refine lv_aload_n hx hb d_M_takeAttribute_114 rfl (lv_at hl 0 rfl) ?_
        refine va_get (D := (mG md)) (ci := 7) (v := .int (mp_at σ)) (C := R_M) (T := F_M) (N := 37) hx hb hta i_M hown hK hP 0 rfl rfl 13 (by decide) (hta _ fl_M_101) (fun _ h9 => h9) rfl d_M_takeAttribute_115 ?_
        obtain ⟨hc118_0, hE⟩ := hE
        refine ro_V (b0 := (mA md 0)) (As := [.int (mp_at σ)]) (rest := []) ⟨hx, hb, hml, hown, hta⟩ (f_M_x l md σ (mp_at σ) hc118_0) ok_M_95 ⟨Nat.le_of_ble_eq_true rfl, Nat.le_of_ble_eq_true rfl⟩ blind_rM (va_recv hK hP (ci := 7) (q0 := 0) rfl rfl) (rM_of hP hK) rfl hl.1 rfl (Nat.le_of_ble_eq_true rfl) d_M_takeAttribute_118 ⟨Nat.zero_le _, Nat.zero_le _⟩ (fun r118 hrr => ?_)
        subst hrr
        refine lv_bipush (v := 34) hx hb d_M_takeAttribute_121 (by decide) ?_
        refine lv_icmp_eq (tgt := 165) hx hb d_M_takeAttribute_123 (by decide) (fun cc123 => ?_) (fun cc123 => ?_)
        · have hE := hE.1 cc123
          exact J165  σ _ _ hP hD hS _ (lv_sub hl [0] rfl) hE
        · have hE := hE.2 cc123
          refine lv_aload_n hx hb d_M_takeAttribute_126 rfl (lv_at hl 0 rfl) ?_
          refine va_get (D := (mG md)) (ci := 7) (v := .int (mp_at σ)) (C := R_M) (T := F_M) (N := 37) hx hb hta i_M hown hK hP 0 rfl rfl 13 (by decide) (hta _ fl_M_101) (fun _ h9 => h9) rfl d_M_takeAttribute_127 ?_
          refine lv_aload_n hx hb d_M_takeAttribute_130 rfl (lv_at hl 0 rfl) ?_
          refine va_get (D := (mG md)) (ci := 7) (v := .int (mp_size σ)) (C := R_M) (T := F_M) (N := 37) hx hb hta i_M hown hK hP 0 rfl rfl 7 (by decide) (hta _ fl_M_92) (fun _ h9 => h9) rfl d_M_takeAttribute_131 ?_
          refine lv_icmp_ge (tgt := 150) hx hb d_M_takeAttribute_134 (by decide) (fun cc134 => ?_) (fun cc134 => ?_)
          · have hE := hE.1 cc134
            exact J150  σ _ _ hP hD hS _ (lv_sub hl [0] rfl) hE
          · have hE := hE.2 cc134
            refine lv_aload_n hx hb d_M_takeAttribute_137 rfl (lv_at hl 0 rfl) ?_
            refine lv_aload_n hx hb d_M_takeAttribute_138 rfl (lv_at hl 0 rfl) ?_
            refine va_get (D := (mG md)) (ci := 7) (v := .int (mp_at σ)) (C := R_M) (T := F_M) (N := 37) hx hb hta i_M hown hK hP 0 rfl rfl 13 (by decide) (hta _ fl_M_101) (fun _ h9 => h9) rfl d_M_takeAttribute_139 ?_
            obtain ⟨hc142_0, hE⟩ := hE
            refine ro_V (b0 := (mA md 0)) (As := [.int (mp_at σ)]) (rest := []) ⟨hx, hb, hml, hown, hta⟩ (f_M_x l md σ (mp_at σ) hc142_0) ok_M_95 ⟨Nat.le_of_ble_eq_true rfl, Nat.le_of_ble_eq_true rfl⟩ blind_rM (va_recv hK hP (ci := 7) (q0 := 0) rfl rfl) (rM_of hP hK) rfl hl.1 rfl (Nat.le_of_ble_eq_true rfl) d_M_takeAttribute_142 ⟨Nat.zero_le _, Nat.zero_le _⟩ (fun r142 hrr => ?_)
            subst hrr
            refine lv_bipush (v := 60) hx hb d_M_takeAttribute_145 (by decide) ?_
            refine lv_icmp_ne (tgt := 158) hx hb d_M_takeAttribute_147 (by decide) (fun cc147 => ?_) (fun cc147 => ?_)
            · have hE := hE.2 cc147
              refine lv_aload_n hx hb d_M_takeAttribute_158 rfl (lv_at hl 0 rfl) ?_
              refine mm_v (b0 := (mA md 0)) (As := []) (rest := []) ⟨hx, hb, hml, hown, hta⟩ (c_M_takeCharacter l md _ σ  _ hE) ok_M_172 ⟨Nat.le_of_ble_eq_true rfl, Nat.le_of_ble_eq_true rfl⟩ (va_recv hK hP (ci := 7) (q0 := 0) rfl rfl) hP hK hD hS hA rfl hl.1 rfl (Nat.le_of_ble_eq_true rfl) d_M_takeAttribute_159 ⟨Nat.zero_le _, Nat.zero_le _⟩ (fun σ159 H locs hE hP hD hS => ?_)
              refine lv_goto (tgt := 106) hx hb d_M_takeAttribute_162 (by decide) ?_
              exact ih106 σ159 _ _ hP hD hS _ (lv_sub hl [0] rfl) hE
            · have hE := hE.1 cc147
              exact J150  σ _ _ hP hD hS _ (lv_sub hl [0] rfl) hE
  have J90 : ∀ (σ : MPS) (H : Heap) (locs : List Loc) (hP : va_P (mG md) classes (MW md σ) H) (hD : va_D A (MW md σ)) (hS : va_S A s.heap H locs) (ls : Array Slot) (hl : lv_has ls 4 [(0, .ref (mA md 0))]) (hE : w_M_takeAttribute_J90 post σ), W p l e (headSpec ws_M_takeAttribute { frames := 4, cells := 0, slots := 0, locals := 93 }).room s m ([.ref (mA md 0), .int x0] : List Value).toArray below meth c H locs 0 0 (MQ below (va_Qv post (eM md A) A) ([.ref (mA md 0), .int x0] : List Value).toArray s 0 0 A) (F0 m 90 ls []) := by
    intro  σ H locs hP hD hS ls hl hE
    unfold w_M_takeAttribute_J90 at hE
    refine lv_aload_n hx hb d_M_takeAttribute_90 rfl (lv_at hl 0 rfl) ?_
    refine lv_iconst (v := 1) hx hb d_M_takeAttribute_91 (by decide) ?_
    refine va_put (D := (mG md)) (ci := 7) (v := .int 1) (ty := .boolean) (C := R_M) (T := F_M) (N := 37) hx hb hta i_M t_M t_M_ok n_M hown hK hP hD hS 0 rfl rfl 16 (by decide) (hta _ fl_M_111) (fun _ h9 => h9) rfl (by decide +kernel) rfl rfl (Nat.le_of_ble_eq_true rfl) d_M_takeAttribute_92 (fun H locs hP hD hS => ?_)
    have hP := mwP_bad hP
    have hD := mwD_bad hD
    have hE := hE _ rfl
    generalize (ms_bad σ 1 : MPS) = σ92 at hP hD hE
    exact W.vret hx hb hr (fun t ht hW => ⟨⟨σ92, rfl, hE, by rw [ht]; exact hP, va_K.moved hW.alike hK, hD⟩, hS.F ht⟩) hS.2.2 d_M_takeAttribute_95
  have J70 : ∀ (σ : MPS) (H : Heap) (locs : List Loc) (hP : va_P (mG md) classes (MW md σ) H) (hD : va_D A (MW md σ)) (hS : va_S A s.heap H locs) (ls : Array Slot) (hl : lv_has ls 4 [(0, .ref (mA md 0))]) (hE : w_M_takeAttribute_J70 post σ), W p l e (headSpec ws_M_takeAttribute { frames := 4, cells := 0, slots := 0, locals := 93 }).room s m ([.ref (mA md 0), .int x0] : List Value).toArray below meth c H locs 0 0 (MQ below (va_Qv post (eM md A) A) ([.ref (mA md 0), .int x0] : List Value).toArray s 0 0 A) (F0 m 70 ls []) := by
    intro  σ H locs hP hD hS ls hl hE
    unfold w_M_takeAttribute_J70 at hE
    refine lv_aload_n hx hb d_M_takeAttribute_70 rfl (lv_at hl 0 rfl) ?_
    refine va_get (D := (mG md)) (ci := 7) (v := .int (mp_bad σ)) (C := R_M) (T := F_M) (N := 37) hx hb hta i_M hown hK hP 0 rfl rfl 16 (by decide) (hta _ fl_M_111) (fun _ h9 => h9) rfl d_M_takeAttribute_71 ?_
    refine lv_if_ne (tgt := 90) hx hb d_M_takeAttribute_74 (by decide) (fun cc74 => ?_) (fun cc74 => ?_)
    · have hE := hE.2 cc74
      exact J90  σ _ _ hP hD hS _ (lv_sub hl [0] rfl) hE
    · have hE := hE.1 cc74
      refine lv_aload_n hx hb d_M_takeAttribute_77 rfl (lv_at hl 0 rfl) ?_
      refine lv_aload_n hx hb d_M_takeAttribute_78 rfl (lv_at hl 0 rfl) ?_
      refine va_get (D := (mG md)) (ci := 7) (v := .int (mp_at σ)) (C := R_M) (T := F_M) (N := 37) hx hb hta i_M hown hK hP 0 rfl rfl 13 (by decide) (hta _ fl_M_101) (fun _ h9 => h9) rfl d_M_takeAttribute_79 ?_
      obtain ⟨hc82_0, hE⟩ := hE
      refine ro_V (b0 := (mA md 0)) (As := [.int (mp_at σ)]) (rest := []) ⟨hx, hb, hml, hown, hta⟩ (f_M_x l md σ (mp_at σ) hc82_0) ok_M_95 ⟨Nat.le_of_ble_eq_true rfl, Nat.le_of_ble_eq_true rfl⟩ blind_rM (va_recv hK hP (ci := 7) (q0 := 0) rfl rfl) (rM_of hP hK) rfl hl.1 rfl (Nat.le_of_ble_eq_true rfl) d_M_takeAttribute_82 ⟨Nat.zero_le _, Nat.zero_le _⟩ (fun r82 hrr => ?_)
      subst hrr
      refine lv_bipush (v := 34) hx hb d_M_takeAttribute_85 (by decide) ?_
      refine lv_icmp_eq (tgt := 96) hx hb d_M_takeAttribute_87 (by decide) (fun cc87 => ?_) (fun cc87 => ?_)
      · have hE := hE.1 cc87
        refine lv_aload_n hx hb d_M_takeAttribute_96 rfl (lv_at hl 0 rfl) ?_
        refine lv_dup hx hb d_M_takeAttribute_97 rfl ?_
        refine va_get (D := (mG md)) (ci := 7) (v := .int (mp_at σ)) (C := R_M) (T := F_M) (N := 37) hx hb hta i_M hown hK hP 0 rfl rfl 13 (by decide) (hta _ fl_M_101) (fun _ h9 => h9) rfl d_M_takeAttribute_98 ?_
        refine lv_iconst (v := 1) hx hb d_M_takeAttribute_101 (by decide) ?_
        refine lv_iadd hx hb d_M_takeAttribute_102 ?_
        refine va_put (D := (mG md)) (ci := 7) (v := .int ((mp_at σ) + 1)) (ty := .int) (C := R_M) (T := F_M) (N := 37) hx hb hta i_M t_M t_M_ok n_M hown hK hP hD hS 0 rfl rfl 13 (by decide) (hta _ fl_M_101) (fun _ h9 => h9) rfl (by decide +kernel) rfl rfl (Nat.le_of_ble_eq_true rfl) d_M_takeAttribute_103 (fun H locs hP hD hS => ?_)
        have hP := mwP_at hP
        have hD := mwD_at hD
        have hE := hE _ rfl
        generalize (ms_at σ ((mp_at σ) + 1) : MPS) = σ103 at hP hD hE
        obtain ⟨n106, hE⟩ := hE
        exact L106  n106 σ103 _ _ hP hD hS _ (lv_sub hl [0] rfl) hE
      · have hE := hE.2 cc87
        exact J90  σ _ _ hP hD hS _ (lv_sub hl [0] rfl) hE
  unfold w_M_takeAttribute at hE
  refine lv_aload_n hx hb d_M_takeAttribute_0 rfl (lv_at hl 0 rfl) ?_
  refine va_get (D := (mG md)) (ci := 7) (v := .int (mp_at σ)) (C := R_M) (T := F_M) (N := 37) hx hb hta i_M hown hK hP 0 rfl rfl 13 (by decide) (hta _ fl_M_101) (fun _ h9 => h9) rfl d_M_takeAttribute_1 ?_
  refine lv_istore_n (lv' := [(2, .int (mp_at σ)), (0, .ref (mA md 0)), (1, .int x0)]) hx hb d_M_takeAttribute_4 rfl hl (by decide) rfl (fun ls hl => ?_)
  refine lv_aload_n hx hb d_M_takeAttribute_5 rfl (lv_at hl 1 rfl) ?_
  refine mm_i (b0 := (mA md 0)) (As := []) (rest := []) ⟨hx, hb, hml, hown, hta⟩ (c_M_takeName l md _ σ  _ hE) ok_M_165 ⟨Nat.le_of_ble_eq_true rfl, Nat.le_of_ble_eq_true rfl⟩ (va_recv hK hP (ci := 7) (q0 := 0) rfl rfl) hP hK hD hS hA rfl hl.1 rfl (Nat.le_of_ble_eq_true rfl) d_M_takeAttribute_6 ⟨Nat.zero_le _, Nat.zero_le _⟩ (fun r6 σ6 H locs hE hP hD hS => ?_)
  refine lv_istore_n (lv' := [(3, .int r6), (2, .int (mp_at σ)), (0, .ref (mA md 0)), (1, .int x0)]) hx hb d_M_takeAttribute_9 rfl hl (by decide) rfl (fun ls hl => ?_)
  refine lv_aload_n hx hb d_M_takeAttribute_10 rfl (lv_at hl 2 rfl) ?_
  refine va_get (D := (mG md)) (ci := 7) (v := .int (mp_bad σ6)) (C := R_M) (T := F_M) (N := 37) hx hb hta i_M hown hK hP 0 rfl rfl 16 (by decide) (hta _ fl_M_111) (fun _ h9 => h9) rfl d_M_takeAttribute_11 ?_
  refine lv_if_eq (tgt := 18) hx hb d_M_takeAttribute_14 (by decide) (fun cc14 => ?_) (fun cc14 => ?_)
  · have hE := hE.1 cc14
    refine lv_aload_n hx hb d_M_takeAttribute_18 rfl (lv_at hl 2 rfl) ?_
    refine lv_iload_n hx hb d_M_takeAttribute_19 rfl (lv_at hl 3 rfl) ?_
    refine lv_iload_n hx hb d_M_takeAttribute_20 rfl (lv_at hl 1 rfl) ?_
    refine lv_iload_n hx hb d_M_takeAttribute_21 rfl (lv_at hl 0 rfl) ?_
    refine mm_i (b0 := (mA md 0)) (As := [.int x0, .int (mp_at σ), .int r6]) (rest := []) ⟨hx, hb, hml, hown, hta⟩ (c_M_wasHad l md _ σ6 x0 (mp_at σ) r6 _ hE) ok_M_169 ⟨Nat.le_of_ble_eq_true rfl, Nat.le_of_ble_eq_true rfl⟩ (va_recv hK hP (ci := 7) (q0 := 0) rfl rfl) hP hK hD hS hA rfl hl.1 rfl (Nat.le_of_ble_eq_true rfl) d_M_takeAttribute_22 ⟨Nat.zero_le _, Nat.zero_le _⟩ (fun r22 σ22 H locs hE hP hD hS => ?_)
    refine lv_if_eq (tgt := 39) hx hb d_M_takeAttribute_25 (by decide) (fun cc25 => ?_) (fun cc25 => ?_)
    · have hE := hE.1 cc25
      refine lv_aload_n hx hb d_M_takeAttribute_39 rfl (lv_at hl 2 rfl) ?_
      refine lv_aload_n hx hb d_M_takeAttribute_40 rfl (lv_at hl 2 rfl) ?_
      refine va_get (D := (mG md)) (ci := 7) (v := .int (mp_at σ22)) (C := R_M) (T := F_M) (N := 37) hx hb hta i_M hown hK hP 0 rfl rfl 13 (by decide) (hta _ fl_M_101) (fun _ h9 => h9) rfl d_M_takeAttribute_41 ?_
      obtain ⟨hc44_0, hE⟩ := hE
      refine ro_V (b0 := (mA md 0)) (As := [.int (mp_at σ22)]) (rest := []) ⟨hx, hb, hml, hown, hta⟩ (f_M_x l md σ22 (mp_at σ22) hc44_0) ok_M_95 ⟨Nat.le_of_ble_eq_true rfl, Nat.le_of_ble_eq_true rfl⟩ blind_rM (va_recv hK hP (ci := 7) (q0 := 0) rfl rfl) (rM_of hP hK) rfl hl.1 rfl (Nat.le_of_ble_eq_true rfl) d_M_takeAttribute_44 ⟨Nat.zero_le _, Nat.zero_le _⟩ (fun r44 hrr => ?_)
      subst hrr
      refine lv_bipush (v := 61) hx hb d_M_takeAttribute_47 (by decide) ?_
      refine lv_icmp_eq (tgt := 60) hx hb d_M_takeAttribute_49 (by decide) (fun cc49 => ?_) (fun cc49 => ?_)
      · have hE := hE.1 cc49
        refine lv_aload_n hx hb d_M_takeAttribute_60 rfl (lv_at hl 2 rfl) ?_
        refine lv_dup hx hb d_M_takeAttribute_61 rfl ?_
        refine va_get (D := (mG md)) (ci := 7) (v := .int (mp_at σ22)) (C := R_M) (T := F_M) (N := 37) hx hb hta i_M hown hK hP 0 rfl rfl 13 (by decide) (hta _ fl_M_101) (fun _ h9 => h9) rfl d_M_takeAttribute_62 ?_
        refine lv_iconst (v := 1) hx hb d_M_takeAttribute_65 (by decide) ?_
        refine lv_iadd hx hb d_M_takeAttribute_66 ?_
        refine va_put (D := (mG md)) (ci := 7) (v := .int ((mp_at σ22) + 1)) (ty := .int) (C := R_M) (T := F_M) (N := 37) hx hb hta i_M t_M t_M_ok n_M hown hK hP hD hS 0 rfl rfl 13 (by decide) (hta _ fl_M_101) (fun _ h9 => h9) rfl (by decide +kernel) rfl rfl (Nat.le_of_ble_eq_true rfl) d_M_takeAttribute_67 (fun H locs hP hD hS => ?_)
        have hP := mwP_at hP
        have hD := mwD_at hD
        have hE := hE _ rfl
        generalize (ms_at σ22 ((mp_at σ22) + 1) : MPS) = σ67 at hP hD hE
        exact J70  σ67 _ _ hP hD hS _ (lv_sub hl [2] rfl) hE
      · have hE := hE.2 cc49
        refine lv_aload_n hx hb d_M_takeAttribute_52 rfl (lv_at hl 2 rfl) ?_
        refine lv_iconst (v := 1) hx hb d_M_takeAttribute_53 (by decide) ?_
        refine va_put (D := (mG md)) (ci := 7) (v := .int 1) (ty := .boolean) (C := R_M) (T := F_M) (N := 37) hx hb hta i_M t_M t_M_ok n_M hown hK hP hD hS 0 rfl rfl 16 (by decide) (hta _ fl_M_111) (fun _ h9 => h9) rfl (by decide +kernel) rfl rfl (Nat.le_of_ble_eq_true rfl) d_M_takeAttribute_54 (fun H locs hP hD hS => ?_)
        have hP := mwP_bad hP
        have hD := mwD_bad hD
        have hE := hE _ rfl
        generalize (ms_bad σ22 1 : MPS) = σ54 at hP hD hE
        refine lv_goto (tgt := 70) hx hb d_M_takeAttribute_57 (by decide) ?_
        exact J70  σ54 _ _ hP hD hS _ (lv_sub hl [2] rfl) hE
    · have hE := hE.2 cc25
      refine lv_aload_n hx hb d_M_takeAttribute_28 rfl (lv_at hl 2 rfl) ?_
      refine lv_iload_n hx hb d_M_takeAttribute_29 rfl (lv_at hl 1 rfl) ?_
      refine va_put (D := (mG md)) (ci := 7) (v := .int (mp_at σ)) (ty := .int) (C := R_M) (T := F_M) (N := 37) hx hb hta i_M t_M t_M_ok n_M hown hK hP hD hS 0 rfl rfl 13 (by decide) (hta _ fl_M_101) (fun _ h9 => h9) rfl (by decide +kernel) rfl rfl (Nat.le_of_ble_eq_true rfl) d_M_takeAttribute_30 (fun H locs hP hD hS => ?_)
      have hP := mwP_at hP
      have hD := mwD_at hD
      have hE := hE _ rfl
      generalize (ms_at σ22 (mp_at σ) : MPS) = σ30 at hP hD hE
      refine lv_aload_n hx hb d_M_takeAttribute_33 rfl (lv_at hl 2 rfl) ?_
      refine lv_iconst (v := 1) hx hb d_M_takeAttribute_34 (by decide) ?_
      refine va_put (D := (mG md)) (ci := 7) (v := .int 1) (ty := .boolean) (C := R_M) (T := F_M) (N := 37) hx hb hta i_M t_M t_M_ok n_M hown hK hP hD hS 0 rfl rfl 16 (by decide) (hta _ fl_M_111) (fun _ h9 => h9) rfl (by decide +kernel) rfl rfl (Nat.le_of_ble_eq_true rfl) d_M_takeAttribute_35 (fun H locs hP hD hS => ?_)
      have hP := mwP_bad hP
      have hD := mwD_bad hD
      have hE := hE _ rfl
      generalize (ms_bad σ30 1 : MPS) = σ35 at hP hD hE
      exact W.vret hx hb hr (fun t ht hW => ⟨⟨σ35, rfl, hE, by rw [ht]; exact hP, va_K.moved hW.alike hK, hD⟩, hS.F ht⟩) hS.2.2 d_M_takeAttribute_38
  · have hE := hE.2 cc14
    exact W.vret hx hb hr (fun t ht hW => ⟨⟨σ6, rfl, hE, by rw [ht]; exact hP, va_K.moved hW.alike hK, hD⟩, hS.F ht⟩) hS.2.2 d_M_takeAttribute_17
