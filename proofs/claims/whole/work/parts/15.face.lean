-- printed by wip/gen
theorem fl_X_9 : Cond.fieldLink "PlainPages" 9 "PlainPages" "ready" "[I" ∈ aW := aW_in 220 (by decide +kernel) rfl
theorem d_X_makeReady_0 : decode b_X_makeReady 0 = .ok (.iconst 0, 1) := by decide +kernel
theorem d_X_makeReady_1 : decode b_X_makeReady 1 = .ok (.istore_n 3, 1) := by decide +kernel
theorem d_X_makeReady_2 : decode b_X_makeReady 2 = .ok (.iload_n 3, 1) := by decide +kernel
theorem d_X_makeReady_3 : decode b_X_makeReady 3 = .ok (.iconst 4, 1) := by decide +kernel
theorem d_X_makeReady_4 : decode b_X_makeReady 4 = .ok (.if_icmp .ge 49, 3) := by decide +kernel
theorem d_X_makeReady_7 : decode b_X_makeReady 7 = .ok (.iload_n 1, 1) := by decide +kernel
theorem d_X_makeReady_8 : decode b_X_makeReady 8 = .ok (.iload_n 3, 1) := by decide +kernel
theorem d_X_makeReady_9 : decode b_X_makeReady 9 = .ok (.iadd, 1) := by decide +kernel
theorem d_X_makeReady_10 : decode b_X_makeReady 10 = .ok (.istore 4, 2) := by decide +kernel
theorem d_X_makeReady_12 : decode b_X_makeReady 12 = .ok (.iload 4, 2) := by decide +kernel
theorem d_X_makeReady_14 : decode b_X_makeReady 14 = .ok (.ifCond .lt 33, 3) := by decide +kernel
theorem d_X_makeReady_17 : decode b_X_makeReady 17 = .ok (.iload 4, 2) := by decide +kernel
theorem d_X_makeReady_19 : decode b_X_makeReady 19 = .ok (.aload_n 0, 1) := by decide +kernel
theorem d_X_makeReady_20 : decode b_X_makeReady 20 = .ok (.getfield 9, 3) := by decide +kernel
theorem d_X_makeReady_23 : decode b_X_makeReady 23 = .ok (.arraylength, 1) := by decide +kernel
theorem d_X_makeReady_24 : decode b_X_makeReady 24 = .ok (.if_icmp .ge 23, 3) := by decide +kernel
theorem d_X_makeReady_27 : decode b_X_makeReady 27 = .ok (.aload_n 0, 1) := by decide +kernel
theorem d_X_makeReady_28 : decode b_X_makeReady 28 = .ok (.getfield 9, 3) := by decide +kernel
theorem d_X_makeReady_31 : decode b_X_makeReady 31 = .ok (.iload 4, 2) := by decide +kernel
theorem d_X_makeReady_33 : decode b_X_makeReady 33 = .ok (.iload_n 2, 1) := by decide +kernel
theorem d_X_makeReady_34 : decode b_X_makeReady 34 = .ok (.bipush 24, 2) := by decide +kernel
theorem d_X_makeReady_36 : decode b_X_makeReady 36 = .ok (.bipush 8, 2) := by decide +kernel
theorem d_X_makeReady_38 : decode b_X_makeReady 38 = .ok (.iload_n 3, 1) := by decide +kernel
theorem d_X_makeReady_39 : decode b_X_makeReady 39 = .ok (.imul, 1) := by decide +kernel
theorem d_X_makeReady_40 : decode b_X_makeReady 40 = .ok (.isub, 1) := by decide +kernel
theorem d_X_makeReady_41 : decode b_X_makeReady 41 = .ok (.iushr, 1) := by decide +kernel
theorem d_X_makeReady_42 : decode b_X_makeReady 42 = .ok (.sipush 255, 3) := by decide +kernel
theorem d_X_makeReady_45 : decode b_X_makeReady 45 = .ok (.iand, 1) := by decide +kernel
theorem d_X_makeReady_46 : decode b_X_makeReady 46 = .ok (.iastore, 1) := by decide +kernel
theorem d_X_makeReady_47 : decode b_X_makeReady 47 = .ok (.iinc 3 1, 3) := by decide +kernel
theorem d_X_makeReady_50 : decode b_X_makeReady 50 = .ok (.goto (-48), 3) := by decide +kernel
theorem d_X_makeReady_53 : decode b_X_makeReady 53 = .ok (.return_, 1) := by decide +kernel
def w_X_makeReady_J47  (v1 : Int32) (v2 : Int32) (K2 : Int32 → PPS → Prop) (post : PPS → Prop) (v3 : Int32) (σ : PPS) : Prop := K2 (v3 + 1) σ
def w_X_makeReady_L2  (v1 : Int32) (v2 : Int32) (post : PPS → Prop) : Nat → Int32 → PPS → Prop
  | 0, _, _ => False
  | n2 + 1, v3, σ => ((4 ≤ v3 → post σ) ∧ (¬ 4 ≤ v3 → (((v1 + v3) < 0 → w_X_makeReady_J47 v1 v2 (w_X_makeReady_L2 v1 v2 post n2) post v3 σ) ∧ (¬ (v1 + v3) < 0 → (((nI 20) ≤ (v1 + v3) → w_X_makeReady_J47 v1 v2 (w_X_makeReady_L2 v1 v2 post n2) post v3 σ) ∧ (¬ (nI 20) ≤ (v1 + v3) → (vp_in (v1 + v3) 20 ∧ (∀ σ46 : PPS, σ46 = sRd σ (upd (pRd σ) (v1 + v3).toNatClampNeg (((v2.toUInt32 >>> ((24 - (8 * v3)).toUInt32 &&& Int32.toUInt32 31)).toInt32) &&& 255)) → w_X_makeReady_J47 v1 v2 (w_X_makeReady_L2 v1 v2 post n2) post v3 σ46))))))))
def w_X_makeReady  (σ : PPS) (x0 : Int32) (x1 : Int32) (post : PPS → Prop) : Prop := (∃ n2, w_X_makeReady_L2 x0 x1 post n2 0 σ)
set_option maxHeartbeats 4000000 in
set_option maxRecDepth 100000 in
theorem c_X_makeReady (l : Launch) (w : WD) (sz : Nat) (σ : PPS) (x0 : Int32) (x1 : Int32)  (post : PPS → Prop) (hI : inv σ) (hE : w_X_makeReady σ x0 x1 post) : Met l y_X_makeReady ws_X_makeReady { frames := 0, cells := 0, slots := 0, locals := 0 } (va_Pc [.ref (wA w 0), .int x0, .int x1] (gW w σ sz)) (va_Qv (fun u => post u ∧ inv u) (mB (wG w) (WW w) (wI w) (va_A (WW w σ) sz)) (va_A (WW w σ) sz)) 0 0 (va_A (WW w σ) sz) := by
  refine Met.ofW (cc := b_X_makeReady) (maxL := 5) (ret := none) (by decide) rfl ?_
  intro p e s m args below meth c s₁ B hml hv
  obtain ⟨rfl, hsz, hP, hK, hD0, hC⟩ := hv
  have hx := B.exec
  have hb := B.bytes
  have hr := B.returns
  have hta : ∀ w ∈ aW, w.before _ s = true := fun w h => atoms_spec (ws := ws_X_makeReady) B.pre w (List.mem_cons_of_mem _ h)
  have hown : s.vm.findClass R_X = some m.cls := findClass_of_methodNamed B.named
  have hlocks := B.notSynchronized
  subst hsz
  have hD := hD0.self (sz := s.heap.size)
  generalize hAe : va_A (WW w σ) s.heap.size = A at hD hC ⊢
  have hA : ∀ q : Nat, s.heap.size ≤ q → A q := fun q h => by rw [← hAe]; exact Or.inr h
  have hS : va_S A s.heap s.heap [] := va_S.rf
  have hP : va_P (wG w) classes (WW w σ) s.heap := hP
  have hl := lv_entry ([.ref (wA w 0), .int x0, .int x1]) (n := 5) (Nat.le_of_ble_eq_true rfl)
  rw [lg_entry_eq]
  generalize (lg_sl ([.ref (wA w 0), .int x0, .int x1]) ++ List.replicate (5 - (lg_sl ([.ref (wA w 0), .int x0, .int x1])).length) Slot.unset).toArray = ls at hl ⊢
  have hl : lv_has ls 5 [(0, .ref (wA w 0)), (1, .int x0), (2, .int x1)] := hl
  have L2 : ∀ (v1 : Int32) (v2 : Int32) (n2 : Nat) (v3 : Int32) (σ : PPS) (H : Heap) (locs : List Loc) (hP : va_P (wG w) classes (WW w σ) H) (hD : va_D A (WW w σ)) (hS : va_S A s.heap H locs) (hI : inv σ) (ls : Array Slot) (hl : lv_has ls 5 [(0, .ref (wA w 0)), (1, .int v1), (2, .int v2), (3, .int v3)]) (hE : w_X_makeReady_L2 v1 v2 post n2 v3 σ), W p l e (headSpec ws_X_makeReady { frames := 0, cells := 0, slots := 0, locals := 0 }).room s m ([.ref (wA w 0), .int x0, .int x1] : List Value).toArray below meth c H locs 0 0 (MQ below (va_Qv (fun u => post u ∧ inv u) (mB (wG w) (WW w) (wI w) A) A) ([.ref (wA w 0), .int x0, .int x1] : List Value).toArray s 0 0 A) (F0 m 2 ls []) := by
    intro v1 v2 n2
    induction n2 with
    | zero => intro v3 σ H locs hP hD hS hI ls hl hE; exact hE.elim
    | succ n2 ih2 =>
      have J47 : ∀ (v3 : Int32) (σ : PPS) (H : Heap) (locs : List Loc) (hP : va_P (wG w) classes (WW w σ) H) (hD : va_D A (WW w σ)) (hS : va_S A s.heap H locs) (hI : inv σ) (ls : Array Slot) (hl : lv_has ls 5 [(0, .ref (wA w 0)), (1, .int v1), (2, .int v2), (3, .int v3)]) (hE : w_X_makeReady_J47 v1 v2 (w_X_makeReady_L2 v1 v2 post n2) post v3 σ), W p l e (headSpec ws_X_makeReady { frames := 0, cells := 0, slots := 0, locals := 0 }).room s m ([.ref (wA w 0), .int x0, .int x1] : List Value).toArray below meth c H locs 0 0 (MQ below (va_Qv (fun u => post u ∧ inv u) (mB (wG w) (WW w) (wI w) A) A) ([.ref (wA w 0), .int x0, .int x1] : List Value).toArray s 0 0 A) (F0 m 47 ls []) := by
        intro  v3 σ H locs hP hD hS hI ls hl hE
        unfold w_X_makeReady_J47 at hE
        refine lv_iinc (v := v3 + 1) (lv' := [(3, .int (v3 + 1)), (0, .ref (wA w 0)), (1, .int v1), (2, .int v2)]) hx hb d_X_makeReady_47 hl (k := 3) rfl rfl (by decide) rfl (fun ls hl => ?_)
        refine lv_goto (tgt := 2) hx hb d_X_makeReady_50 (by decide) ?_
        exact ih2 (v3 + 1) σ _ _ hP hD hS hI _ (lv_sub hl [1, 2, 3, 0] rfl) hE
      intro v3 σ H locs hP hD hS hI ls hl hE
      unfold w_X_makeReady_L2 at hE
      refine lv_iload_n hx hb d_X_makeReady_2 rfl (lv_at hl 3 rfl) ?_
      refine lv_iconst (v := 4) hx hb d_X_makeReady_3 (by decide) ?_
      refine lv_icmp_ge (tgt := 53) hx hb d_X_makeReady_4 (by decide) (fun cc4 => ?_) (fun cc4 => ?_)
      · have hE := hE.1 cc4
        exact W.vret hx hb hr (fun t ht hW => ⟨⟨σ, rfl, ⟨hE, hI⟩, by rw [ht]; exact hP, va_K.moved hW.alike hK, hD⟩, hS.F ht⟩) hS.2.2 d_X_makeReady_53
      · have hE := hE.2 cc4
        refine lv_iload_n hx hb d_X_makeReady_7 rfl (lv_at hl 1 rfl) ?_
        refine lv_iload_n hx hb d_X_makeReady_8 rfl (lv_at hl 3 rfl) ?_
        refine lv_iadd hx hb d_X_makeReady_9 ?_
        refine lv_istore (lv' := [(4, .int (v1 + v3)), (0, .ref (wA w 0)), (1, .int v1), (2, .int v2), (3, .int v3)]) hx hb d_X_makeReady_10 hl (by decide) rfl (fun ls hl => ?_)
        refine lv_iload hx hb d_X_makeReady_12 (lv_at hl 0 rfl) ?_
        refine lv_if_lt (tgt := 47) hx hb d_X_makeReady_14 (by decide) (fun cc14 => ?_) (fun cc14 => ?_)
        · have hE := hE.1 cc14
          exact J47  v3 σ _ _ hP hD hS hI _ (lv_sub hl [1, 2, 3, 4] rfl) hE
        · have hE := hE.2 cc14
          refine lv_iload hx hb d_X_makeReady_17 (lv_at hl 0 rfl) ?_
          refine lv_aload_n hx hb d_X_makeReady_19 rfl (lv_at hl 1 rfl) ?_
          refine va_get (D := (wG w)) (ci := 0) (v := .ref (wA w 1)) (C := R_X) (T := F_X) (N := 9) hx hb hta i_X hown hK hP 0 rfl rfl 0 (by decide) (hta _ fl_X_9) (fun _ h9 => h9) rfl d_X_makeReady_20 ?_
          refine va_alen (D := (wG w)) (v := nI 20) hx hb hK hP 1 0 rfl rfl rfl d_X_makeReady_23 ?_
          refine lv_icmp_ge (tgt := 47) hx hb d_X_makeReady_24 (by decide) (fun cc24 => ?_) (fun cc24 => ?_)
          · have hE := hE.1 cc24
            exact J47  v3 σ _ _ hP hD hS hI _ (lv_sub hl [1, 2, 3, 4] rfl) hE
          · have hE := hE.2 cc24
            refine lv_aload_n hx hb d_X_makeReady_27 rfl (lv_at hl 1 rfl) ?_
            refine va_get (D := (wG w)) (ci := 0) (v := .ref (wA w 1)) (C := R_X) (T := F_X) (N := 9) hx hb hta i_X hown hK hP 0 rfl rfl 0 (by decide) (hta _ fl_X_9) (fun _ h9 => h9) rfl d_X_makeReady_28 ?_
            refine lv_iload hx hb d_X_makeReady_31 (lv_at hl 0 rfl) ?_
            refine lv_iload_n hx hb d_X_makeReady_33 rfl (lv_at hl 3 rfl) ?_
            refine lv_bipush (v := 24) hx hb d_X_makeReady_34 (by decide) ?_
            refine lv_bipush (v := 8) hx hb d_X_makeReady_36 (by decide) ?_
            refine lv_iload_n hx hb d_X_makeReady_38 rfl (lv_at hl 4 rfl) ?_
            refine lv_imul hx hb d_X_makeReady_39 ?_
            refine lv_isub hx hb d_X_makeReady_40 ?_
            refine lv_iushr hx hb d_X_makeReady_41 rfl ?_
            refine lv_sipush (v := 255) hx hb d_X_makeReady_42 (by decide) ?_
            refine lv_iand hx hb d_X_makeReady_45 ?_
            obtain ⟨hI46, hE⟩ := hE
            refine va_iast (D := (wG w)) (f := pRd σ) hx hb hK hP hD hS 1 0 rfl rfl hI46 d_X_makeReady_46 (fun H locs hP hD hS => ?_)
            have hP : va_P (wG w) classes (WW w (sRd σ (upd (pRd σ) (v1 + v3).toNatClampNeg (((v2.toUInt32 >>> ((24 - (8 * v3)).toUInt32 &&& Int32.toUInt32 31)).toInt32) &&& 255)))) H := hP
            have hD : va_D A (WW w (sRd σ (upd (pRd σ) (v1 + v3).toNatClampNeg (((v2.toUInt32 >>> ((24 - (8 * v3)).toUInt32 &&& Int32.toUInt32 31)).toInt32) &&& 255)))) := hD
            have hI : inv (sRd σ (upd (pRd σ) (v1 + v3).toNatClampNeg (((v2.toUInt32 >>> ((24 - (8 * v3)).toUInt32 &&& Int32.toUInt32 31)).toInt32) &&& 255))) := hI
            have hE := hE _ rfl
            generalize (sRd σ (upd (pRd σ) (v1 + v3).toNatClampNeg (((v2.toUInt32 >>> ((24 - (8 * v3)).toUInt32 &&& Int32.toUInt32 31)).toInt32) &&& 255)) : PPS) = σ46 at hP hD hI hE
            exact J47  v3 σ46 _ _ hP hD hS hI _ (lv_sub hl [1, 2, 3, 4] rfl) hE
  unfold w_X_makeReady at hE
  refine lv_iconst (v := 0) hx hb d_X_makeReady_0 (by decide) ?_
  refine lv_istore_n (lv' := [(3, .int 0), (0, .ref (wA w 0)), (1, .int x0), (2, .int x1)]) hx hb d_X_makeReady_1 rfl hl (by decide) rfl (fun ls hl => ?_)
  obtain ⟨n2, hE⟩ := hE
  exact L2 x0 x1 n2 0 σ _ _ hP hD hS hI _ (lv_sub hl [1, 2, 3, 0] rfl) hE
theorem fl_X_59 : Cond.fieldLink "PlainPages" 59 "PlainPages" "faultSort" "I" ∈ aW := aW_in 227 (by decide +kernel) rfl
theorem fl_X_63 : Cond.fieldLink "PlainPages" 63 "PlainPages" "faultPlace" "I" ∈ aW := aW_in 228 (by decide +kernel) rfl
theorem d_X_keepFault_0 : decode b_X_keepFault 0 = .ok (.aload_n 0, 1) := by decide +kernel
theorem d_X_keepFault_1 : decode b_X_keepFault 1 = .ok (.iload_n 2, 1) := by decide +kernel
theorem d_X_keepFault_2 : decode b_X_keepFault 2 = .ok (.iconst (-1), 1) := by decide +kernel
theorem d_X_keepFault_3 : decode b_X_keepFault 3 = .ok (.if_icmp .ne 7, 3) := by decide +kernel
theorem d_X_keepFault_6 : decode b_X_keepFault 6 = .ok (.iconst 0, 1) := by decide +kernel
theorem d_X_keepFault_7 : decode b_X_keepFault 7 = .ok (.goto 4, 3) := by decide +kernel
theorem d_X_keepFault_10 : decode b_X_keepFault 10 = .ok (.iload_n 1, 1) := by decide +kernel
theorem d_X_keepFault_11 : decode b_X_keepFault 11 = .ok (.putfield 59, 3) := by decide +kernel
theorem d_X_keepFault_14 : decode b_X_keepFault 14 = .ok (.aload_n 0, 1) := by decide +kernel
theorem d_X_keepFault_15 : decode b_X_keepFault 15 = .ok (.iload_n 2, 1) := by decide +kernel
theorem d_X_keepFault_16 : decode b_X_keepFault 16 = .ok (.putfield 63, 3) := by decide +kernel
theorem d_X_keepFault_19 : decode b_X_keepFault 19 = .ok (.iload_n 2, 1) := by decide +kernel
theorem d_X_keepFault_20 : decode b_X_keepFault 20 = .ok (.iconst (-1), 1) := by decide +kernel
theorem d_X_keepFault_21 : decode b_X_keepFault 21 = .ok (.if_icmp .ne 7, 3) := by decide +kernel
theorem d_X_keepFault_24 : decode b_X_keepFault 24 = .ok (.iconst 1, 1) := by decide +kernel
theorem d_X_keepFault_25 : decode b_X_keepFault 25 = .ok (.goto 4, 3) := by decide +kernel
theorem d_X_keepFault_28 : decode b_X_keepFault 28 = .ok (.iconst 0, 1) := by decide +kernel
theorem d_X_keepFault_29 : decode b_X_keepFault 29 = .ok (.ireturn, 1) := by decide +kernel
def w_X_keepFault_J11   (post : Int32 → PPS → Prop) (v2 : Int32) (t0 : Int32) (σ : PPS) : Prop := (∀ σ11 : PPS, σ11 = sFs σ t0 → (∀ σ16 : PPS, σ16 = sFp σ11 v2 → ((v2 = (-1) → post 1 σ16) ∧ (¬ v2 = (-1) → post 0 σ16))))
def w_X_keepFault  (σ : PPS) (x0 : Int32) (x1 : Int32) (post : Int32 → PPS → Prop) : Prop := ((x1 = (-1) → w_X_keepFault_J11 post x1 0 σ) ∧ (¬ x1 = (-1) → w_X_keepFault_J11 post x1 x0 σ))
set_option maxHeartbeats 4000000 in
set_option maxRecDepth 100000 in
theorem c_X_keepFault (l : Launch) (w : WD) (sz : Nat) (σ : PPS) (x0 : Int32) (x1 : Int32)  (post : Int32 → PPS → Prop) (hI : inv σ) (hE : w_X_keepFault σ x0 x1 post) : Met l y_X_keepFault ws_X_keepFault { frames := 0, cells := 0, slots := 0, locals := 0 } (va_Pc [.ref (wA w 0), .int x0, .int x1] (gW w σ sz)) (va_Qi (fun r u => post r u ∧ inv u) (mB (wG w) (WW w) (wI w) (va_A (WW w σ) sz)) (va_A (WW w σ) sz)) 0 0 (va_A (WW w σ) sz) := by
  refine Met.ofW (cc := b_X_keepFault) (maxL := 3) (ret := (some .boolean)) (by decide) rfl ?_
  intro p e s m args below meth c s₁ B hml hv
  obtain ⟨rfl, hsz, hP, hK, hD0, hC⟩ := hv
  have hx := B.exec
  have hb := B.bytes
  have hr := B.returns
  have hta : ∀ w ∈ aW, w.before _ s = true := fun w h => atoms_spec (ws := ws_X_keepFault) B.pre w (List.mem_cons_of_mem _ h)
  have hown : s.vm.findClass R_X = some m.cls := findClass_of_methodNamed B.named
  have hlocks := B.notSynchronized
  subst hsz
  have hD := hD0.self (sz := s.heap.size)
  generalize hAe : va_A (WW w σ) s.heap.size = A at hD hC ⊢
  have hA : ∀ q : Nat, s.heap.size ≤ q → A q := fun q h => by rw [← hAe]; exact Or.inr h
  have hS : va_S A s.heap s.heap [] := va_S.rf
  have hP : va_P (wG w) classes (WW w σ) s.heap := hP
  have hl := lv_entry ([.ref (wA w 0), .int x0, .int x1]) (n := 3) (Nat.le_of_ble_eq_true rfl)
  rw [lg_entry_eq]
  generalize (lg_sl ([.ref (wA w 0), .int x0, .int x1]) ++ List.replicate (3 - (lg_sl ([.ref (wA w 0), .int x0, .int x1])).length) Slot.unset).toArray = ls at hl ⊢
  have hl : lv_has ls 3 [(0, .ref (wA w 0)), (1, .int x0), (2, .int x1)] := hl
  have J11 : ∀ (v2 : Int32) (t0 : Int32) (σ : PPS) (H : Heap) (locs : List Loc) (hP : va_P (wG w) classes (WW w σ) H) (hD : va_D A (WW w σ)) (hS : va_S A s.heap H locs) (hI : inv σ) (ls : Array Slot) (hl : lv_has ls 3 [(0, .ref (wA w 0)), (2, .int v2)]) (hE : w_X_keepFault_J11 post v2 t0 σ), W p l e (headSpec ws_X_keepFault { frames := 0, cells := 0, slots := 0, locals := 0 }).room s m ([.ref (wA w 0), .int x0, .int x1] : List Value).toArray below meth c H locs 0 0 (MQ below (va_Qi (fun r u => post r u ∧ inv u) (mB (wG w) (WW w) (wI w) A) A) ([.ref (wA w 0), .int x0, .int x1] : List Value).toArray s 0 0 A) (F0 m 11 ls [.int t0, .ref (wA w 0)]) := by
    intro  v2 t0 σ H locs hP hD hS hI ls hl hE
    unfold w_X_keepFault_J11 at hE
    refine va_put (D := (wG w)) (ci := 0) (v := .int t0) (ty := .int) (C := R_X) (T := F_X) (N := 9) hx hb hta i_X t_X t_X_ok n_X hown hK hP hD hS 0 rfl rfl 7 (by decide) (hta _ fl_X_59) (fun _ h9 => h9) rfl (by decide +kernel) rfl rfl (Nat.le_of_ble_eq_true rfl) d_X_keepFault_11 (fun H locs hP hD hS => ?_)
    have hP : va_P (wG w) classes (WW w (sFs σ t0)) H := hP
    have hD : va_D A (WW w (sFs σ t0)) := hD
    have hI : inv (sFs σ t0) := hI
    have hE := hE _ rfl
    generalize (sFs σ t0 : PPS) = σ11 at hP hD hI hE
    refine lv_aload_n hx hb d_X_keepFault_14 rfl (lv_at hl 0 rfl) ?_
    refine lv_iload_n hx hb d_X_keepFault_15 rfl (lv_at hl 1 rfl) ?_
    refine va_put (D := (wG w)) (ci := 0) (v := .int v2) (ty := .int) (C := R_X) (T := F_X) (N := 9) hx hb hta i_X t_X t_X_ok n_X hown hK hP hD hS 0 rfl rfl 8 (by decide) (hta _ fl_X_63) (fun _ h9 => h9) rfl (by decide +kernel) rfl rfl (Nat.le_of_ble_eq_true rfl) d_X_keepFault_16 (fun H locs hP hD hS => ?_)
    have hP : va_P (wG w) classes (WW w (sFp σ11 v2)) H := hP
    have hD : va_D A (WW w (sFp σ11 v2)) := hD
    have hI : inv (sFp σ11 v2) := hI
    have hE := hE _ rfl
    generalize (sFp σ11 v2 : PPS) = σ16 at hP hD hI hE
    refine lv_iload_n hx hb d_X_keepFault_19 rfl (lv_at hl 1 rfl) ?_
    refine lv_iconst (v := -1) hx hb d_X_keepFault_20 (by decide) ?_
    refine lv_icmp_ne (tgt := 28) hx hb d_X_keepFault_21 (by decide) (fun cc21 => ?_) (fun cc21 => ?_)
    · have hE := hE.2 cc21
      refine lv_iconst (v := 0) hx hb d_X_keepFault_28 (by decide) ?_
      exact W.zret (v := 0) hx hb hr rfl (fun t ht hW => ⟨⟨_, σ16, rfl, ⟨hE, hI⟩, by rw [ht]; exact hP, va_K.moved hW.alike hK, hD⟩, hS.F ht⟩) hS.2.2 d_X_keepFault_29
    · have hE := hE.1 cc21
      refine lv_iconst (v := 1) hx hb d_X_keepFault_24 (by decide) ?_
      refine lv_goto (tgt := 29) hx hb d_X_keepFault_25 (by decide) ?_
      exact W.zret (v := 1) hx hb hr rfl (fun t ht hW => ⟨⟨_, σ16, rfl, ⟨hE, hI⟩, by rw [ht]; exact hP, va_K.moved hW.alike hK, hD⟩, hS.F ht⟩) hS.2.2 d_X_keepFault_29
  unfold w_X_keepFault at hE
  refine lv_aload_n hx hb d_X_keepFault_0 rfl (lv_at hl 0 rfl) ?_
  refine lv_iload_n hx hb d_X_keepFault_1 rfl (lv_at hl 2 rfl) ?_
  refine lv_iconst (v := -1) hx hb d_X_keepFault_2 (by decide) ?_
  refine lv_icmp_ne (tgt := 10) hx hb d_X_keepFault_3 (by decide) (fun cc3 => ?_) (fun cc3 => ?_)
  · have hE := hE.2 cc3
    refine lv_iload_n hx hb d_X_keepFault_10 rfl (lv_at hl 1 rfl) ?_
    exact J11  x1 x0 σ _ _ hP hD hS hI _ (lv_sub hl [0, 2] rfl) hE
  · have hE := hE.1 cc3
    refine lv_iconst (v := 0) hx hb d_X_keepFault_6 (by decide) ?_
    refine lv_goto (tgt := 11) hx hb d_X_keepFault_7 (by decide) ?_
    exact J11  x1 0 σ _ _ hP hD hS hI _ (lv_sub hl [0, 2] rfl) hE
theorem ok_X_66 : okV "PlainPages" 66 R_X y_X_makeReady b_X_makeReady 5 none 2 := ⟨aW_in 252 (by decide +kernel) rfl, aW_in 254 (by decide +kernel) rfl, aW_in 0 (by decide +kernel) rfl, aW_in 84 (by decide +kernel) rfl, cd_X_makeReady, rfl, by decide +kernel, by decide +kernel, by decide +kernel⟩
theorem d_X_feed_0 : decode b_X_feed 0 = .ok (.aload_n 0, 1) := by decide +kernel
theorem d_X_feed_1 : decode b_X_feed 1 = .ok (.iconst 0, 1) := by decide +kernel
theorem d_X_feed_2 : decode b_X_feed 2 = .ok (.iload_n 1, 1) := by decide +kernel
theorem d_X_feed_3 : decode b_X_feed 3 = .ok (.invokevirtual 66, 3) := by decide +kernel
theorem d_X_feed_6 : decode b_X_feed 6 = .ok (.aload_n 0, 1) := by decide +kernel
theorem d_X_feed_7 : decode b_X_feed 7 = .ok (.iconst 4, 1) := by decide +kernel
theorem d_X_feed_8 : decode b_X_feed 8 = .ok (.iload_n 2, 1) := by decide +kernel
theorem d_X_feed_9 : decode b_X_feed 9 = .ok (.invokevirtual 66, 3) := by decide +kernel
theorem d_X_feed_12 : decode b_X_feed 12 = .ok (.aload_n 0, 1) := by decide +kernel
theorem d_X_feed_13 : decode b_X_feed 13 = .ok (.bipush 8, 2) := by decide +kernel
theorem d_X_feed_15 : decode b_X_feed 15 = .ok (.iload_n 3, 1) := by decide +kernel
theorem d_X_feed_16 : decode b_X_feed 16 = .ok (.invokevirtual 66, 3) := by decide +kernel
theorem d_X_feed_19 : decode b_X_feed 19 = .ok (.aload_n 0, 1) := by decide +kernel
theorem d_X_feed_20 : decode b_X_feed 20 = .ok (.bipush 12, 2) := by decide +kernel
theorem d_X_feed_22 : decode b_X_feed 22 = .ok (.iload 4, 2) := by decide +kernel
theorem d_X_feed_24 : decode b_X_feed 24 = .ok (.invokevirtual 66, 3) := by decide +kernel
theorem d_X_feed_27 : decode b_X_feed 27 = .ok (.aload_n 0, 1) := by decide +kernel
theorem d_X_feed_28 : decode b_X_feed 28 = .ok (.bipush 16, 2) := by decide +kernel
theorem d_X_feed_30 : decode b_X_feed 30 = .ok (.iload 5, 2) := by decide +kernel
theorem d_X_feed_32 : decode b_X_feed 32 = .ok (.invokevirtual 66, 3) := by decide +kernel
theorem d_X_feed_35 : decode b_X_feed 35 = .ok (.return_, 1) := by decide +kernel
def w_X_feed  (σ : PPS) (x0 : Int32) (x1 : Int32) (x2 : Int32) (x3 : Int32) (x4 : Int32) (post : PPS → Prop) : Prop := w_X_makeReady σ 0 x0 (fun σ3 => w_X_makeReady σ3 4 x1 (fun σ9 => w_X_makeReady σ9 8 x2 (fun σ16 => w_X_makeReady σ16 12 x3 (fun σ24 => w_X_makeReady σ24 16 x4 (fun σ32 => post σ32)))))
set_option maxHeartbeats 4000000 in
set_option maxRecDepth 100000 in
theorem c_X_feed (l : Launch) (w : WD) (sz : Nat) (σ : PPS) (x0 : Int32) (x1 : Int32) (x2 : Int32) (x3 : Int32) (x4 : Int32)  (post : PPS → Prop) (hI : inv σ) (hE : w_X_feed σ x0 x1 x2 x3 x4 post) : Met l y_X_feed ws_X_feed { frames := 1, cells := 0, slots := 0, locals := 24 } (va_Pc [.ref (wA w 0), .int x0, .int x1, .int x2, .int x3, .int x4] (gW w σ sz)) (va_Qv (fun u => post u ∧ inv u) (mB (wG w) (WW w) (wI w) (va_A (WW w σ) sz)) (va_A (WW w σ) sz)) 0 0 (va_A (WW w σ) sz) := by
  refine Met.ofW (cc := b_X_feed) (maxL := 6) (ret := none) (by decide) rfl ?_
  intro p e s m args below meth c s₁ B hml hv
  obtain ⟨rfl, hsz, hP, hK, hD0, hC⟩ := hv
  have hx := B.exec
  have hb := B.bytes
  have hr := B.returns
  have hta : ∀ w ∈ aW, w.before _ s = true := fun w h => atoms_spec (ws := ws_X_feed) B.pre w (List.mem_cons_of_mem _ h)
  have hown : s.vm.findClass R_X = some m.cls := findClass_of_methodNamed B.named
  have hlocks := B.notSynchronized
  subst hsz
  have hD := hD0.self (sz := s.heap.size)
  generalize hAe : va_A (WW w σ) s.heap.size = A at hD hC ⊢
  have hA : ∀ q : Nat, s.heap.size ≤ q → A q := fun q h => by rw [← hAe]; exact Or.inr h
  have hS : va_S A s.heap s.heap [] := va_S.rf
  have hP : va_P (wG w) classes (WW w σ) s.heap := hP
  have hl := lv_entry ([.ref (wA w 0), .int x0, .int x1, .int x2, .int x3, .int x4]) (n := 6) (Nat.le_of_ble_eq_true rfl)
  rw [lg_entry_eq]
  generalize (lg_sl ([.ref (wA w 0), .int x0, .int x1, .int x2, .int x3, .int x4]) ++ List.replicate (6 - (lg_sl ([.ref (wA w 0), .int x0, .int x1, .int x2, .int x3, .int x4])).length) Slot.unset).toArray = ls at hl ⊢
  have hl : lv_has ls 6 [(0, .ref (wA w 0)), (1, .int x0), (2, .int x1), (3, .int x2), (4, .int x3), (5, .int x4)] := hl
  unfold w_X_feed at hE
  refine lv_aload_n hx hb d_X_feed_0 rfl (lv_at hl 0 rfl) ?_
  refine lv_iconst (v := 0) hx hb d_X_feed_1 (by decide) ?_
  refine lv_iload_n hx hb d_X_feed_2 rfl (lv_at hl 1 rfl) ?_
  refine mc_v (b0 := (wA w 0)) (As := [.int 0, .int x0]) (rest := []) ⟨hx, hb, hml, hown, hta⟩ (c_X_makeReady l w _ σ 0 x0 _ hI hE) ok_X_66 ⟨Nat.le_of_ble_eq_true rfl, Nat.le_of_ble_eq_true rfl⟩ (va_recv hK hP (ci := 0) (q0 := 0) rfl rfl) hP hK hD hS hA hC rfl hl.1 rfl (Nat.le_of_ble_eq_true rfl) d_X_feed_3 ⟨Nat.zero_le _, Nat.zero_le _⟩ (fun σ3 H locs hE hP hD hS => ?_)
  obtain ⟨hE, hI⟩ := hE
  refine lv_aload_n hx hb d_X_feed_6 rfl (lv_at hl 0 rfl) ?_
  refine lv_iconst (v := 4) hx hb d_X_feed_7 (by decide) ?_
  refine lv_iload_n hx hb d_X_feed_8 rfl (lv_at hl 2 rfl) ?_
  refine mc_v (b0 := (wA w 0)) (As := [.int 4, .int x1]) (rest := []) ⟨hx, hb, hml, hown, hta⟩ (c_X_makeReady l w _ σ3 4 x1 _ hI hE) ok_X_66 ⟨Nat.le_of_ble_eq_true rfl, Nat.le_of_ble_eq_true rfl⟩ (va_recv hK hP (ci := 0) (q0 := 0) rfl rfl) hP hK hD hS hA hC rfl hl.1 rfl (Nat.le_of_ble_eq_true rfl) d_X_feed_9 ⟨Nat.zero_le _, Nat.zero_le _⟩ (fun σ9 H locs hE hP hD hS => ?_)
  obtain ⟨hE, hI⟩ := hE
  refine lv_aload_n hx hb d_X_feed_12 rfl (lv_at hl 0 rfl) ?_
  refine lv_bipush (v := 8) hx hb d_X_feed_13 (by decide) ?_
  refine lv_iload_n hx hb d_X_feed_15 rfl (lv_at hl 3 rfl) ?_
  refine mc_v (b0 := (wA w 0)) (As := [.int 8, .int x2]) (rest := []) ⟨hx, hb, hml, hown, hta⟩ (c_X_makeReady l w _ σ9 8 x2 _ hI hE) ok_X_66 ⟨Nat.le_of_ble_eq_true rfl, Nat.le_of_ble_eq_true rfl⟩ (va_recv hK hP (ci := 0) (q0 := 0) rfl rfl) hP hK hD hS hA hC rfl hl.1 rfl (Nat.le_of_ble_eq_true rfl) d_X_feed_16 ⟨Nat.zero_le _, Nat.zero_le _⟩ (fun σ16 H locs hE hP hD hS => ?_)
  obtain ⟨hE, hI⟩ := hE
  refine lv_aload_n hx hb d_X_feed_19 rfl (lv_at hl 0 rfl) ?_
  refine lv_bipush (v := 12) hx hb d_X_feed_20 (by decide) ?_
  refine lv_iload hx hb d_X_feed_22 (lv_at hl 4 rfl) ?_
  refine mc_v (b0 := (wA w 0)) (As := [.int 12, .int x3]) (rest := []) ⟨hx, hb, hml, hown, hta⟩ (c_X_makeReady l w _ σ16 12 x3 _ hI hE) ok_X_66 ⟨Nat.le_of_ble_eq_true rfl, Nat.le_of_ble_eq_true rfl⟩ (va_recv hK hP (ci := 0) (q0 := 0) rfl rfl) hP hK hD hS hA hC rfl hl.1 rfl (Nat.le_of_ble_eq_true rfl) d_X_feed_24 ⟨Nat.zero_le _, Nat.zero_le _⟩ (fun σ24 H locs hE hP hD hS => ?_)
  obtain ⟨hE, hI⟩ := hE
  refine lv_aload_n hx hb d_X_feed_27 rfl (lv_at hl 0 rfl) ?_
  refine lv_bipush (v := 16) hx hb d_X_feed_28 (by decide) ?_
  refine lv_iload hx hb d_X_feed_30 (lv_at hl 5 rfl) ?_
  refine mc_v (b0 := (wA w 0)) (As := [.int 16, .int x4]) (rest := []) ⟨hx, hb, hml, hown, hta⟩ (c_X_makeReady l w _ σ24 16 x4 _ hI hE) ok_X_66 ⟨Nat.le_of_ble_eq_true rfl, Nat.le_of_ble_eq_true rfl⟩ (va_recv hK hP (ci := 0) (q0 := 0) rfl rfl) hP hK hD hS hA hC rfl hl.1 rfl (Nat.le_of_ble_eq_true rfl) d_X_feed_32 ⟨Nat.zero_le _, Nat.zero_le _⟩ (fun σ32 H locs hE hP hD hS => ?_)
  obtain ⟨hE, hI⟩ := hE
  exact W.vret hx hb hr (fun t ht hW => ⟨⟨σ32, rfl, ⟨hE, hI⟩, by rw [ht]; exact hP, va_K.moved hW.alike hK, hD⟩, hS.F ht⟩) hS.2.2 d_X_feed_35
theorem fl_X_18 : Cond.fieldLink "PlainPages" 18 "PlainPages" "tape" "LPlainPages$Strip;" ∈ aW := aW_in 221 (by decide +kernel) rfl
theorem ok_X_70 : okV "PlainPages" 70 R_Strip y_Strip_size b_Strip_size 1 (some .int) 0 := ⟨aW_in 260 (by decide +kernel) rfl, aW_in 261 (by decide +kernel) rfl, aW_in 262 (by decide +kernel) rfl, aW_in 85 (by decide +kernel) rfl, cd_Strip_size, rfl, by decide +kernel, by decide +kernel, by decide +kernel⟩
theorem ok_X_74 : okV "PlainPages" 74 R_Strip y_Strip_add b_Strip_add 2 none 1 := ⟨aW_in 264 (by decide +kernel) rfl, aW_in 265 (by decide +kernel) rfl, aW_in 266 (by decide +kernel) rfl, aW_in 85 (by decide +kernel) rfl, cd_Strip_add, rfl, by decide +kernel, by decide +kernel, by decide +kernel⟩
theorem d_X_end_0 : decode b_X_end 0 = .ok (.iload_n 1, 1) := by decide +kernel
theorem d_X_end_1 : decode b_X_end 1 = .ok (.ifCond .lt 27, 3) := by decide +kernel
theorem d_X_end_4 : decode b_X_end 4 = .ok (.iload_n 1, 1) := by decide +kernel
theorem d_X_end_5 : decode b_X_end 5 = .ok (.aload_n 0, 1) := by decide +kernel
theorem d_X_end_6 : decode b_X_end 6 = .ok (.getfield 9, 3) := by decide +kernel
theorem d_X_end_9 : decode b_X_end 9 = .ok (.arraylength, 1) := by decide +kernel
theorem d_X_end_10 : decode b_X_end 10 = .ok (.if_icmp .gt 18, 3) := by decide +kernel
theorem d_X_end_13 : decode b_X_end 13 = .ok (.aload_n 0, 1) := by decide +kernel
theorem d_X_end_14 : decode b_X_end 14 = .ok (.getfield 18, 3) := by decide +kernel
theorem d_X_end_17 : decode b_X_end 17 = .ok (.invokevirtual 70, 3) := by decide +kernel
theorem d_X_end_20 : decode b_X_end 20 = .ok (.iload_n 1, 1) := by decide +kernel
theorem d_X_end_21 : decode b_X_end 21 = .ok (.iadd, 1) := by decide +kernel
theorem d_X_end_22 : decode b_X_end 22 = .ok (.sipush 4000, 3) := by decide +kernel
theorem d_X_end_25 : decode b_X_end 25 = .ok (.if_icmp .le 5, 3) := by decide +kernel
theorem d_X_end_28 : decode b_X_end 28 = .ok (.iconst (-1), 1) := by decide +kernel
theorem d_X_end_29 : decode b_X_end 29 = .ok (.ireturn, 1) := by decide +kernel
theorem d_X_end_30 : decode b_X_end 30 = .ok (.iconst 0, 1) := by decide +kernel
theorem d_X_end_31 : decode b_X_end 31 = .ok (.istore_n 2, 1) := by decide +kernel
theorem d_X_end_32 : decode b_X_end 32 = .ok (.iload_n 2, 1) := by decide +kernel
theorem d_X_end_33 : decode b_X_end 33 = .ok (.iload_n 1, 1) := by decide +kernel
theorem d_X_end_34 : decode b_X_end 34 = .ok (.if_icmp .ge 22, 3) := by decide +kernel
theorem d_X_end_37 : decode b_X_end 37 = .ok (.aload_n 0, 1) := by decide +kernel
theorem d_X_end_38 : decode b_X_end 38 = .ok (.getfield 18, 3) := by decide +kernel
theorem d_X_end_41 : decode b_X_end 41 = .ok (.aload_n 0, 1) := by decide +kernel
theorem d_X_end_42 : decode b_X_end 42 = .ok (.getfield 9, 3) := by decide +kernel
theorem d_X_end_45 : decode b_X_end 45 = .ok (.iload_n 2, 1) := by decide +kernel
theorem d_X_end_46 : decode b_X_end 46 = .ok (.iaload, 1) := by decide +kernel
theorem d_X_end_47 : decode b_X_end 47 = .ok (.invokevirtual 74, 3) := by decide +kernel
theorem d_X_end_50 : decode b_X_end 50 = .ok (.iinc 2 1, 3) := by decide +kernel
theorem d_X_end_53 : decode b_X_end 53 = .ok (.goto (-21), 3) := by decide +kernel
theorem d_X_end_56 : decode b_X_end 56 = .ok (.iconst 0, 1) := by decide +kernel
theorem d_X_end_57 : decode b_X_end 57 = .ok (.istore_n 2, 1) := by decide +kernel
theorem d_X_end_58 : decode b_X_end 58 = .ok (.iload_n 2, 1) := by decide +kernel
theorem d_X_end_59 : decode b_X_end 59 = .ok (.aload_n 0, 1) := by decide +kernel
theorem d_X_end_60 : decode b_X_end 60 = .ok (.getfield 9, 3) := by decide +kernel
theorem d_X_end_63 : decode b_X_end 63 = .ok (.arraylength, 1) := by decide +kernel
theorem d_X_end_64 : decode b_X_end 64 = .ok (.if_icmp .ge 16, 3) := by decide +kernel
theorem d_X_end_67 : decode b_X_end 67 = .ok (.aload_n 0, 1) := by decide +kernel
theorem d_X_end_68 : decode b_X_end 68 = .ok (.getfield 9, 3) := by decide +kernel
theorem d_X_end_71 : decode b_X_end 71 = .ok (.iload_n 2, 1) := by decide +kernel
theorem d_X_end_72 : decode b_X_end 72 = .ok (.iconst 0, 1) := by decide +kernel
theorem d_X_end_73 : decode b_X_end 73 = .ok (.iastore, 1) := by decide +kernel
theorem d_X_end_74 : decode b_X_end 74 = .ok (.iinc 2 1, 3) := by decide +kernel
theorem d_X_end_77 : decode b_X_end 77 = .ok (.goto (-19), 3) := by decide +kernel
theorem d_X_end_80 : decode b_X_end 80 = .ok (.aload_n 0, 1) := by decide +kernel
theorem d_X_end_81 : decode b_X_end 81 = .ok (.getfield 18, 3) := by decide +kernel
theorem d_X_end_84 : decode b_X_end 84 = .ok (.invokevirtual 70, 3) := by decide +kernel
theorem d_X_end_87 : decode b_X_end 87 = .ok (.ireturn, 1) := by decide +kernel
def w_X_end_L58   (post : Int32 → PPS → Prop) : Nat → Int32 → PPS → Prop
  | 0, _, _ => False
  | n58 + 1, v2, σ => (((nI 20) ≤ v2 → post ((pTp σ).1) σ) ∧ (¬ (nI 20) ≤ v2 → (vp_in v2 20 ∧ (∀ σ73 : PPS, σ73 = sRd σ (upd (pRd σ) v2.toNatClampNeg 0) → w_X_end_L58 post n58 (v2 + 1) σ73))))
def w_X_end_L32  (v1 : Int32) (post : Int32 → PPS → Prop) : Nat → Int32 → PPS → Prop
  | 0, _, _ => False
  | n32 + 1, v2, σ => ((v1 ≤ v2 → (∃ n58, w_X_end_L58 post n58 0 σ)) ∧ (¬ v1 ≤ v2 → (vp_in v2 20 ∧ (∀ σ47 : PPS, σ47 = sTp σ (sAdd 4000 (pTp σ) ((pRd σ) v2.toNatClampNeg)) → w_X_end_L32 v1 post n32 (v2 + 1) σ47))))
def w_X_end  (σ : PPS) (x0 : Int32) (post : Int32 → PPS → Prop) : Prop := ((x0 < 0 → post (-1) σ) ∧ (¬ x0 < 0 → (((nI 20) < x0 → post (-1) σ) ∧ (¬ (nI 20) < x0 → (((((pTp σ).1) + x0) ≤ 4000 → (∃ n32, w_X_end_L32 x0 post n32 0 σ)) ∧ (¬ (((pTp σ).1) + x0) ≤ 4000 → post (-1) σ))))))
set_option maxHeartbeats 4000000 in
set_option maxRecDepth 100000 in
theorem c_X_end (l : Launch) (w : WD) (sz : Nat) (σ : PPS) (x0 : Int32)  (post : Int32 → PPS → Prop) (hI : inv σ) (hE : w_X_end σ x0 post) : Met l y_X_end ws_X_end { frames := 1, cells := 0, slots := 0, locals := 21 } (va_Pc [.ref (wA w 0), .int x0] (gW w σ sz)) (va_Qi (fun r u => post r u ∧ inv u) (mB (wG w) (WW w) (wI w) (va_A (WW w σ) sz)) (va_A (WW w σ) sz)) 0 0 (va_A (WW w σ) sz) := by
  refine Met.ofW (cc := b_X_end) (maxL := 3) (ret := (some .int)) (by decide) rfl ?_
  intro p e s m args below meth c s₁ B hml hv
  obtain ⟨rfl, hsz, hP, hK, hD0, hC⟩ := hv
  have hx := B.exec
  have hb := B.bytes
  have hr := B.returns
  have hta : ∀ w ∈ aW, w.before _ s = true := fun w h => atoms_spec (ws := ws_X_end) B.pre w (List.mem_cons_of_mem _ h)
  have hown : s.vm.findClass R_X = some m.cls := findClass_of_methodNamed B.named
  have hlocks := B.notSynchronized
  subst hsz
  have hD := hD0.self (sz := s.heap.size)
  generalize hAe : va_A (WW w σ) s.heap.size = A at hD hC ⊢
  have hA : ∀ q : Nat, s.heap.size ≤ q → A q := fun q h => by rw [← hAe]; exact Or.inr h
  have hS : va_S A s.heap s.heap [] := va_S.rf
  have hP : va_P (wG w) classes (WW w σ) s.heap := hP
  have hl := lv_entry ([.ref (wA w 0), .int x0]) (n := 3) (Nat.le_of_ble_eq_true rfl)
  rw [lg_entry_eq]
  generalize (lg_sl ([.ref (wA w 0), .int x0]) ++ List.replicate (3 - (lg_sl ([.ref (wA w 0), .int x0])).length) Slot.unset).toArray = ls at hl ⊢
  have hl : lv_has ls 3 [(0, .ref (wA w 0)), (1, .int x0)] := hl
  have L58 : ∀ (n58 : Nat) (v2 : Int32) (σ : PPS) (H : Heap) (locs : List Loc) (hP : va_P (wG w) classes (WW w σ) H) (hD : va_D A (WW w σ)) (hS : va_S A s.heap H locs) (hI : inv σ) (ls : Array Slot) (hl : lv_has ls 3 [(0, .ref (wA w 0)), (2, .int v2)]) (hE : w_X_end_L58 post n58 v2 σ), W p l e (headSpec ws_X_end { frames := 1, cells := 0, slots := 0, locals := 21 }).room s m ([.ref (wA w 0), .int x0] : List Value).toArray below meth c H locs 0 0 (MQ below (va_Qi (fun r u => post r u ∧ inv u) (mB (wG w) (WW w) (wI w) A) A) ([.ref (wA w 0), .int x0] : List Value).toArray s 0 0 A) (F0 m 58 ls []) := by
    intro n58
    induction n58 with
    | zero => intro v2 σ H locs hP hD hS hI ls hl hE; exact hE.elim
    | succ n58 ih58 =>
      intro v2 σ H locs hP hD hS hI ls hl hE
      unfold w_X_end_L58 at hE
      refine lv_iload_n hx hb d_X_end_58 rfl (lv_at hl 1 rfl) ?_
      refine lv_aload_n hx hb d_X_end_59 rfl (lv_at hl 0 rfl) ?_
      refine va_get (D := (wG w)) (ci := 0) (v := .ref (wA w 1)) (C := R_X) (T := F_X) (N := 9) hx hb hta i_X hown hK hP 0 rfl rfl 0 (by decide) (hta _ fl_X_9) (fun _ h9 => h9) rfl d_X_end_60 ?_
      refine va_alen (D := (wG w)) (v := nI 20) hx hb hK hP 1 0 rfl rfl rfl d_X_end_63 ?_
      refine lv_icmp_ge (tgt := 80) hx hb d_X_end_64 (by decide) (fun cc64 => ?_) (fun cc64 => ?_)
      · have hE := hE.1 cc64
        refine lv_aload_n hx hb d_X_end_80 rfl (lv_at hl 0 rfl) ?_
        refine va_get (D := (wG w)) (ci := 0) (v := .ref (wA w 2)) (C := R_X) (T := F_X) (N := 9) hx hb hta i_X hown hK hP 0 rfl rfl 1 (by decide) (hta _ fl_X_18) (fun _ h9 => h9) rfl d_X_end_81 ?_
        refine ro_V (b0 := (wA w 2)) (As := []) (rest := []) ⟨hx, hb, hml, hown, hta⟩ (c_Strip_size l (wG w) (wA w 2) (wA w 3) (wI w) 4000 (pTp σ)  (fun r => r = (pTp σ).1) rfl) ok_X_70 ⟨Nat.le_of_ble_eq_true rfl, Nat.le_of_ble_eq_true rfl⟩ blind_rW (va_recv hK hP (ci := 1) (q0 := 2) rfl rfl) (fun U h1 h2 => ⟨by rw [h1]; exact hP.sub [2, 3] rfl, va_K.moved h2.alike hK⟩) rfl hl.1 rfl (Nat.le_of_ble_eq_true rfl) d_X_end_84 ⟨Nat.zero_le _, Nat.zero_le _⟩ (fun r84 hrr => ?_)
        subst hrr
        exact W.iret (v := (pTp σ).1) hx hb hr (fun t ht hW => ⟨⟨_, σ, rfl, ⟨hE, hI⟩, by rw [ht]; exact hP, va_K.moved hW.alike hK, hD⟩, hS.F ht⟩) hS.2.2 d_X_end_87
      · have hE := hE.2 cc64
        refine lv_aload_n hx hb d_X_end_67 rfl (lv_at hl 0 rfl) ?_
        refine va_get (D := (wG w)) (ci := 0) (v := .ref (wA w 1)) (C := R_X) (T := F_X) (N := 9) hx hb hta i_X hown hK hP 0 rfl rfl 0 (by decide) (hta _ fl_X_9) (fun _ h9 => h9) rfl d_X_end_68 ?_
        refine lv_iload_n hx hb d_X_end_71 rfl (lv_at hl 1 rfl) ?_
        refine lv_iconst (v := 0) hx hb d_X_end_72 (by decide) ?_
        obtain ⟨hI73, hE⟩ := hE
        refine va_iast (D := (wG w)) (f := pRd σ) hx hb hK hP hD hS 1 0 rfl rfl hI73 d_X_end_73 (fun H locs hP hD hS => ?_)
        have hP : va_P (wG w) classes (WW w (sRd σ (upd (pRd σ) v2.toNatClampNeg 0))) H := hP
        have hD : va_D A (WW w (sRd σ (upd (pRd σ) v2.toNatClampNeg 0))) := hD
        have hI : inv (sRd σ (upd (pRd σ) v2.toNatClampNeg 0)) := hI
        have hE := hE _ rfl
        generalize (sRd σ (upd (pRd σ) v2.toNatClampNeg 0) : PPS) = σ73 at hP hD hI hE
        refine lv_iinc (v := v2 + 1) (lv' := [(2, .int (v2 + 1)), (0, .ref (wA w 0))]) hx hb d_X_end_74 hl (k := 1) rfl rfl (by decide) rfl (fun ls hl => ?_)
        refine lv_goto (tgt := 58) hx hb d_X_end_77 (by decide) ?_
        exact ih58 (v2 + 1) σ73 _ _ hP hD hS hI _ (lv_sub hl [1, 0] rfl) hE
  have L32 : ∀ (v1 : Int32) (n32 : Nat) (v2 : Int32) (σ : PPS) (H : Heap) (locs : List Loc) (hP : va_P (wG w) classes (WW w σ) H) (hD : va_D A (WW w σ)) (hS : va_S A s.heap H locs) (hI : inv σ) (ls : Array Slot) (hl : lv_has ls 3 [(0, .ref (wA w 0)), (1, .int v1), (2, .int v2)]) (hE : w_X_end_L32 v1 post n32 v2 σ), W p l e (headSpec ws_X_end { frames := 1, cells := 0, slots := 0, locals := 21 }).room s m ([.ref (wA w 0), .int x0] : List Value).toArray below meth c H locs 0 0 (MQ below (va_Qi (fun r u => post r u ∧ inv u) (mB (wG w) (WW w) (wI w) A) A) ([.ref (wA w 0), .int x0] : List Value).toArray s 0 0 A) (F0 m 32 ls []) := by
    intro v1 n32
    induction n32 with
    | zero => intro v2 σ H locs hP hD hS hI ls hl hE; exact hE.elim
    | succ n32 ih32 =>
      intro v2 σ H locs hP hD hS hI ls hl hE
      unfold w_X_end_L32 at hE
      refine lv_iload_n hx hb d_X_end_32 rfl (lv_at hl 2 rfl) ?_
      refine lv_iload_n hx hb d_X_end_33 rfl (lv_at hl 1 rfl) ?_
      refine lv_icmp_ge (tgt := 56) hx hb d_X_end_34 (by decide) (fun cc34 => ?_) (fun cc34 => ?_)
      · have hE := hE.1 cc34
        refine lv_iconst (v := 0) hx hb d_X_end_56 (by decide) ?_
        refine lv_istore_n (lv' := [(2, .int 0), (0, .ref (wA w 0)), (1, .int v1)]) hx hb d_X_end_57 rfl hl (by decide) rfl (fun ls hl => ?_)
        obtain ⟨n58, hE⟩ := hE
        exact L58  n58 0 σ _ _ hP hD hS hI _ (lv_sub hl [1, 0] rfl) hE
      · have hE := hE.2 cc34
        refine lv_aload_n hx hb d_X_end_37 rfl (lv_at hl 0 rfl) ?_
        refine va_get (D := (wG w)) (ci := 0) (v := .ref (wA w 2)) (C := R_X) (T := F_X) (N := 9) hx hb hta i_X hown hK hP 0 rfl rfl 1 (by decide) (hta _ fl_X_18) (fun _ h9 => h9) rfl d_X_end_38 ?_
        refine lv_aload_n hx hb d_X_end_41 rfl (lv_at hl 0 rfl) ?_
        refine va_get (D := (wG w)) (ci := 0) (v := .ref (wA w 1)) (C := R_X) (T := F_X) (N := 9) hx hb hta i_X hown hK hP 0 rfl rfl 0 (by decide) (hta _ fl_X_9) (fun _ h9 => h9) rfl d_X_end_42 ?_
        refine lv_iload_n hx hb d_X_end_45 rfl (lv_at hl 2 rfl) ?_
        obtain ⟨hI46, hE⟩ := hE
        refine va_iald (D := (wG w)) (f := pRd σ) hx hb hK hP 1 0 rfl rfl hI46 d_X_end_46 ?_
        refine cTp_v (As := [.int ((pRd σ) v2.toNatClampNeg)]) (rest := []) ⟨hx, hb, hml, hown, hta⟩ (c_Strip_add l (wG w) (wA w 2) (wA w 3) (wI w) 4000 _ (pTp σ) ((pRd σ) v2.toNatClampNeg) (fun u => u = sAdd 4000 (pTp σ) ((pRd σ) v2.toNatClampNeg)) (l_Strip_add (by decide) (inv.Tp hI) ((pRd σ) v2.toNatClampNeg))) ok_X_74 ⟨Nat.le_of_ble_eq_true rfl, Nat.le_of_ble_eq_true rfl⟩ hP hK hD hS hA rfl hl.1 rfl (Nat.le_of_ble_eq_true rfl) d_X_end_47 ⟨Nat.zero_le _, Nat.zero_le _⟩ (fun u H locs hrr hP hD hS => ?_)
        subst hrr
        have hP : va_P (wG w) classes (WW w (sTp σ (sAdd 4000 (pTp σ) ((pRd σ) v2.toNatClampNeg)))) H := hP
        have hD : va_D A (WW w (sTp σ (sAdd 4000 (pTp σ) ((pRd σ) v2.toNatClampNeg)))) := hD
        have hI : inv (sTp σ (sAdd 4000 (pTp σ) ((pRd σ) v2.toNatClampNeg))) := (inv.sTp hI (sOk_add (by decide) (inv.Tp hI) _))
        have hE := hE _ rfl
        generalize (sTp σ (sAdd 4000 (pTp σ) ((pRd σ) v2.toNatClampNeg)) : PPS) = σ47 at hP hD hI hE
        refine lv_iinc (v := v2 + 1) (lv' := [(2, .int (v2 + 1)), (0, .ref (wA w 0)), (1, .int v1)]) hx hb d_X_end_50 hl (k := 2) rfl rfl (by decide) rfl (fun ls hl => ?_)
        refine lv_goto (tgt := 32) hx hb d_X_end_53 (by decide) ?_
        exact ih32 (v2 + 1) σ47 _ _ hP hD hS hI _ (lv_sub hl [1, 2, 0] rfl) hE
  unfold w_X_end at hE
  refine lv_iload_n hx hb d_X_end_0 rfl (lv_at hl 1 rfl) ?_
  refine lv_if_lt (tgt := 28) hx hb d_X_end_1 (by decide) (fun cc1 => ?_) (fun cc1 => ?_)
  · have hE := hE.1 cc1
    refine lv_iconst (v := -1) hx hb d_X_end_28 (by decide) ?_
    exact W.iret (v := (-1)) hx hb hr (fun t ht hW => ⟨⟨_, σ, rfl, ⟨hE, hI⟩, by rw [ht]; exact hP, va_K.moved hW.alike hK, hD⟩, hS.F ht⟩) hS.2.2 d_X_end_29
  · have hE := hE.2 cc1
    refine lv_iload_n hx hb d_X_end_4 rfl (lv_at hl 1 rfl) ?_
    refine lv_aload_n hx hb d_X_end_5 rfl (lv_at hl 0 rfl) ?_
    refine va_get (D := (wG w)) (ci := 0) (v := .ref (wA w 1)) (C := R_X) (T := F_X) (N := 9) hx hb hta i_X hown hK hP 0 rfl rfl 0 (by decide) (hta _ fl_X_9) (fun _ h9 => h9) rfl d_X_end_6 ?_
    refine va_alen (D := (wG w)) (v := nI 20) hx hb hK hP 1 0 rfl rfl rfl d_X_end_9 ?_
    refine lv_icmp_gt (tgt := 28) hx hb d_X_end_10 (by decide) (fun cc10 => ?_) (fun cc10 => ?_)
    · have hE := hE.1 cc10
      refine lv_iconst (v := -1) hx hb d_X_end_28 (by decide) ?_
      exact W.iret (v := (-1)) hx hb hr (fun t ht hW => ⟨⟨_, σ, rfl, ⟨hE, hI⟩, by rw [ht]; exact hP, va_K.moved hW.alike hK, hD⟩, hS.F ht⟩) hS.2.2 d_X_end_29
    · have hE := hE.2 cc10
      refine lv_aload_n hx hb d_X_end_13 rfl (lv_at hl 0 rfl) ?_
      refine va_get (D := (wG w)) (ci := 0) (v := .ref (wA w 2)) (C := R_X) (T := F_X) (N := 9) hx hb hta i_X hown hK hP 0 rfl rfl 1 (by decide) (hta _ fl_X_18) (fun _ h9 => h9) rfl d_X_end_14 ?_
      refine ro_V (b0 := (wA w 2)) (As := []) (rest := []) ⟨hx, hb, hml, hown, hta⟩ (c_Strip_size l (wG w) (wA w 2) (wA w 3) (wI w) 4000 (pTp σ)  (fun r => r = (pTp σ).1) rfl) ok_X_70 ⟨Nat.le_of_ble_eq_true rfl, Nat.le_of_ble_eq_true rfl⟩ blind_rW (va_recv hK hP (ci := 1) (q0 := 2) rfl rfl) (fun U h1 h2 => ⟨by rw [h1]; exact hP.sub [2, 3] rfl, va_K.moved h2.alike hK⟩) rfl hl.1 rfl (Nat.le_of_ble_eq_true rfl) d_X_end_17 ⟨Nat.zero_le _, Nat.zero_le _⟩ (fun r17 hrr => ?_)
      subst hrr
      refine lv_iload_n hx hb d_X_end_20 rfl (lv_at hl 1 rfl) ?_
      refine lv_iadd hx hb d_X_end_21 ?_
      refine lv_sipush (v := 4000) hx hb d_X_end_22 (by decide) ?_
      refine lv_icmp_le (tgt := 30) hx hb d_X_end_25 (by decide) (fun cc25 => ?_) (fun cc25 => ?_)
      · have hE := hE.1 cc25
        refine lv_iconst (v := 0) hx hb d_X_end_30 (by decide) ?_
        refine lv_istore_n (lv' := [(2, .int 0), (0, .ref (wA w 0)), (1, .int x0)]) hx hb d_X_end_31 rfl hl (by decide) rfl (fun ls hl => ?_)
        obtain ⟨n32, hE⟩ := hE
        exact L32 x0 n32 0 σ _ _ hP hD hS hI _ (lv_sub hl [1, 2, 0] rfl) hE
      · have hE := hE.2 cc25
        refine lv_iconst (v := -1) hx hb d_X_end_28 (by decide) ?_
        exact W.iret (v := (-1)) hx hb hr (fun t ht hW => ⟨⟨_, σ, rfl, ⟨hE, hI⟩, by rw [ht]; exact hP, va_K.moved hW.alike hK, hD⟩, hS.F ht⟩) hS.2.2 d_X_end_29
theorem ok_X_77 : okV "PlainPages" 77 R_Strip y_Strip_clear b_Strip_clear 1 none 0 := ⟨aW_in 272 (by decide +kernel) rfl, aW_in 273 (by decide +kernel) rfl, aW_in 274 (by decide +kernel) rfl, aW_in 85 (by decide +kernel) rfl, cd_Strip_clear, rfl, by decide +kernel, by decide +kernel, by decide +kernel⟩
theorem d_X_wipe_0 : decode b_X_wipe 0 = .ok (.aload_n 0, 1) := by decide +kernel
theorem d_X_wipe_1 : decode b_X_wipe 1 = .ok (.getfield 18, 3) := by decide +kernel
theorem d_X_wipe_4 : decode b_X_wipe 4 = .ok (.invokevirtual 77, 3) := by decide +kernel
theorem d_X_wipe_7 : decode b_X_wipe 7 = .ok (.return_, 1) := by decide +kernel
def w_X_wipe  (σ : PPS)  (post : PPS → Prop) : Prop := (∀ σ4 : PPS, σ4 = sTp σ (sClr (pTp σ)) → post σ4)
set_option maxHeartbeats 4000000 in
set_option maxRecDepth 100000 in
theorem c_X_wipe (l : Launch) (w : WD) (sz : Nat) (σ : PPS)   (post : PPS → Prop) (hI : inv σ) (hE : w_X_wipe σ post) : Met l y_X_wipe ws_X_wipe { frames := 1, cells := 0, slots := 0, locals := 20 } (va_Pc [.ref (wA w 0)] (gW w σ sz)) (va_Qv (fun u => post u ∧ inv u) (mB (wG w) (WW w) (wI w) (va_A (WW w σ) sz)) (va_A (WW w σ) sz)) 0 0 (va_A (WW w σ) sz) := by
  refine Met.ofW (cc := b_X_wipe) (maxL := 1) (ret := none) (by decide) rfl ?_
  intro p e s m args below meth c s₁ B hml hv
  obtain ⟨rfl, hsz, hP, hK, hD0, hC⟩ := hv
  have hx := B.exec
  have hb := B.bytes
  have hr := B.returns
  have hta : ∀ w ∈ aW, w.before _ s = true := fun w h => atoms_spec (ws := ws_X_wipe) B.pre w (List.mem_cons_of_mem _ h)
  have hown : s.vm.findClass R_X = some m.cls := findClass_of_methodNamed B.named
  have hlocks := B.notSynchronized
  subst hsz
  have hD := hD0.self (sz := s.heap.size)
  generalize hAe : va_A (WW w σ) s.heap.size = A at hD hC ⊢
  have hA : ∀ q : Nat, s.heap.size ≤ q → A q := fun q h => by rw [← hAe]; exact Or.inr h
  have hS : va_S A s.heap s.heap [] := va_S.rf
  have hP : va_P (wG w) classes (WW w σ) s.heap := hP
  have hl := lv_entry ([.ref (wA w 0)]) (n := 1) (Nat.le_of_ble_eq_true rfl)
  rw [lg_entry_eq]
  generalize (lg_sl ([.ref (wA w 0)]) ++ List.replicate (1 - (lg_sl ([.ref (wA w 0)])).length) Slot.unset).toArray = ls at hl ⊢
  have hl : lv_has ls 1 [(0, .ref (wA w 0))] := hl
  unfold w_X_wipe at hE
  refine lv_aload_n hx hb d_X_wipe_0 rfl (lv_at hl 0 rfl) ?_
  refine va_get (D := (wG w)) (ci := 0) (v := .ref (wA w 2)) (C := R_X) (T := F_X) (N := 9) hx hb hta i_X hown hK hP 0 rfl rfl 1 (by decide) (hta _ fl_X_18) (fun _ h9 => h9) rfl d_X_wipe_1 ?_
  refine cTp_v (As := []) (rest := []) ⟨hx, hb, hml, hown, hta⟩ (c_Strip_clear l (wG w) (wA w 2) (wA w 3) (wI w) 4000 _ (pTp σ) (fun u => u = sClr (pTp σ)) (fun _ e => e)) ok_X_77 ⟨Nat.le_of_ble_eq_true rfl, Nat.le_of_ble_eq_true rfl⟩ hP hK hD hS hA rfl hl.1 rfl (Nat.le_of_ble_eq_true rfl) d_X_wipe_4 ⟨Nat.zero_le _, Nat.zero_le _⟩ (fun u H locs hrr hP hD hS => ?_)
  subst hrr
  have hP : va_P (wG w) classes (WW w (sTp σ (sClr (pTp σ)))) H := hP
  have hD : va_D A (WW w (sTp σ (sClr (pTp σ)))) := hD
  have hI : inv (sTp σ (sClr (pTp σ))) := (inv.sTp hI (sOk_clr _))
  have hE := hE _ rfl
  generalize (sTp σ (sClr (pTp σ)) : PPS) = σ4 at hP hD hI hE
  exact W.vret hx hb hr (fun t ht hW => ⟨⟨σ4, rfl, ⟨hE, hI⟩, by rw [ht]; exact hP, va_K.moved hW.alike hK, hD⟩, hS.F ht⟩) hS.2.2 d_X_wipe_7

theorem d_X_fault_0 : decode b_X_fault 0 = .ok (.iload_n 1, 1) := by decide +kernel
theorem d_X_fault_1 : decode b_X_fault 1 = .ok (.ifCond .ne 8, 3) := by decide +kernel
theorem d_X_fault_4 : decode b_X_fault 4 = .ok (.aload_n 0, 1) := by decide +kernel
theorem d_X_fault_5 : decode b_X_fault 5 = .ok (.getfield 59, 3) := by decide +kernel
theorem d_X_fault_8 : decode b_X_fault 8 = .ok (.ireturn, 1) := by decide +kernel
theorem d_X_fault_9 : decode b_X_fault 9 = .ok (.iload_n 1, 1) := by decide +kernel
theorem d_X_fault_10 : decode b_X_fault 10 = .ok (.iconst 1, 1) := by decide +kernel
theorem d_X_fault_11 : decode b_X_fault 11 = .ok (.if_icmp .ne 10, 3) := by decide +kernel
theorem d_X_fault_14 : decode b_X_fault 14 = .ok (.aload_n 0, 1) := by decide +kernel
theorem d_X_fault_15 : decode b_X_fault 15 = .ok (.getfield 63, 3) := by decide +kernel
theorem d_X_fault_18 : decode b_X_fault 18 = .ok (.goto 4, 3) := by decide +kernel
theorem d_X_fault_21 : decode b_X_fault 21 = .ok (.iconst (-1), 1) := by decide +kernel
theorem d_X_fault_22 : decode b_X_fault 22 = .ok (.ireturn, 1) := by decide +kernel
def w_X_fault  (σ : PPS) (x0 : Int32) (post : Int32 → Prop) : Prop := ((x0 = 0 → post (pFs σ)) ∧ (¬ x0 = 0 → ((x0 = 1 → post (pFp σ)) ∧ (¬ x0 = 1 → post (-1)))))
set_option maxHeartbeats 4000000 in
set_option maxRecDepth 100000 in
theorem c_X_fault (l : Launch) (w : WD) (σ : PPS) (x0 : Int32)  (post : Int32 → Prop) (hI : inv σ) (hE : w_X_fault σ x0 post) : Met l y_X_fault ws_X_fault { frames := 0, cells := 0, slots := 0, locals := 0 } (va_Pc [.ref (wA w 0), .int x0] (fW w σ)) (vp_Si post) 0 0 (fun _ => False) := by
  refine Met.ofW (cc := b_X_fault) (maxL := 2) (ret := (some .int)) (by decide) rfl ?_
  intro p e s m args below meth c s₁ B hml hv
  obtain ⟨rfl, hP, hK, hC⟩ := hv
  have hS : va_S (fun _ : Nat => False) s.heap s.heap [] := va_S.rf
  have hx := B.exec
  have hb := B.bytes
  have hr := B.returns
  have hta : ∀ w ∈ aW, w.before _ s = true := fun w h => atoms_spec (ws := ws_X_fault) B.pre w (List.mem_cons_of_mem _ h)
  have hown : s.vm.findClass R_X = some m.cls := findClass_of_methodNamed B.named
  have hlocks := B.notSynchronized
  have hl := lv_entry ([.ref (wA w 0), .int x0]) (n := 2) (Nat.le_of_ble_eq_true rfl)
  rw [lg_entry_eq]
  generalize (lg_sl ([.ref (wA w 0), .int x0]) ++ List.replicate (2 - (lg_sl ([.ref (wA w 0), .int x0])).length) Slot.unset).toArray = ls at hl ⊢
  have hl : lv_has ls 2 [(0, .ref (wA w 0)), (1, .int x0)] := hl
  unfold w_X_fault at hE
  refine lv_iload_n hx hb d_X_fault_0 rfl (lv_at hl 1 rfl) ?_
  refine lv_if_ne (tgt := 9) hx hb d_X_fault_1 (by decide) (fun cc1 => ?_) (fun cc1 => ?_)
  · have hE := hE.2 cc1
    refine lv_iload_n hx hb d_X_fault_9 rfl (lv_at hl 1 rfl) ?_
    refine lv_iconst (v := 1) hx hb d_X_fault_10 (by decide) ?_
    refine lv_icmp_ne (tgt := 21) hx hb d_X_fault_11 (by decide) (fun cc11 => ?_) (fun cc11 => ?_)
    · have hE := hE.2 cc11
      refine lv_iconst (v := -1) hx hb d_X_fault_21 (by decide) ?_
      exact W.iret (v := (-1)) hx hb hr (fun t ht hW => ⟨_, rfl, hE, ht⟩) (fun q h => by cases h) d_X_fault_22
    · have hE := hE.1 cc11
      refine lv_aload_n hx hb d_X_fault_14 rfl (lv_at hl 0 rfl) ?_
      refine va_get (D := (wG w)) (ci := 0) (v := .int (pFp σ)) (C := R_X) (T := F_X) (N := 9) hx hb hta i_X hown hK hP 0 rfl rfl 8 (by decide) (hta _ fl_X_63) (fun _ h9 => h9) rfl d_X_fault_15 ?_
      refine lv_goto (tgt := 22) hx hb d_X_fault_18 (by decide) ?_
      exact W.iret (v := pFp σ) hx hb hr (fun t ht hW => ⟨_, rfl, hE, ht⟩) (fun q h => by cases h) d_X_fault_22
  · have hE := hE.1 cc1
    refine lv_aload_n hx hb d_X_fault_4 rfl (lv_at hl 0 rfl) ?_
    refine va_get (D := (wG w)) (ci := 0) (v := .int (pFs σ)) (C := R_X) (T := F_X) (N := 9) hx hb hta i_X hown hK hP 0 rfl rfl 7 (by decide) (hta _ fl_X_59) (fun _ h9 => h9) rfl d_X_fault_5 ?_
    exact W.iret (v := pFs σ) hx hb hr (fun t ht hW => ⟨_, rfl, hE, ht⟩) (fun q h => by cases h) d_X_fault_8
theorem fl_X_28 : Cond.fieldLink "PlainPages" 28 "PlainPages" "book" "LPlainPages$Book;" ∈ aW := aW_in 223 (by decide +kernel) rfl
theorem ok_X_106 : okV "PlainPages" 106 R_Book y_Book_ofNode b_Book_ofNode 3 (some .int) 2 := ⟨aW_in 284 (by decide +kernel) rfl, aW_in 285 (by decide +kernel) rfl, aW_in 286 (by decide +kernel) rfl, aW_in 87 (by decide +kernel) rfl, cd_Book_ofNode, rfl, by decide +kernel, by decide +kernel, by decide +kernel⟩
theorem d_X_node_0 : decode b_X_node 0 = .ok (.iload_n 2, 1) := by decide +kernel
theorem d_X_node_1 : decode b_X_node 1 = .ok (.bipush 7, 2) := by decide +kernel
theorem d_X_node_3 : decode b_X_node 3 = .ok (.if_icmp .le 7, 3) := by decide +kernel
theorem d_X_node_6 : decode b_X_node 6 = .ok (.iconst (-1), 1) := by decide +kernel
theorem d_X_node_7 : decode b_X_node 7 = .ok (.goto 12, 3) := by decide +kernel
theorem d_X_node_10 : decode b_X_node 10 = .ok (.aload_n 0, 1) := by decide +kernel
theorem d_X_node_11 : decode b_X_node 11 = .ok (.getfield 28, 3) := by decide +kernel
theorem d_X_node_14 : decode b_X_node 14 = .ok (.iload_n 1, 1) := by decide +kernel
theorem d_X_node_15 : decode b_X_node 15 = .ok (.iload_n 2, 1) := by decide +kernel
theorem d_X_node_16 : decode b_X_node 16 = .ok (.invokevirtual 106, 3) := by decide +kernel
theorem d_X_node_19 : decode b_X_node 19 = .ok (.ireturn, 1) := by decide +kernel
def w_X_node  (σ : PPS) (x0 : Int32) (x1 : Int32) (post : Int32 → Prop) : Prop := ((x1 ≤ 7 → post (tGet 14 (pNd σ) x0 x1)) ∧ (¬ x1 ≤ 7 → post (-1)))
set_option maxHeartbeats 4000000 in
set_option maxRecDepth 100000 in
theorem c_X_node (l : Launch) (w : WD) (σ : PPS) (x0 : Int32) (x1 : Int32)  (post : Int32 → Prop) (hI : inv σ) (hE : w_X_node σ x0 x1 post) : Met l y_X_node ws_X_node { frames := 2, cells := 0, slots := 0, locals := 45 } (va_Pc [.ref (wA w 0), .int x0, .int x1] (fW w σ)) (vp_Si post) 0 0 (fun _ => False) := by
  refine Met.ofW (cc := b_X_node) (maxL := 3) (ret := (some .int)) (by decide) rfl ?_
  intro p e s m args below meth c s₁ B hml hv
  obtain ⟨rfl, hP, hK, hC⟩ := hv
  have hS : va_S (fun _ : Nat => False) s.heap s.heap [] := va_S.rf
  have hx := B.exec
  have hb := B.bytes
  have hr := B.returns
  have hta : ∀ w ∈ aW, w.before _ s = true := fun w h => atoms_spec (ws := ws_X_node) B.pre w (List.mem_cons_of_mem _ h)
  have hown : s.vm.findClass R_X = some m.cls := findClass_of_methodNamed B.named
  have hlocks := B.notSynchronized
  have hl := lv_entry ([.ref (wA w 0), .int x0, .int x1]) (n := 3) (Nat.le_of_ble_eq_true rfl)
  rw [lg_entry_eq]
  generalize (lg_sl ([.ref (wA w 0), .int x0, .int x1]) ++ List.replicate (3 - (lg_sl ([.ref (wA w 0), .int x0, .int x1])).length) Slot.unset).toArray = ls at hl ⊢
  have hl : lv_has ls 3 [(0, .ref (wA w 0)), (1, .int x0), (2, .int x1)] := hl
  unfold w_X_node at hE
  refine lv_iload_n hx hb d_X_node_0 rfl (lv_at hl 2 rfl) ?_
  refine lv_bipush (v := 7) hx hb d_X_node_1 (by decide) ?_
  refine lv_icmp_le (tgt := 10) hx hb d_X_node_3 (by decide) (fun cc3 => ?_) (fun cc3 => ?_)
  · have hE := hE.1 cc3
    refine lv_aload_n hx hb d_X_node_10 rfl (lv_at hl 0 rfl) ?_
    refine va_get (D := (wG w)) (ci := 0) (v := .ref (wA w 6)) (C := R_X) (T := F_X) (N := 9) hx hb hta i_X hown hK hP 0 rfl rfl 3 (by decide) (hta _ fl_X_28) (fun _ h9 => h9) rfl d_X_node_11 ?_
    refine lv_iload_n hx hb d_X_node_14 rfl (lv_at hl 1 rfl) ?_
    refine lv_iload_n hx hb d_X_node_15 rfl (lv_at hl 2 rfl) ?_
    refine ro_V (b0 := (wA w 6)) (As := [.int x0, .int x1]) (rest := []) ⟨hx, hb, hml, hown, hta⟩ (f_Book_ofNode l w σ x0 x1 hI) ok_X_106 ⟨Nat.le_of_ble_eq_true rfl, Nat.le_of_ble_eq_true rfl⟩ blind_fW (va_recv hK hP (ci := 3) (q0 := 6) rfl rfl) (fW_of hP hK hC hS) rfl hl.1 rfl (Nat.le_of_ble_eq_true rfl) d_X_node_16 ⟨Nat.zero_le _, Nat.zero_le _⟩ (fun r16 hrr => ?_)
    subst hrr
    exact W.iret (v := tGet 14 (pNd σ) x0 x1) hx hb hr (fun t ht hW => ⟨_, rfl, hE, ht⟩) (fun q h => by cases h) d_X_node_19
  · have hE := hE.2 cc3
    refine lv_iconst (v := -1) hx hb d_X_node_6 (by decide) ?_
    refine lv_goto (tgt := 19) hx hb d_X_node_7 (by decide) ?_
    exact W.iret (v := (-1)) hx hb hr (fun t ht hW => ⟨_, rfl, hE, ht⟩) (fun q h => by cases h) d_X_node_19
theorem ok_X_110 : okV "PlainPages" 110 R_Book y_Book_letterAt b_Book_letterAt 4 (some .int) 3 := ⟨aW_in 296 (by decide +kernel) rfl, aW_in 297 (by decide +kernel) rfl, aW_in 298 (by decide +kernel) rfl, aW_in 87 (by decide +kernel) rfl, cd_Book_letterAt, rfl, by decide +kernel, by decide +kernel, by decide +kernel⟩
theorem d_X_letter_0 : decode b_X_letter 0 = .ok (.aload_n 0, 1) := by decide +kernel
theorem d_X_letter_1 : decode b_X_letter 1 = .ok (.getfield 28, 3) := by decide +kernel
theorem d_X_letter_4 : decode b_X_letter 4 = .ok (.aload_n 0, 1) := by decide +kernel
theorem d_X_letter_5 : decode b_X_letter 5 = .ok (.getfield 28, 3) := by decide +kernel
theorem d_X_letter_8 : decode b_X_letter 8 = .ok (.iload_n 1, 1) := by decide +kernel
theorem d_X_letter_9 : decode b_X_letter 9 = .ok (.bipush 8, 2) := by decide +kernel
theorem d_X_letter_11 : decode b_X_letter 11 = .ok (.invokevirtual 106, 3) := by decide +kernel
theorem d_X_letter_14 : decode b_X_letter 14 = .ok (.aload_n 0, 1) := by decide +kernel
theorem d_X_letter_15 : decode b_X_letter 15 = .ok (.getfield 28, 3) := by decide +kernel
theorem d_X_letter_18 : decode b_X_letter 18 = .ok (.iload_n 1, 1) := by decide +kernel
theorem d_X_letter_19 : decode b_X_letter 19 = .ok (.iconst 3, 1) := by decide +kernel
theorem d_X_letter_20 : decode b_X_letter 20 = .ok (.invokevirtual 106, 3) := by decide +kernel
theorem d_X_letter_23 : decode b_X_letter 23 = .ok (.iload_n 2, 1) := by decide +kernel
theorem d_X_letter_24 : decode b_X_letter 24 = .ok (.invokevirtual 110, 3) := by decide +kernel
theorem d_X_letter_27 : decode b_X_letter 27 = .ok (.ireturn, 1) := by decide +kernel
def w_X_letter  (σ : PPS) (x0 : Int32) (x1 : Int32) (post : Int32 → Prop) : Prop := post (bLet σ (tGet 14 (pNd σ) x0 8) (tGet 14 (pNd σ) x0 3) x1)
set_option maxHeartbeats 4000000 in
set_option maxRecDepth 100000 in
theorem c_X_letter (l : Launch) (w : WD) (σ : PPS) (x0 : Int32) (x1 : Int32)  (post : Int32 → Prop) (hI : inv σ) (hE : w_X_letter σ x0 x1 post) : Met l y_X_letter ws_X_letter { frames := 2, cells := 0, slots := 0, locals := 45 } (va_Pc [.ref (wA w 0), .int x0, .int x1] (fW w σ)) (vp_Si post) 0 0 (fun _ => False) := by
  refine Met.ofW (cc := b_X_letter) (maxL := 3) (ret := (some .int)) (by decide) rfl ?_
  intro p e s m args below meth c s₁ B hml hv
  obtain ⟨rfl, hP, hK, hC⟩ := hv
  have hS : va_S (fun _ : Nat => False) s.heap s.heap [] := va_S.rf
  have hx := B.exec
  have hb := B.bytes
  have hr := B.returns
  have hta : ∀ w ∈ aW, w.before _ s = true := fun w h => atoms_spec (ws := ws_X_letter) B.pre w (List.mem_cons_of_mem _ h)
  have hown : s.vm.findClass R_X = some m.cls := findClass_of_methodNamed B.named
  have hlocks := B.notSynchronized
  have hl := lv_entry ([.ref (wA w 0), .int x0, .int x1]) (n := 3) (Nat.le_of_ble_eq_true rfl)
  rw [lg_entry_eq]
  generalize (lg_sl ([.ref (wA w 0), .int x0, .int x1]) ++ List.replicate (3 - (lg_sl ([.ref (wA w 0), .int x0, .int x1])).length) Slot.unset).toArray = ls at hl ⊢
  have hl : lv_has ls 3 [(0, .ref (wA w 0)), (1, .int x0), (2, .int x1)] := hl
  unfold w_X_letter at hE
  refine lv_aload_n hx hb d_X_letter_0 rfl (lv_at hl 0 rfl) ?_
  refine va_get (D := (wG w)) (ci := 0) (v := .ref (wA w 6)) (C := R_X) (T := F_X) (N := 9) hx hb hta i_X hown hK hP 0 rfl rfl 3 (by decide) (hta _ fl_X_28) (fun _ h9 => h9) rfl d_X_letter_1 ?_
  refine lv_aload_n hx hb d_X_letter_4 rfl (lv_at hl 0 rfl) ?_
  refine va_get (D := (wG w)) (ci := 0) (v := .ref (wA w 6)) (C := R_X) (T := F_X) (N := 9) hx hb hta i_X hown hK hP 0 rfl rfl 3 (by decide) (hta _ fl_X_28) (fun _ h9 => h9) rfl d_X_letter_5 ?_
  refine lv_iload_n hx hb d_X_letter_8 rfl (lv_at hl 1 rfl) ?_
  refine lv_bipush (v := 8) hx hb d_X_letter_9 (by decide) ?_
  refine ro_V (b0 := (wA w 6)) (As := [.int x0, .int 8]) (rest := [.ref (wA w 6)]) ⟨hx, hb, hml, hown, hta⟩ (f_Book_ofNode l w σ x0 8 hI) ok_X_106 ⟨Nat.le_of_ble_eq_true rfl, Nat.le_of_ble_eq_true rfl⟩ blind_fW (va_recv hK hP (ci := 3) (q0 := 6) rfl rfl) (fW_of hP hK hC hS) rfl hl.1 rfl (Nat.le_of_ble_eq_true rfl) d_X_letter_11 ⟨Nat.zero_le _, Nat.zero_le _⟩ (fun r11 hrr => ?_)
  subst hrr
  refine lv_aload_n hx hb d_X_letter_14 rfl (lv_at hl 0 rfl) ?_
  refine va_get (D := (wG w)) (ci := 0) (v := .ref (wA w 6)) (C := R_X) (T := F_X) (N := 9) hx hb hta i_X hown hK hP 0 rfl rfl 3 (by decide) (hta _ fl_X_28) (fun _ h9 => h9) rfl d_X_letter_15 ?_
  refine lv_iload_n hx hb d_X_letter_18 rfl (lv_at hl 1 rfl) ?_
  refine lv_iconst (v := 3) hx hb d_X_letter_19 (by decide) ?_
  refine ro_V (b0 := (wA w 6)) (As := [.int x0, .int 3]) (rest := [.int (tGet 14 (pNd σ) x0 8), .ref (wA w 6)]) ⟨hx, hb, hml, hown, hta⟩ (f_Book_ofNode l w σ x0 3 hI) ok_X_106 ⟨Nat.le_of_ble_eq_true rfl, Nat.le_of_ble_eq_true rfl⟩ blind_fW (va_recv hK hP (ci := 3) (q0 := 6) rfl rfl) (fW_of hP hK hC hS) rfl hl.1 rfl (Nat.le_of_ble_eq_true rfl) d_X_letter_20 ⟨Nat.zero_le _, Nat.zero_le _⟩ (fun r20 hrr => ?_)
  subst hrr
  refine lv_iload_n hx hb d_X_letter_23 rfl (lv_at hl 2 rfl) ?_
  refine ro_V (b0 := (wA w 6)) (As := [.int (tGet 14 (pNd σ) x0 8), .int (tGet 14 (pNd σ) x0 3), .int x1]) (rest := []) ⟨hx, hb, hml, hown, hta⟩ (f_Book_letterAt l w σ (tGet 14 (pNd σ) x0 8) (tGet 14 (pNd σ) x0 3) x1 hI) ok_X_110 ⟨Nat.le_of_ble_eq_true rfl, Nat.le_of_ble_eq_true rfl⟩ blind_fW (va_recv hK hP (ci := 3) (q0 := 6) rfl rfl) (fW_of hP hK hC hS) rfl hl.1 rfl (Nat.le_of_ble_eq_true rfl) d_X_letter_24 ⟨Nat.zero_le _, Nat.zero_le _⟩ (fun r24 hrr => ?_)
  subst hrr
  exact W.iret (v := bLet σ (tGet 14 (pNd σ) x0 8) (tGet 14 (pNd σ) x0 3) x1) hx hb hr (fun t ht hW => ⟨_, rfl, hE, ht⟩) (fun q h => by cases h) d_X_letter_27
theorem ok_X_114 : okV "PlainPages" 114 R_Book y_Book_attributeOf b_Book_attributeOf 4 (some .int) 2 := ⟨aW_in 308 (by decide +kernel) rfl, aW_in 309 (by decide +kernel) rfl, aW_in 310 (by decide +kernel) rfl, aW_in 87 (by decide +kernel) rfl, cd_Book_attributeOf, rfl, by decide +kernel, by decide +kernel, by decide +kernel⟩
theorem ok_X_117 : okV "PlainPages" 117 R_Book y_Book_ofAttribute b_Book_ofAttribute 3 (some .int) 2 := ⟨aW_in 312 (by decide +kernel) rfl, aW_in 313 (by decide +kernel) rfl, aW_in 314 (by decide +kernel) rfl, aW_in 87 (by decide +kernel) rfl, cd_Book_ofAttribute, rfl, by decide +kernel, by decide +kernel, by decide +kernel⟩
theorem d_X_attribute_0 : decode b_X_attribute 0 = .ok (.iload_n 3, 1) := by decide +kernel
theorem d_X_attribute_1 : decode b_X_attribute 1 = .ok (.iconst 2, 1) := by decide +kernel
theorem d_X_attribute_2 : decode b_X_attribute 2 = .ok (.if_icmp .le 7, 3) := by decide +kernel
theorem d_X_attribute_5 : decode b_X_attribute 5 = .ok (.iconst (-1), 1) := by decide +kernel
theorem d_X_attribute_6 : decode b_X_attribute 6 = .ok (.goto 20, 3) := by decide +kernel
theorem d_X_attribute_9 : decode b_X_attribute 9 = .ok (.aload_n 0, 1) := by decide +kernel
theorem d_X_attribute_10 : decode b_X_attribute 10 = .ok (.getfield 28, 3) := by decide +kernel
theorem d_X_attribute_13 : decode b_X_attribute 13 = .ok (.aload_n 0, 1) := by decide +kernel
theorem d_X_attribute_14 : decode b_X_attribute 14 = .ok (.getfield 28, 3) := by decide +kernel
theorem d_X_attribute_17 : decode b_X_attribute 17 = .ok (.iload_n 1, 1) := by decide +kernel
theorem d_X_attribute_18 : decode b_X_attribute 18 = .ok (.iload_n 2, 1) := by decide +kernel
theorem d_X_attribute_19 : decode b_X_attribute 19 = .ok (.invokevirtual 114, 3) := by decide +kernel
theorem d_X_attribute_22 : decode b_X_attribute 22 = .ok (.iload_n 3, 1) := by decide +kernel
theorem d_X_attribute_23 : decode b_X_attribute 23 = .ok (.invokevirtual 117, 3) := by decide +kernel
theorem d_X_attribute_26 : decode b_X_attribute 26 = .ok (.ireturn, 1) := by decide +kernel
def w_X_attribute  (σ : PPS) (x0 : Int32) (x1 : Int32) (x2 : Int32) (post : Int32 → Prop) : Prop := ((x2 ≤ 2 → post (tGet 5 (pAt σ) (bAtt σ x0 x1) x2)) ∧ (¬ x2 ≤ 2 → post (-1)))
set_option maxHeartbeats 4000000 in
set_option maxRecDepth 100000 in
theorem c_X_attribute (l : Launch) (w : WD) (σ : PPS) (x0 : Int32) (x1 : Int32) (x2 : Int32)  (post : Int32 → Prop) (hI : inv σ) (hE : w_X_attribute σ x0 x1 x2 post) : Met l y_X_attribute ws_X_attribute { frames := 2, cells := 0, slots := 0, locals := 46 } (va_Pc [.ref (wA w 0), .int x0, .int x1, .int x2] (fW w σ)) (vp_Si post) 0 0 (fun _ => False) := by
  refine Met.ofW (cc := b_X_attribute) (maxL := 4) (ret := (some .int)) (by decide) rfl ?_
  intro p e s m args below meth c s₁ B hml hv
  obtain ⟨rfl, hP, hK, hC⟩ := hv
  have hS : va_S (fun _ : Nat => False) s.heap s.heap [] := va_S.rf
  have hx := B.exec
  have hb := B.bytes
  have hr := B.returns
  have hta : ∀ w ∈ aW, w.before _ s = true := fun w h => atoms_spec (ws := ws_X_attribute) B.pre w (List.mem_cons_of_mem _ h)
  have hown : s.vm.findClass R_X = some m.cls := findClass_of_methodNamed B.named
  have hlocks := B.notSynchronized
  have hl := lv_entry ([.ref (wA w 0), .int x0, .int x1, .int x2]) (n := 4) (Nat.le_of_ble_eq_true rfl)
  rw [lg_entry_eq]
  generalize (lg_sl ([.ref (wA w 0), .int x0, .int x1, .int x2]) ++ List.replicate (4 - (lg_sl ([.ref (wA w 0), .int x0, .int x1, .int x2])).length) Slot.unset).toArray = ls at hl ⊢
  have hl : lv_has ls 4 [(0, .ref (wA w 0)), (1, .int x0), (2, .int x1), (3, .int x2)] := hl
  unfold w_X_attribute at hE
  refine lv_iload_n hx hb d_X_attribute_0 rfl (lv_at hl 3 rfl) ?_
  refine lv_iconst (v := 2) hx hb d_X_attribute_1 (by decide) ?_
  refine lv_icmp_le (tgt := 9) hx hb d_X_attribute_2 (by decide) (fun cc2 => ?_) (fun cc2 => ?_)
  · have hE := hE.1 cc2
    refine lv_aload_n hx hb d_X_attribute_9 rfl (lv_at hl 0 rfl) ?_
    refine va_get (D := (wG w)) (ci := 0) (v := .ref (wA w 6)) (C := R_X) (T := F_X) (N := 9) hx hb hta i_X hown hK hP 0 rfl rfl 3 (by decide) (hta _ fl_X_28) (fun _ h9 => h9) rfl d_X_attribute_10 ?_
    refine lv_aload_n hx hb d_X_attribute_13 rfl (lv_at hl 0 rfl) ?_
    refine va_get (D := (wG w)) (ci := 0) (v := .ref (wA w 6)) (C := R_X) (T := F_X) (N := 9) hx hb hta i_X hown hK hP 0 rfl rfl 3 (by decide) (hta _ fl_X_28) (fun _ h9 => h9) rfl d_X_attribute_14 ?_
    refine lv_iload_n hx hb d_X_attribute_17 rfl (lv_at hl 1 rfl) ?_
    refine lv_iload_n hx hb d_X_attribute_18 rfl (lv_at hl 2 rfl) ?_
    refine ro_V (b0 := (wA w 6)) (As := [.int x0, .int x1]) (rest := [.ref (wA w 6)]) ⟨hx, hb, hml, hown, hta⟩ (f_Book_attributeOf l w σ x0 x1 hI) ok_X_114 ⟨Nat.le_of_ble_eq_true rfl, Nat.le_of_ble_eq_true rfl⟩ blind_fW (va_recv hK hP (ci := 3) (q0 := 6) rfl rfl) (fW_of hP hK hC hS) rfl hl.1 rfl (Nat.le_of_ble_eq_true rfl) d_X_attribute_19 ⟨Nat.zero_le _, Nat.zero_le _⟩ (fun r19 hrr => ?_)
    subst hrr
    refine lv_iload_n hx hb d_X_attribute_22 rfl (lv_at hl 3 rfl) ?_
    refine ro_V (b0 := (wA w 6)) (As := [.int (bAtt σ x0 x1), .int x2]) (rest := []) ⟨hx, hb, hml, hown, hta⟩ (f_Book_ofAttribute l w σ (bAtt σ x0 x1) x2 hI) ok_X_117 ⟨Nat.le_of_ble_eq_true rfl, Nat.le_of_ble_eq_true rfl⟩ blind_fW (va_recv hK hP (ci := 3) (q0 := 6) rfl rfl) (fW_of hP hK hC hS) rfl hl.1 rfl (Nat.le_of_ble_eq_true rfl) d_X_attribute_23 ⟨Nat.zero_le _, Nat.zero_le _⟩ (fun r23 hrr => ?_)
    subst hrr
    exact W.iret (v := tGet 5 (pAt σ) (bAtt σ x0 x1) x2) hx hb hr (fun t ht hW => ⟨_, rfl, hE, ht⟩) (fun q h => by cases h) d_X_attribute_26
  · have hE := hE.2 cc2
    refine lv_iconst (v := -1) hx hb d_X_attribute_5 (by decide) ?_
    refine lv_goto (tgt := 26) hx hb d_X_attribute_6 (by decide) ?_
    exact W.iret (v := (-1)) hx hb hr (fun t ht hW => ⟨_, rfl, hE, ht⟩) (fun q h => by cases h) d_X_attribute_26

theorem d_X_sign_0 : decode b_X_sign 0 = .ok (.aload_n 0, 1) := by decide +kernel
theorem d_X_sign_1 : decode b_X_sign 1 = .ok (.getfield 28, 3) := by decide +kernel
theorem d_X_sign_4 : decode b_X_sign 4 = .ok (.iload_n 1, 1) := by decide +kernel
theorem d_X_sign_5 : decode b_X_sign 5 = .ok (.iload_n 2, 1) := by decide +kernel
theorem d_X_sign_6 : decode b_X_sign 6 = .ok (.invokevirtual 114, 3) := by decide +kernel
theorem d_X_sign_9 : decode b_X_sign 9 = .ok (.istore 5, 2) := by decide +kernel
theorem d_X_sign_11 : decode b_X_sign 11 = .ok (.aload_n 0, 1) := by decide +kernel
theorem d_X_sign_12 : decode b_X_sign 12 = .ok (.getfield 28, 3) := by decide +kernel
theorem d_X_sign_15 : decode b_X_sign 15 = .ok (.iload 5, 2) := by decide +kernel
theorem d_X_sign_17 : decode b_X_sign 17 = .ok (.iload_n 3, 1) := by decide +kernel
theorem d_X_sign_18 : decode b_X_sign 18 = .ok (.ifCond .eq 7, 3) := by decide +kernel
theorem d_X_sign_21 : decode b_X_sign 21 = .ok (.iconst 4, 1) := by decide +kernel
theorem d_X_sign_22 : decode b_X_sign 22 = .ok (.goto 4, 3) := by decide +kernel
theorem d_X_sign_25 : decode b_X_sign 25 = .ok (.iconst 3, 1) := by decide +kernel
theorem d_X_sign_26 : decode b_X_sign 26 = .ok (.invokevirtual 117, 3) := by decide +kernel
theorem d_X_sign_29 : decode b_X_sign 29 = .ok (.istore 6, 2) := by decide +kernel
theorem d_X_sign_31 : decode b_X_sign 31 = .ok (.aload_n 0, 1) := by decide +kernel
theorem d_X_sign_32 : decode b_X_sign 32 = .ok (.getfield 28, 3) := by decide +kernel
theorem d_X_sign_35 : decode b_X_sign 35 = .ok (.iload 6, 2) := by decide +kernel
theorem d_X_sign_37 : decode b_X_sign 37 = .ok (.aload_n 0, 1) := by decide +kernel
theorem d_X_sign_38 : decode b_X_sign 38 = .ok (.getfield 28, 3) := by decide +kernel
theorem d_X_sign_41 : decode b_X_sign 41 = .ok (.iload 5, 2) := by decide +kernel
theorem d_X_sign_43 : decode b_X_sign 43 = .ok (.iload_n 3, 1) := by decide +kernel
theorem d_X_sign_44 : decode b_X_sign 44 = .ok (.ifCond .eq 7, 3) := by decide +kernel
theorem d_X_sign_47 : decode b_X_sign 47 = .ok (.iconst 1, 1) := by decide +kernel
theorem d_X_sign_48 : decode b_X_sign 48 = .ok (.goto 4, 3) := by decide +kernel
theorem d_X_sign_51 : decode b_X_sign 51 = .ok (.iconst 0, 1) := by decide +kernel
theorem d_X_sign_52 : decode b_X_sign 52 = .ok (.invokevirtual 117, 3) := by decide +kernel
theorem d_X_sign_55 : decode b_X_sign 55 = .ok (.iload 4, 2) := by decide +kernel
theorem d_X_sign_57 : decode b_X_sign 57 = .ok (.invokevirtual 110, 3) := by decide +kernel
theorem d_X_sign_60 : decode b_X_sign 60 = .ok (.ireturn, 1) := by decide +kernel
def w_X_sign_J52  (σ : PPS) (post : Int32 → Prop) (v4 : Int32) (t0 : Int32) (t1 : Int32) (t3 : Int32) : Prop := post (bLet σ t3 (tGet 5 (pAt σ) t1 t0) v4)
def w_X_sign_J26  (σ : PPS) (post : Int32 → Prop) (v3 : Int32) (v4 : Int32) (v5 : Int32) (t0 : Int32) (t1 : Int32) : Prop := ((v3 = 0 → w_X_sign_J52 σ post v4 0 v5 (tGet 5 (pAt σ) t1 t0)) ∧ (¬ v3 = 0 → w_X_sign_J52 σ post v4 1 v5 (tGet 5 (pAt σ) t1 t0)))
def w_X_sign  (σ : PPS) (x0 : Int32) (x1 : Int32) (x2 : Int32) (x3 : Int32) (post : Int32 → Prop) : Prop := ((x2 = 0 → w_X_sign_J26 σ post x2 x3 (bAtt σ x0 x1) 3 (bAtt σ x0 x1)) ∧ (¬ x2 = 0 → w_X_sign_J26 σ post x2 x3 (bAtt σ x0 x1) 4 (bAtt σ x0 x1)))
set_option maxHeartbeats 4000000 in
set_option maxRecDepth 100000 in
theorem c_X_sign (l : Launch) (w : WD) (σ : PPS) (x0 : Int32) (x1 : Int32) (x2 : Int32) (x3 : Int32)  (post : Int32 → Prop) (hI : inv σ) (hE : w_X_sign σ x0 x1 x2 x3 post) : Met l y_X_sign ws_X_sign { frames := 2, cells := 0, slots := 0, locals := 46 } (va_Pc [.ref (wA w 0), .int x0, .int x1, .int x2, .int x3] (fW w σ)) (vp_Si post) 0 0 (fun _ => False) := by
  refine Met.ofW (cc := b_X_sign) (maxL := 7) (ret := (some .int)) (by decide) rfl ?_
  intro p e s m args below meth c s₁ B hml hv
  obtain ⟨rfl, hP, hK, hC⟩ := hv
  have hS : va_S (fun _ : Nat => False) s.heap s.heap [] := va_S.rf
  have hx := B.exec
  have hb := B.bytes
  have hr := B.returns
  have hta : ∀ w ∈ aW, w.before _ s = true := fun w h => atoms_spec (ws := ws_X_sign) B.pre w (List.mem_cons_of_mem _ h)
  have hown : s.vm.findClass R_X = some m.cls := findClass_of_methodNamed B.named
  have hlocks := B.notSynchronized
  have hl := lv_entry ([.ref (wA w 0), .int x0, .int x1, .int x2, .int x3]) (n := 7) (Nat.le_of_ble_eq_true rfl)
  rw [lg_entry_eq]
  generalize (lg_sl ([.ref (wA w 0), .int x0, .int x1, .int x2, .int x3]) ++ List.replicate (7 - (lg_sl ([.ref (wA w 0), .int x0, .int x1, .int x2, .int x3])).length) Slot.unset).toArray = ls at hl ⊢
  have hl : lv_has ls 7 [(0, .ref (wA w 0)), (1, .int x0), (2, .int x1), (3, .int x2), (4, .int x3)] := hl
  have J52 : ∀ (v4 : Int32) (t0 : Int32) (t1 : Int32) (t3 : Int32) (ls : Array Slot) (hl : lv_has ls 7 [(4, .int v4)]) (hE : w_X_sign_J52 σ post v4 t0 t1 t3), W p l e (headSpec ws_X_sign { frames := 2, cells := 0, slots := 0, locals := 46 }).room s m ([.ref (wA w 0), .int x0, .int x1, .int x2, .int x3] : List Value).toArray below meth c s.heap [] 0 0 (MQ below (vp_Si post) ([.ref (wA w 0), .int x0, .int x1, .int x2, .int x3] : List Value).toArray s 0 0 (fun _ => False)) (F0 m 52 ls [.int t0, .int t1, .ref (wA w 6), .int t3, .ref (wA w 6)]) := by
    intro  v4 t0 t1 t3 ls hl hE
    unfold w_X_sign_J52 at hE
    refine ro_V (b0 := (wA w 6)) (As := [.int t1, .int t0]) (rest := [.int t3, .ref (wA w 6)]) ⟨hx, hb, hml, hown, hta⟩ (f_Book_ofAttribute l w σ t1 t0 hI) ok_X_117 ⟨Nat.le_of_ble_eq_true rfl, Nat.le_of_ble_eq_true rfl⟩ blind_fW (va_recv hK hP (ci := 3) (q0 := 6) rfl rfl) (fW_of hP hK hC hS) rfl hl.1 rfl (Nat.le_of_ble_eq_true rfl) d_X_sign_52 ⟨Nat.zero_le _, Nat.zero_le _⟩ (fun r52 hrr => ?_)
    subst hrr
    refine lv_iload hx hb d_X_sign_55 (lv_at hl 0 rfl) ?_
    refine ro_V (b0 := (wA w 6)) (As := [.int t3, .int (tGet 5 (pAt σ) t1 t0), .int v4]) (rest := []) ⟨hx, hb, hml, hown, hta⟩ (f_Book_letterAt l w σ t3 (tGet 5 (pAt σ) t1 t0) v4 hI) ok_X_110 ⟨Nat.le_of_ble_eq_true rfl, Nat.le_of_ble_eq_true rfl⟩ blind_fW (va_recv hK hP (ci := 3) (q0 := 6) rfl rfl) (fW_of hP hK hC hS) rfl hl.1 rfl (Nat.le_of_ble_eq_true rfl) d_X_sign_57 ⟨Nat.zero_le _, Nat.zero_le _⟩ (fun r57 hrr => ?_)
    subst hrr
    exact W.iret (v := bLet σ t3 (tGet 5 (pAt σ) t1 t0) v4) hx hb hr (fun t ht hW => ⟨_, rfl, hE, ht⟩) (fun q h => by cases h) d_X_sign_60
  have J26 : ∀ (v3 : Int32) (v4 : Int32) (v5 : Int32) (t0 : Int32) (t1 : Int32) (ls : Array Slot) (hl : lv_has ls 7 [(0, .ref (wA w 0)), (3, .int v3), (4, .int v4), (5, .int v5)]) (hE : w_X_sign_J26 σ post v3 v4 v5 t0 t1), W p l e (headSpec ws_X_sign { frames := 2, cells := 0, slots := 0, locals := 46 }).room s m ([.ref (wA w 0), .int x0, .int x1, .int x2, .int x3] : List Value).toArray below meth c s.heap [] 0 0 (MQ below (vp_Si post) ([.ref (wA w 0), .int x0, .int x1, .int x2, .int x3] : List Value).toArray s 0 0 (fun _ => False)) (F0 m 26 ls [.int t0, .int t1, .ref (wA w 6)]) := by
    intro  v3 v4 v5 t0 t1 ls hl hE
    unfold w_X_sign_J26 at hE
    refine ro_V (b0 := (wA w 6)) (As := [.int t1, .int t0]) (rest := []) ⟨hx, hb, hml, hown, hta⟩ (f_Book_ofAttribute l w σ t1 t0 hI) ok_X_117 ⟨Nat.le_of_ble_eq_true rfl, Nat.le_of_ble_eq_true rfl⟩ blind_fW (va_recv hK hP (ci := 3) (q0 := 6) rfl rfl) (fW_of hP hK hC hS) rfl hl.1 rfl (Nat.le_of_ble_eq_true rfl) d_X_sign_26 ⟨Nat.zero_le _, Nat.zero_le _⟩ (fun r26 hrr => ?_)
    subst hrr
    refine lv_istore (lv' := [(6, .int (tGet 5 (pAt σ) t1 t0)), (0, .ref (wA w 0)), (3, .int v3), (4, .int v4), (5, .int v5)]) hx hb d_X_sign_29 hl (by decide) rfl (fun ls hl => ?_)
    refine lv_aload_n hx hb d_X_sign_31 rfl (lv_at hl 1 rfl) ?_
    refine va_get (D := (wG w)) (ci := 0) (v := .ref (wA w 6)) (C := R_X) (T := F_X) (N := 9) hx hb hta i_X hown hK hP 0 rfl rfl 3 (by decide) (hta _ fl_X_28) (fun _ h9 => h9) rfl d_X_sign_32 ?_
    refine lv_iload hx hb d_X_sign_35 (lv_at hl 0 rfl) ?_
    refine lv_aload_n hx hb d_X_sign_37 rfl (lv_at hl 1 rfl) ?_
    refine va_get (D := (wG w)) (ci := 0) (v := .ref (wA w 6)) (C := R_X) (T := F_X) (N := 9) hx hb hta i_X hown hK hP 0 rfl rfl 3 (by decide) (hta _ fl_X_28) (fun _ h9 => h9) rfl d_X_sign_38 ?_
    refine lv_iload hx hb d_X_sign_41 (lv_at hl 4 rfl) ?_
    refine lv_iload_n hx hb d_X_sign_43 rfl (lv_at hl 2 rfl) ?_
    refine lv_if_eq (tgt := 51) hx hb d_X_sign_44 (by decide) (fun cc44 => ?_) (fun cc44 => ?_)
    · have hE := hE.1 cc44
      refine lv_iconst (v := 0) hx hb d_X_sign_51 (by decide) ?_
      exact J52  v4 0 v5 (tGet 5 (pAt σ) t1 t0) _ (lv_sub hl [3] rfl) hE
    · have hE := hE.2 cc44
      refine lv_iconst (v := 1) hx hb d_X_sign_47 (by decide) ?_
      refine lv_goto (tgt := 52) hx hb d_X_sign_48 (by decide) ?_
      exact J52  v4 1 v5 (tGet 5 (pAt σ) t1 t0) _ (lv_sub hl [3] rfl) hE
  unfold w_X_sign at hE
  refine lv_aload_n hx hb d_X_sign_0 rfl (lv_at hl 0 rfl) ?_
  refine va_get (D := (wG w)) (ci := 0) (v := .ref (wA w 6)) (C := R_X) (T := F_X) (N := 9) hx hb hta i_X hown hK hP 0 rfl rfl 3 (by decide) (hta _ fl_X_28) (fun _ h9 => h9) rfl d_X_sign_1 ?_
  refine lv_iload_n hx hb d_X_sign_4 rfl (lv_at hl 1 rfl) ?_
  refine lv_iload_n hx hb d_X_sign_5 rfl (lv_at hl 2 rfl) ?_
  refine ro_V (b0 := (wA w 6)) (As := [.int x0, .int x1]) (rest := []) ⟨hx, hb, hml, hown, hta⟩ (f_Book_attributeOf l w σ x0 x1 hI) ok_X_114 ⟨Nat.le_of_ble_eq_true rfl, Nat.le_of_ble_eq_true rfl⟩ blind_fW (va_recv hK hP (ci := 3) (q0 := 6) rfl rfl) (fW_of hP hK hC hS) rfl hl.1 rfl (Nat.le_of_ble_eq_true rfl) d_X_sign_6 ⟨Nat.zero_le _, Nat.zero_le _⟩ (fun r6 hrr => ?_)
  subst hrr
  refine lv_istore (lv' := [(5, .int (bAtt σ x0 x1)), (0, .ref (wA w 0)), (1, .int x0), (2, .int x1), (3, .int x2), (4, .int x3)]) hx hb d_X_sign_9 hl (by decide) rfl (fun ls hl => ?_)
  refine lv_aload_n hx hb d_X_sign_11 rfl (lv_at hl 1 rfl) ?_
  refine va_get (D := (wG w)) (ci := 0) (v := .ref (wA w 6)) (C := R_X) (T := F_X) (N := 9) hx hb hta i_X hown hK hP 0 rfl rfl 3 (by decide) (hta _ fl_X_28) (fun _ h9 => h9) rfl d_X_sign_12 ?_
  refine lv_iload hx hb d_X_sign_15 (lv_at hl 0 rfl) ?_
  refine lv_iload_n hx hb d_X_sign_17 rfl (lv_at hl 4 rfl) ?_
  refine lv_if_eq (tgt := 25) hx hb d_X_sign_18 (by decide) (fun cc18 => ?_) (fun cc18 => ?_)
  · have hE := hE.1 cc18
    refine lv_iconst (v := 3) hx hb d_X_sign_25 (by decide) ?_
    exact J26  x2 x3 (bAtt σ x0 x1) 3 (bAtt σ x0 x1) _ (lv_sub hl [1, 4, 5, 0] rfl) hE
  · have hE := hE.2 cc18
    refine lv_iconst (v := 4) hx hb d_X_sign_21 (by decide) ?_
    refine lv_goto (tgt := 26) hx hb d_X_sign_22 (by decide) ?_
    exact J26  x2 x3 (bAtt σ x0 x1) 4 (bAtt σ x0 x1) _ (lv_sub hl [1, 4, 5, 0] rfl) hE
theorem ok_X_94 : okV "PlainPages" 94 R_Book y_Book_size b_Book_size 1 (some .int) 0 := ⟨aW_in 324 (by decide +kernel) rfl, aW_in 325 (by decide +kernel) rfl, aW_in 326 (by decide +kernel) rfl, aW_in 87 (by decide +kernel) rfl, cd_Book_size, rfl, by decide +kernel, by decide +kernel, by decide +kernel⟩
theorem ok_X_120 : okV "PlainPages" 120 R_Book y_Book_valueIs b_Book_valueIs 8 (some .boolean) 2 := ⟨aW_in 332 (by decide +kernel) rfl, aW_in 333 (by decide +kernel) rfl, aW_in 334 (by decide +kernel) rfl, aW_in 87 (by decide +kernel) rfl, cd_Book_valueIs, rfl, by decide +kernel, by decide +kernel, by decide +kernel⟩
theorem d_X_find_0 : decode b_X_find 0 = .ok (.iconst 0, 1) := by decide +kernel
theorem d_X_find_1 : decode b_X_find 1 = .ok (.istore_n 1, 1) := by decide +kernel
theorem d_X_find_2 : decode b_X_find 2 = .ok (.iload_n 1, 1) := by decide +kernel
theorem d_X_find_3 : decode b_X_find 3 = .ok (.aload_n 0, 1) := by decide +kernel
theorem d_X_find_4 : decode b_X_find 4 = .ok (.getfield 28, 3) := by decide +kernel
theorem d_X_find_7 : decode b_X_find 7 = .ok (.invokevirtual 94, 3) := by decide +kernel
theorem d_X_find_10 : decode b_X_find 10 = .ok (.if_icmp .ge 42, 3) := by decide +kernel
theorem d_X_find_13 : decode b_X_find 13 = .ok (.aload_n 0, 1) := by decide +kernel
theorem d_X_find_14 : decode b_X_find 14 = .ok (.getfield 28, 3) := by decide +kernel
theorem d_X_find_17 : decode b_X_find 17 = .ok (.iload_n 1, 1) := by decide +kernel
theorem d_X_find_18 : decode b_X_find 18 = .ok (.bipush 13, 2) := by decide +kernel
theorem d_X_find_20 : decode b_X_find 20 = .ok (.invokevirtual 106, 3) := by decide +kernel
theorem d_X_find_23 : decode b_X_find 23 = .ok (.istore_n 2, 1) := by decide +kernel
theorem d_X_find_24 : decode b_X_find 24 = .ok (.iload_n 2, 1) := by decide +kernel
theorem d_X_find_25 : decode b_X_find 25 = .ok (.iconst (-1), 1) := by decide +kernel
theorem d_X_find_26 : decode b_X_find 26 = .ok (.if_icmp .eq 20, 3) := by decide +kernel
theorem d_X_find_29 : decode b_X_find 29 = .ok (.aload_n 0, 1) := by decide +kernel
theorem d_X_find_30 : decode b_X_find 30 = .ok (.getfield 28, 3) := by decide +kernel
theorem d_X_find_33 : decode b_X_find 33 = .ok (.iload_n 2, 1) := by decide +kernel
theorem d_X_find_34 : decode b_X_find 34 = .ok (.aload_n 0, 1) := by decide +kernel
theorem d_X_find_35 : decode b_X_find 35 = .ok (.getfield 18, 3) := by decide +kernel
theorem d_X_find_38 : decode b_X_find 38 = .ok (.invokevirtual 120, 3) := by decide +kernel
theorem d_X_find_41 : decode b_X_find 41 = .ok (.ifCond .eq 5, 3) := by decide +kernel
theorem d_X_find_44 : decode b_X_find 44 = .ok (.iload_n 1, 1) := by decide +kernel
theorem d_X_find_45 : decode b_X_find 45 = .ok (.ireturn, 1) := by decide +kernel
theorem d_X_find_46 : decode b_X_find 46 = .ok (.iinc 1 1, 3) := by decide +kernel
theorem d_X_find_49 : decode b_X_find 49 = .ok (.goto (-47), 3) := by decide +kernel
theorem d_X_find_52 : decode b_X_find 52 = .ok (.iconst (-1), 1) := by decide +kernel
theorem d_X_find_53 : decode b_X_find 53 = .ok (.ireturn, 1) := by decide +kernel
def w_X_find_J46  (σ : PPS) (K2 : Int32 → Prop) (post : Int32 → Prop) (v1 : Int32) : Prop := K2 (v1 + 1)
def w_X_find_L2  (σ : PPS) (post : Int32 → Prop) : Nat → Int32 → Prop
  | 0, _ => False
  | n2 + 1, v1 => ((((pNd σ).1) ≤ v1 → post (-1)) ∧ (¬ ((pNd σ).1) ≤ v1 → (((tGet 14 (pNd σ) v1 13) = (-1) → w_X_find_J46 σ (w_X_find_L2 σ post n2) post v1) ∧ (¬ (tGet 14 (pNd σ) v1 13) = (-1) → w_Book_valueIs σ (tGet 14 (pNd σ) v1 13) (fun r38 => ((r38 = 0 → w_X_find_J46 σ (w_X_find_L2 σ post n2) post v1) ∧ (¬ r38 = 0 → post v1)))))))
def w_X_find  (σ : PPS)  (post : Int32 → Prop) : Prop := (∃ n2, w_X_find_L2 σ post n2 0)
set_option maxHeartbeats 4000000 in
set_option maxRecDepth 100000 in
theorem c_X_find (l : Launch) (w : WD) (σ : PPS)   (post : Int32 → Prop) (hI : inv σ) (hE : w_X_find σ post) : Met l y_X_find ws_X_find { frames := 3, cells := 0, slots := 0, locals := 74 } (va_Pc [.ref (wA w 0)] (fW w σ)) (vp_Si post) 0 0 (fun _ => False) := by
  refine Met.ofW (cc := b_X_find) (maxL := 3) (ret := (some .int)) (by decide) rfl ?_
  intro p e s m args below meth c s₁ B hml hv
  obtain ⟨rfl, hP, hK, hC⟩ := hv
  have hS : va_S (fun _ : Nat => False) s.heap s.heap [] := va_S.rf
  have hx := B.exec
  have hb := B.bytes
  have hr := B.returns
  have hta : ∀ w ∈ aW, w.before _ s = true := fun w h => atoms_spec (ws := ws_X_find) B.pre w (List.mem_cons_of_mem _ h)
  have hown : s.vm.findClass R_X = some m.cls := findClass_of_methodNamed B.named
  have hlocks := B.notSynchronized
  have hl := lv_entry ([.ref (wA w 0)]) (n := 3) (Nat.le_of_ble_eq_true rfl)
  rw [lg_entry_eq]
  generalize (lg_sl ([.ref (wA w 0)]) ++ List.replicate (3 - (lg_sl ([.ref (wA w 0)])).length) Slot.unset).toArray = ls at hl ⊢
  have hl : lv_has ls 3 [(0, .ref (wA w 0))] := hl
  have L2 : ∀ (n2 : Nat) (v1 : Int32) (ls : Array Slot) (hl : lv_has ls 3 [(0, .ref (wA w 0)), (1, .int v1)]) (hE : w_X_find_L2 σ post n2 v1), W p l e (headSpec ws_X_find { frames := 3, cells := 0, slots := 0, locals := 74 }).room s m ([.ref (wA w 0)] : List Value).toArray below meth c s.heap [] 0 0 (MQ below (vp_Si post) ([.ref (wA w 0)] : List Value).toArray s 0 0 (fun _ => False)) (F0 m 2 ls []) := by
    intro n2
    induction n2 with
    | zero => intro v1 ls hl hE; exact hE.elim
    | succ n2 ih2 =>
      have J46 : ∀ (v1 : Int32) (ls : Array Slot) (hl : lv_has ls 3 [(0, .ref (wA w 0)), (1, .int v1)]) (hE : w_X_find_J46 σ (w_X_find_L2 σ post n2) post v1), W p l e (headSpec ws_X_find { frames := 3, cells := 0, slots := 0, locals := 74 }).room s m ([.ref (wA w 0)] : List Value).toArray below meth c s.heap [] 0 0 (MQ below (vp_Si post) ([.ref (wA w 0)] : List Value).toArray s 0 0 (fun _ => False)) (F0 m 46 ls []) := by
        intro  v1 ls hl hE
        unfold w_X_find_J46 at hE
        refine lv_iinc (v := v1 + 1) (lv' := [(1, .int (v1 + 1)), (0, .ref (wA w 0))]) hx hb d_X_find_46 hl (k := 1) rfl rfl (by decide) rfl (fun ls hl => ?_)
        refine lv_goto (tgt := 2) hx hb d_X_find_49 (by decide) ?_
        exact ih2 (v1 + 1) _ (lv_sub hl [1, 0] rfl) hE
      intro v1 ls hl hE
      unfold w_X_find_L2 at hE
      refine lv_iload_n hx hb d_X_find_2 rfl (lv_at hl 1 rfl) ?_
      refine lv_aload_n hx hb d_X_find_3 rfl (lv_at hl 0 rfl) ?_
      refine va_get (D := (wG w)) (ci := 0) (v := .ref (wA w 6)) (C := R_X) (T := F_X) (N := 9) hx hb hta i_X hown hK hP 0 rfl rfl 3 (by decide) (hta _ fl_X_28) (fun _ h9 => h9) rfl d_X_find_4 ?_
      refine ro_V (b0 := (wA w 6)) (As := []) (rest := [.int v1]) ⟨hx, hb, hml, hown, hta⟩ (f_Book_size l w σ  hI) ok_X_94 ⟨Nat.le_of_ble_eq_true rfl, Nat.le_of_ble_eq_true rfl⟩ blind_fW (va_recv hK hP (ci := 3) (q0 := 6) rfl rfl) (fW_of hP hK hC hS) rfl hl.1 rfl (Nat.le_of_ble_eq_true rfl) d_X_find_7 ⟨Nat.zero_le _, Nat.zero_le _⟩ (fun r7 hrr => ?_)
      subst hrr
      refine lv_icmp_ge (tgt := 52) hx hb d_X_find_10 (by decide) (fun cc10 => ?_) (fun cc10 => ?_)
      · have hE := hE.1 cc10
        refine lv_iconst (v := -1) hx hb d_X_find_52 (by decide) ?_
        exact W.iret (v := (-1)) hx hb hr (fun t ht hW => ⟨_, rfl, hE, ht⟩) (fun q h => by cases h) d_X_find_53
      · have hE := hE.2 cc10
        refine lv_aload_n hx hb d_X_find_13 rfl (lv_at hl 0 rfl) ?_
        refine va_get (D := (wG w)) (ci := 0) (v := .ref (wA w 6)) (C := R_X) (T := F_X) (N := 9) hx hb hta i_X hown hK hP 0 rfl rfl 3 (by decide) (hta _ fl_X_28) (fun _ h9 => h9) rfl d_X_find_14 ?_
        refine lv_iload_n hx hb d_X_find_17 rfl (lv_at hl 1 rfl) ?_
        refine lv_bipush (v := 13) hx hb d_X_find_18 (by decide) ?_
        refine ro_V (b0 := (wA w 6)) (As := [.int v1, .int 13]) (rest := []) ⟨hx, hb, hml, hown, hta⟩ (f_Book_ofNode l w σ v1 13 hI) ok_X_106 ⟨Nat.le_of_ble_eq_true rfl, Nat.le_of_ble_eq_true rfl⟩ blind_fW (va_recv hK hP (ci := 3) (q0 := 6) rfl rfl) (fW_of hP hK hC hS) rfl hl.1 rfl (Nat.le_of_ble_eq_true rfl) d_X_find_20 ⟨Nat.zero_le _, Nat.zero_le _⟩ (fun r20 hrr => ?_)
        subst hrr
        refine lv_istore_n (lv' := [(2, .int (tGet 14 (pNd σ) v1 13)), (0, .ref (wA w 0)), (1, .int v1)]) hx hb d_X_find_23 rfl hl (by decide) rfl (fun ls hl => ?_)
        refine lv_iload_n hx hb d_X_find_24 rfl (lv_at hl 0 rfl) ?_
        refine lv_iconst (v := -1) hx hb d_X_find_25 (by decide) ?_
        refine lv_icmp_eq (tgt := 46) hx hb d_X_find_26 (by decide) (fun cc26 => ?_) (fun cc26 => ?_)
        · have hE := hE.1 cc26
          exact J46  v1 _ (lv_sub hl [1, 2] rfl) hE
        · have hE := hE.2 cc26
          refine lv_aload_n hx hb d_X_find_29 rfl (lv_at hl 1 rfl) ?_
          refine va_get (D := (wG w)) (ci := 0) (v := .ref (wA w 6)) (C := R_X) (T := F_X) (N := 9) hx hb hta i_X hown hK hP 0 rfl rfl 3 (by decide) (hta _ fl_X_28) (fun _ h9 => h9) rfl d_X_find_30 ?_
          refine lv_iload_n hx hb d_X_find_33 rfl (lv_at hl 0 rfl) ?_
          refine lv_aload_n hx hb d_X_find_34 rfl (lv_at hl 1 rfl) ?_
          refine va_get (D := (wG w)) (ci := 0) (v := .ref (wA w 2)) (C := R_X) (T := F_X) (N := 9) hx hb hta i_X hown hK hP 0 rfl rfl 1 (by decide) (hta _ fl_X_18) (fun _ h9 => h9) rfl d_X_find_35 ?_
          refine ro_V (b0 := (wA w 6)) (As := [.int (tGet 14 (pNd σ) v1 13), .ref (wA w 2)]) (rest := []) ⟨hx, hb, hml, hown, hta⟩ (c_Book_valueIs l w σ (tGet 14 (pNd σ) v1 13)  _ hI hE) ok_X_120 ⟨Nat.le_of_ble_eq_true rfl, Nat.le_of_ble_eq_true rfl⟩ blind_fW (va_recv hK hP (ci := 3) (q0 := 6) rfl rfl) (fW_of hP hK hC hS) rfl hl.1 rfl (Nat.le_of_ble_eq_true rfl) d_X_find_38 ⟨Nat.zero_le _, Nat.zero_le _⟩ (fun r38 hE => ?_)
          refine lv_if_eq (tgt := 46) hx hb d_X_find_41 (by decide) (fun cc41 => ?_) (fun cc41 => ?_)
          · have hE := hE.1 cc41
            exact J46  v1 _ (lv_sub hl [1, 2] rfl) hE
          · have hE := hE.2 cc41
            refine lv_iload_n hx hb d_X_find_44 rfl (lv_at hl 2 rfl) ?_
            exact W.iret (v := v1) hx hb hr (fun t ht hW => ⟨_, rfl, hE, ht⟩) (fun q h => by cases h) d_X_find_45
  unfold w_X_find at hE
  refine lv_iconst (v := 0) hx hb d_X_find_0 (by decide) ?_
  refine lv_istore_n (lv' := [(1, .int 0), (0, .ref (wA w 0))]) hx hb d_X_find_1 rfl hl (by decide) rfl (fun ls hl => ?_)
  obtain ⟨n2, hE⟩ := hE
  exact L2  n2 0 _ (lv_sub hl [1, 0] rfl) hE
theorem fl_X_22 : Cond.fieldLink "PlainPages" 22 "PlainPages" "sheet" "LPlainPages$Strip;" ∈ aW := aW_in 222 (by decide +kernel) rfl
theorem ok_X_135 : okV "PlainPages" 135 R_Strip y_Strip_get b_Strip_get 2 (some .int) 1 := ⟨aW_in 356 (by decide +kernel) rfl, aW_in 301 (by decide +kernel) rfl, aW_in 302 (by decide +kernel) rfl, aW_in 85 (by decide +kernel) rfl, cd_Strip_get, rfl, by decide +kernel, by decide +kernel, by decide +kernel⟩
theorem d_X_output_0 : decode b_X_output 0 = .ok (.aload_n 0, 1) := by decide +kernel
theorem d_X_output_1 : decode b_X_output 1 = .ok (.getfield 22, 3) := by decide +kernel
theorem d_X_output_4 : decode b_X_output 4 = .ok (.iload_n 1, 1) := by decide +kernel
theorem d_X_output_5 : decode b_X_output 5 = .ok (.invokevirtual 135, 3) := by decide +kernel
theorem d_X_output_8 : decode b_X_output 8 = .ok (.ireturn, 1) := by decide +kernel
def w_X_output  (σ : PPS) (x0 : Int32) (post : Int32 → Prop) : Prop := post (sGet (pSh σ) x0)
set_option maxHeartbeats 4000000 in
set_option maxRecDepth 100000 in
theorem c_X_output (l : Launch) (w : WD) (σ : PPS) (x0 : Int32)  (post : Int32 → Prop) (hI : inv σ) (hE : w_X_output σ x0 post) : Met l y_X_output ws_X_output { frames := 1, cells := 0, slots := 0, locals := 21 } (va_Pc [.ref (wA w 0), .int x0] (fW w σ)) (vp_Si post) 0 0 (fun _ => False) := by
  refine Met.ofW (cc := b_X_output) (maxL := 2) (ret := (some .int)) (by decide) rfl ?_
  intro p e s m args below meth c s₁ B hml hv
  obtain ⟨rfl, hP, hK, hC⟩ := hv
  have hS : va_S (fun _ : Nat => False) s.heap s.heap [] := va_S.rf
  have hx := B.exec
  have hb := B.bytes
  have hr := B.returns
  have hta : ∀ w ∈ aW, w.before _ s = true := fun w h => atoms_spec (ws := ws_X_output) B.pre w (List.mem_cons_of_mem _ h)
  have hown : s.vm.findClass R_X = some m.cls := findClass_of_methodNamed B.named
  have hlocks := B.notSynchronized
  have hl := lv_entry ([.ref (wA w 0), .int x0]) (n := 2) (Nat.le_of_ble_eq_true rfl)
  rw [lg_entry_eq]
  generalize (lg_sl ([.ref (wA w 0), .int x0]) ++ List.replicate (2 - (lg_sl ([.ref (wA w 0), .int x0])).length) Slot.unset).toArray = ls at hl ⊢
  have hl : lv_has ls 2 [(0, .ref (wA w 0)), (1, .int x0)] := hl
  unfold w_X_output at hE
  refine lv_aload_n hx hb d_X_output_0 rfl (lv_at hl 0 rfl) ?_
  refine va_get (D := (wG w)) (ci := 0) (v := .ref (wA w 4)) (C := R_X) (T := F_X) (N := 9) hx hb hta i_X hown hK hP 0 rfl rfl 2 (by decide) (hta _ fl_X_22) (fun _ h9 => h9) rfl d_X_output_1 ?_
  refine lv_iload_n hx hb d_X_output_4 rfl (lv_at hl 1 rfl) ?_
  refine ro_V (b0 := (wA w 4)) (As := [.int x0]) (rest := []) ⟨hx, hb, hml, hown, hta⟩ (c_Strip_get l (wG w) (wA w 4) (wA w 5) (wI w) 24000 (pSh σ) x0 (fun r => r = sGet (pSh σ) x0) (l_Strip_get (by decide) (inv.Sh hI) x0)) ok_X_135 ⟨Nat.le_of_ble_eq_true rfl, Nat.le_of_ble_eq_true rfl⟩ blind_rW (va_recv hK hP (ci := 1) (q0 := 4) rfl rfl) (fun U h1 h2 => ⟨by rw [h1]; exact hP.sub [4, 5] rfl, va_K.moved h2.alike hK⟩) rfl hl.1 rfl (Nat.le_of_ble_eq_true rfl) d_X_output_5 ⟨Nat.zero_le _, Nat.zero_le _⟩ (fun r5 hrr => ?_)
  subst hrr
  exact W.iret (v := sGet (pSh σ) x0) hx hb hr (fun t ht hW => ⟨_, rfl, hE, ht⟩) (fun q h => by cases h) d_X_output_8
theorem ok_X_139 : okV "PlainPages" 139 R_Book y_Book_elementCount b_Book_elementCount 1 (some .int) 0 := ⟨aW_in 361 (by decide +kernel) rfl, aW_in 362 (by decide +kernel) rfl, aW_in 363 (by decide +kernel) rfl, aW_in 87 (by decide +kernel) rfl, cd_Book_elementCount, rfl, by decide +kernel, by decide +kernel, by decide +kernel⟩
theorem d_X_about_0 : decode b_X_about 0 = .ok (.iload_n 1, 1) := by decide +kernel
theorem d_X_about_1 : decode b_X_about 1 = .ok (.tableswitch 63 0 3 #[31, 39, 47, 55], 31) := by decide +kernel
theorem d_X_about_32 : decode b_X_about 32 = .ok (.aload_n 0, 1) := by decide +kernel
theorem d_X_about_33 : decode b_X_about 33 = .ok (.getfield 18, 3) := by decide +kernel
theorem d_X_about_36 : decode b_X_about 36 = .ok (.invokevirtual 70, 3) := by decide +kernel
theorem d_X_about_39 : decode b_X_about 39 = .ok (.ireturn, 1) := by decide +kernel
theorem d_X_about_40 : decode b_X_about 40 = .ok (.aload_n 0, 1) := by decide +kernel
theorem d_X_about_41 : decode b_X_about 41 = .ok (.getfield 28, 3) := by decide +kernel
theorem d_X_about_44 : decode b_X_about 44 = .ok (.invokevirtual 94, 3) := by decide +kernel
theorem d_X_about_47 : decode b_X_about 47 = .ok (.ireturn, 1) := by decide +kernel
theorem d_X_about_48 : decode b_X_about 48 = .ok (.aload_n 0, 1) := by decide +kernel
theorem d_X_about_49 : decode b_X_about 49 = .ok (.getfield 28, 3) := by decide +kernel
theorem d_X_about_52 : decode b_X_about 52 = .ok (.invokevirtual 139, 3) := by decide +kernel
theorem d_X_about_55 : decode b_X_about 55 = .ok (.ireturn, 1) := by decide +kernel
theorem d_X_about_56 : decode b_X_about 56 = .ok (.aload_n 0, 1) := by decide +kernel
theorem d_X_about_57 : decode b_X_about 57 = .ok (.getfield 22, 3) := by decide +kernel
theorem d_X_about_60 : decode b_X_about 60 = .ok (.invokevirtual 70, 3) := by decide +kernel
theorem d_X_about_63 : decode b_X_about 63 = .ok (.ireturn, 1) := by decide +kernel
theorem d_X_about_64 : decode b_X_about 64 = .ok (.iconst (-1), 1) := by decide +kernel
theorem d_X_about_65 : decode b_X_about 65 = .ok (.ireturn, 1) := by decide +kernel
def w_X_about  (σ : PPS) (x0 : Int32) (post : Int32 → Prop) : Prop := ((x0 = 0 → post ((pTp σ).1)) ∧ (¬ x0 = 0 → ((x0 = 1 → post ((pNd σ).1)) ∧ (¬ x0 = 1 → ((x0 = 2 → post (pEl σ)) ∧ (¬ x0 = 2 → ((x0 = 3 → post ((pSh σ).1)) ∧ (¬ x0 = 3 → post (-1)))))))))
set_option maxHeartbeats 4000000 in
set_option maxRecDepth 100000 in
theorem c_X_about (l : Launch) (w : WD) (σ : PPS) (x0 : Int32)  (post : Int32 → Prop) (hI : inv σ) (hE : w_X_about σ x0 post) : Met l y_X_about ws_X_about { frames := 2, cells := 0, slots := 0, locals := 40 } (va_Pc [.ref (wA w 0), .int x0] (fW w σ)) (vp_Si post) 0 0 (fun _ => False) := by
  refine Met.ofW (cc := b_X_about) (maxL := 2) (ret := (some .int)) (by decide) rfl ?_
  intro p e s m args below meth c s₁ B hml hv
  obtain ⟨rfl, hP, hK, hC⟩ := hv
  have hS : va_S (fun _ : Nat => False) s.heap s.heap [] := va_S.rf
  have hx := B.exec
  have hb := B.bytes
  have hr := B.returns
  have hta : ∀ w ∈ aW, w.before _ s = true := fun w h => atoms_spec (ws := ws_X_about) B.pre w (List.mem_cons_of_mem _ h)
  have hown : s.vm.findClass R_X = some m.cls := findClass_of_methodNamed B.named
  have hlocks := B.notSynchronized
  have hl := lv_entry ([.ref (wA w 0), .int x0]) (n := 2) (Nat.le_of_ble_eq_true rfl)
  rw [lg_entry_eq]
  generalize (lg_sl ([.ref (wA w 0), .int x0]) ++ List.replicate (2 - (lg_sl ([.ref (wA w 0), .int x0])).length) Slot.unset).toArray = ls at hl ⊢
  have hl : lv_has ls 2 [(0, .ref (wA w 0)), (1, .int x0)] := hl
  unfold w_X_about at hE
  refine lv_iload_n hx hb d_X_about_0 rfl (lv_at hl 1 rfl) ?_
  by_cases hs1_0 : x0 = 0
  · have hE := hE.1 hs1_0
    refine lv_tableIn (off := 31) (tgt := 32) hx hb d_X_about_1 (by rw [hs1_0]; decide) (by rw [hs1_0]; decide) (by rw [hs1_0]; decide) (by decide) ?_
    refine lv_aload_n hx hb d_X_about_32 rfl (lv_at hl 0 rfl) ?_
    refine va_get (D := (wG w)) (ci := 0) (v := .ref (wA w 2)) (C := R_X) (T := F_X) (N := 9) hx hb hta i_X hown hK hP 0 rfl rfl 1 (by decide) (hta _ fl_X_18) (fun _ h9 => h9) rfl d_X_about_33 ?_
    refine ro_V (b0 := (wA w 2)) (As := []) (rest := []) ⟨hx, hb, hml, hown, hta⟩ (c_Strip_size l (wG w) (wA w 2) (wA w 3) (wI w) 4000 (pTp σ)  (fun r => r = (pTp σ).1) rfl) ok_X_70 ⟨Nat.le_of_ble_eq_true rfl, Nat.le_of_ble_eq_true rfl⟩ blind_rW (va_recv hK hP (ci := 1) (q0 := 2) rfl rfl) (fun U h1 h2 => ⟨by rw [h1]; exact hP.sub [2, 3] rfl, va_K.moved h2.alike hK⟩) rfl hl.1 rfl (Nat.le_of_ble_eq_true rfl) d_X_about_36 ⟨Nat.zero_le _, Nat.zero_le _⟩ (fun r36 hrr => ?_)
    subst hrr
    exact W.iret (v := (pTp σ).1) hx hb hr (fun t ht hW => ⟨_, rfl, hE, ht⟩) (fun q h => by cases h) d_X_about_39
  · have hE := hE.2 hs1_0
    by_cases hs1_1 : x0 = 1
    · have hE := hE.1 hs1_1
      refine lv_tableIn (off := 39) (tgt := 40) hx hb d_X_about_1 (by rw [hs1_1]; decide) (by rw [hs1_1]; decide) (by rw [hs1_1]; decide) (by decide) ?_
      refine lv_aload_n hx hb d_X_about_40 rfl (lv_at hl 0 rfl) ?_
      refine va_get (D := (wG w)) (ci := 0) (v := .ref (wA w 6)) (C := R_X) (T := F_X) (N := 9) hx hb hta i_X hown hK hP 0 rfl rfl 3 (by decide) (hta _ fl_X_28) (fun _ h9 => h9) rfl d_X_about_41 ?_
      refine ro_V (b0 := (wA w 6)) (As := []) (rest := []) ⟨hx, hb, hml, hown, hta⟩ (f_Book_size l w σ  hI) ok_X_94 ⟨Nat.le_of_ble_eq_true rfl, Nat.le_of_ble_eq_true rfl⟩ blind_fW (va_recv hK hP (ci := 3) (q0 := 6) rfl rfl) (fW_of hP hK hC hS) rfl hl.1 rfl (Nat.le_of_ble_eq_true rfl) d_X_about_44 ⟨Nat.zero_le _, Nat.zero_le _⟩ (fun r44 hrr => ?_)
      subst hrr
      exact W.iret (v := (pNd σ).1) hx hb hr (fun t ht hW => ⟨_, rfl, hE, ht⟩) (fun q h => by cases h) d_X_about_47
    · have hE := hE.2 hs1_1
      by_cases hs1_2 : x0 = 2
      · have hE := hE.1 hs1_2
        refine lv_tableIn (off := 47) (tgt := 48) hx hb d_X_about_1 (by rw [hs1_2]; decide) (by rw [hs1_2]; decide) (by rw [hs1_2]; decide) (by decide) ?_
        refine lv_aload_n hx hb d_X_about_48 rfl (lv_at hl 0 rfl) ?_
        refine va_get (D := (wG w)) (ci := 0) (v := .ref (wA w 6)) (C := R_X) (T := F_X) (N := 9) hx hb hta i_X hown hK hP 0 rfl rfl 3 (by decide) (hta _ fl_X_28) (fun _ h9 => h9) rfl d_X_about_49 ?_
        refine ro_V (b0 := (wA w 6)) (As := []) (rest := []) ⟨hx, hb, hml, hown, hta⟩ (f_Book_elementCount l w σ  hI) ok_X_139 ⟨Nat.le_of_ble_eq_true rfl, Nat.le_of_ble_eq_true rfl⟩ blind_fW (va_recv hK hP (ci := 3) (q0 := 6) rfl rfl) (fW_of hP hK hC hS) rfl hl.1 rfl (Nat.le_of_ble_eq_true rfl) d_X_about_52 ⟨Nat.zero_le _, Nat.zero_le _⟩ (fun r52 hrr => ?_)
        subst hrr
        exact W.iret (v := pEl σ) hx hb hr (fun t ht hW => ⟨_, rfl, hE, ht⟩) (fun q h => by cases h) d_X_about_55
      · have hE := hE.2 hs1_2
        by_cases hs1_3 : x0 = 3
        · have hE := hE.1 hs1_3
          refine lv_tableIn (off := 55) (tgt := 56) hx hb d_X_about_1 (by rw [hs1_3]; decide) (by rw [hs1_3]; decide) (by rw [hs1_3]; decide) (by decide) ?_
          refine lv_aload_n hx hb d_X_about_56 rfl (lv_at hl 0 rfl) ?_
          refine va_get (D := (wG w)) (ci := 0) (v := .ref (wA w 4)) (C := R_X) (T := F_X) (N := 9) hx hb hta i_X hown hK hP 0 rfl rfl 2 (by decide) (hta _ fl_X_22) (fun _ h9 => h9) rfl d_X_about_57 ?_
          refine ro_V (b0 := (wA w 4)) (As := []) (rest := []) ⟨hx, hb, hml, hown, hta⟩ (c_Strip_size l (wG w) (wA w 4) (wA w 5) (wI w) 24000 (pSh σ)  (fun r => r = (pSh σ).1) rfl) ok_X_70 ⟨Nat.le_of_ble_eq_true rfl, Nat.le_of_ble_eq_true rfl⟩ blind_rW (va_recv hK hP (ci := 1) (q0 := 4) rfl rfl) (fun U h1 h2 => ⟨by rw [h1]; exact hP.sub [4, 5] rfl, va_K.moved h2.alike hK⟩) rfl hl.1 rfl (Nat.le_of_ble_eq_true rfl) d_X_about_60 ⟨Nat.zero_le _, Nat.zero_le _⟩ (fun r60 hrr => ?_)
          subst hrr
          exact W.iret (v := (pSh σ).1) hx hb hr (fun t ht hW => ⟨_, rfl, hE, ht⟩) (fun q h => by cases h) d_X_about_63
        · have hE := hE.2 hs1_3
          refine lv_tableOut (tgt := 64) hx hb d_X_about_1 (by have hq := And.intro True.intro (And.intro True.intro True.intro); have q0 := lv_neT hs1_0 (a := 0) (by decide); have q1 := lv_neT hs1_1 (a := 1) (by decide); have q2 := lv_neT hs1_2 (a := 2) (by decide); have q3 := lv_neT hs1_3 (a := 3) (by decide); omega) (by decide) ?_
          refine lv_iconst (v := -1) hx hb d_X_about_64 (by decide) ?_
          exact W.iret (v := (-1)) hx hb hr (fun t ht hW => ⟨_, rfl, hE, ht⟩) (fun q h => by cases h) d_X_about_65
