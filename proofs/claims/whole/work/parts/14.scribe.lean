-- printed by wip/gen
theorem ok_Scribe_110 : okV "PlainPages$Scribe" 110 R_Str y_Str_length b_Str_length 1 (some .int) 0 := ⟨aW_in 880 (by decide +kernel) rfl, aW_in 392 (by decide +kernel) rfl, aW_in 393 (by decide +kernel) rfl, aW_in 93 (by decide +kernel) rfl, cd_Str_length, rfl, by decide +kernel, by decide +kernel, by decide +kernel⟩
theorem fl_Scribe_15 : Cond.fieldLink "PlainPages$Scribe" 15 "PlainPages$Scribe" "sheet" "LPlainPages$Strip;" ∈ aW := aW_in 214 (by decide +kernel) rfl
theorem ok_Scribe_116 : okV "PlainPages$Scribe" 116 R_Str y_Str_charAt b_Str_charAt 2 (some .char) 1 := ⟨aW_in 881 (by decide +kernel) rfl, aW_in 403 (by decide +kernel) rfl, aW_in 404 (by decide +kernel) rfl, aW_in 93 (by decide +kernel) rfl, cd_Str_charAt, rfl, by decide +kernel, by decide +kernel, by decide +kernel⟩
theorem ok_Scribe_66 : okV "PlainPages$Scribe" 66 R_Strip y_Strip_add b_Strip_add 2 none 1 := ⟨aW_in 845 (by decide +kernel) rfl, aW_in 265 (by decide +kernel) rfl, aW_in 266 (by decide +kernel) rfl, aW_in 85 (by decide +kernel) rfl, cd_Strip_add, rfl, by decide +kernel, by decide +kernel, by decide +kernel⟩
theorem d_Scribe_putText_0 : decode b_Scribe_putText 0 = .ok (.iconst 0, 1) := by decide +kernel
theorem d_Scribe_putText_1 : decode b_Scribe_putText 1 = .ok (.istore_n 2, 1) := by decide +kernel
theorem d_Scribe_putText_2 : decode b_Scribe_putText 2 = .ok (.iload_n 2, 1) := by decide +kernel
theorem d_Scribe_putText_3 : decode b_Scribe_putText 3 = .ok (.aload_n 1, 1) := by decide +kernel
theorem d_Scribe_putText_4 : decode b_Scribe_putText 4 = .ok (.invokevirtual 110, 3) := by decide +kernel
theorem d_Scribe_putText_7 : decode b_Scribe_putText 7 = .ok (.if_icmp .ge 21, 3) := by decide +kernel
theorem d_Scribe_putText_10 : decode b_Scribe_putText 10 = .ok (.aload_n 0, 1) := by decide +kernel
theorem d_Scribe_putText_11 : decode b_Scribe_putText 11 = .ok (.getfield 15, 3) := by decide +kernel
theorem d_Scribe_putText_14 : decode b_Scribe_putText 14 = .ok (.aload_n 1, 1) := by decide +kernel
theorem d_Scribe_putText_15 : decode b_Scribe_putText 15 = .ok (.iload_n 2, 1) := by decide +kernel
theorem d_Scribe_putText_16 : decode b_Scribe_putText 16 = .ok (.invokevirtual 116, 3) := by decide +kernel
theorem d_Scribe_putText_19 : decode b_Scribe_putText 19 = .ok (.invokevirtual 66, 3) := by decide +kernel
theorem d_Scribe_putText_22 : decode b_Scribe_putText 22 = .ok (.iinc 2 1, 3) := by decide +kernel
theorem d_Scribe_putText_25 : decode b_Scribe_putText 25 = .ok (.goto (-23), 3) := by decide +kernel
theorem d_Scribe_putText_28 : decode b_Scribe_putText 28 = .ok (.return_, 1) := by decide +kernel
def w_Scribe_putText_L2  (v1 : Nat) (post : PPS → Prop) : Nat → Int32 → PPS → Prop
  | 0, _, _ => False
  | n2 + 1, v2, σ => (v1 < 49 ∧ (((nI (tLn.getD v1 0)) ≤ v2 → post σ) ∧ (¬ (nI (tLn.getD v1 0)) ≤ v2 → (v1 < 49 ∧ (vp_in v2 (tLn.getD v1 0) ∧ (∀ σ19 : PPS, σ19 = sSh σ (sAdd 24000 (pSh σ) (tCh v1 v2)) → w_Scribe_putText_L2 v1 post n2 (v2 + 1) σ19))))))
def w_Scribe_putText  (σ : PPS) (x0 : Nat) (post : PPS → Prop) : Prop := (∃ n2, w_Scribe_putText_L2 x0 post n2 0 σ)
set_option maxHeartbeats 4000000 in
set_option maxRecDepth 100000 in
theorem c_Scribe_putText (l : Launch) (w : WD) (sz : Nat) (σ : PPS) (x0 : Nat)  (post : PPS → Prop) (hI : inv σ) (hE : w_Scribe_putText σ x0 post) : Met l y_Scribe_putText ws_Scribe_putText { frames := 4, cells := 0, slots := 0, locals := 85 } (va_Pc [.ref (wA w 15), .ref (wK w x0)] (gW w σ sz)) (va_Qv (fun u => post u ∧ inv u) (mB (wG w) (WW w) (wI w) (va_A (WW w σ) sz)) (va_A (WW w σ) sz)) 0 0 (va_A (WW w σ) sz) := by
  refine Met.ofW (cc := b_Scribe_putText) (maxL := 3) (ret := none) (by decide) rfl ?_
  intro p e s m args below meth c s₁ B hml hv
  obtain ⟨rfl, hsz, hP, hK, hD0, hC⟩ := hv
  have hx := B.exec
  have hb := B.bytes
  have hr := B.returns
  have hta : ∀ w ∈ aW, w.before _ s = true := fun w h => atoms_spec (ws := ws_Scribe_putText) B.pre w (List.mem_cons_of_mem _ h)
  have hown : s.vm.findClass R_Scribe = some m.cls := findClass_of_methodNamed B.named
  have hlocks := B.notSynchronized
  subst hsz
  have hD := hD0.self (sz := s.heap.size)
  generalize hAe : va_A (WW w σ) s.heap.size = A at hD hC ⊢
  have hA : ∀ q : Nat, s.heap.size ≤ q → A q := fun q h => by rw [← hAe]; exact Or.inr h
  have hS : va_S A s.heap s.heap [] := va_S.rf
  have hP : va_P (wG w) classes (WW w σ) s.heap := hP
  have hl := lv_entry ([.ref (wA w 15), .ref (wK w x0)]) (n := 3) (Nat.le_of_ble_eq_true rfl)
  rw [lg_entry_eq]
  generalize (lg_sl ([.ref (wA w 15), .ref (wK w x0)]) ++ List.replicate (3 - (lg_sl ([.ref (wA w 15), .ref (wK w x0)])).length) Slot.unset).toArray = ls at hl ⊢
  have hl : lv_has ls 3 [(0, .ref (wA w 15)), (1, .ref (wK w x0))] := hl
  have L2 : ∀ (v1 : Nat) (n2 : Nat) (v2 : Int32) (σ : PPS) (H : Heap) (locs : List Loc) (hP : va_P (wG w) classes (WW w σ) H) (hD : va_D A (WW w σ)) (hS : va_S A s.heap H locs) (hI : inv σ) (ls : Array Slot) (hl : lv_has ls 3 [(0, .ref (wA w 15)), (1, .ref (wK w v1)), (2, .int v2)]) (hE : w_Scribe_putText_L2 v1 post n2 v2 σ), W p l e (headSpec ws_Scribe_putText { frames := 4, cells := 0, slots := 0, locals := 85 }).room s m ([.ref (wA w 15), .ref (wK w x0)] : List Value).toArray below meth c H locs 0 0 (MQ below (va_Qv (fun u => post u ∧ inv u) (mB (wG w) (WW w) (wI w) A) A) ([.ref (wA w 15), .ref (wK w x0)] : List Value).toArray s 0 0 A) (F0 m 2 ls []) := by
    intro v1 n2
    induction n2 with
    | zero => intro v2 σ H locs hP hD hS hI ls hl hE; exact hE.elim
    | succ n2 ih2 =>
      intro v2 σ H locs hP hD hS hI ls hl hE
      unfold w_Scribe_putText_L2 at hE
      refine lv_iload_n hx hb d_Scribe_putText_2 rfl (lv_at hl 2 rfl) ?_
      refine lv_aload_n hx hb d_Scribe_putText_3 rfl (lv_at hl 1 rfl) ?_
      obtain ⟨hi4, hE⟩ := hE
      refine ro_V (b0 := wK w v1) (As := []) (rest := [.int v2]) ⟨hx, hb, hml, hown, hta⟩ (f_Str_length l w v1 hi4) ok_Scribe_110 ⟨Nat.le_of_ble_eq_true rfl, Nat.le_of_ble_eq_true rfl⟩ blind_cW (t_recv hC hS hi4) (cW_of hC hS) rfl hl.1 rfl (Nat.le_of_ble_eq_true rfl) d_Scribe_putText_4 ⟨Nat.zero_le _, Nat.zero_le _⟩ (fun r4 hrr => ?_)
      subst hrr
      refine lv_icmp_ge (tgt := 28) hx hb d_Scribe_putText_7 (by decide) (fun cc7 => ?_) (fun cc7 => ?_)
      · have hE := hE.1 cc7
        exact W.vret hx hb hr (fun t ht hW => ⟨⟨σ, rfl, ⟨hE, hI⟩, by rw [ht]; exact hP, va_K.moved hW.alike hK, hD⟩, hS.F ht⟩) hS.2.2 d_Scribe_putText_28
      · have hE := hE.2 cc7
        refine lv_aload_n hx hb d_Scribe_putText_10 rfl (lv_at hl 0 rfl) ?_
        refine va_get (D := (wG w)) (ci := 6) (v := .ref (wA w 4)) (C := R_Scribe) (T := F_Scribe) (N := 2) hx hb hta i_Scribe hown hK hP 15 rfl rfl 1 (by decide) (hta _ fl_Scribe_15) (fun _ h9 => h9) rfl d_Scribe_putText_11 ?_
        refine lv_aload_n hx hb d_Scribe_putText_14 rfl (lv_at hl 1 rfl) ?_
        refine lv_iload_n hx hb d_Scribe_putText_15 rfl (lv_at hl 2 rfl) ?_
        obtain ⟨hi16, hE⟩ := hE
        obtain ⟨hc16_0, hE⟩ := hE
        refine ro_V (b0 := wK w v1) (As := [.int v2]) (rest := [.ref (wA w 4)]) ⟨hx, hb, hml, hown, hta⟩ (f_Str_charAt l w v1 v2 hi16 hc16_0) ok_Scribe_116 ⟨Nat.le_of_ble_eq_true rfl, Nat.le_of_ble_eq_true rfl⟩ blind_cW (t_recv hC hS hi16) (cW_of hC hS) rfl hl.1 rfl (Nat.le_of_ble_eq_true rfl) d_Scribe_putText_16 ⟨Nat.zero_le _, Nat.zero_le _⟩ (fun r16 hrr => ?_)
        subst hrr
        refine cSh_v (As := [.int (tCh v1 v2)]) (rest := []) ⟨hx, hb, hml, hown, hta⟩ (c_Strip_add l (wG w) (wA w 4) (wA w 5) (wI w) 24000 _ (pSh σ) (tCh v1 v2) (fun u => u = sAdd 24000 (pSh σ) (tCh v1 v2)) (l_Strip_add (by decide) (inv.Sh hI) (tCh v1 v2))) ok_Scribe_66 ⟨Nat.le_of_ble_eq_true rfl, Nat.le_of_ble_eq_true rfl⟩ hP hK hD hS hA rfl hl.1 rfl (Nat.le_of_ble_eq_true rfl) d_Scribe_putText_19 ⟨Nat.zero_le _, Nat.zero_le _⟩ (fun u H locs hrr hP hD hS => ?_)
        subst hrr
        have hP : va_P (wG w) classes (WW w (sSh σ (sAdd 24000 (pSh σ) (tCh v1 v2)))) H := hP
        have hD : va_D A (WW w (sSh σ (sAdd 24000 (pSh σ) (tCh v1 v2)))) := hD
        have hI : inv (sSh σ (sAdd 24000 (pSh σ) (tCh v1 v2))) := (inv.sSh hI (sOk_add (by decide) (inv.Sh hI) _))
        have hE := hE _ rfl
        generalize (sSh σ (sAdd 24000 (pSh σ) (tCh v1 v2)) : PPS) = σ19 at hP hD hI hE
        refine lv_iinc (v := v2 + 1) (lv' := [(2, .int (v2 + 1)), (0, .ref (wA w 15)), (1, .ref (wK w v1))]) hx hb d_Scribe_putText_22 hl (k := 2) rfl rfl (by decide) rfl (fun ls hl => ?_)
        refine lv_goto (tgt := 2) hx hb d_Scribe_putText_25 (by decide) ?_
        exact ih2 (v2 + 1) σ19 _ _ hP hD hS hI _ (lv_sub hl [1, 2, 0] rfl) hE
  unfold w_Scribe_putText at hE
  refine lv_iconst (v := 0) hx hb d_Scribe_putText_0 (by decide) ?_
  refine lv_istore_n (lv' := [(2, .int 0), (0, .ref (wA w 15)), (1, .ref (wK w x0))]) hx hb d_Scribe_putText_1 rfl hl (by decide) rfl (fun ls hl => ?_)
  obtain ⟨n2, hE⟩ := hE
  exact L2 x0 n2 0 σ _ _ hP hD hS hI _ (lv_sub hl [1, 2, 0] rfl) hE
theorem fl_Scribe_9 : Cond.fieldLink "PlainPages$Scribe" 9 "PlainPages$Scribe" "book" "LPlainPages$Book;" ∈ aW := aW_in 213 (by decide +kernel) rfl
theorem ok_Scribe_93 : okV "PlainPages$Scribe" 93 R_Book y_Book_letterAt b_Book_letterAt 4 (some .int) 3 := ⟨aW_in 853 (by decide +kernel) rfl, aW_in 297 (by decide +kernel) rfl, aW_in 298 (by decide +kernel) rfl, aW_in 87 (by decide +kernel) rfl, cd_Book_letterAt, rfl, by decide +kernel, by decide +kernel, by decide +kernel⟩
theorem ok_Scribe_96 : okS "PlainPages$Scribe" 96 y_Signs_addCharacter b_Signs_addCharacter 4 none 2 := ⟨aW_in 854 (by decide +kernel) rfl, aW_in 855 (by decide +kernel) rfl, aW_in 97 (by decide +kernel) rfl, cd_Signs_addCharacter, by decide +kernel, by decide +kernel, by decide +kernel⟩
theorem d_Scribe_putLetters_0 : decode b_Scribe_putLetters 0 = .ok (.iconst 0, 1) := by decide +kernel
theorem d_Scribe_putLetters_1 : decode b_Scribe_putLetters 1 = .ok (.istore_n 3, 1) := by decide +kernel
theorem d_Scribe_putLetters_2 : decode b_Scribe_putLetters 2 = .ok (.iload_n 3, 1) := by decide +kernel
theorem d_Scribe_putLetters_3 : decode b_Scribe_putLetters 3 = .ok (.iload_n 2, 1) := by decide +kernel
theorem d_Scribe_putLetters_4 : decode b_Scribe_putLetters 4 = .ok (.if_icmp .ge 26, 3) := by decide +kernel
theorem d_Scribe_putLetters_7 : decode b_Scribe_putLetters 7 = .ok (.aload_n 0, 1) := by decide +kernel
theorem d_Scribe_putLetters_8 : decode b_Scribe_putLetters 8 = .ok (.getfield 15, 3) := by decide +kernel
theorem d_Scribe_putLetters_11 : decode b_Scribe_putLetters 11 = .ok (.aload_n 0, 1) := by decide +kernel
theorem d_Scribe_putLetters_12 : decode b_Scribe_putLetters 12 = .ok (.getfield 9, 3) := by decide +kernel
theorem d_Scribe_putLetters_15 : decode b_Scribe_putLetters 15 = .ok (.iload_n 1, 1) := by decide +kernel
theorem d_Scribe_putLetters_16 : decode b_Scribe_putLetters 16 = .ok (.iload_n 2, 1) := by decide +kernel
theorem d_Scribe_putLetters_17 : decode b_Scribe_putLetters 17 = .ok (.iload_n 3, 1) := by decide +kernel
theorem d_Scribe_putLetters_18 : decode b_Scribe_putLetters 18 = .ok (.invokevirtual 93, 3) := by decide +kernel
theorem d_Scribe_putLetters_21 : decode b_Scribe_putLetters 21 = .ok (.invokestatic 96, 3) := by decide +kernel
theorem d_Scribe_putLetters_24 : decode b_Scribe_putLetters 24 = .ok (.iinc 3 1, 3) := by decide +kernel
theorem d_Scribe_putLetters_27 : decode b_Scribe_putLetters 27 = .ok (.goto (-25), 3) := by decide +kernel
theorem d_Scribe_putLetters_30 : decode b_Scribe_putLetters 30 = .ok (.return_, 1) := by decide +kernel
def w_Scribe_putLetters_L2  (v1 : Int32) (v2 : Int32) (post : PPS → Prop) : Nat → Int32 → PPS → Prop
  | 0, _, _ => False
  | n2 + 1, v3, σ => ((v2 ≤ v3 → post σ) ∧ (¬ v2 ≤ v3 → w_Signs_addCharacter σ (bLet σ v1 v2 v3) (fun σ21 => w_Scribe_putLetters_L2 v1 v2 post n2 (v3 + 1) σ21)))
def w_Scribe_putLetters  (σ : PPS) (x0 : Int32) (x1 : Int32) (post : PPS → Prop) : Prop := (∃ n2, w_Scribe_putLetters_L2 x0 x1 post n2 0 σ)
set_option maxHeartbeats 4000000 in
set_option maxRecDepth 100000 in
theorem c_Scribe_putLetters (l : Launch) (w : WD) (sz : Nat) (σ : PPS) (x0 : Int32) (x1 : Int32)  (post : PPS → Prop) (hI : inv σ) (hE : w_Scribe_putLetters σ x0 x1 post) : Met l y_Scribe_putLetters ws_Scribe_putLetters { frames := 2, cells := 0, slots := 0, locals := 44 } (va_Pc [.ref (wA w 15), .int x0, .int x1] (gW w σ sz)) (va_Qv (fun u => post u ∧ inv u) (mB (wG w) (WW w) (wI w) (va_A (WW w σ) sz)) (va_A (WW w σ) sz)) 0 0 (va_A (WW w σ) sz) := by
  refine Met.ofW (cc := b_Scribe_putLetters) (maxL := 4) (ret := none) (by decide) rfl ?_
  intro p e s m args below meth c s₁ B hml hv
  obtain ⟨rfl, hsz, hP, hK, hD0, hC⟩ := hv
  have hx := B.exec
  have hb := B.bytes
  have hr := B.returns
  have hta : ∀ w ∈ aW, w.before _ s = true := fun w h => atoms_spec (ws := ws_Scribe_putLetters) B.pre w (List.mem_cons_of_mem _ h)
  have hown : s.vm.findClass R_Scribe = some m.cls := findClass_of_methodNamed B.named
  have hlocks := B.notSynchronized
  subst hsz
  have hD := hD0.self (sz := s.heap.size)
  generalize hAe : va_A (WW w σ) s.heap.size = A at hD hC ⊢
  have hA : ∀ q : Nat, s.heap.size ≤ q → A q := fun q h => by rw [← hAe]; exact Or.inr h
  have hS : va_S A s.heap s.heap [] := va_S.rf
  have hP : va_P (wG w) classes (WW w σ) s.heap := hP
  have hl := lv_entry ([.ref (wA w 15), .int x0, .int x1]) (n := 4) (Nat.le_of_ble_eq_true rfl)
  rw [lg_entry_eq]
  generalize (lg_sl ([.ref (wA w 15), .int x0, .int x1]) ++ List.replicate (4 - (lg_sl ([.ref (wA w 15), .int x0, .int x1])).length) Slot.unset).toArray = ls at hl ⊢
  have hl : lv_has ls 4 [(0, .ref (wA w 15)), (1, .int x0), (2, .int x1)] := hl
  have L2 : ∀ (v1 : Int32) (v2 : Int32) (n2 : Nat) (v3 : Int32) (σ : PPS) (H : Heap) (locs : List Loc) (hP : va_P (wG w) classes (WW w σ) H) (hD : va_D A (WW w σ)) (hS : va_S A s.heap H locs) (hI : inv σ) (ls : Array Slot) (hl : lv_has ls 4 [(0, .ref (wA w 15)), (1, .int v1), (2, .int v2), (3, .int v3)]) (hE : w_Scribe_putLetters_L2 v1 v2 post n2 v3 σ), W p l e (headSpec ws_Scribe_putLetters { frames := 2, cells := 0, slots := 0, locals := 44 }).room s m ([.ref (wA w 15), .int x0, .int x1] : List Value).toArray below meth c H locs 0 0 (MQ below (va_Qv (fun u => post u ∧ inv u) (mB (wG w) (WW w) (wI w) A) A) ([.ref (wA w 15), .int x0, .int x1] : List Value).toArray s 0 0 A) (F0 m 2 ls []) := by
    intro v1 v2 n2
    induction n2 with
    | zero => intro v3 σ H locs hP hD hS hI ls hl hE; exact hE.elim
    | succ n2 ih2 =>
      intro v3 σ H locs hP hD hS hI ls hl hE
      unfold w_Scribe_putLetters_L2 at hE
      refine lv_iload_n hx hb d_Scribe_putLetters_2 rfl (lv_at hl 3 rfl) ?_
      refine lv_iload_n hx hb d_Scribe_putLetters_3 rfl (lv_at hl 2 rfl) ?_
      refine lv_icmp_ge (tgt := 30) hx hb d_Scribe_putLetters_4 (by decide) (fun cc4 => ?_) (fun cc4 => ?_)
      · have hE := hE.1 cc4
        exact W.vret hx hb hr (fun t ht hW => ⟨⟨σ, rfl, ⟨hE, hI⟩, by rw [ht]; exact hP, va_K.moved hW.alike hK, hD⟩, hS.F ht⟩) hS.2.2 d_Scribe_putLetters_30
      · have hE := hE.2 cc4
        refine lv_aload_n hx hb d_Scribe_putLetters_7 rfl (lv_at hl 0 rfl) ?_
        refine va_get (D := (wG w)) (ci := 6) (v := .ref (wA w 4)) (C := R_Scribe) (T := F_Scribe) (N := 2) hx hb hta i_Scribe hown hK hP 15 rfl rfl 1 (by decide) (hta _ fl_Scribe_15) (fun _ h9 => h9) rfl d_Scribe_putLetters_8 ?_
        refine lv_aload_n hx hb d_Scribe_putLetters_11 rfl (lv_at hl 0 rfl) ?_
        refine va_get (D := (wG w)) (ci := 6) (v := .ref (wA w 6)) (C := R_Scribe) (T := F_Scribe) (N := 2) hx hb hta i_Scribe hown hK hP 15 rfl rfl 0 (by decide) (hta _ fl_Scribe_9) (fun _ h9 => h9) rfl d_Scribe_putLetters_12 ?_
        refine lv_iload_n hx hb d_Scribe_putLetters_15 rfl (lv_at hl 1 rfl) ?_
        refine lv_iload_n hx hb d_Scribe_putLetters_16 rfl (lv_at hl 2 rfl) ?_
        refine lv_iload_n hx hb d_Scribe_putLetters_17 rfl (lv_at hl 3 rfl) ?_
        refine ro_V (b0 := (wA w 6)) (As := [.int v1, .int v2, .int v3]) (rest := [.ref (wA w 4)]) ⟨hx, hb, hml, hown, hta⟩ (f_Book_letterAt l w σ v1 v2 v3 hI) ok_Scribe_93 ⟨Nat.le_of_ble_eq_true rfl, Nat.le_of_ble_eq_true rfl⟩ blind_fW (va_recv hK hP (ci := 3) (q0 := 6) rfl rfl) (fW_of hP hK hC hS) rfl hl.1 rfl (Nat.le_of_ble_eq_true rfl) d_Scribe_putLetters_18 ⟨Nat.zero_le _, Nat.zero_le _⟩ (fun r18 hrr => ?_)
        subst hrr
        refine mcS_v  (As := [.ref (wA w 4), .int (bLet σ v1 v2 v3)]) (rest := []) ⟨hx, hb, hml, hown, hta⟩ (c_Signs_addCharacter l w _ σ (bLet σ v1 v2 v3) _ hI hE) ok_Scribe_96 ⟨Nat.le_of_ble_eq_true rfl, Nat.le_of_ble_eq_true rfl⟩  hP hK hD hS hA hC rfl hl.1 rfl (Nat.le_of_ble_eq_true rfl) d_Scribe_putLetters_21 ⟨Nat.zero_le _, Nat.zero_le _⟩ (fun σ21 H locs hE hP hD hS => ?_)
        obtain ⟨hE, hI⟩ := hE
        refine lv_iinc (v := v3 + 1) (lv' := [(3, .int (v3 + 1)), (0, .ref (wA w 15)), (1, .int v1), (2, .int v2)]) hx hb d_Scribe_putLetters_24 hl (k := 3) rfl rfl (by decide) rfl (fun ls hl => ?_)
        refine lv_goto (tgt := 2) hx hb d_Scribe_putLetters_27 (by decide) ?_
        exact ih2 (v3 + 1) σ21 _ _ hP hD hS hI _ (lv_sub hl [1, 2, 3, 0] rfl) hE
  unfold w_Scribe_putLetters at hE
  refine lv_iconst (v := 0) hx hb d_Scribe_putLetters_0 (by decide) ?_
  refine lv_istore_n (lv' := [(3, .int 0), (0, .ref (wA w 15)), (1, .int x0), (2, .int x1)]) hx hb d_Scribe_putLetters_1 rfl hl (by decide) rfl (fun ls hl => ?_)
  obtain ⟨n2, hE⟩ := hE
  exact L2 x0 x1 n2 0 σ _ _ hP hD hS hI _ (lv_sub hl [1, 2, 3, 0] rfl) hE
theorem ok_Scribe_83 : okV "PlainPages$Scribe" 83 R_Scribe y_Scribe_putText b_Scribe_putText 3 none 1 := ⟨aW_in 876 (by decide +kernel) rfl, aW_in 878 (by decide +kernel) rfl, aW_in 37 (by decide +kernel) rfl, aW_in 91 (by decide +kernel) rfl, cd_Scribe_putText, rfl, by decide +kernel, by decide +kernel, by decide +kernel⟩
theorem d_Scribe_putTold_0 : decode b_Scribe_putTold 0 = .ok (.iconst 0, 1) := by decide +kernel
theorem d_Scribe_putTold_1 : decode b_Scribe_putTold 1 = .ok (.istore_n 3, 1) := by decide +kernel
theorem d_Scribe_putTold_2 : decode b_Scribe_putTold 2 = .ok (.iload_n 3, 1) := by decide +kernel
theorem d_Scribe_putTold_3 : decode b_Scribe_putTold 3 = .ok (.iload_n 2, 1) := by decide +kernel
theorem d_Scribe_putTold_4 : decode b_Scribe_putTold 4 = .ok (.if_icmp .ge 94, 3) := by decide +kernel
theorem d_Scribe_putTold_7 : decode b_Scribe_putTold 7 = .ok (.aload_n 0, 1) := by decide +kernel
theorem d_Scribe_putTold_8 : decode b_Scribe_putTold 8 = .ok (.getfield 9, 3) := by decide +kernel
theorem d_Scribe_putTold_11 : decode b_Scribe_putTold 11 = .ok (.iload_n 1, 1) := by decide +kernel
theorem d_Scribe_putTold_12 : decode b_Scribe_putTold 12 = .ok (.iload_n 2, 1) := by decide +kernel
theorem d_Scribe_putTold_13 : decode b_Scribe_putTold 13 = .ok (.iload_n 3, 1) := by decide +kernel
theorem d_Scribe_putTold_14 : decode b_Scribe_putTold 14 = .ok (.invokevirtual 93, 3) := by decide +kernel
theorem d_Scribe_putTold_17 : decode b_Scribe_putTold 17 = .ok (.istore 4, 2) := by decide +kernel
theorem d_Scribe_putTold_19 : decode b_Scribe_putTold 19 = .ok (.iload 4, 2) := by decide +kernel
theorem d_Scribe_putTold_21 : decode b_Scribe_putTold 21 = .ok (.bipush 38, 2) := by decide +kernel
theorem d_Scribe_putTold_23 : decode b_Scribe_putTold 23 = .ok (.if_icmp .ne 12, 3) := by decide +kernel
theorem d_Scribe_putTold_26 : decode b_Scribe_putTold 26 = .ok (.aload_n 0, 1) := by decide +kernel
theorem d_Scribe_putTold_27 : decode b_Scribe_putTold 27 = .ok (.ldc 102, 2) := by decide +kernel
theorem d_Scribe_putTold_29 : decode b_Scribe_putTold 29 = .ok (.invokevirtual 83, 3) := by decide +kernel
theorem d_Scribe_putTold_32 : decode b_Scribe_putTold 32 = .ok (.goto 60, 3) := by decide +kernel
theorem d_Scribe_putTold_35 : decode b_Scribe_putTold 35 = .ok (.iload 4, 2) := by decide +kernel
theorem d_Scribe_putTold_37 : decode b_Scribe_putTold 37 = .ok (.bipush 60, 2) := by decide +kernel
theorem d_Scribe_putTold_39 : decode b_Scribe_putTold 39 = .ok (.if_icmp .ne 12, 3) := by decide +kernel
theorem d_Scribe_putTold_42 : decode b_Scribe_putTold 42 = .ok (.aload_n 0, 1) := by decide +kernel
theorem d_Scribe_putTold_43 : decode b_Scribe_putTold 43 = .ok (.ldc 104, 2) := by decide +kernel
theorem d_Scribe_putTold_45 : decode b_Scribe_putTold 45 = .ok (.invokevirtual 83, 3) := by decide +kernel
theorem d_Scribe_putTold_48 : decode b_Scribe_putTold 48 = .ok (.goto 44, 3) := by decide +kernel
theorem d_Scribe_putTold_51 : decode b_Scribe_putTold 51 = .ok (.iload 4, 2) := by decide +kernel
theorem d_Scribe_putTold_53 : decode b_Scribe_putTold 53 = .ok (.bipush 62, 2) := by decide +kernel
theorem d_Scribe_putTold_55 : decode b_Scribe_putTold 55 = .ok (.if_icmp .ne 12, 3) := by decide +kernel
theorem d_Scribe_putTold_58 : decode b_Scribe_putTold 58 = .ok (.aload_n 0, 1) := by decide +kernel
theorem d_Scribe_putTold_59 : decode b_Scribe_putTold 59 = .ok (.ldc 106, 2) := by decide +kernel
theorem d_Scribe_putTold_61 : decode b_Scribe_putTold 61 = .ok (.invokevirtual 83, 3) := by decide +kernel
theorem d_Scribe_putTold_64 : decode b_Scribe_putTold 64 = .ok (.goto 28, 3) := by decide +kernel
theorem d_Scribe_putTold_67 : decode b_Scribe_putTold 67 = .ok (.iload 4, 2) := by decide +kernel
theorem d_Scribe_putTold_69 : decode b_Scribe_putTold 69 = .ok (.bipush 34, 2) := by decide +kernel
theorem d_Scribe_putTold_71 : decode b_Scribe_putTold 71 = .ok (.if_icmp .ne 12, 3) := by decide +kernel
theorem d_Scribe_putTold_74 : decode b_Scribe_putTold 74 = .ok (.aload_n 0, 1) := by decide +kernel
theorem d_Scribe_putTold_75 : decode b_Scribe_putTold 75 = .ok (.ldc 108, 2) := by decide +kernel
theorem d_Scribe_putTold_77 : decode b_Scribe_putTold 77 = .ok (.invokevirtual 83, 3) := by decide +kernel
theorem d_Scribe_putTold_80 : decode b_Scribe_putTold 80 = .ok (.goto 12, 3) := by decide +kernel
theorem d_Scribe_putTold_83 : decode b_Scribe_putTold 83 = .ok (.aload_n 0, 1) := by decide +kernel
theorem d_Scribe_putTold_84 : decode b_Scribe_putTold 84 = .ok (.getfield 15, 3) := by decide +kernel
theorem d_Scribe_putTold_87 : decode b_Scribe_putTold 87 = .ok (.iload 4, 2) := by decide +kernel
theorem d_Scribe_putTold_89 : decode b_Scribe_putTold 89 = .ok (.invokestatic 96, 3) := by decide +kernel
theorem d_Scribe_putTold_92 : decode b_Scribe_putTold 92 = .ok (.iinc 3 1, 3) := by decide +kernel
theorem d_Scribe_putTold_95 : decode b_Scribe_putTold 95 = .ok (.goto (-93), 3) := by decide +kernel
theorem d_Scribe_putTold_98 : decode b_Scribe_putTold 98 = .ok (.return_, 1) := by decide +kernel
def w_Scribe_putTold_J92  (v1 : Int32) (v2 : Int32) (K2 : Int32 → PPS → Prop) (post : PPS → Prop) (v3 : Int32) (σ : PPS) : Prop := K2 (v3 + 1) σ
def w_Scribe_putTold_L2  (v1 : Int32) (v2 : Int32) (post : PPS → Prop) : Nat → Int32 → PPS → Prop
  | 0, _, _ => False
  | n2 + 1, v3, σ => ((v2 ≤ v3 → post σ) ∧ (¬ v2 ≤ v3 → (((bLet σ v1 v2 v3) = 38 → w_Scribe_putText σ 20 (fun σ29 => w_Scribe_putTold_J92 v1 v2 (w_Scribe_putTold_L2 v1 v2 post n2) post v3 σ29)) ∧ (¬ (bLet σ v1 v2 v3) = 38 → (((bLet σ v1 v2 v3) = 60 → w_Scribe_putText σ 21 (fun σ45 => w_Scribe_putTold_J92 v1 v2 (w_Scribe_putTold_L2 v1 v2 post n2) post v3 σ45)) ∧ (¬ (bLet σ v1 v2 v3) = 60 → (((bLet σ v1 v2 v3) = 62 → w_Scribe_putText σ 22 (fun σ61 => w_Scribe_putTold_J92 v1 v2 (w_Scribe_putTold_L2 v1 v2 post n2) post v3 σ61)) ∧ (¬ (bLet σ v1 v2 v3) = 62 → (((bLet σ v1 v2 v3) = 34 → w_Scribe_putText σ 23 (fun σ77 => w_Scribe_putTold_J92 v1 v2 (w_Scribe_putTold_L2 v1 v2 post n2) post v3 σ77)) ∧ (¬ (bLet σ v1 v2 v3) = 34 → w_Signs_addCharacter σ (bLet σ v1 v2 v3) (fun σ89 => w_Scribe_putTold_J92 v1 v2 (w_Scribe_putTold_L2 v1 v2 post n2) post v3 σ89)))))))))))
def w_Scribe_putTold  (σ : PPS) (x0 : Int32) (x1 : Int32) (post : PPS → Prop) : Prop := (∃ n2, w_Scribe_putTold_L2 x0 x1 post n2 0 σ)
set_option maxHeartbeats 4000000 in
set_option maxRecDepth 100000 in
theorem c_Scribe_putTold (l : Launch) (w : WD) (sz : Nat) (σ : PPS) (x0 : Int32) (x1 : Int32)  (post : PPS → Prop) (hI : inv σ) (hE : w_Scribe_putTold σ x0 x1 post) : Met l y_Scribe_putTold ws_Scribe_putTold { frames := 5, cells := 0, slots := 0, locals := 107 } (va_Pc [.ref (wA w 15), .int x0, .int x1] (gW w σ sz)) (va_Qv (fun u => post u ∧ inv u) (mB (wG w) (WW w) (wI w) (va_A (WW w σ) sz)) (va_A (WW w σ) sz)) 0 0 (va_A (WW w σ) sz) := by
  refine Met.ofW (cc := b_Scribe_putTold) (maxL := 5) (ret := none) (by decide) rfl ?_
  intro p e s m args below meth c s₁ B hml hv
  obtain ⟨rfl, hsz, hP, hK, hD0, hC⟩ := hv
  have hx := B.exec
  have hb := B.bytes
  have hr := B.returns
  have hta : ∀ w ∈ aW, w.before _ s = true := fun w h => atoms_spec (ws := ws_Scribe_putTold) B.pre w (List.mem_cons_of_mem _ h)
  have hown : s.vm.findClass R_Scribe = some m.cls := findClass_of_methodNamed B.named
  have hlocks := B.notSynchronized
  subst hsz
  have hD := hD0.self (sz := s.heap.size)
  generalize hAe : va_A (WW w σ) s.heap.size = A at hD hC ⊢
  have hA : ∀ q : Nat, s.heap.size ≤ q → A q := fun q h => by rw [← hAe]; exact Or.inr h
  have hS : va_S A s.heap s.heap [] := va_S.rf
  have hP : va_P (wG w) classes (WW w σ) s.heap := hP
  have hl := lv_entry ([.ref (wA w 15), .int x0, .int x1]) (n := 5) (Nat.le_of_ble_eq_true rfl)
  rw [lg_entry_eq]
  generalize (lg_sl ([.ref (wA w 15), .int x0, .int x1]) ++ List.replicate (5 - (lg_sl ([.ref (wA w 15), .int x0, .int x1])).length) Slot.unset).toArray = ls at hl ⊢
  have hl : lv_has ls 5 [(0, .ref (wA w 15)), (1, .int x0), (2, .int x1)] := hl
  have L2 : ∀ (v1 : Int32) (v2 : Int32) (n2 : Nat) (v3 : Int32) (σ : PPS) (H : Heap) (locs : List Loc) (hP : va_P (wG w) classes (WW w σ) H) (hD : va_D A (WW w σ)) (hS : va_S A s.heap H locs) (hI : inv σ) (ls : Array Slot) (hl : lv_has ls 5 [(0, .ref (wA w 15)), (1, .int v1), (2, .int v2), (3, .int v3)]) (hE : w_Scribe_putTold_L2 v1 v2 post n2 v3 σ), W p l e (headSpec ws_Scribe_putTold { frames := 5, cells := 0, slots := 0, locals := 107 }).room s m ([.ref (wA w 15), .int x0, .int x1] : List Value).toArray below meth c H locs 0 0 (MQ below (va_Qv (fun u => post u ∧ inv u) (mB (wG w) (WW w) (wI w) A) A) ([.ref (wA w 15), .int x0, .int x1] : List Value).toArray s 0 0 A) (F0 m 2 ls []) := by
    intro v1 v2 n2
    induction n2 with
    | zero => intro v3 σ H locs hP hD hS hI ls hl hE; exact hE.elim
    | succ n2 ih2 =>
      have J92 : ∀ (v3 : Int32) (σ : PPS) (H : Heap) (locs : List Loc) (hP : va_P (wG w) classes (WW w σ) H) (hD : va_D A (WW w σ)) (hS : va_S A s.heap H locs) (hI : inv σ) (ls : Array Slot) (hl : lv_has ls 5 [(0, .ref (wA w 15)), (1, .int v1), (2, .int v2), (3, .int v3)]) (hE : w_Scribe_putTold_J92 v1 v2 (w_Scribe_putTold_L2 v1 v2 post n2) post v3 σ), W p l e (headSpec ws_Scribe_putTold { frames := 5, cells := 0, slots := 0, locals := 107 }).room s m ([.ref (wA w 15), .int x0, .int x1] : List Value).toArray below meth c H locs 0 0 (MQ below (va_Qv (fun u => post u ∧ inv u) (mB (wG w) (WW w) (wI w) A) A) ([.ref (wA w 15), .int x0, .int x1] : List Value).toArray s 0 0 A) (F0 m 92 ls []) := by
        intro  v3 σ H locs hP hD hS hI ls hl hE
        unfold w_Scribe_putTold_J92 at hE
        refine lv_iinc (v := v3 + 1) (lv' := [(3, .int (v3 + 1)), (0, .ref (wA w 15)), (1, .int v1), (2, .int v2)]) hx hb d_Scribe_putTold_92 hl (k := 3) rfl rfl (by decide) rfl (fun ls hl => ?_)
        refine lv_goto (tgt := 2) hx hb d_Scribe_putTold_95 (by decide) ?_
        exact ih2 (v3 + 1) σ _ _ hP hD hS hI _ (lv_sub hl [1, 2, 3, 0] rfl) hE
      intro v3 σ H locs hP hD hS hI ls hl hE
      unfold w_Scribe_putTold_L2 at hE
      refine lv_iload_n hx hb d_Scribe_putTold_2 rfl (lv_at hl 3 rfl) ?_
      refine lv_iload_n hx hb d_Scribe_putTold_3 rfl (lv_at hl 2 rfl) ?_
      refine lv_icmp_ge (tgt := 98) hx hb d_Scribe_putTold_4 (by decide) (fun cc4 => ?_) (fun cc4 => ?_)
      · have hE := hE.1 cc4
        exact W.vret hx hb hr (fun t ht hW => ⟨⟨σ, rfl, ⟨hE, hI⟩, by rw [ht]; exact hP, va_K.moved hW.alike hK, hD⟩, hS.F ht⟩) hS.2.2 d_Scribe_putTold_98
      · have hE := hE.2 cc4
        refine lv_aload_n hx hb d_Scribe_putTold_7 rfl (lv_at hl 0 rfl) ?_
        refine va_get (D := (wG w)) (ci := 6) (v := .ref (wA w 6)) (C := R_Scribe) (T := F_Scribe) (N := 2) hx hb hta i_Scribe hown hK hP 15 rfl rfl 0 (by decide) (hta _ fl_Scribe_9) (fun _ h9 => h9) rfl d_Scribe_putTold_8 ?_
        refine lv_iload_n hx hb d_Scribe_putTold_11 rfl (lv_at hl 1 rfl) ?_
        refine lv_iload_n hx hb d_Scribe_putTold_12 rfl (lv_at hl 2 rfl) ?_
        refine lv_iload_n hx hb d_Scribe_putTold_13 rfl (lv_at hl 3 rfl) ?_
        refine ro_V (b0 := (wA w 6)) (As := [.int v1, .int v2, .int v3]) (rest := []) ⟨hx, hb, hml, hown, hta⟩ (f_Book_letterAt l w σ v1 v2 v3 hI) ok_Scribe_93 ⟨Nat.le_of_ble_eq_true rfl, Nat.le_of_ble_eq_true rfl⟩ blind_fW (va_recv hK hP (ci := 3) (q0 := 6) rfl rfl) (fW_of hP hK hC hS) rfl hl.1 rfl (Nat.le_of_ble_eq_true rfl) d_Scribe_putTold_14 ⟨Nat.zero_le _, Nat.zero_le _⟩ (fun r14 hrr => ?_)
        subst hrr
        refine lv_istore (lv' := [(4, .int (bLet σ v1 v2 v3)), (0, .ref (wA w 15)), (1, .int v1), (2, .int v2), (3, .int v3)]) hx hb d_Scribe_putTold_17 hl (by decide) rfl (fun ls hl => ?_)
        refine lv_iload hx hb d_Scribe_putTold_19 (lv_at hl 0 rfl) ?_
        refine lv_bipush (v := 38) hx hb d_Scribe_putTold_21 (by decide) ?_
        refine lv_icmp_ne (tgt := 35) hx hb d_Scribe_putTold_23 (by decide) (fun cc23 => ?_) (fun cc23 => ?_)
        · have hE := hE.2 cc23
          refine lv_iload hx hb d_Scribe_putTold_35 (lv_at hl 0 rfl) ?_
          refine lv_bipush (v := 60) hx hb d_Scribe_putTold_37 (by decide) ?_
          refine lv_icmp_ne (tgt := 51) hx hb d_Scribe_putTold_39 (by decide) (fun cc39 => ?_) (fun cc39 => ?_)
          · have hE := hE.2 cc39
            refine lv_iload hx hb d_Scribe_putTold_51 (lv_at hl 0 rfl) ?_
            refine lv_bipush (v := 62) hx hb d_Scribe_putTold_53 (by decide) ?_
            refine lv_icmp_ne (tgt := 67) hx hb d_Scribe_putTold_55 (by decide) (fun cc55 => ?_) (fun cc55 => ?_)
            · have hE := hE.2 cc55
              refine lv_iload hx hb d_Scribe_putTold_67 (lv_at hl 0 rfl) ?_
              refine lv_bipush (v := 34) hx hb d_Scribe_putTold_69 (by decide) ?_
              refine lv_icmp_ne (tgt := 83) hx hb d_Scribe_putTold_71 (by decide) (fun cc71 => ?_) (fun cc71 => ?_)
              · have hE := hE.2 cc71
                refine lv_aload_n hx hb d_Scribe_putTold_83 rfl (lv_at hl 1 rfl) ?_
                refine va_get (D := (wG w)) (ci := 6) (v := .ref (wA w 4)) (C := R_Scribe) (T := F_Scribe) (N := 2) hx hb hta i_Scribe hown hK hP 15 rfl rfl 1 (by decide) (hta _ fl_Scribe_15) (fun _ h9 => h9) rfl d_Scribe_putTold_84 ?_
                refine lv_iload hx hb d_Scribe_putTold_87 (lv_at hl 0 rfl) ?_
                refine mcS_v  (As := [.ref (wA w 4), .int (bLet σ v1 v2 v3)]) (rest := []) ⟨hx, hb, hml, hown, hta⟩ (c_Signs_addCharacter l w _ σ (bLet σ v1 v2 v3) _ hI hE) ok_Scribe_96 ⟨Nat.le_of_ble_eq_true rfl, Nat.le_of_ble_eq_true rfl⟩  hP hK hD hS hA hC rfl hl.1 rfl (Nat.le_of_ble_eq_true rfl) d_Scribe_putTold_89 ⟨Nat.zero_le _, Nat.zero_le _⟩ (fun σ89 H locs hE hP hD hS => ?_)
                obtain ⟨hE, hI⟩ := hE
                exact J92  v3 σ89 _ _ hP hD hS hI _ (lv_sub hl [1, 2, 3, 4] rfl) hE
              · have hE := hE.1 cc71
                refine lv_aload_n hx hb d_Scribe_putTold_74 rfl (lv_at hl 1 rfl) ?_
                refine t_ldc (i := 23) hx hb hC (by decide) rfl hown d_Scribe_putTold_75 ?_
                refine mc_v (b0 := (wA w 15)) (As := [.ref (wK w 23)]) (rest := []) ⟨hx, hb, hml, hown, hta⟩ (c_Scribe_putText l w _ σ 23 _ hI hE) ok_Scribe_83 ⟨Nat.le_of_ble_eq_true rfl, Nat.le_of_ble_eq_true rfl⟩ (va_recv hK hP (ci := 6) (q0 := 15) rfl rfl) hP hK hD hS hA hC rfl hl.1 rfl (Nat.le_of_ble_eq_true rfl) d_Scribe_putTold_77 ⟨Nat.zero_le _, Nat.zero_le _⟩ (fun σ77 H locs hE hP hD hS => ?_)
                obtain ⟨hE, hI⟩ := hE
                refine lv_goto (tgt := 92) hx hb d_Scribe_putTold_80 (by decide) ?_
                exact J92  v3 σ77 _ _ hP hD hS hI _ (lv_sub hl [1, 2, 3, 4] rfl) hE
            · have hE := hE.1 cc55
              refine lv_aload_n hx hb d_Scribe_putTold_58 rfl (lv_at hl 1 rfl) ?_
              refine t_ldc (i := 22) hx hb hC (by decide) rfl hown d_Scribe_putTold_59 ?_
              refine mc_v (b0 := (wA w 15)) (As := [.ref (wK w 22)]) (rest := []) ⟨hx, hb, hml, hown, hta⟩ (c_Scribe_putText l w _ σ 22 _ hI hE) ok_Scribe_83 ⟨Nat.le_of_ble_eq_true rfl, Nat.le_of_ble_eq_true rfl⟩ (va_recv hK hP (ci := 6) (q0 := 15) rfl rfl) hP hK hD hS hA hC rfl hl.1 rfl (Nat.le_of_ble_eq_true rfl) d_Scribe_putTold_61 ⟨Nat.zero_le _, Nat.zero_le _⟩ (fun σ61 H locs hE hP hD hS => ?_)
              obtain ⟨hE, hI⟩ := hE
              refine lv_goto (tgt := 92) hx hb d_Scribe_putTold_64 (by decide) ?_
              exact J92  v3 σ61 _ _ hP hD hS hI _ (lv_sub hl [1, 2, 3, 4] rfl) hE
          · have hE := hE.1 cc39
            refine lv_aload_n hx hb d_Scribe_putTold_42 rfl (lv_at hl 1 rfl) ?_
            refine t_ldc (i := 21) hx hb hC (by decide) rfl hown d_Scribe_putTold_43 ?_
            refine mc_v (b0 := (wA w 15)) (As := [.ref (wK w 21)]) (rest := []) ⟨hx, hb, hml, hown, hta⟩ (c_Scribe_putText l w _ σ 21 _ hI hE) ok_Scribe_83 ⟨Nat.le_of_ble_eq_true rfl, Nat.le_of_ble_eq_true rfl⟩ (va_recv hK hP (ci := 6) (q0 := 15) rfl rfl) hP hK hD hS hA hC rfl hl.1 rfl (Nat.le_of_ble_eq_true rfl) d_Scribe_putTold_45 ⟨Nat.zero_le _, Nat.zero_le _⟩ (fun σ45 H locs hE hP hD hS => ?_)
            obtain ⟨hE, hI⟩ := hE
            refine lv_goto (tgt := 92) hx hb d_Scribe_putTold_48 (by decide) ?_
            exact J92  v3 σ45 _ _ hP hD hS hI _ (lv_sub hl [1, 2, 3, 4] rfl) hE
        · have hE := hE.1 cc23
          refine lv_aload_n hx hb d_Scribe_putTold_26 rfl (lv_at hl 1 rfl) ?_
          refine t_ldc (i := 20) hx hb hC (by decide) rfl hown d_Scribe_putTold_27 ?_
          refine mc_v (b0 := (wA w 15)) (As := [.ref (wK w 20)]) (rest := []) ⟨hx, hb, hml, hown, hta⟩ (c_Scribe_putText l w _ σ 20 _ hI hE) ok_Scribe_83 ⟨Nat.le_of_ble_eq_true rfl, Nat.le_of_ble_eq_true rfl⟩ (va_recv hK hP (ci := 6) (q0 := 15) rfl rfl) hP hK hD hS hA hC rfl hl.1 rfl (Nat.le_of_ble_eq_true rfl) d_Scribe_putTold_29 ⟨Nat.zero_le _, Nat.zero_le _⟩ (fun σ29 H locs hE hP hD hS => ?_)
          obtain ⟨hE, hI⟩ := hE
          refine lv_goto (tgt := 92) hx hb d_Scribe_putTold_32 (by decide) ?_
          exact J92  v3 σ29 _ _ hP hD hS hI _ (lv_sub hl [1, 2, 3, 4] rfl) hE
  unfold w_Scribe_putTold at hE
  refine lv_iconst (v := 0) hx hb d_Scribe_putTold_0 (by decide) ?_
  refine lv_istore_n (lv' := [(3, .int 0), (0, .ref (wA w 15)), (1, .int x0), (2, .int x1)]) hx hb d_Scribe_putTold_1 rfl hl (by decide) rfl (fun ls hl => ?_)
  obtain ⟨n2, hE⟩ := hE
  exact L2 x0 x1 n2 0 σ _ _ hP hD hS hI _ (lv_sub hl [1, 2, 3, 0] rfl) hE
theorem ok_Scribe_24 : okV "PlainPages$Scribe" 24 R_Book y_Book_ofNode b_Book_ofNode 3 (some .int) 2 := ⟨aW_in 835 (by decide +kernel) rfl, aW_in 285 (by decide +kernel) rfl, aW_in 286 (by decide +kernel) rfl, aW_in 87 (by decide +kernel) rfl, cd_Book_ofNode, rfl, by decide +kernel, by decide +kernel, by decide +kernel⟩
theorem ok_Scribe_51 : okV "PlainPages$Scribe" 51 R_Scribe y_Scribe_putLetters b_Scribe_putLetters 4 none 2 := ⟨aW_in 849 (by decide +kernel) rfl, aW_in 851 (by decide +kernel) rfl, aW_in 35 (by decide +kernel) rfl, aW_in 91 (by decide +kernel) rfl, cd_Scribe_putLetters, rfl, by decide +kernel, by decide +kernel, by decide +kernel⟩
theorem d_Scribe_putEnds_0 : decode b_Scribe_putEnds 0 = .ok (.iload_n 1, 1) := by decide +kernel
theorem d_Scribe_putEnds_1 : decode b_Scribe_putEnds 1 = .ok (.istore 4, 2) := by decide +kernel
theorem d_Scribe_putEnds_3 : decode b_Scribe_putEnds 3 = .ok (.iconst 0, 1) := by decide +kernel
theorem d_Scribe_putEnds_4 : decode b_Scribe_putEnds 4 = .ok (.istore 5, 2) := by decide +kernel
theorem d_Scribe_putEnds_6 : decode b_Scribe_putEnds 6 = .ok (.iload 5, 2) := by decide +kernel
theorem d_Scribe_putEnds_8 : decode b_Scribe_putEnds 8 = .ok (.bipush 40, 2) := by decide +kernel
theorem d_Scribe_putEnds_10 : decode b_Scribe_putEnds 10 = .ok (.if_icmp .ge 92, 3) := by decide +kernel
theorem d_Scribe_putEnds_13 : decode b_Scribe_putEnds 13 = .ok (.iload 4, 2) := by decide +kernel
theorem d_Scribe_putEnds_15 : decode b_Scribe_putEnds 15 = .ok (.iconst (-1), 1) := by decide +kernel
theorem d_Scribe_putEnds_16 : decode b_Scribe_putEnds 16 = .ok (.if_icmp .eq 86, 3) := by decide +kernel
theorem d_Scribe_putEnds_19 : decode b_Scribe_putEnds 19 = .ok (.aload_n 0, 1) := by decide +kernel
theorem d_Scribe_putEnds_20 : decode b_Scribe_putEnds 20 = .ok (.getfield 9, 3) := by decide +kernel
theorem d_Scribe_putEnds_23 : decode b_Scribe_putEnds 23 = .ok (.iload 4, 2) := by decide +kernel
theorem d_Scribe_putEnds_25 : decode b_Scribe_putEnds 25 = .ok (.bipush 10, 2) := by decide +kernel
theorem d_Scribe_putEnds_27 : decode b_Scribe_putEnds 27 = .ok (.invokevirtual 24, 3) := by decide +kernel
theorem d_Scribe_putEnds_30 : decode b_Scribe_putEnds 30 = .ok (.iload_n 2, 1) := by decide +kernel
theorem d_Scribe_putEnds_31 : decode b_Scribe_putEnds 31 = .ok (.if_icmp .gt 71, 3) := by decide +kernel
theorem d_Scribe_putEnds_34 : decode b_Scribe_putEnds 34 = .ok (.aload_n 0, 1) := by decide +kernel
theorem d_Scribe_putEnds_35 : decode b_Scribe_putEnds 35 = .ok (.ldc 91, 2) := by decide +kernel
theorem d_Scribe_putEnds_37 : decode b_Scribe_putEnds 37 = .ok (.invokevirtual 83, 3) := by decide +kernel
theorem d_Scribe_putEnds_40 : decode b_Scribe_putEnds 40 = .ok (.aload_n 0, 1) := by decide +kernel
theorem d_Scribe_putEnds_41 : decode b_Scribe_putEnds 41 = .ok (.aload_n 0, 1) := by decide +kernel
theorem d_Scribe_putEnds_42 : decode b_Scribe_putEnds 42 = .ok (.getfield 9, 3) := by decide +kernel
theorem d_Scribe_putEnds_45 : decode b_Scribe_putEnds 45 = .ok (.iload 4, 2) := by decide +kernel
theorem d_Scribe_putEnds_47 : decode b_Scribe_putEnds 47 = .ok (.bipush 8, 2) := by decide +kernel
theorem d_Scribe_putEnds_49 : decode b_Scribe_putEnds 49 = .ok (.invokevirtual 24, 3) := by decide +kernel
theorem d_Scribe_putEnds_52 : decode b_Scribe_putEnds 52 = .ok (.aload_n 0, 1) := by decide +kernel
theorem d_Scribe_putEnds_53 : decode b_Scribe_putEnds 53 = .ok (.getfield 9, 3) := by decide +kernel
theorem d_Scribe_putEnds_56 : decode b_Scribe_putEnds 56 = .ok (.iload 4, 2) := by decide +kernel
theorem d_Scribe_putEnds_58 : decode b_Scribe_putEnds 58 = .ok (.iconst 3, 1) := by decide +kernel
theorem d_Scribe_putEnds_59 : decode b_Scribe_putEnds 59 = .ok (.invokevirtual 24, 3) := by decide +kernel
theorem d_Scribe_putEnds_62 : decode b_Scribe_putEnds 62 = .ok (.invokevirtual 51, 3) := by decide +kernel
theorem d_Scribe_putEnds_65 : decode b_Scribe_putEnds 65 = .ok (.aload_n 0, 1) := by decide +kernel
theorem d_Scribe_putEnds_66 : decode b_Scribe_putEnds 66 = .ok (.getfield 15, 3) := by decide +kernel
theorem d_Scribe_putEnds_69 : decode b_Scribe_putEnds 69 = .ok (.bipush 62, 2) := by decide +kernel
theorem d_Scribe_putEnds_71 : decode b_Scribe_putEnds 71 = .ok (.invokevirtual 66, 3) := by decide +kernel
theorem d_Scribe_putEnds_74 : decode b_Scribe_putEnds 74 = .ok (.iload 4, 2) := by decide +kernel
theorem d_Scribe_putEnds_76 : decode b_Scribe_putEnds 76 = .ok (.iload_n 3, 1) := by decide +kernel
theorem d_Scribe_putEnds_77 : decode b_Scribe_putEnds 77 = .ok (.if_icmp .ne 7, 3) := by decide +kernel
theorem d_Scribe_putEnds_80 : decode b_Scribe_putEnds 80 = .ok (.iconst (-1), 1) := by decide +kernel
theorem d_Scribe_putEnds_81 : decode b_Scribe_putEnds 81 = .ok (.goto 13, 3) := by decide +kernel
theorem d_Scribe_putEnds_84 : decode b_Scribe_putEnds 84 = .ok (.aload_n 0, 1) := by decide +kernel
theorem d_Scribe_putEnds_85 : decode b_Scribe_putEnds 85 = .ok (.getfield 9, 3) := by decide +kernel
theorem d_Scribe_putEnds_88 : decode b_Scribe_putEnds 88 = .ok (.iload 4, 2) := by decide +kernel
theorem d_Scribe_putEnds_90 : decode b_Scribe_putEnds 90 = .ok (.iconst 1, 1) := by decide +kernel
theorem d_Scribe_putEnds_91 : decode b_Scribe_putEnds 91 = .ok (.invokevirtual 24, 3) := by decide +kernel
theorem d_Scribe_putEnds_94 : decode b_Scribe_putEnds 94 = .ok (.istore 4, 2) := by decide +kernel
theorem d_Scribe_putEnds_96 : decode b_Scribe_putEnds 96 = .ok (.iinc 5 1, 3) := by decide +kernel
theorem d_Scribe_putEnds_99 : decode b_Scribe_putEnds 99 = .ok (.goto (-93), 3) := by decide +kernel
theorem d_Scribe_putEnds_102 : decode b_Scribe_putEnds 102 = .ok (.iload 4, 2) := by decide +kernel
theorem d_Scribe_putEnds_104 : decode b_Scribe_putEnds 104 = .ok (.ireturn, 1) := by decide +kernel
def w_Scribe_putEnds_J94  (v2 : Int32) (v3 : Int32) (K6 : Int32 → Int32 → PPS → Prop) (post : Int32 → PPS → Prop) (v5 : Int32) (t0 : Int32) (σ : PPS) : Prop := K6 t0 (v5 + 1) σ
def w_Scribe_putEnds_L6  (v2 : Int32) (v3 : Int32) (post : Int32 → PPS → Prop) : Nat → Int32 → Int32 → PPS → Prop
  | 0, _, _, _ => False
  | n6 + 1, v4, v5, σ => ((40 ≤ v5 → post v4 σ) ∧ (¬ 40 ≤ v5 → ((v4 = (-1) → post v4 σ) ∧ (¬ v4 = (-1) → ((v2 < (tGet 14 (pNd σ) v4 10) → post v4 σ) ∧ (¬ v2 < (tGet 14 (pNd σ) v4 10) → w_Scribe_putText σ 18 (fun σ37 => w_Scribe_putLetters σ37 (tGet 14 (pNd σ37) v4 8) (tGet 14 (pNd σ37) v4 3) (fun σ62 => (∀ σ71 : PPS, σ71 = sSh σ62 (sAdd 24000 (pSh σ62) 62) → ((v4 = v3 → w_Scribe_putEnds_J94 v2 v3 (w_Scribe_putEnds_L6 v2 v3 post n6) post v5 (-1) σ71) ∧ (¬ v4 = v3 → w_Scribe_putEnds_J94 v2 v3 (w_Scribe_putEnds_L6 v2 v3 post n6) post v5 (tGet 14 (pNd σ71) v4 1) σ71)))))))))))
def w_Scribe_putEnds  (σ : PPS) (x0 : Int32) (x1 : Int32) (x2 : Int32) (post : Int32 → PPS → Prop) : Prop := (∃ n6, w_Scribe_putEnds_L6 x1 x2 post n6 x0 0 σ)
set_option maxHeartbeats 4000000 in
set_option maxRecDepth 100000 in
theorem c_Scribe_putEnds (l : Launch) (w : WD) (sz : Nat) (σ : PPS) (x0 : Int32) (x1 : Int32) (x2 : Int32)  (post : Int32 → PPS → Prop) (hI : inv σ) (hE : w_Scribe_putEnds σ x0 x1 x2 post) : Met l y_Scribe_putEnds ws_Scribe_putEnds { frames := 5, cells := 0, slots := 0, locals := 107 } (va_Pc [.ref (wA w 15), .int x0, .int x1, .int x2] (gW w σ sz)) (va_Qi (fun r u => post r u ∧ inv u) (mB (wG w) (WW w) (wI w) (va_A (WW w σ) sz)) (va_A (WW w σ) sz)) 0 0 (va_A (WW w σ) sz) := by
  refine Met.ofW (cc := b_Scribe_putEnds) (maxL := 6) (ret := (some .int)) (by decide) rfl ?_
  intro p e s m args below meth c s₁ B hml hv
  obtain ⟨rfl, hsz, hP, hK, hD0, hC⟩ := hv
  have hx := B.exec
  have hb := B.bytes
  have hr := B.returns
  have hta : ∀ w ∈ aW, w.before _ s = true := fun w h => atoms_spec (ws := ws_Scribe_putEnds) B.pre w (List.mem_cons_of_mem _ h)
  have hown : s.vm.findClass R_Scribe = some m.cls := findClass_of_methodNamed B.named
  have hlocks := B.notSynchronized
  subst hsz
  have hD := hD0.self (sz := s.heap.size)
  generalize hAe : va_A (WW w σ) s.heap.size = A at hD hC ⊢
  have hA : ∀ q : Nat, s.heap.size ≤ q → A q := fun q h => by rw [← hAe]; exact Or.inr h
  have hS : va_S A s.heap s.heap [] := va_S.rf
  have hP : va_P (wG w) classes (WW w σ) s.heap := hP
  have hl := lv_entry ([.ref (wA w 15), .int x0, .int x1, .int x2]) (n := 6) (Nat.le_of_ble_eq_true rfl)
  rw [lg_entry_eq]
  generalize (lg_sl ([.ref (wA w 15), .int x0, .int x1, .int x2]) ++ List.replicate (6 - (lg_sl ([.ref (wA w 15), .int x0, .int x1, .int x2])).length) Slot.unset).toArray = ls at hl ⊢
  have hl : lv_has ls 6 [(0, .ref (wA w 15)), (1, .int x0), (2, .int x1), (3, .int x2)] := hl
  have L6 : ∀ (v2 : Int32) (v3 : Int32) (n6 : Nat) (v4 : Int32) (v5 : Int32) (σ : PPS) (H : Heap) (locs : List Loc) (hP : va_P (wG w) classes (WW w σ) H) (hD : va_D A (WW w σ)) (hS : va_S A s.heap H locs) (hI : inv σ) (ls : Array Slot) (hl : lv_has ls 6 [(0, .ref (wA w 15)), (2, .int v2), (3, .int v3), (4, .int v4), (5, .int v5)]) (hE : w_Scribe_putEnds_L6 v2 v3 post n6 v4 v5 σ), W p l e (headSpec ws_Scribe_putEnds { frames := 5, cells := 0, slots := 0, locals := 107 }).room s m ([.ref (wA w 15), .int x0, .int x1, .int x2] : List Value).toArray below meth c H locs 0 0 (MQ below (va_Qi (fun r u => post r u ∧ inv u) (mB (wG w) (WW w) (wI w) A) A) ([.ref (wA w 15), .int x0, .int x1, .int x2] : List Value).toArray s 0 0 A) (F0 m 6 ls []) := by
    intro v2 v3 n6
    induction n6 with
    | zero => intro v4 v5 σ H locs hP hD hS hI ls hl hE; exact hE.elim
    | succ n6 ih6 =>
      have J94 : ∀ (v5 : Int32) (t0 : Int32) (σ : PPS) (H : Heap) (locs : List Loc) (hP : va_P (wG w) classes (WW w σ) H) (hD : va_D A (WW w σ)) (hS : va_S A s.heap H locs) (hI : inv σ) (ls : Array Slot) (hl : lv_has ls 6 [(0, .ref (wA w 15)), (2, .int v2), (3, .int v3), (5, .int v5)]) (hE : w_Scribe_putEnds_J94 v2 v3 (w_Scribe_putEnds_L6 v2 v3 post n6) post v5 t0 σ), W p l e (headSpec ws_Scribe_putEnds { frames := 5, cells := 0, slots := 0, locals := 107 }).room s m ([.ref (wA w 15), .int x0, .int x1, .int x2] : List Value).toArray below meth c H locs 0 0 (MQ below (va_Qi (fun r u => post r u ∧ inv u) (mB (wG w) (WW w) (wI w) A) A) ([.ref (wA w 15), .int x0, .int x1, .int x2] : List Value).toArray s 0 0 A) (F0 m 94 ls [.int t0]) := by
        intro  v5 t0 σ H locs hP hD hS hI ls hl hE
        unfold w_Scribe_putEnds_J94 at hE
        refine lv_istore (lv' := [(4, .int t0), (0, .ref (wA w 15)), (2, .int v2), (3, .int v3), (5, .int v5)]) hx hb d_Scribe_putEnds_94 hl (by decide) rfl (fun ls hl => ?_)
        refine lv_iinc (v := v5 + 1) (lv' := [(5, .int (v5 + 1)), (4, .int t0), (0, .ref (wA w 15)), (2, .int v2), (3, .int v3)]) hx hb d_Scribe_putEnds_96 hl (k := 4) rfl rfl (by decide) rfl (fun ls hl => ?_)
        refine lv_goto (tgt := 6) hx hb d_Scribe_putEnds_99 (by decide) ?_
        exact ih6 t0 (v5 + 1) σ _ _ hP hD hS hI _ (lv_sub hl [2, 3, 4, 1, 0] rfl) hE
      intro v4 v5 σ H locs hP hD hS hI ls hl hE
      unfold w_Scribe_putEnds_L6 at hE
      refine lv_iload hx hb d_Scribe_putEnds_6 (lv_at hl 4 rfl) ?_
      refine lv_bipush (v := 40) hx hb d_Scribe_putEnds_8 (by decide) ?_
      refine lv_icmp_ge (tgt := 102) hx hb d_Scribe_putEnds_10 (by decide) (fun cc10 => ?_) (fun cc10 => ?_)
      · have hE := hE.1 cc10
        refine lv_iload hx hb d_Scribe_putEnds_102 (lv_at hl 3 rfl) ?_
        exact W.iret (v := v4) hx hb hr (fun t ht hW => ⟨⟨_, σ, rfl, ⟨hE, hI⟩, by rw [ht]; exact hP, va_K.moved hW.alike hK, hD⟩, hS.F ht⟩) hS.2.2 d_Scribe_putEnds_104
      · have hE := hE.2 cc10
        refine lv_iload hx hb d_Scribe_putEnds_13 (lv_at hl 3 rfl) ?_
        refine lv_iconst (v := -1) hx hb d_Scribe_putEnds_15 (by decide) ?_
        refine lv_icmp_eq (tgt := 102) hx hb d_Scribe_putEnds_16 (by decide) (fun cc16 => ?_) (fun cc16 => ?_)
        · have hE := hE.1 cc16
          refine lv_iload hx hb d_Scribe_putEnds_102 (lv_at hl 3 rfl) ?_
          exact W.iret (v := v4) hx hb hr (fun t ht hW => ⟨⟨_, σ, rfl, ⟨hE, hI⟩, by rw [ht]; exact hP, va_K.moved hW.alike hK, hD⟩, hS.F ht⟩) hS.2.2 d_Scribe_putEnds_104
        · have hE := hE.2 cc16
          refine lv_aload_n hx hb d_Scribe_putEnds_19 rfl (lv_at hl 0 rfl) ?_
          refine va_get (D := (wG w)) (ci := 6) (v := .ref (wA w 6)) (C := R_Scribe) (T := F_Scribe) (N := 2) hx hb hta i_Scribe hown hK hP 15 rfl rfl 0 (by decide) (hta _ fl_Scribe_9) (fun _ h9 => h9) rfl d_Scribe_putEnds_20 ?_
          refine lv_iload hx hb d_Scribe_putEnds_23 (lv_at hl 3 rfl) ?_
          refine lv_bipush (v := 10) hx hb d_Scribe_putEnds_25 (by decide) ?_
          refine ro_V (b0 := (wA w 6)) (As := [.int v4, .int 10]) (rest := []) ⟨hx, hb, hml, hown, hta⟩ (f_Book_ofNode l w σ v4 10 hI) ok_Scribe_24 ⟨Nat.le_of_ble_eq_true rfl, Nat.le_of_ble_eq_true rfl⟩ blind_fW (va_recv hK hP (ci := 3) (q0 := 6) rfl rfl) (fW_of hP hK hC hS) rfl hl.1 rfl (Nat.le_of_ble_eq_true rfl) d_Scribe_putEnds_27 ⟨Nat.zero_le _, Nat.zero_le _⟩ (fun r27 hrr => ?_)
          subst hrr
          refine lv_iload_n hx hb d_Scribe_putEnds_30 rfl (lv_at hl 1 rfl) ?_
          refine lv_icmp_gt (tgt := 102) hx hb d_Scribe_putEnds_31 (by decide) (fun cc31 => ?_) (fun cc31 => ?_)
          · have hE := hE.1 cc31
            refine lv_iload hx hb d_Scribe_putEnds_102 (lv_at hl 3 rfl) ?_
            exact W.iret (v := v4) hx hb hr (fun t ht hW => ⟨⟨_, σ, rfl, ⟨hE, hI⟩, by rw [ht]; exact hP, va_K.moved hW.alike hK, hD⟩, hS.F ht⟩) hS.2.2 d_Scribe_putEnds_104
          · have hE := hE.2 cc31
            refine lv_aload_n hx hb d_Scribe_putEnds_34 rfl (lv_at hl 0 rfl) ?_
            refine t_ldc (i := 18) hx hb hC (by decide) rfl hown d_Scribe_putEnds_35 ?_
            refine mc_v (b0 := (wA w 15)) (As := [.ref (wK w 18)]) (rest := []) ⟨hx, hb, hml, hown, hta⟩ (c_Scribe_putText l w _ σ 18 _ hI hE) ok_Scribe_83 ⟨Nat.le_of_ble_eq_true rfl, Nat.le_of_ble_eq_true rfl⟩ (va_recv hK hP (ci := 6) (q0 := 15) rfl rfl) hP hK hD hS hA hC rfl hl.1 rfl (Nat.le_of_ble_eq_true rfl) d_Scribe_putEnds_37 ⟨Nat.zero_le _, Nat.zero_le _⟩ (fun σ37 H locs hE hP hD hS => ?_)
            obtain ⟨hE, hI⟩ := hE
            refine lv_aload_n hx hb d_Scribe_putEnds_40 rfl (lv_at hl 0 rfl) ?_
            refine lv_aload_n hx hb d_Scribe_putEnds_41 rfl (lv_at hl 0 rfl) ?_
            refine va_get (D := (wG w)) (ci := 6) (v := .ref (wA w 6)) (C := R_Scribe) (T := F_Scribe) (N := 2) hx hb hta i_Scribe hown hK hP 15 rfl rfl 0 (by decide) (hta _ fl_Scribe_9) (fun _ h9 => h9) rfl d_Scribe_putEnds_42 ?_
            refine lv_iload hx hb d_Scribe_putEnds_45 (lv_at hl 3 rfl) ?_
            refine lv_bipush (v := 8) hx hb d_Scribe_putEnds_47 (by decide) ?_
            refine ro_V (b0 := (wA w 6)) (As := [.int v4, .int 8]) (rest := [.ref (wA w 15)]) ⟨hx, hb, hml, hown, hta⟩ (f_Book_ofNode l w σ37 v4 8 hI) ok_Scribe_24 ⟨Nat.le_of_ble_eq_true rfl, Nat.le_of_ble_eq_true rfl⟩ blind_fW (va_recv hK hP (ci := 3) (q0 := 6) rfl rfl) (fW_of hP hK hC hS) rfl hl.1 rfl (Nat.le_of_ble_eq_true rfl) d_Scribe_putEnds_49 ⟨Nat.zero_le _, Nat.zero_le _⟩ (fun r49 hrr => ?_)
            subst hrr
            refine lv_aload_n hx hb d_Scribe_putEnds_52 rfl (lv_at hl 0 rfl) ?_
            refine va_get (D := (wG w)) (ci := 6) (v := .ref (wA w 6)) (C := R_Scribe) (T := F_Scribe) (N := 2) hx hb hta i_Scribe hown hK hP 15 rfl rfl 0 (by decide) (hta _ fl_Scribe_9) (fun _ h9 => h9) rfl d_Scribe_putEnds_53 ?_
            refine lv_iload hx hb d_Scribe_putEnds_56 (lv_at hl 3 rfl) ?_
            refine lv_iconst (v := 3) hx hb d_Scribe_putEnds_58 (by decide) ?_
            refine ro_V (b0 := (wA w 6)) (As := [.int v4, .int 3]) (rest := [.int (tGet 14 (pNd σ37) v4 8), .ref (wA w 15)]) ⟨hx, hb, hml, hown, hta⟩ (f_Book_ofNode l w σ37 v4 3 hI) ok_Scribe_24 ⟨Nat.le_of_ble_eq_true rfl, Nat.le_of_ble_eq_true rfl⟩ blind_fW (va_recv hK hP (ci := 3) (q0 := 6) rfl rfl) (fW_of hP hK hC hS) rfl hl.1 rfl (Nat.le_of_ble_eq_true rfl) d_Scribe_putEnds_59 ⟨Nat.zero_le _, Nat.zero_le _⟩ (fun r59 hrr => ?_)
            subst hrr
            refine mc_v (b0 := (wA w 15)) (As := [.int (tGet 14 (pNd σ37) v4 8), .int (tGet 14 (pNd σ37) v4 3)]) (rest := []) ⟨hx, hb, hml, hown, hta⟩ (c_Scribe_putLetters l w _ σ37 (tGet 14 (pNd σ37) v4 8) (tGet 14 (pNd σ37) v4 3) _ hI hE) ok_Scribe_51 ⟨Nat.le_of_ble_eq_true rfl, Nat.le_of_ble_eq_true rfl⟩ (va_recv hK hP (ci := 6) (q0 := 15) rfl rfl) hP hK hD hS hA hC rfl hl.1 rfl (Nat.le_of_ble_eq_true rfl) d_Scribe_putEnds_62 ⟨Nat.zero_le _, Nat.zero_le _⟩ (fun σ62 H locs hE hP hD hS => ?_)
            obtain ⟨hE, hI⟩ := hE
            refine lv_aload_n hx hb d_Scribe_putEnds_65 rfl (lv_at hl 0 rfl) ?_
            refine va_get (D := (wG w)) (ci := 6) (v := .ref (wA w 4)) (C := R_Scribe) (T := F_Scribe) (N := 2) hx hb hta i_Scribe hown hK hP 15 rfl rfl 1 (by decide) (hta _ fl_Scribe_15) (fun _ h9 => h9) rfl d_Scribe_putEnds_66 ?_
            refine lv_bipush (v := 62) hx hb d_Scribe_putEnds_69 (by decide) ?_
            refine cSh_v (As := [.int 62]) (rest := []) ⟨hx, hb, hml, hown, hta⟩ (c_Strip_add l (wG w) (wA w 4) (wA w 5) (wI w) 24000 _ (pSh σ62) 62 (fun u => u = sAdd 24000 (pSh σ62) 62) (l_Strip_add (by decide) (inv.Sh hI) 62)) ok_Scribe_66 ⟨Nat.le_of_ble_eq_true rfl, Nat.le_of_ble_eq_true rfl⟩ hP hK hD hS hA rfl hl.1 rfl (Nat.le_of_ble_eq_true rfl) d_Scribe_putEnds_71 ⟨Nat.zero_le _, Nat.zero_le _⟩ (fun u H locs hrr hP hD hS => ?_)
            subst hrr
            have hP : va_P (wG w) classes (WW w (sSh σ62 (sAdd 24000 (pSh σ62) 62))) H := hP
            have hD : va_D A (WW w (sSh σ62 (sAdd 24000 (pSh σ62) 62))) := hD
            have hI : inv (sSh σ62 (sAdd 24000 (pSh σ62) 62)) := (inv.sSh hI (sOk_add (by decide) (inv.Sh hI) _))
            have hE := hE _ rfl
            generalize (sSh σ62 (sAdd 24000 (pSh σ62) 62) : PPS) = σ71 at hP hD hI hE
            refine lv_iload hx hb d_Scribe_putEnds_74 (lv_at hl 3 rfl) ?_
            refine lv_iload_n hx hb d_Scribe_putEnds_76 rfl (lv_at hl 2 rfl) ?_
            refine lv_icmp_ne (tgt := 84) hx hb d_Scribe_putEnds_77 (by decide) (fun cc77 => ?_) (fun cc77 => ?_)
            · have hE := hE.2 cc77
              refine lv_aload_n hx hb d_Scribe_putEnds_84 rfl (lv_at hl 0 rfl) ?_
              refine va_get (D := (wG w)) (ci := 6) (v := .ref (wA w 6)) (C := R_Scribe) (T := F_Scribe) (N := 2) hx hb hta i_Scribe hown hK hP 15 rfl rfl 0 (by decide) (hta _ fl_Scribe_9) (fun _ h9 => h9) rfl d_Scribe_putEnds_85 ?_
              refine lv_iload hx hb d_Scribe_putEnds_88 (lv_at hl 3 rfl) ?_
              refine lv_iconst (v := 1) hx hb d_Scribe_putEnds_90 (by decide) ?_
              refine ro_V (b0 := (wA w 6)) (As := [.int v4, .int 1]) (rest := []) ⟨hx, hb, hml, hown, hta⟩ (f_Book_ofNode l w σ71 v4 1 hI) ok_Scribe_24 ⟨Nat.le_of_ble_eq_true rfl, Nat.le_of_ble_eq_true rfl⟩ blind_fW (va_recv hK hP (ci := 3) (q0 := 6) rfl rfl) (fW_of hP hK hC hS) rfl hl.1 rfl (Nat.le_of_ble_eq_true rfl) d_Scribe_putEnds_91 ⟨Nat.zero_le _, Nat.zero_le _⟩ (fun r91 hrr => ?_)
              subst hrr
              exact J94  v5 (tGet 14 (pNd σ71) v4 1) σ71 _ _ hP hD hS hI _ (lv_sub hl [0, 1, 2, 4] rfl) hE
            · have hE := hE.1 cc77
              refine lv_iconst (v := -1) hx hb d_Scribe_putEnds_80 (by decide) ?_
              refine lv_goto (tgt := 94) hx hb d_Scribe_putEnds_81 (by decide) ?_
              exact J94  v5 (-1) σ71 _ _ hP hD hS hI _ (lv_sub hl [0, 1, 2, 4] rfl) hE
  unfold w_Scribe_putEnds at hE
  refine lv_iload_n hx hb d_Scribe_putEnds_0 rfl (lv_at hl 1 rfl) ?_
  refine lv_istore (lv' := [(4, .int x0), (0, .ref (wA w 15)), (1, .int x0), (2, .int x1), (3, .int x2)]) hx hb d_Scribe_putEnds_1 hl (by decide) rfl (fun ls hl => ?_)
  refine lv_iconst (v := 0) hx hb d_Scribe_putEnds_3 (by decide) ?_
  refine lv_istore (lv' := [(5, .int 0), (4, .int x0), (0, .ref (wA w 15)), (1, .int x0), (2, .int x1), (3, .int x2)]) hx hb d_Scribe_putEnds_4 hl (by decide) rfl (fun ls hl => ?_)
  obtain ⟨n6, hE⟩ := hE
  exact L6 x1 x2 n6 x0 0 σ _ _ hP hD hS hI _ (lv_sub hl [2, 4, 5, 1, 0] rfl) hE
theorem ok_Scribe_78 : okV "PlainPages$Scribe" 78 R_Book y_Book_attributeOf b_Book_attributeOf 4 (some .int) 2 := ⟨aW_in 886 (by decide +kernel) rfl, aW_in 309 (by decide +kernel) rfl, aW_in 310 (by decide +kernel) rfl, aW_in 87 (by decide +kernel) rfl, cd_Book_attributeOf, rfl, by decide +kernel, by decide +kernel, by decide +kernel⟩
theorem ok_Scribe_75 : okV "PlainPages$Scribe" 75 R_Book y_Book_ofAttribute b_Book_ofAttribute 3 (some .int) 2 := ⟨aW_in 848 (by decide +kernel) rfl, aW_in 313 (by decide +kernel) rfl, aW_in 314 (by decide +kernel) rfl, aW_in 87 (by decide +kernel) rfl, cd_Book_ofAttribute, rfl, by decide +kernel, by decide +kernel, by decide +kernel⟩
theorem ok_Scribe_63 : okV "PlainPages$Scribe" 63 R_Scribe y_Scribe_putTold b_Scribe_putTold 5 none 2 := ⟨aW_in 888 (by decide +kernel) rfl, aW_in 890 (by decide +kernel) rfl, aW_in 39 (by decide +kernel) rfl, aW_in 91 (by decide +kernel) rfl, cd_Scribe_putTold, rfl, by decide +kernel, by decide +kernel, by decide +kernel⟩
theorem d_Scribe_putBegin_0 : decode b_Scribe_putBegin 0 = .ok (.aload_n 0, 1) := by decide +kernel
theorem d_Scribe_putBegin_1 : decode b_Scribe_putBegin 1 = .ok (.getfield 15, 3) := by decide +kernel
theorem d_Scribe_putBegin_4 : decode b_Scribe_putBegin 4 = .ok (.bipush 60, 2) := by decide +kernel
theorem d_Scribe_putBegin_6 : decode b_Scribe_putBegin 6 = .ok (.invokevirtual 66, 3) := by decide +kernel
theorem d_Scribe_putBegin_9 : decode b_Scribe_putBegin 9 = .ok (.aload_n 0, 1) := by decide +kernel
theorem d_Scribe_putBegin_10 : decode b_Scribe_putBegin 10 = .ok (.aload_n 0, 1) := by decide +kernel
theorem d_Scribe_putBegin_11 : decode b_Scribe_putBegin 11 = .ok (.getfield 9, 3) := by decide +kernel
theorem d_Scribe_putBegin_14 : decode b_Scribe_putBegin 14 = .ok (.iload_n 1, 1) := by decide +kernel
theorem d_Scribe_putBegin_15 : decode b_Scribe_putBegin 15 = .ok (.bipush 8, 2) := by decide +kernel
theorem d_Scribe_putBegin_17 : decode b_Scribe_putBegin 17 = .ok (.invokevirtual 24, 3) := by decide +kernel
theorem d_Scribe_putBegin_20 : decode b_Scribe_putBegin 20 = .ok (.aload_n 0, 1) := by decide +kernel
theorem d_Scribe_putBegin_21 : decode b_Scribe_putBegin 21 = .ok (.getfield 9, 3) := by decide +kernel
theorem d_Scribe_putBegin_24 : decode b_Scribe_putBegin 24 = .ok (.iload_n 1, 1) := by decide +kernel
theorem d_Scribe_putBegin_25 : decode b_Scribe_putBegin 25 = .ok (.iconst 3, 1) := by decide +kernel
theorem d_Scribe_putBegin_26 : decode b_Scribe_putBegin 26 = .ok (.invokevirtual 24, 3) := by decide +kernel
theorem d_Scribe_putBegin_29 : decode b_Scribe_putBegin 29 = .ok (.invokevirtual 51, 3) := by decide +kernel
theorem d_Scribe_putBegin_32 : decode b_Scribe_putBegin 32 = .ok (.iconst 0, 1) := by decide +kernel
theorem d_Scribe_putBegin_33 : decode b_Scribe_putBegin 33 = .ok (.istore_n 2, 1) := by decide +kernel
theorem d_Scribe_putBegin_34 : decode b_Scribe_putBegin 34 = .ok (.iload_n 2, 1) := by decide +kernel
theorem d_Scribe_putBegin_35 : decode b_Scribe_putBegin 35 = .ok (.aload_n 0, 1) := by decide +kernel
theorem d_Scribe_putBegin_36 : decode b_Scribe_putBegin 36 = .ok (.getfield 9, 3) := by decide +kernel
theorem d_Scribe_putBegin_39 : decode b_Scribe_putBegin 39 = .ok (.iload_n 1, 1) := by decide +kernel
theorem d_Scribe_putBegin_40 : decode b_Scribe_putBegin 40 = .ok (.iconst 4, 1) := by decide +kernel
theorem d_Scribe_putBegin_41 : decode b_Scribe_putBegin 41 = .ok (.invokevirtual 24, 3) := by decide +kernel
theorem d_Scribe_putBegin_44 : decode b_Scribe_putBegin 44 = .ok (.if_icmp .ge 87, 3) := by decide +kernel
theorem d_Scribe_putBegin_47 : decode b_Scribe_putBegin 47 = .ok (.aload_n 0, 1) := by decide +kernel
theorem d_Scribe_putBegin_48 : decode b_Scribe_putBegin 48 = .ok (.getfield 9, 3) := by decide +kernel
theorem d_Scribe_putBegin_51 : decode b_Scribe_putBegin 51 = .ok (.iload_n 1, 1) := by decide +kernel
theorem d_Scribe_putBegin_52 : decode b_Scribe_putBegin 52 = .ok (.iload_n 2, 1) := by decide +kernel
theorem d_Scribe_putBegin_53 : decode b_Scribe_putBegin 53 = .ok (.invokevirtual 78, 3) := by decide +kernel
theorem d_Scribe_putBegin_56 : decode b_Scribe_putBegin 56 = .ok (.istore_n 3, 1) := by decide +kernel
theorem d_Scribe_putBegin_57 : decode b_Scribe_putBegin 57 = .ok (.aload_n 0, 1) := by decide +kernel
theorem d_Scribe_putBegin_58 : decode b_Scribe_putBegin 58 = .ok (.getfield 15, 3) := by decide +kernel
theorem d_Scribe_putBegin_61 : decode b_Scribe_putBegin 61 = .ok (.bipush 32, 2) := by decide +kernel
theorem d_Scribe_putBegin_63 : decode b_Scribe_putBegin 63 = .ok (.invokevirtual 66, 3) := by decide +kernel
theorem d_Scribe_putBegin_66 : decode b_Scribe_putBegin 66 = .ok (.aload_n 0, 1) := by decide +kernel
theorem d_Scribe_putBegin_67 : decode b_Scribe_putBegin 67 = .ok (.aload_n 0, 1) := by decide +kernel
theorem d_Scribe_putBegin_68 : decode b_Scribe_putBegin 68 = .ok (.getfield 9, 3) := by decide +kernel
theorem d_Scribe_putBegin_71 : decode b_Scribe_putBegin 71 = .ok (.iload_n 3, 1) := by decide +kernel
theorem d_Scribe_putBegin_72 : decode b_Scribe_putBegin 72 = .ok (.iconst 3, 1) := by decide +kernel
theorem d_Scribe_putBegin_73 : decode b_Scribe_putBegin 73 = .ok (.invokevirtual 75, 3) := by decide +kernel
theorem d_Scribe_putBegin_76 : decode b_Scribe_putBegin 76 = .ok (.aload_n 0, 1) := by decide +kernel
theorem d_Scribe_putBegin_77 : decode b_Scribe_putBegin 77 = .ok (.getfield 9, 3) := by decide +kernel
theorem d_Scribe_putBegin_80 : decode b_Scribe_putBegin 80 = .ok (.iload_n 3, 1) := by decide +kernel
theorem d_Scribe_putBegin_81 : decode b_Scribe_putBegin 81 = .ok (.iconst 0, 1) := by decide +kernel
theorem d_Scribe_putBegin_82 : decode b_Scribe_putBegin 82 = .ok (.invokevirtual 75, 3) := by decide +kernel
theorem d_Scribe_putBegin_85 : decode b_Scribe_putBegin 85 = .ok (.invokevirtual 51, 3) := by decide +kernel
theorem d_Scribe_putBegin_88 : decode b_Scribe_putBegin 88 = .ok (.aload_n 0, 1) := by decide +kernel
theorem d_Scribe_putBegin_89 : decode b_Scribe_putBegin 89 = .ok (.ldc 81, 2) := by decide +kernel
theorem d_Scribe_putBegin_91 : decode b_Scribe_putBegin 91 = .ok (.invokevirtual 83, 3) := by decide +kernel
theorem d_Scribe_putBegin_94 : decode b_Scribe_putBegin 94 = .ok (.aload_n 0, 1) := by decide +kernel
theorem d_Scribe_putBegin_95 : decode b_Scribe_putBegin 95 = .ok (.aload_n 0, 1) := by decide +kernel
theorem d_Scribe_putBegin_96 : decode b_Scribe_putBegin 96 = .ok (.getfield 9, 3) := by decide +kernel
theorem d_Scribe_putBegin_99 : decode b_Scribe_putBegin 99 = .ok (.iload_n 3, 1) := by decide +kernel
theorem d_Scribe_putBegin_100 : decode b_Scribe_putBegin 100 = .ok (.iconst 4, 1) := by decide +kernel
theorem d_Scribe_putBegin_101 : decode b_Scribe_putBegin 101 = .ok (.invokevirtual 75, 3) := by decide +kernel
theorem d_Scribe_putBegin_104 : decode b_Scribe_putBegin 104 = .ok (.aload_n 0, 1) := by decide +kernel
theorem d_Scribe_putBegin_105 : decode b_Scribe_putBegin 105 = .ok (.getfield 9, 3) := by decide +kernel
theorem d_Scribe_putBegin_108 : decode b_Scribe_putBegin 108 = .ok (.iload_n 3, 1) := by decide +kernel
theorem d_Scribe_putBegin_109 : decode b_Scribe_putBegin 109 = .ok (.iconst 1, 1) := by decide +kernel
theorem d_Scribe_putBegin_110 : decode b_Scribe_putBegin 110 = .ok (.invokevirtual 75, 3) := by decide +kernel
theorem d_Scribe_putBegin_113 : decode b_Scribe_putBegin 113 = .ok (.invokevirtual 63, 3) := by decide +kernel
theorem d_Scribe_putBegin_116 : decode b_Scribe_putBegin 116 = .ok (.aload_n 0, 1) := by decide +kernel
theorem d_Scribe_putBegin_117 : decode b_Scribe_putBegin 117 = .ok (.getfield 15, 3) := by decide +kernel
theorem d_Scribe_putBegin_120 : decode b_Scribe_putBegin 120 = .ok (.bipush 34, 2) := by decide +kernel
theorem d_Scribe_putBegin_122 : decode b_Scribe_putBegin 122 = .ok (.invokevirtual 66, 3) := by decide +kernel
theorem d_Scribe_putBegin_125 : decode b_Scribe_putBegin 125 = .ok (.iinc 2 1, 3) := by decide +kernel
theorem d_Scribe_putBegin_128 : decode b_Scribe_putBegin 128 = .ok (.goto (-94), 3) := by decide +kernel
theorem d_Scribe_putBegin_131 : decode b_Scribe_putBegin 131 = .ok (.aload_n 0, 1) := by decide +kernel
theorem d_Scribe_putBegin_132 : decode b_Scribe_putBegin 132 = .ok (.aload_n 0, 1) := by decide +kernel
theorem d_Scribe_putBegin_133 : decode b_Scribe_putBegin 133 = .ok (.getfield 9, 3) := by decide +kernel
theorem d_Scribe_putBegin_136 : decode b_Scribe_putBegin 136 = .ok (.iload_n 1, 1) := by decide +kernel
theorem d_Scribe_putBegin_137 : decode b_Scribe_putBegin 137 = .ok (.bipush 6, 2) := by decide +kernel
theorem d_Scribe_putBegin_139 : decode b_Scribe_putBegin 139 = .ok (.invokevirtual 24, 3) := by decide +kernel
theorem d_Scribe_putBegin_142 : decode b_Scribe_putBegin 142 = .ok (.iconst (-1), 1) := by decide +kernel
theorem d_Scribe_putBegin_143 : decode b_Scribe_putBegin 143 = .ok (.if_icmp .ne 8, 3) := by decide +kernel
theorem d_Scribe_putBegin_146 : decode b_Scribe_putBegin 146 = .ok (.ldc 87, 2) := by decide +kernel
theorem d_Scribe_putBegin_148 : decode b_Scribe_putBegin 148 = .ok (.goto 5, 3) := by decide +kernel
theorem d_Scribe_putBegin_151 : decode b_Scribe_putBegin 151 = .ok (.ldc 89, 2) := by decide +kernel
theorem d_Scribe_putBegin_153 : decode b_Scribe_putBegin 153 = .ok (.invokevirtual 83, 3) := by decide +kernel
theorem d_Scribe_putBegin_156 : decode b_Scribe_putBegin 156 = .ok (.return_, 1) := by decide +kernel
def w_Scribe_putBegin_J153   (post : PPS → Prop) (t0 : Nat) (σ : PPS) : Prop := w_Scribe_putText σ t0 (fun σ153 => post σ153)
def w_Scribe_putBegin_L34  (v1 : Int32) (post : PPS → Prop) : Nat → Int32 → PPS → Prop
  | 0, _, _ => False
  | n34 + 1, v2, σ => (((tGet 14 (pNd σ) v1 4) ≤ v2 → (((tGet 14 (pNd σ) v1 6) = (-1) → w_Scribe_putBegin_J153 post 24 σ) ∧ (¬ (tGet 14 (pNd σ) v1 6) = (-1) → w_Scribe_putBegin_J153 post 25 σ))) ∧ (¬ (tGet 14 (pNd σ) v1 4) ≤ v2 → (∀ σ63 : PPS, σ63 = sSh σ (sAdd 24000 (pSh σ) 32) → w_Scribe_putLetters σ63 (tGet 5 (pAt σ63) (bAtt σ v1 v2) 3) (tGet 5 (pAt σ63) (bAtt σ v1 v2) 0) (fun σ85 => w_Scribe_putText σ85 19 (fun σ91 => w_Scribe_putTold σ91 (tGet 5 (pAt σ91) (bAtt σ v1 v2) 4) (tGet 5 (pAt σ91) (bAtt σ v1 v2) 1) (fun σ113 => (∀ σ122 : PPS, σ122 = sSh σ113 (sAdd 24000 (pSh σ113) 34) → w_Scribe_putBegin_L34 v1 post n34 (v2 + 1) σ122)))))))
def w_Scribe_putBegin  (σ : PPS) (x0 : Int32) (post : PPS → Prop) : Prop := (∀ σ6 : PPS, σ6 = sSh σ (sAdd 24000 (pSh σ) 60) → w_Scribe_putLetters σ6 (tGet 14 (pNd σ6) x0 8) (tGet 14 (pNd σ6) x0 3) (fun σ29 => (∃ n34, w_Scribe_putBegin_L34 x0 post n34 0 σ29)))
set_option maxHeartbeats 4000000 in
set_option maxRecDepth 100000 in
theorem c_Scribe_putBegin (l : Launch) (w : WD) (sz : Nat) (σ : PPS) (x0 : Int32)  (post : PPS → Prop) (hI : inv σ) (hE : w_Scribe_putBegin σ x0 post) : Met l y_Scribe_putBegin ws_Scribe_putBegin { frames := 6, cells := 0, slots := 0, locals := 131 } (va_Pc [.ref (wA w 15), .int x0] (gW w σ sz)) (va_Qv (fun u => post u ∧ inv u) (mB (wG w) (WW w) (wI w) (va_A (WW w σ) sz)) (va_A (WW w σ) sz)) 0 0 (va_A (WW w σ) sz) := by
  refine Met.ofW (cc := b_Scribe_putBegin) (maxL := 4) (ret := none) (by decide) rfl ?_
  intro p e s m args below meth c s₁ B hml hv
  obtain ⟨rfl, hsz, hP, hK, hD0, hC⟩ := hv
  have hx := B.exec
  have hb := B.bytes
  have hr := B.returns
  have hta : ∀ w ∈ aW, w.before _ s = true := fun w h => atoms_spec (ws := ws_Scribe_putBegin) B.pre w (List.mem_cons_of_mem _ h)
  have hown : s.vm.findClass R_Scribe = some m.cls := findClass_of_methodNamed B.named
  have hlocks := B.notSynchronized
  subst hsz
  have hD := hD0.self (sz := s.heap.size)
  generalize hAe : va_A (WW w σ) s.heap.size = A at hD hC ⊢
  have hA : ∀ q : Nat, s.heap.size ≤ q → A q := fun q h => by rw [← hAe]; exact Or.inr h
  have hS : va_S A s.heap s.heap [] := va_S.rf
  have hP : va_P (wG w) classes (WW w σ) s.heap := hP
  have hl := lv_entry ([.ref (wA w 15), .int x0]) (n := 4) (Nat.le_of_ble_eq_true rfl)
  rw [lg_entry_eq]
  generalize (lg_sl ([.ref (wA w 15), .int x0]) ++ List.replicate (4 - (lg_sl ([.ref (wA w 15), .int x0])).length) Slot.unset).toArray = ls at hl ⊢
  have hl : lv_has ls 4 [(0, .ref (wA w 15)), (1, .int x0)] := hl
  have J153 : ∀ (t0 : Nat) (σ : PPS) (H : Heap) (locs : List Loc) (hP : va_P (wG w) classes (WW w σ) H) (hD : va_D A (WW w σ)) (hS : va_S A s.heap H locs) (hI : inv σ) (ls : Array Slot) (hl : lv_has ls 4 []) (hE : w_Scribe_putBegin_J153 post t0 σ), W p l e (headSpec ws_Scribe_putBegin { frames := 6, cells := 0, slots := 0, locals := 131 }).room s m ([.ref (wA w 15), .int x0] : List Value).toArray below meth c H locs 0 0 (MQ below (va_Qv (fun u => post u ∧ inv u) (mB (wG w) (WW w) (wI w) A) A) ([.ref (wA w 15), .int x0] : List Value).toArray s 0 0 A) (F0 m 153 ls [.ref (wK w t0), .ref (wA w 15)]) := by
    intro  t0 σ H locs hP hD hS hI ls hl hE
    unfold w_Scribe_putBegin_J153 at hE
    refine mc_v (b0 := (wA w 15)) (As := [.ref (wK w t0)]) (rest := []) ⟨hx, hb, hml, hown, hta⟩ (c_Scribe_putText l w _ σ t0 _ hI hE) ok_Scribe_83 ⟨Nat.le_of_ble_eq_true rfl, Nat.le_of_ble_eq_true rfl⟩ (va_recv hK hP (ci := 6) (q0 := 15) rfl rfl) hP hK hD hS hA hC rfl hl.1 rfl (Nat.le_of_ble_eq_true rfl) d_Scribe_putBegin_153 ⟨Nat.zero_le _, Nat.zero_le _⟩ (fun σ153 H locs hE hP hD hS => ?_)
    obtain ⟨hE, hI⟩ := hE
    exact W.vret hx hb hr (fun t ht hW => ⟨⟨σ153, rfl, ⟨hE, hI⟩, by rw [ht]; exact hP, va_K.moved hW.alike hK, hD⟩, hS.F ht⟩) hS.2.2 d_Scribe_putBegin_156
  have L34 : ∀ (v1 : Int32) (n34 : Nat) (v2 : Int32) (σ : PPS) (H : Heap) (locs : List Loc) (hP : va_P (wG w) classes (WW w σ) H) (hD : va_D A (WW w σ)) (hS : va_S A s.heap H locs) (hI : inv σ) (ls : Array Slot) (hl : lv_has ls 4 [(0, .ref (wA w 15)), (1, .int v1), (2, .int v2)]) (hE : w_Scribe_putBegin_L34 v1 post n34 v2 σ), W p l e (headSpec ws_Scribe_putBegin { frames := 6, cells := 0, slots := 0, locals := 131 }).room s m ([.ref (wA w 15), .int x0] : List Value).toArray below meth c H locs 0 0 (MQ below (va_Qv (fun u => post u ∧ inv u) (mB (wG w) (WW w) (wI w) A) A) ([.ref (wA w 15), .int x0] : List Value).toArray s 0 0 A) (F0 m 34 ls []) := by
    intro v1 n34
    induction n34 with
    | zero => intro v2 σ H locs hP hD hS hI ls hl hE; exact hE.elim
    | succ n34 ih34 =>
      intro v2 σ H locs hP hD hS hI ls hl hE
      unfold w_Scribe_putBegin_L34 at hE
      refine lv_iload_n hx hb d_Scribe_putBegin_34 rfl (lv_at hl 2 rfl) ?_
      refine lv_aload_n hx hb d_Scribe_putBegin_35 rfl (lv_at hl 0 rfl) ?_
      refine va_get (D := (wG w)) (ci := 6) (v := .ref (wA w 6)) (C := R_Scribe) (T := F_Scribe) (N := 2) hx hb hta i_Scribe hown hK hP 15 rfl rfl 0 (by decide) (hta _ fl_Scribe_9) (fun _ h9 => h9) rfl d_Scribe_putBegin_36 ?_
      refine lv_iload_n hx hb d_Scribe_putBegin_39 rfl (lv_at hl 1 rfl) ?_
      refine lv_iconst (v := 4) hx hb d_Scribe_putBegin_40 (by decide) ?_
      refine ro_V (b0 := (wA w 6)) (As := [.int v1, .int 4]) (rest := [.int v2]) ⟨hx, hb, hml, hown, hta⟩ (f_Book_ofNode l w σ v1 4 hI) ok_Scribe_24 ⟨Nat.le_of_ble_eq_true rfl, Nat.le_of_ble_eq_true rfl⟩ blind_fW (va_recv hK hP (ci := 3) (q0 := 6) rfl rfl) (fW_of hP hK hC hS) rfl hl.1 rfl (Nat.le_of_ble_eq_true rfl) d_Scribe_putBegin_41 ⟨Nat.zero_le _, Nat.zero_le _⟩ (fun r41 hrr => ?_)
      subst hrr
      refine lv_icmp_ge (tgt := 131) hx hb d_Scribe_putBegin_44 (by decide) (fun cc44 => ?_) (fun cc44 => ?_)
      · have hE := hE.1 cc44
        refine lv_aload_n hx hb d_Scribe_putBegin_131 rfl (lv_at hl 0 rfl) ?_
        refine lv_aload_n hx hb d_Scribe_putBegin_132 rfl (lv_at hl 0 rfl) ?_
        refine va_get (D := (wG w)) (ci := 6) (v := .ref (wA w 6)) (C := R_Scribe) (T := F_Scribe) (N := 2) hx hb hta i_Scribe hown hK hP 15 rfl rfl 0 (by decide) (hta _ fl_Scribe_9) (fun _ h9 => h9) rfl d_Scribe_putBegin_133 ?_
        refine lv_iload_n hx hb d_Scribe_putBegin_136 rfl (lv_at hl 1 rfl) ?_
        refine lv_bipush (v := 6) hx hb d_Scribe_putBegin_137 (by decide) ?_
        refine ro_V (b0 := (wA w 6)) (As := [.int v1, .int 6]) (rest := [.ref (wA w 15)]) ⟨hx, hb, hml, hown, hta⟩ (f_Book_ofNode l w σ v1 6 hI) ok_Scribe_24 ⟨Nat.le_of_ble_eq_true rfl, Nat.le_of_ble_eq_true rfl⟩ blind_fW (va_recv hK hP (ci := 3) (q0 := 6) rfl rfl) (fW_of hP hK hC hS) rfl hl.1 rfl (Nat.le_of_ble_eq_true rfl) d_Scribe_putBegin_139 ⟨Nat.zero_le _, Nat.zero_le _⟩ (fun r139 hrr => ?_)
        subst hrr
        refine lv_iconst (v := -1) hx hb d_Scribe_putBegin_142 (by decide) ?_
        refine lv_icmp_ne (tgt := 151) hx hb d_Scribe_putBegin_143 (by decide) (fun cc143 => ?_) (fun cc143 => ?_)
        · have hE := hE.2 cc143
          refine t_ldc (i := 25) hx hb hC (by decide) rfl hown d_Scribe_putBegin_151 ?_
          exact J153  25 σ _ _ hP hD hS hI _ (lv_sub hl [] rfl) hE
        · have hE := hE.1 cc143
          refine t_ldc (i := 24) hx hb hC (by decide) rfl hown d_Scribe_putBegin_146 ?_
          refine lv_goto (tgt := 153) hx hb d_Scribe_putBegin_148 (by decide) ?_
          exact J153  24 σ _ _ hP hD hS hI _ (lv_sub hl [] rfl) hE
      · have hE := hE.2 cc44
        refine lv_aload_n hx hb d_Scribe_putBegin_47 rfl (lv_at hl 0 rfl) ?_
        refine va_get (D := (wG w)) (ci := 6) (v := .ref (wA w 6)) (C := R_Scribe) (T := F_Scribe) (N := 2) hx hb hta i_Scribe hown hK hP 15 rfl rfl 0 (by decide) (hta _ fl_Scribe_9) (fun _ h9 => h9) rfl d_Scribe_putBegin_48 ?_
        refine lv_iload_n hx hb d_Scribe_putBegin_51 rfl (lv_at hl 1 rfl) ?_
        refine lv_iload_n hx hb d_Scribe_putBegin_52 rfl (lv_at hl 2 rfl) ?_
        refine ro_V (b0 := (wA w 6)) (As := [.int v1, .int v2]) (rest := []) ⟨hx, hb, hml, hown, hta⟩ (f_Book_attributeOf l w σ v1 v2 hI) ok_Scribe_78 ⟨Nat.le_of_ble_eq_true rfl, Nat.le_of_ble_eq_true rfl⟩ blind_fW (va_recv hK hP (ci := 3) (q0 := 6) rfl rfl) (fW_of hP hK hC hS) rfl hl.1 rfl (Nat.le_of_ble_eq_true rfl) d_Scribe_putBegin_53 ⟨Nat.zero_le _, Nat.zero_le _⟩ (fun r53 hrr => ?_)
        subst hrr
        refine lv_istore_n (lv' := [(3, .int (bAtt σ v1 v2)), (0, .ref (wA w 15)), (1, .int v1), (2, .int v2)]) hx hb d_Scribe_putBegin_56 rfl hl (by decide) rfl (fun ls hl => ?_)
        refine lv_aload_n hx hb d_Scribe_putBegin_57 rfl (lv_at hl 1 rfl) ?_
        refine va_get (D := (wG w)) (ci := 6) (v := .ref (wA w 4)) (C := R_Scribe) (T := F_Scribe) (N := 2) hx hb hta i_Scribe hown hK hP 15 rfl rfl 1 (by decide) (hta _ fl_Scribe_15) (fun _ h9 => h9) rfl d_Scribe_putBegin_58 ?_
        refine lv_bipush (v := 32) hx hb d_Scribe_putBegin_61 (by decide) ?_
        refine cSh_v (As := [.int 32]) (rest := []) ⟨hx, hb, hml, hown, hta⟩ (c_Strip_add l (wG w) (wA w 4) (wA w 5) (wI w) 24000 _ (pSh σ) 32 (fun u => u = sAdd 24000 (pSh σ) 32) (l_Strip_add (by decide) (inv.Sh hI) 32)) ok_Scribe_66 ⟨Nat.le_of_ble_eq_true rfl, Nat.le_of_ble_eq_true rfl⟩ hP hK hD hS hA rfl hl.1 rfl (Nat.le_of_ble_eq_true rfl) d_Scribe_putBegin_63 ⟨Nat.zero_le _, Nat.zero_le _⟩ (fun u H locs hrr hP hD hS => ?_)
        subst hrr
        have hP : va_P (wG w) classes (WW w (sSh σ (sAdd 24000 (pSh σ) 32))) H := hP
        have hD : va_D A (WW w (sSh σ (sAdd 24000 (pSh σ) 32))) := hD
        have hI : inv (sSh σ (sAdd 24000 (pSh σ) 32)) := (inv.sSh hI (sOk_add (by decide) (inv.Sh hI) _))
        have hE := hE _ rfl
        generalize (sSh σ (sAdd 24000 (pSh σ) 32) : PPS) = σ63 at hP hD hI hE
        refine lv_aload_n hx hb d_Scribe_putBegin_66 rfl (lv_at hl 1 rfl) ?_
        refine lv_aload_n hx hb d_Scribe_putBegin_67 rfl (lv_at hl 1 rfl) ?_
        refine va_get (D := (wG w)) (ci := 6) (v := .ref (wA w 6)) (C := R_Scribe) (T := F_Scribe) (N := 2) hx hb hta i_Scribe hown hK hP 15 rfl rfl 0 (by decide) (hta _ fl_Scribe_9) (fun _ h9 => h9) rfl d_Scribe_putBegin_68 ?_
        refine lv_iload_n hx hb d_Scribe_putBegin_71 rfl (lv_at hl 0 rfl) ?_
        refine lv_iconst (v := 3) hx hb d_Scribe_putBegin_72 (by decide) ?_
        refine ro_V (b0 := (wA w 6)) (As := [.int (bAtt σ v1 v2), .int 3]) (rest := [.ref (wA w 15)]) ⟨hx, hb, hml, hown, hta⟩ (f_Book_ofAttribute l w σ63 (bAtt σ v1 v2) 3 hI) ok_Scribe_75 ⟨Nat.le_of_ble_eq_true rfl, Nat.le_of_ble_eq_true rfl⟩ blind_fW (va_recv hK hP (ci := 3) (q0 := 6) rfl rfl) (fW_of hP hK hC hS) rfl hl.1 rfl (Nat.le_of_ble_eq_true rfl) d_Scribe_putBegin_73 ⟨Nat.zero_le _, Nat.zero_le _⟩ (fun r73 hrr => ?_)
        subst hrr
        refine lv_aload_n hx hb d_Scribe_putBegin_76 rfl (lv_at hl 1 rfl) ?_
        refine va_get (D := (wG w)) (ci := 6) (v := .ref (wA w 6)) (C := R_Scribe) (T := F_Scribe) (N := 2) hx hb hta i_Scribe hown hK hP 15 rfl rfl 0 (by decide) (hta _ fl_Scribe_9) (fun _ h9 => h9) rfl d_Scribe_putBegin_77 ?_
        refine lv_iload_n hx hb d_Scribe_putBegin_80 rfl (lv_at hl 0 rfl) ?_
        refine lv_iconst (v := 0) hx hb d_Scribe_putBegin_81 (by decide) ?_
        refine ro_V (b0 := (wA w 6)) (As := [.int (bAtt σ v1 v2), .int 0]) (rest := [.int (tGet 5 (pAt σ63) (bAtt σ v1 v2) 3), .ref (wA w 15)]) ⟨hx, hb, hml, hown, hta⟩ (f_Book_ofAttribute l w σ63 (bAtt σ v1 v2) 0 hI) ok_Scribe_75 ⟨Nat.le_of_ble_eq_true rfl, Nat.le_of_ble_eq_true rfl⟩ blind_fW (va_recv hK hP (ci := 3) (q0 := 6) rfl rfl) (fW_of hP hK hC hS) rfl hl.1 rfl (Nat.le_of_ble_eq_true rfl) d_Scribe_putBegin_82 ⟨Nat.zero_le _, Nat.zero_le _⟩ (fun r82 hrr => ?_)
        subst hrr
        refine mc_v (b0 := (wA w 15)) (As := [.int (tGet 5 (pAt σ63) (bAtt σ v1 v2) 3), .int (tGet 5 (pAt σ63) (bAtt σ v1 v2) 0)]) (rest := []) ⟨hx, hb, hml, hown, hta⟩ (c_Scribe_putLetters l w _ σ63 (tGet 5 (pAt σ63) (bAtt σ v1 v2) 3) (tGet 5 (pAt σ63) (bAtt σ v1 v2) 0) _ hI hE) ok_Scribe_51 ⟨Nat.le_of_ble_eq_true rfl, Nat.le_of_ble_eq_true rfl⟩ (va_recv hK hP (ci := 6) (q0 := 15) rfl rfl) hP hK hD hS hA hC rfl hl.1 rfl (Nat.le_of_ble_eq_true rfl) d_Scribe_putBegin_85 ⟨Nat.zero_le _, Nat.zero_le _⟩ (fun σ85 H locs hE hP hD hS => ?_)
        obtain ⟨hE, hI⟩ := hE
        refine lv_aload_n hx hb d_Scribe_putBegin_88 rfl (lv_at hl 1 rfl) ?_
        refine t_ldc (i := 19) hx hb hC (by decide) rfl hown d_Scribe_putBegin_89 ?_
        refine mc_v (b0 := (wA w 15)) (As := [.ref (wK w 19)]) (rest := []) ⟨hx, hb, hml, hown, hta⟩ (c_Scribe_putText l w _ σ85 19 _ hI hE) ok_Scribe_83 ⟨Nat.le_of_ble_eq_true rfl, Nat.le_of_ble_eq_true rfl⟩ (va_recv hK hP (ci := 6) (q0 := 15) rfl rfl) hP hK hD hS hA hC rfl hl.1 rfl (Nat.le_of_ble_eq_true rfl) d_Scribe_putBegin_91 ⟨Nat.zero_le _, Nat.zero_le _⟩ (fun σ91 H locs hE hP hD hS => ?_)
        obtain ⟨hE, hI⟩ := hE
        refine lv_aload_n hx hb d_Scribe_putBegin_94 rfl (lv_at hl 1 rfl) ?_
        refine lv_aload_n hx hb d_Scribe_putBegin_95 rfl (lv_at hl 1 rfl) ?_
        refine va_get (D := (wG w)) (ci := 6) (v := .ref (wA w 6)) (C := R_Scribe) (T := F_Scribe) (N := 2) hx hb hta i_Scribe hown hK hP 15 rfl rfl 0 (by decide) (hta _ fl_Scribe_9) (fun _ h9 => h9) rfl d_Scribe_putBegin_96 ?_
        refine lv_iload_n hx hb d_Scribe_putBegin_99 rfl (lv_at hl 0 rfl) ?_
        refine lv_iconst (v := 4) hx hb d_Scribe_putBegin_100 (by decide) ?_
        refine ro_V (b0 := (wA w 6)) (As := [.int (bAtt σ v1 v2), .int 4]) (rest := [.ref (wA w 15)]) ⟨hx, hb, hml, hown, hta⟩ (f_Book_ofAttribute l w σ91 (bAtt σ v1 v2) 4 hI) ok_Scribe_75 ⟨Nat.le_of_ble_eq_true rfl, Nat.le_of_ble_eq_true rfl⟩ blind_fW (va_recv hK hP (ci := 3) (q0 := 6) rfl rfl) (fW_of hP hK hC hS) rfl hl.1 rfl (Nat.le_of_ble_eq_true rfl) d_Scribe_putBegin_101 ⟨Nat.zero_le _, Nat.zero_le _⟩ (fun r101 hrr => ?_)
        subst hrr
        refine lv_aload_n hx hb d_Scribe_putBegin_104 rfl (lv_at hl 1 rfl) ?_
        refine va_get (D := (wG w)) (ci := 6) (v := .ref (wA w 6)) (C := R_Scribe) (T := F_Scribe) (N := 2) hx hb hta i_Scribe hown hK hP 15 rfl rfl 0 (by decide) (hta _ fl_Scribe_9) (fun _ h9 => h9) rfl d_Scribe_putBegin_105 ?_
        refine lv_iload_n hx hb d_Scribe_putBegin_108 rfl (lv_at hl 0 rfl) ?_
        refine lv_iconst (v := 1) hx hb d_Scribe_putBegin_109 (by decide) ?_
        refine ro_V (b0 := (wA w 6)) (As := [.int (bAtt σ v1 v2), .int 1]) (rest := [.int (tGet 5 (pAt σ91) (bAtt σ v1 v2) 4), .ref (wA w 15)]) ⟨hx, hb, hml, hown, hta⟩ (f_Book_ofAttribute l w σ91 (bAtt σ v1 v2) 1 hI) ok_Scribe_75 ⟨Nat.le_of_ble_eq_true rfl, Nat.le_of_ble_eq_true rfl⟩ blind_fW (va_recv hK hP (ci := 3) (q0 := 6) rfl rfl) (fW_of hP hK hC hS) rfl hl.1 rfl (Nat.le_of_ble_eq_true rfl) d_Scribe_putBegin_110 ⟨Nat.zero_le _, Nat.zero_le _⟩ (fun r110 hrr => ?_)
        subst hrr
        refine mc_v (b0 := (wA w 15)) (As := [.int (tGet 5 (pAt σ91) (bAtt σ v1 v2) 4), .int (tGet 5 (pAt σ91) (bAtt σ v1 v2) 1)]) (rest := []) ⟨hx, hb, hml, hown, hta⟩ (c_Scribe_putTold l w _ σ91 (tGet 5 (pAt σ91) (bAtt σ v1 v2) 4) (tGet 5 (pAt σ91) (bAtt σ v1 v2) 1) _ hI hE) ok_Scribe_63 ⟨Nat.le_of_ble_eq_true rfl, Nat.le_of_ble_eq_true rfl⟩ (va_recv hK hP (ci := 6) (q0 := 15) rfl rfl) hP hK hD hS hA hC rfl hl.1 rfl (Nat.le_of_ble_eq_true rfl) d_Scribe_putBegin_113 ⟨Nat.zero_le _, Nat.zero_le _⟩ (fun σ113 H locs hE hP hD hS => ?_)
        obtain ⟨hE, hI⟩ := hE
        refine lv_aload_n hx hb d_Scribe_putBegin_116 rfl (lv_at hl 1 rfl) ?_
        refine va_get (D := (wG w)) (ci := 6) (v := .ref (wA w 4)) (C := R_Scribe) (T := F_Scribe) (N := 2) hx hb hta i_Scribe hown hK hP 15 rfl rfl 1 (by decide) (hta _ fl_Scribe_15) (fun _ h9 => h9) rfl d_Scribe_putBegin_117 ?_
        refine lv_bipush (v := 34) hx hb d_Scribe_putBegin_120 (by decide) ?_
        refine cSh_v (As := [.int 34]) (rest := []) ⟨hx, hb, hml, hown, hta⟩ (c_Strip_add l (wG w) (wA w 4) (wA w 5) (wI w) 24000 _ (pSh σ113) 34 (fun u => u = sAdd 24000 (pSh σ113) 34) (l_Strip_add (by decide) (inv.Sh hI) 34)) ok_Scribe_66 ⟨Nat.le_of_ble_eq_true rfl, Nat.le_of_ble_eq_true rfl⟩ hP hK hD hS hA rfl hl.1 rfl (Nat.le_of_ble_eq_true rfl) d_Scribe_putBegin_122 ⟨Nat.zero_le _, Nat.zero_le _⟩ (fun u H locs hrr hP hD hS => ?_)
        subst hrr
        have hP : va_P (wG w) classes (WW w (sSh σ113 (sAdd 24000 (pSh σ113) 34))) H := hP
        have hD : va_D A (WW w (sSh σ113 (sAdd 24000 (pSh σ113) 34))) := hD
        have hI : inv (sSh σ113 (sAdd 24000 (pSh σ113) 34)) := (inv.sSh hI (sOk_add (by decide) (inv.Sh hI) _))
        have hE := hE _ rfl
        generalize (sSh σ113 (sAdd 24000 (pSh σ113) 34) : PPS) = σ122 at hP hD hI hE
        refine lv_iinc (v := v2 + 1) (lv' := [(2, .int (v2 + 1)), (3, .int (bAtt σ v1 v2)), (0, .ref (wA w 15)), (1, .int v1)]) hx hb d_Scribe_putBegin_125 hl (k := 3) rfl rfl (by decide) rfl (fun ls hl => ?_)
        refine lv_goto (tgt := 34) hx hb d_Scribe_putBegin_128 (by decide) ?_
        exact ih34 (v2 + 1) σ122 _ _ hP hD hS hI _ (lv_sub hl [2, 3, 0] rfl) hE
  unfold w_Scribe_putBegin at hE
  refine lv_aload_n hx hb d_Scribe_putBegin_0 rfl (lv_at hl 0 rfl) ?_
  refine va_get (D := (wG w)) (ci := 6) (v := .ref (wA w 4)) (C := R_Scribe) (T := F_Scribe) (N := 2) hx hb hta i_Scribe hown hK hP 15 rfl rfl 1 (by decide) (hta _ fl_Scribe_15) (fun _ h9 => h9) rfl d_Scribe_putBegin_1 ?_
  refine lv_bipush (v := 60) hx hb d_Scribe_putBegin_4 (by decide) ?_
  refine cSh_v (As := [.int 60]) (rest := []) ⟨hx, hb, hml, hown, hta⟩ (c_Strip_add l (wG w) (wA w 4) (wA w 5) (wI w) 24000 _ (pSh σ) 60 (fun u => u = sAdd 24000 (pSh σ) 60) (l_Strip_add (by decide) (inv.Sh hI) 60)) ok_Scribe_66 ⟨Nat.le_of_ble_eq_true rfl, Nat.le_of_ble_eq_true rfl⟩ hP hK hD hS hA rfl hl.1 rfl (Nat.le_of_ble_eq_true rfl) d_Scribe_putBegin_6 ⟨Nat.zero_le _, Nat.zero_le _⟩ (fun u H locs hrr hP hD hS => ?_)
  subst hrr
  have hP : va_P (wG w) classes (WW w (sSh σ (sAdd 24000 (pSh σ) 60))) H := hP
  have hD : va_D A (WW w (sSh σ (sAdd 24000 (pSh σ) 60))) := hD
  have hI : inv (sSh σ (sAdd 24000 (pSh σ) 60)) := (inv.sSh hI (sOk_add (by decide) (inv.Sh hI) _))
  have hE := hE _ rfl
  generalize (sSh σ (sAdd 24000 (pSh σ) 60) : PPS) = σ6 at hP hD hI hE
  refine lv_aload_n hx hb d_Scribe_putBegin_9 rfl (lv_at hl 0 rfl) ?_
  refine lv_aload_n hx hb d_Scribe_putBegin_10 rfl (lv_at hl 0 rfl) ?_
  refine va_get (D := (wG w)) (ci := 6) (v := .ref (wA w 6)) (C := R_Scribe) (T := F_Scribe) (N := 2) hx hb hta i_Scribe hown hK hP 15 rfl rfl 0 (by decide) (hta _ fl_Scribe_9) (fun _ h9 => h9) rfl d_Scribe_putBegin_11 ?_
  refine lv_iload_n hx hb d_Scribe_putBegin_14 rfl (lv_at hl 1 rfl) ?_
  refine lv_bipush (v := 8) hx hb d_Scribe_putBegin_15 (by decide) ?_
  refine ro_V (b0 := (wA w 6)) (As := [.int x0, .int 8]) (rest := [.ref (wA w 15)]) ⟨hx, hb, hml, hown, hta⟩ (f_Book_ofNode l w σ6 x0 8 hI) ok_Scribe_24 ⟨Nat.le_of_ble_eq_true rfl, Nat.le_of_ble_eq_true rfl⟩ blind_fW (va_recv hK hP (ci := 3) (q0 := 6) rfl rfl) (fW_of hP hK hC hS) rfl hl.1 rfl (Nat.le_of_ble_eq_true rfl) d_Scribe_putBegin_17 ⟨Nat.zero_le _, Nat.zero_le _⟩ (fun r17 hrr => ?_)
  subst hrr
  refine lv_aload_n hx hb d_Scribe_putBegin_20 rfl (lv_at hl 0 rfl) ?_
  refine va_get (D := (wG w)) (ci := 6) (v := .ref (wA w 6)) (C := R_Scribe) (T := F_Scribe) (N := 2) hx hb hta i_Scribe hown hK hP 15 rfl rfl 0 (by decide) (hta _ fl_Scribe_9) (fun _ h9 => h9) rfl d_Scribe_putBegin_21 ?_
  refine lv_iload_n hx hb d_Scribe_putBegin_24 rfl (lv_at hl 1 rfl) ?_
  refine lv_iconst (v := 3) hx hb d_Scribe_putBegin_25 (by decide) ?_
  refine ro_V (b0 := (wA w 6)) (As := [.int x0, .int 3]) (rest := [.int (tGet 14 (pNd σ6) x0 8), .ref (wA w 15)]) ⟨hx, hb, hml, hown, hta⟩ (f_Book_ofNode l w σ6 x0 3 hI) ok_Scribe_24 ⟨Nat.le_of_ble_eq_true rfl, Nat.le_of_ble_eq_true rfl⟩ blind_fW (va_recv hK hP (ci := 3) (q0 := 6) rfl rfl) (fW_of hP hK hC hS) rfl hl.1 rfl (Nat.le_of_ble_eq_true rfl) d_Scribe_putBegin_26 ⟨Nat.zero_le _, Nat.zero_le _⟩ (fun r26 hrr => ?_)
  subst hrr
  refine mc_v (b0 := (wA w 15)) (As := [.int (tGet 14 (pNd σ6) x0 8), .int (tGet 14 (pNd σ6) x0 3)]) (rest := []) ⟨hx, hb, hml, hown, hta⟩ (c_Scribe_putLetters l w _ σ6 (tGet 14 (pNd σ6) x0 8) (tGet 14 (pNd σ6) x0 3) _ hI hE) ok_Scribe_51 ⟨Nat.le_of_ble_eq_true rfl, Nat.le_of_ble_eq_true rfl⟩ (va_recv hK hP (ci := 6) (q0 := 15) rfl rfl) hP hK hD hS hA hC rfl hl.1 rfl (Nat.le_of_ble_eq_true rfl) d_Scribe_putBegin_29 ⟨Nat.zero_le _, Nat.zero_le _⟩ (fun σ29 H locs hE hP hD hS => ?_)
  obtain ⟨hE, hI⟩ := hE
  refine lv_iconst (v := 0) hx hb d_Scribe_putBegin_32 (by decide) ?_
  refine lv_istore_n (lv' := [(2, .int 0), (0, .ref (wA w 15)), (1, .int x0)]) hx hb d_Scribe_putBegin_33 rfl hl (by decide) rfl (fun ls hl => ?_)
  obtain ⟨n34, hE⟩ := hE
  exact L34 x0 n34 0 σ29 _ _ hP hD hS hI _ (lv_sub hl [1, 2, 0] rfl) hE
theorem fl_Scribe_34 : Cond.fieldLink "PlainPages$Scribe" 34 "PlainPages$Kind" "BR" "LPlainPages$Kind;" ∈ aW := aW_in 837 (by decide +kernel) rfl
theorem ok_Scribe_71 : okV "PlainPages$Scribe" 71 R_Book y_Book_attributeNamed b_Book_attributeNamed 6 (some .int) 2 := ⟨aW_in 847 (by decide +kernel) rfl, aW_in 801 (by decide +kernel) rfl, aW_in 802 (by decide +kernel) rfl, aW_in 87 (by decide +kernel) rfl, cd_Book_attributeNamed, rfl, by decide +kernel, by decide +kernel, by decide +kernel⟩
theorem d_Scribe_putInstead_0 : decode b_Scribe_putInstead 0 = .ok (.aload_n 2, 1) := by decide +kernel
theorem d_Scribe_putInstead_1 : decode b_Scribe_putInstead 1 = .ok (.getstatic 34, 3) := by decide +kernel
theorem d_Scribe_putInstead_4 : decode b_Scribe_putInstead 4 = .ok (.if_acmp .ne 13, 3) := by decide +kernel
theorem d_Scribe_putInstead_7 : decode b_Scribe_putInstead 7 = .ok (.aload_n 0, 1) := by decide +kernel
theorem d_Scribe_putInstead_8 : decode b_Scribe_putInstead 8 = .ok (.getfield 15, 3) := by decide +kernel
theorem d_Scribe_putInstead_11 : decode b_Scribe_putInstead 11 = .ok (.bipush 10, 2) := by decide +kernel
theorem d_Scribe_putInstead_13 : decode b_Scribe_putInstead 13 = .ok (.invokevirtual 66, 3) := by decide +kernel
theorem d_Scribe_putInstead_16 : decode b_Scribe_putInstead 16 = .ok (.return_, 1) := by decide +kernel
theorem d_Scribe_putInstead_17 : decode b_Scribe_putInstead 17 = .ok (.aload_n 0, 1) := by decide +kernel
theorem d_Scribe_putInstead_18 : decode b_Scribe_putInstead 18 = .ok (.getfield 9, 3) := by decide +kernel
theorem d_Scribe_putInstead_21 : decode b_Scribe_putInstead 21 = .ok (.iload_n 1, 1) := by decide +kernel
theorem d_Scribe_putInstead_22 : decode b_Scribe_putInstead 22 = .ok (.ldc 69, 2) := by decide +kernel
theorem d_Scribe_putInstead_24 : decode b_Scribe_putInstead 24 = .ok (.invokevirtual 71, 3) := by decide +kernel
theorem d_Scribe_putInstead_27 : decode b_Scribe_putInstead 27 = .ok (.istore_n 3, 1) := by decide +kernel
theorem d_Scribe_putInstead_28 : decode b_Scribe_putInstead 28 = .ok (.aload_n 0, 1) := by decide +kernel
theorem d_Scribe_putInstead_29 : decode b_Scribe_putInstead 29 = .ok (.aload_n 0, 1) := by decide +kernel
theorem d_Scribe_putInstead_30 : decode b_Scribe_putInstead 30 = .ok (.getfield 9, 3) := by decide +kernel
theorem d_Scribe_putInstead_33 : decode b_Scribe_putInstead 33 = .ok (.iload_n 3, 1) := by decide +kernel
theorem d_Scribe_putInstead_34 : decode b_Scribe_putInstead 34 = .ok (.iconst 4, 1) := by decide +kernel
theorem d_Scribe_putInstead_35 : decode b_Scribe_putInstead 35 = .ok (.invokevirtual 75, 3) := by decide +kernel
theorem d_Scribe_putInstead_38 : decode b_Scribe_putInstead 38 = .ok (.aload_n 0, 1) := by decide +kernel
theorem d_Scribe_putInstead_39 : decode b_Scribe_putInstead 39 = .ok (.getfield 9, 3) := by decide +kernel
theorem d_Scribe_putInstead_42 : decode b_Scribe_putInstead 42 = .ok (.iload_n 3, 1) := by decide +kernel
theorem d_Scribe_putInstead_43 : decode b_Scribe_putInstead 43 = .ok (.iconst 1, 1) := by decide +kernel
theorem d_Scribe_putInstead_44 : decode b_Scribe_putInstead 44 = .ok (.invokevirtual 75, 3) := by decide +kernel
theorem d_Scribe_putInstead_47 : decode b_Scribe_putInstead 47 = .ok (.invokevirtual 51, 3) := by decide +kernel
theorem d_Scribe_putInstead_50 : decode b_Scribe_putInstead 50 = .ok (.return_, 1) := by decide +kernel
def w_Scribe_putInstead  (σ : PPS) (x0 : Int32) (x1 : Option Nat) (post : PPS → Prop) : Prop := (kOk x1 ∧ ((x1 = (some 21) → (∀ σ13 : PPS, σ13 = sSh σ (sAdd 24000 (pSh σ) 10) → post σ13)) ∧ (¬ x1 = (some 21) → w_Book_attributeNamed σ x0 17 (fun r24 => w_Scribe_putLetters σ (tGet 5 (pAt σ) r24 4) (tGet 5 (pAt σ) r24 1) (fun σ47 => post σ47)))))
set_option maxHeartbeats 4000000 in
set_option maxRecDepth 100000 in
theorem c_Scribe_putInstead (l : Launch) (w : WD) (sz : Nat) (σ : PPS) (x0 : Int32) (x1 : Option Nat)  (post : PPS → Prop) (hI : inv σ) (hE : w_Scribe_putInstead σ x0 x1 post) : Met l y_Scribe_putInstead ws_Scribe_putInstead { frames := 7, cells := 0, slots := 0, locals := 156 } (va_Pc [.ref (wA w 15), .int x0, va_re (wE w) x1] (gW w σ sz)) (va_Qv (fun u => post u ∧ inv u) (mB (wG w) (WW w) (wI w) (va_A (WW w σ) sz)) (va_A (WW w σ) sz)) 0 0 (va_A (WW w σ) sz) := by
  refine Met.ofW (cc := b_Scribe_putInstead) (maxL := 4) (ret := none) (by decide) rfl ?_
  intro p e s m args below meth c s₁ B hml hv
  obtain ⟨rfl, hsz, hP, hK, hD0, hC⟩ := hv
  have hx := B.exec
  have hb := B.bytes
  have hr := B.returns
  have hta : ∀ w ∈ aW, w.before _ s = true := fun w h => atoms_spec (ws := ws_Scribe_putInstead) B.pre w (List.mem_cons_of_mem _ h)
  have hown : s.vm.findClass R_Scribe = some m.cls := findClass_of_methodNamed B.named
  have hlocks := B.notSynchronized
  subst hsz
  have hD := hD0.self (sz := s.heap.size)
  generalize hAe : va_A (WW w σ) s.heap.size = A at hD hC ⊢
  have hA : ∀ q : Nat, s.heap.size ≤ q → A q := fun q h => by rw [← hAe]; exact Or.inr h
  have hS : va_S A s.heap s.heap [] := va_S.rf
  have hP : va_P (wG w) classes (WW w σ) s.heap := hP
  have hl := lv_entry ([.ref (wA w 15), .int x0, va_re (wE w) x1]) (n := 4) (by cases x1 <;> exact Nat.le_of_ble_eq_true rfl)
  rw [lg_entry_eq]
  generalize (lg_sl ([.ref (wA w 15), .int x0, va_re (wE w) x1]) ++ List.replicate (4 - (lg_sl ([.ref (wA w 15), .int x0, va_re (wE w) x1])).length) Slot.unset).toArray = ls at hl ⊢
  have hl : lv_has ls 4 [(0, .ref (wA w 15)), (1, .int x0), (2, va_re (wE w) x1)] := hl
  unfold w_Scribe_putInstead at hE
  refine lv_aload_nQ hx hb d_Scribe_putInstead_0 rfl (lv_at hl 2 rfl) ?_
  refine k_sta (k := 21) hx hb hC (by decide) rfl hS hown (hta _ fl_Scribe_34) d_Scribe_putInstead_1 ?_
  obtain ⟨hkx, hE⟩ := hE
  refine lv_acmpE_ne hC.1.2 hkx (fun _ h => by cases h; first | assumption | decide) (tgt := 17) hx hb d_Scribe_putInstead_4 (by decide) (fun cc4 => ?_) (fun cc4 => ?_)
  · have hE := hE.2 cc4
    refine lv_aload_n hx hb d_Scribe_putInstead_17 rfl (lv_at hl 0 rfl) ?_
    refine va_get (D := (wG w)) (ci := 6) (v := .ref (wA w 6)) (C := R_Scribe) (T := F_Scribe) (N := 2) hx hb hta i_Scribe hown hK hP 15 rfl rfl 0 (by decide) (hta _ fl_Scribe_9) (fun _ h9 => h9) rfl d_Scribe_putInstead_18 ?_
    refine lv_iload_n hx hb d_Scribe_putInstead_21 rfl (lv_at hl 1 rfl) ?_
    refine t_ldc (i := 17) hx hb hC (by decide) rfl hown d_Scribe_putInstead_22 ?_
    refine ro_V (b0 := (wA w 6)) (As := [.int x0, .ref (wK w 17)]) (rest := []) ⟨hx, hb, hml, hown, hta⟩ (c_Book_attributeNamed l w σ x0 17  _ hI hE) ok_Scribe_71 ⟨Nat.le_of_ble_eq_true rfl, Nat.le_of_ble_eq_true rfl⟩ blind_fW (va_recv hK hP (ci := 3) (q0 := 6) rfl rfl) (fW_of hP hK hC hS) rfl hl.1 rfl (Nat.le_of_ble_eq_true rfl) d_Scribe_putInstead_24 ⟨Nat.zero_le _, Nat.zero_le _⟩ (fun r24 hE => ?_)
    refine lv_istore_n (lv' := [(3, .int r24), (0, .ref (wA w 15)), (1, .int x0), (2, va_re (wE w) x1)]) hx hb d_Scribe_putInstead_27 rfl hl (by decide) (by cases x1 <;> rfl) (fun ls hl => ?_)
    refine lv_aload_n hx hb d_Scribe_putInstead_28 rfl (lv_at hl 1 rfl) ?_
    refine lv_aload_n hx hb d_Scribe_putInstead_29 rfl (lv_at hl 1 rfl) ?_
    refine va_get (D := (wG w)) (ci := 6) (v := .ref (wA w 6)) (C := R_Scribe) (T := F_Scribe) (N := 2) hx hb hta i_Scribe hown hK hP 15 rfl rfl 0 (by decide) (hta _ fl_Scribe_9) (fun _ h9 => h9) rfl d_Scribe_putInstead_30 ?_
    refine lv_iload_n hx hb d_Scribe_putInstead_33 rfl (lv_at hl 0 rfl) ?_
    refine lv_iconst (v := 4) hx hb d_Scribe_putInstead_34 (by decide) ?_
    refine ro_V (b0 := (wA w 6)) (As := [.int r24, .int 4]) (rest := [.ref (wA w 15)]) ⟨hx, hb, hml, hown, hta⟩ (f_Book_ofAttribute l w σ r24 4 hI) ok_Scribe_75 ⟨Nat.le_of_ble_eq_true rfl, Nat.le_of_ble_eq_true rfl⟩ blind_fW (va_recv hK hP (ci := 3) (q0 := 6) rfl rfl) (fW_of hP hK hC hS) rfl hl.1 rfl (Nat.le_of_ble_eq_true rfl) d_Scribe_putInstead_35 ⟨Nat.zero_le _, Nat.zero_le _⟩ (fun r35 hrr => ?_)
    subst hrr
    refine lv_aload_n hx hb d_Scribe_putInstead_38 rfl (lv_at hl 1 rfl) ?_
    refine va_get (D := (wG w)) (ci := 6) (v := .ref (wA w 6)) (C := R_Scribe) (T := F_Scribe) (N := 2) hx hb hta i_Scribe hown hK hP 15 rfl rfl 0 (by decide) (hta _ fl_Scribe_9) (fun _ h9 => h9) rfl d_Scribe_putInstead_39 ?_
    refine lv_iload_n hx hb d_Scribe_putInstead_42 rfl (lv_at hl 0 rfl) ?_
    refine lv_iconst (v := 1) hx hb d_Scribe_putInstead_43 (by decide) ?_
    refine ro_V (b0 := (wA w 6)) (As := [.int r24, .int 1]) (rest := [.int (tGet 5 (pAt σ) r24 4), .ref (wA w 15)]) ⟨hx, hb, hml, hown, hta⟩ (f_Book_ofAttribute l w σ r24 1 hI) ok_Scribe_75 ⟨Nat.le_of_ble_eq_true rfl, Nat.le_of_ble_eq_true rfl⟩ blind_fW (va_recv hK hP (ci := 3) (q0 := 6) rfl rfl) (fW_of hP hK hC hS) rfl hl.1 rfl (Nat.le_of_ble_eq_true rfl) d_Scribe_putInstead_44 ⟨Nat.zero_le _, Nat.zero_le _⟩ (fun r44 hrr => ?_)
    subst hrr
    refine mc_v (b0 := (wA w 15)) (As := [.int (tGet 5 (pAt σ) r24 4), .int (tGet 5 (pAt σ) r24 1)]) (rest := []) ⟨hx, hb, hml, hown, hta⟩ (c_Scribe_putLetters l w _ σ (tGet 5 (pAt σ) r24 4) (tGet 5 (pAt σ) r24 1) _ hI hE) ok_Scribe_51 ⟨Nat.le_of_ble_eq_true rfl, Nat.le_of_ble_eq_true rfl⟩ (va_recv hK hP (ci := 6) (q0 := 15) rfl rfl) hP hK hD hS hA hC rfl hl.1 rfl (Nat.le_of_ble_eq_true rfl) d_Scribe_putInstead_47 ⟨Nat.zero_le _, Nat.zero_le _⟩ (fun σ47 H locs hE hP hD hS => ?_)
    obtain ⟨hE, hI⟩ := hE
    exact W.vret hx hb hr (fun t ht hW => ⟨⟨σ47, rfl, ⟨hE, hI⟩, by rw [ht]; exact hP, va_K.moved hW.alike hK, hD⟩, hS.F ht⟩) hS.2.2 d_Scribe_putInstead_50
  · have hE := hE.1 cc4
    refine lv_aload_n hx hb d_Scribe_putInstead_7 rfl (lv_at hl 0 rfl) ?_
    refine va_get (D := (wG w)) (ci := 6) (v := .ref (wA w 4)) (C := R_Scribe) (T := F_Scribe) (N := 2) hx hb hta i_Scribe hown hK hP 15 rfl rfl 1 (by decide) (hta _ fl_Scribe_15) (fun _ h9 => h9) rfl d_Scribe_putInstead_8 ?_
    refine lv_bipush (v := 10) hx hb d_Scribe_putInstead_11 (by decide) ?_
    refine cSh_v (As := [.int 10]) (rest := []) ⟨hx, hb, hml, hown, hta⟩ (c_Strip_add l (wG w) (wA w 4) (wA w 5) (wI w) 24000 _ (pSh σ) 10 (fun u => u = sAdd 24000 (pSh σ) 10) (l_Strip_add (by decide) (inv.Sh hI) 10)) ok_Scribe_66 ⟨Nat.le_of_ble_eq_true rfl, Nat.le_of_ble_eq_true rfl⟩ hP hK hD hS hA rfl hl.1 rfl (Nat.le_of_ble_eq_true rfl) d_Scribe_putInstead_13 ⟨Nat.zero_le _, Nat.zero_le _⟩ (fun u H locs hrr hP hD hS => ?_)
    subst hrr
    have hP : va_P (wG w) classes (WW w (sSh σ (sAdd 24000 (pSh σ) 10))) H := hP
    have hD : va_D A (WW w (sSh σ (sAdd 24000 (pSh σ) 10))) := hD
    have hI : inv (sSh σ (sAdd 24000 (pSh σ) 10)) := (inv.sSh hI (sOk_add (by decide) (inv.Sh hI) _))
    have hE := hE _ rfl
    generalize (sSh σ (sAdd 24000 (pSh σ) 10) : PPS) = σ13 at hP hD hI hE
    exact W.vret hx hb hr (fun t ht hW => ⟨⟨σ13, rfl, ⟨hE, hI⟩, by rw [ht]; exact hP, va_K.moved hW.alike hK, hD⟩, hS.F ht⟩) hS.2.2 d_Scribe_putInstead_16
theorem ok_Scribe_19 : okV "PlainPages$Scribe" 19 R_Strip y_Strip_clear b_Strip_clear 1 none 0 := ⟨aW_in 834 (by decide +kernel) rfl, aW_in 273 (by decide +kernel) rfl, aW_in 274 (by decide +kernel) rfl, aW_in 85 (by decide +kernel) rfl, cd_Strip_clear, rfl, by decide +kernel, by decide +kernel, by decide +kernel⟩
theorem ok_Scribe_30 : okV "PlainPages$Scribe" 30 R_Book y_Book_kindOf b_Book_kindOf 3 (some (.object "PlainPages$Kind")) 1 := ⟨aW_in 836 (by decide +kernel) rfl, aW_in 714 (by decide +kernel) rfl, aW_in 715 (by decide +kernel) rfl, aW_in 87 (by decide +kernel) rfl, cd_Book_kindOf, rfl, by decide +kernel, by decide +kernel, by decide +kernel⟩
theorem fl_Scribe_40 : Cond.fieldLink "PlainPages$Scribe" 40 "PlainPages$Kind" "IMG" "LPlainPages$Kind;" ∈ aW := aW_in 839 (by decide +kernel) rfl
theorem ok_Scribe_47 : okV "PlainPages$Scribe" 47 R_Book y_Book_isElement b_Book_isElement 2 (some .boolean) 1 := ⟨aW_in 859 (by decide +kernel) rfl, aW_in 773 (by decide +kernel) rfl, aW_in 774 (by decide +kernel) rfl, aW_in 87 (by decide +kernel) rfl, cd_Book_isElement, rfl, by decide +kernel, by decide +kernel, by decide +kernel⟩
theorem ok_Scribe_43 : okV "PlainPages$Scribe" 43 R_Scribe y_Scribe_putInstead b_Scribe_putInstead 4 none 2 := ⟨aW_in 841 (by decide +kernel) rfl, aW_in 843 (by decide +kernel) rfl, aW_in 34 (by decide +kernel) rfl, aW_in 91 (by decide +kernel) rfl, cd_Scribe_putInstead, rfl, by decide +kernel, by decide +kernel, by decide +kernel⟩
theorem d_Scribe_putPlain_0 : decode b_Scribe_putPlain 0 = .ok (.aload_n 0, 1) := by decide +kernel
theorem d_Scribe_putPlain_1 : decode b_Scribe_putPlain 1 = .ok (.getfield 15, 3) := by decide +kernel
theorem d_Scribe_putPlain_4 : decode b_Scribe_putPlain 4 = .ok (.invokevirtual 19, 3) := by decide +kernel
theorem d_Scribe_putPlain_7 : decode b_Scribe_putPlain 7 = .ok (.aload_n 0, 1) := by decide +kernel
theorem d_Scribe_putPlain_8 : decode b_Scribe_putPlain 8 = .ok (.getfield 9, 3) := by decide +kernel
theorem d_Scribe_putPlain_11 : decode b_Scribe_putPlain 11 = .ok (.iload_n 1, 1) := by decide +kernel
theorem d_Scribe_putPlain_12 : decode b_Scribe_putPlain 12 = .ok (.bipush 10, 2) := by decide +kernel
theorem d_Scribe_putPlain_14 : decode b_Scribe_putPlain 14 = .ok (.invokevirtual 24, 3) := by decide +kernel
theorem d_Scribe_putPlain_17 : decode b_Scribe_putPlain 17 = .ok (.istore_n 2, 1) := by decide +kernel
theorem d_Scribe_putPlain_18 : decode b_Scribe_putPlain 18 = .ok (.iload_n 1, 1) := by decide +kernel
theorem d_Scribe_putPlain_19 : decode b_Scribe_putPlain 19 = .ok (.istore_n 3, 1) := by decide +kernel
theorem d_Scribe_putPlain_20 : decode b_Scribe_putPlain 20 = .ok (.iload_n 1, 1) := by decide +kernel
theorem d_Scribe_putPlain_21 : decode b_Scribe_putPlain 21 = .ok (.istore 4, 2) := by decide +kernel
theorem d_Scribe_putPlain_23 : decode b_Scribe_putPlain 23 = .ok (.iload 4, 2) := by decide +kernel
theorem d_Scribe_putPlain_25 : decode b_Scribe_putPlain 25 = .ok (.iload_n 2, 1) := by decide +kernel
theorem d_Scribe_putPlain_26 : decode b_Scribe_putPlain 26 = .ok (.if_icmp .ge 108, 3) := by decide +kernel
theorem d_Scribe_putPlain_29 : decode b_Scribe_putPlain 29 = .ok (.aload_n 0, 1) := by decide +kernel
theorem d_Scribe_putPlain_30 : decode b_Scribe_putPlain 30 = .ok (.getfield 9, 3) := by decide +kernel
theorem d_Scribe_putPlain_33 : decode b_Scribe_putPlain 33 = .ok (.iload 4, 2) := by decide +kernel
theorem d_Scribe_putPlain_35 : decode b_Scribe_putPlain 35 = .ok (.invokevirtual 30, 3) := by decide +kernel
theorem d_Scribe_putPlain_38 : decode b_Scribe_putPlain 38 = .ok (.astore 5, 2) := by decide +kernel
theorem d_Scribe_putPlain_40 : decode b_Scribe_putPlain 40 = .ok (.iload 4, 2) := by decide +kernel
theorem d_Scribe_putPlain_42 : decode b_Scribe_putPlain 42 = .ok (.iload_n 3, 1) := by decide +kernel
theorem d_Scribe_putPlain_43 : decode b_Scribe_putPlain 43 = .ok (.if_icmp .lt 42, 3) := by decide +kernel
theorem d_Scribe_putPlain_46 : decode b_Scribe_putPlain 46 = .ok (.aload 5, 2) := by decide +kernel
theorem d_Scribe_putPlain_48 : decode b_Scribe_putPlain 48 = .ok (.getstatic 34, 3) := by decide +kernel
theorem d_Scribe_putPlain_51 : decode b_Scribe_putPlain 51 = .ok (.if_acmp .eq 11, 3) := by decide +kernel
theorem d_Scribe_putPlain_54 : decode b_Scribe_putPlain 54 = .ok (.aload 5, 2) := by decide +kernel
theorem d_Scribe_putPlain_56 : decode b_Scribe_putPlain 56 = .ok (.getstatic 40, 3) := by decide +kernel
theorem d_Scribe_putPlain_59 : decode b_Scribe_putPlain 59 = .ok (.if_acmp .ne 26, 3) := by decide +kernel
theorem d_Scribe_putPlain_62 : decode b_Scribe_putPlain 62 = .ok (.aload_n 0, 1) := by decide +kernel
theorem d_Scribe_putPlain_63 : decode b_Scribe_putPlain 63 = .ok (.iload 4, 2) := by decide +kernel
theorem d_Scribe_putPlain_65 : decode b_Scribe_putPlain 65 = .ok (.aload 5, 2) := by decide +kernel
theorem d_Scribe_putPlain_67 : decode b_Scribe_putPlain 67 = .ok (.invokevirtual 43, 3) := by decide +kernel
theorem d_Scribe_putPlain_70 : decode b_Scribe_putPlain 70 = .ok (.aload_n 0, 1) := by decide +kernel
theorem d_Scribe_putPlain_71 : decode b_Scribe_putPlain 71 = .ok (.getfield 9, 3) := by decide +kernel
theorem d_Scribe_putPlain_74 : decode b_Scribe_putPlain 74 = .ok (.iload 4, 2) := by decide +kernel
theorem d_Scribe_putPlain_76 : decode b_Scribe_putPlain 76 = .ok (.bipush 10, 2) := by decide +kernel
theorem d_Scribe_putPlain_78 : decode b_Scribe_putPlain 78 = .ok (.invokevirtual 24, 3) := by decide +kernel
theorem d_Scribe_putPlain_81 : decode b_Scribe_putPlain 81 = .ok (.istore_n 3, 1) := by decide +kernel
theorem d_Scribe_putPlain_82 : decode b_Scribe_putPlain 82 = .ok (.goto 46, 3) := by decide +kernel
theorem d_Scribe_putPlain_85 : decode b_Scribe_putPlain 85 = .ok (.iload 4, 2) := by decide +kernel
theorem d_Scribe_putPlain_87 : decode b_Scribe_putPlain 87 = .ok (.iload_n 3, 1) := by decide +kernel
theorem d_Scribe_putPlain_88 : decode b_Scribe_putPlain 88 = .ok (.if_icmp .lt 40, 3) := by decide +kernel
theorem d_Scribe_putPlain_91 : decode b_Scribe_putPlain 91 = .ok (.aload_n 0, 1) := by decide +kernel
theorem d_Scribe_putPlain_92 : decode b_Scribe_putPlain 92 = .ok (.getfield 9, 3) := by decide +kernel
theorem d_Scribe_putPlain_95 : decode b_Scribe_putPlain 95 = .ok (.iload 4, 2) := by decide +kernel
theorem d_Scribe_putPlain_97 : decode b_Scribe_putPlain 97 = .ok (.invokevirtual 47, 3) := by decide +kernel
theorem d_Scribe_putPlain_100 : decode b_Scribe_putPlain 100 = .ok (.ifCond .ne 28, 3) := by decide +kernel
theorem d_Scribe_putPlain_103 : decode b_Scribe_putPlain 103 = .ok (.aload_n 0, 1) := by decide +kernel
theorem d_Scribe_putPlain_104 : decode b_Scribe_putPlain 104 = .ok (.aload_n 0, 1) := by decide +kernel
theorem d_Scribe_putPlain_105 : decode b_Scribe_putPlain 105 = .ok (.getfield 9, 3) := by decide +kernel
theorem d_Scribe_putPlain_108 : decode b_Scribe_putPlain 108 = .ok (.iload 4, 2) := by decide +kernel
theorem d_Scribe_putPlain_110 : decode b_Scribe_putPlain 110 = .ok (.bipush 8, 2) := by decide +kernel
theorem d_Scribe_putPlain_112 : decode b_Scribe_putPlain 112 = .ok (.invokevirtual 24, 3) := by decide +kernel
theorem d_Scribe_putPlain_115 : decode b_Scribe_putPlain 115 = .ok (.aload_n 0, 1) := by decide +kernel
theorem d_Scribe_putPlain_116 : decode b_Scribe_putPlain 116 = .ok (.getfield 9, 3) := by decide +kernel
theorem d_Scribe_putPlain_119 : decode b_Scribe_putPlain 119 = .ok (.iload 4, 2) := by decide +kernel
theorem d_Scribe_putPlain_121 : decode b_Scribe_putPlain 121 = .ok (.iconst 3, 1) := by decide +kernel
theorem d_Scribe_putPlain_122 : decode b_Scribe_putPlain 122 = .ok (.invokevirtual 24, 3) := by decide +kernel
theorem d_Scribe_putPlain_125 : decode b_Scribe_putPlain 125 = .ok (.invokevirtual 51, 3) := by decide +kernel
theorem d_Scribe_putPlain_128 : decode b_Scribe_putPlain 128 = .ok (.iinc 4 1, 3) := by decide +kernel
theorem d_Scribe_putPlain_131 : decode b_Scribe_putPlain 131 = .ok (.goto (-108), 3) := by decide +kernel
theorem d_Scribe_putPlain_134 : decode b_Scribe_putPlain 134 = .ok (.return_, 1) := by decide +kernel
def w_Scribe_putPlain_J128  (v2 : Int32) (K23 : Int32 → Int32 → PPS → Prop) (post : PPS → Prop) (v3 : Int32) (v4 : Int32) (σ : PPS) : Prop := K23 v3 (v4 + 1) σ
def w_Scribe_putPlain_J85  (v2 : Int32) (K23 : Int32 → Int32 → PPS → Prop) (post : PPS → Prop) (v3 : Int32) (v4 : Int32) (σ : PPS) : Prop := ((v4 < v3 → w_Scribe_putPlain_J128 v2 (K23) post v3 v4 σ) ∧ (¬ v4 < v3 → (((b2i (bEle σ v4)) = 0 → w_Scribe_putLetters σ (tGet 14 (pNd σ) v4 8) (tGet 14 (pNd σ) v4 3) (fun σ125 => w_Scribe_putPlain_J128 v2 (K23) post v3 v4 σ125)) ∧ (¬ (b2i (bEle σ v4)) = 0 → w_Scribe_putPlain_J128 v2 (K23) post v3 v4 σ))))
def w_Scribe_putPlain_J62  (v2 : Int32) (K23 : Int32 → Int32 → PPS → Prop) (post : PPS → Prop) (v4 : Int32) (v5 : Option Nat) (σ : PPS) : Prop := w_Scribe_putInstead σ v4 v5 (fun σ67 => w_Scribe_putPlain_J128 v2 (K23) post (tGet 14 (pNd σ67) v4 10) v4 σ67)
def w_Scribe_putPlain_L23  (v2 : Int32) (post : PPS → Prop) : Nat → Int32 → Int32 → PPS → Prop
  | 0, _, _, _ => False
  | n23 + 1, v3, v4, σ => ((v2 ≤ v4 → post σ) ∧ (¬ v2 ≤ v4 → (∀ r35, r35 = bKind σ v4 → ((v4 < v3 → w_Scribe_putPlain_J85 v2 (w_Scribe_putPlain_L23 v2 post n23) post v3 v4 σ) ∧ (¬ v4 < v3 → (kOk r35 ∧ ((r35 = (some 21) → w_Scribe_putPlain_J62 v2 (w_Scribe_putPlain_L23 v2 post n23) post v4 r35 σ) ∧ (¬ r35 = (some 21) → (kOk r35 ∧ ((r35 = (some 22) → w_Scribe_putPlain_J62 v2 (w_Scribe_putPlain_L23 v2 post n23) post v4 r35 σ) ∧ (¬ r35 = (some 22) → w_Scribe_putPlain_J85 v2 (w_Scribe_putPlain_L23 v2 post n23) post v3 v4 σ)))))))))))
def w_Scribe_putPlain  (σ : PPS) (x0 : Int32) (post : PPS → Prop) : Prop := (∀ σ4 : PPS, σ4 = sSh σ (sClr (pSh σ)) → (∃ n23, w_Scribe_putPlain_L23 (tGet 14 (pNd σ4) x0 10) post n23 x0 x0 σ4))
set_option maxHeartbeats 4000000 in
set_option maxRecDepth 100000 in
theorem c_Scribe_putPlain (l : Launch) (w : WD) (sz : Nat) (σ : PPS) (x0 : Int32)  (post : PPS → Prop) (hI : inv σ) (hE : w_Scribe_putPlain σ x0 post) : Met l y_Scribe_putPlain ws_Scribe_putPlain { frames := 8, cells := 0, slots := 0, locals := 179 } (va_Pc [.ref (wA w 15), .int x0] (gW w σ sz)) (va_Qv (fun u => post u ∧ inv u) (mB (wG w) (WW w) (wI w) (va_A (WW w σ) sz)) (va_A (WW w σ) sz)) 0 0 (va_A (WW w σ) sz) := by
  refine Met.ofW (cc := b_Scribe_putPlain) (maxL := 6) (ret := none) (by decide) rfl ?_
  intro p e s m args below meth c s₁ B hml hv
  obtain ⟨rfl, hsz, hP, hK, hD0, hC⟩ := hv
  have hx := B.exec
  have hb := B.bytes
  have hr := B.returns
  have hta : ∀ w ∈ aW, w.before _ s = true := fun w h => atoms_spec (ws := ws_Scribe_putPlain) B.pre w (List.mem_cons_of_mem _ h)
  have hown : s.vm.findClass R_Scribe = some m.cls := findClass_of_methodNamed B.named
  have hlocks := B.notSynchronized
  subst hsz
  have hD := hD0.self (sz := s.heap.size)
  generalize hAe : va_A (WW w σ) s.heap.size = A at hD hC ⊢
  have hA : ∀ q : Nat, s.heap.size ≤ q → A q := fun q h => by rw [← hAe]; exact Or.inr h
  have hS : va_S A s.heap s.heap [] := va_S.rf
  have hP : va_P (wG w) classes (WW w σ) s.heap := hP
  have hl := lv_entry ([.ref (wA w 15), .int x0]) (n := 6) (Nat.le_of_ble_eq_true rfl)
  rw [lg_entry_eq]
  generalize (lg_sl ([.ref (wA w 15), .int x0]) ++ List.replicate (6 - (lg_sl ([.ref (wA w 15), .int x0])).length) Slot.unset).toArray = ls at hl ⊢
  have hl : lv_has ls 6 [(0, .ref (wA w 15)), (1, .int x0)] := hl
  have L23 : ∀ (v2 : Int32) (n23 : Nat) (v3 : Int32) (v4 : Int32) (σ : PPS) (H : Heap) (locs : List Loc) (hP : va_P (wG w) classes (WW w σ) H) (hD : va_D A (WW w σ)) (hS : va_S A s.heap H locs) (hI : inv σ) (ls : Array Slot) (hl : lv_has ls 6 [(0, .ref (wA w 15)), (2, .int v2), (3, .int v3), (4, .int v4)]) (hE : w_Scribe_putPlain_L23 v2 post n23 v3 v4 σ), W p l e (headSpec ws_Scribe_putPlain { frames := 8, cells := 0, slots := 0, locals := 179 }).room s m ([.ref (wA w 15), .int x0] : List Value).toArray below meth c H locs 0 0 (MQ below (va_Qv (fun u => post u ∧ inv u) (mB (wG w) (WW w) (wI w) A) A) ([.ref (wA w 15), .int x0] : List Value).toArray s 0 0 A) (F0 m 23 ls []) := by
    intro v2 n23
    induction n23 with
    | zero => intro v3 v4 σ H locs hP hD hS hI ls hl hE; exact hE.elim
    | succ n23 ih23 =>
      have J128 : ∀ (v3 : Int32) (v4 : Int32) (σ : PPS) (H : Heap) (locs : List Loc) (hP : va_P (wG w) classes (WW w σ) H) (hD : va_D A (WW w σ)) (hS : va_S A s.heap H locs) (hI : inv σ) (ls : Array Slot) (hl : lv_has ls 6 [(0, .ref (wA w 15)), (2, .int v2), (3, .int v3), (4, .int v4)]) (hE : w_Scribe_putPlain_J128 v2 (w_Scribe_putPlain_L23 v2 post n23) post v3 v4 σ), W p l e (headSpec ws_Scribe_putPlain { frames := 8, cells := 0, slots := 0, locals := 179 }).room s m ([.ref (wA w 15), .int x0] : List Value).toArray below meth c H locs 0 0 (MQ below (va_Qv (fun u => post u ∧ inv u) (mB (wG w) (WW w) (wI w) A) A) ([.ref (wA w 15), .int x0] : List Value).toArray s 0 0 A) (F0 m 128 ls []) := by
        intro  v3 v4 σ H locs hP hD hS hI ls hl hE
        unfold w_Scribe_putPlain_J128 at hE
        refine lv_iinc (v := v4 + 1) (lv' := [(4, .int (v4 + 1)), (0, .ref (wA w 15)), (2, .int v2), (3, .int v3)]) hx hb d_Scribe_putPlain_128 hl (k := 3) rfl rfl (by decide) rfl (fun ls hl => ?_)
        refine lv_goto (tgt := 23) hx hb d_Scribe_putPlain_131 (by decide) ?_
        exact ih23 v3 (v4 + 1) σ _ _ hP hD hS hI _ (lv_sub hl [1, 2, 3, 0] rfl) hE
      have J85 : ∀ (v3 : Int32) (v4 : Int32) (σ : PPS) (H : Heap) (locs : List Loc) (hP : va_P (wG w) classes (WW w σ) H) (hD : va_D A (WW w σ)) (hS : va_S A s.heap H locs) (hI : inv σ) (ls : Array Slot) (hl : lv_has ls 6 [(0, .ref (wA w 15)), (2, .int v2), (3, .int v3), (4, .int v4)]) (hE : w_Scribe_putPlain_J85 v2 (w_Scribe_putPlain_L23 v2 post n23) post v3 v4 σ), W p l e (headSpec ws_Scribe_putPlain { frames := 8, cells := 0, slots := 0, locals := 179 }).room s m ([.ref (wA w 15), .int x0] : List Value).toArray below meth c H locs 0 0 (MQ below (va_Qv (fun u => post u ∧ inv u) (mB (wG w) (WW w) (wI w) A) A) ([.ref (wA w 15), .int x0] : List Value).toArray s 0 0 A) (F0 m 85 ls []) := by
        intro  v3 v4 σ H locs hP hD hS hI ls hl hE
        unfold w_Scribe_putPlain_J85 at hE
        refine lv_iload hx hb d_Scribe_putPlain_85 (lv_at hl 3 rfl) ?_
        refine lv_iload_n hx hb d_Scribe_putPlain_87 rfl (lv_at hl 2 rfl) ?_
        refine lv_icmp_lt (tgt := 128) hx hb d_Scribe_putPlain_88 (by decide) (fun cc88 => ?_) (fun cc88 => ?_)
        · have hE := hE.1 cc88
          exact J128  v3 v4 σ _ _ hP hD hS hI _ (lv_sub hl [0, 1, 2, 3] rfl) hE
        · have hE := hE.2 cc88
          refine lv_aload_n hx hb d_Scribe_putPlain_91 rfl (lv_at hl 0 rfl) ?_
          refine va_get (D := (wG w)) (ci := 6) (v := .ref (wA w 6)) (C := R_Scribe) (T := F_Scribe) (N := 2) hx hb hta i_Scribe hown hK hP 15 rfl rfl 0 (by decide) (hta _ fl_Scribe_9) (fun _ h9 => h9) rfl d_Scribe_putPlain_92 ?_
          refine lv_iload hx hb d_Scribe_putPlain_95 (lv_at hl 3 rfl) ?_
          refine ro_V (b0 := (wA w 6)) (As := [.int v4]) (rest := []) ⟨hx, hb, hml, hown, hta⟩ (f_Book_isElement l w σ v4 hI) ok_Scribe_47 ⟨Nat.le_of_ble_eq_true rfl, Nat.le_of_ble_eq_true rfl⟩ blind_fW (va_recv hK hP (ci := 3) (q0 := 6) rfl rfl) (fW_of hP hK hC hS) rfl hl.1 rfl (Nat.le_of_ble_eq_true rfl) d_Scribe_putPlain_97 ⟨Nat.zero_le _, Nat.zero_le _⟩ (fun r97 hrr => ?_)
          subst hrr
          refine lv_if_ne (tgt := 128) hx hb d_Scribe_putPlain_100 (by decide) (fun cc100 => ?_) (fun cc100 => ?_)
          · have hE := hE.2 cc100
            exact J128  v3 v4 σ _ _ hP hD hS hI _ (lv_sub hl [0, 1, 2, 3] rfl) hE
          · have hE := hE.1 cc100
            refine lv_aload_n hx hb d_Scribe_putPlain_103 rfl (lv_at hl 0 rfl) ?_
            refine lv_aload_n hx hb d_Scribe_putPlain_104 rfl (lv_at hl 0 rfl) ?_
            refine va_get (D := (wG w)) (ci := 6) (v := .ref (wA w 6)) (C := R_Scribe) (T := F_Scribe) (N := 2) hx hb hta i_Scribe hown hK hP 15 rfl rfl 0 (by decide) (hta _ fl_Scribe_9) (fun _ h9 => h9) rfl d_Scribe_putPlain_105 ?_
            refine lv_iload hx hb d_Scribe_putPlain_108 (lv_at hl 3 rfl) ?_
            refine lv_bipush (v := 8) hx hb d_Scribe_putPlain_110 (by decide) ?_
            refine ro_V (b0 := (wA w 6)) (As := [.int v4, .int 8]) (rest := [.ref (wA w 15)]) ⟨hx, hb, hml, hown, hta⟩ (f_Book_ofNode l w σ v4 8 hI) ok_Scribe_24 ⟨Nat.le_of_ble_eq_true rfl, Nat.le_of_ble_eq_true rfl⟩ blind_fW (va_recv hK hP (ci := 3) (q0 := 6) rfl rfl) (fW_of hP hK hC hS) rfl hl.1 rfl (Nat.le_of_ble_eq_true rfl) d_Scribe_putPlain_112 ⟨Nat.zero_le _, Nat.zero_le _⟩ (fun r112 hrr => ?_)
            subst hrr
            refine lv_aload_n hx hb d_Scribe_putPlain_115 rfl (lv_at hl 0 rfl) ?_
            refine va_get (D := (wG w)) (ci := 6) (v := .ref (wA w 6)) (C := R_Scribe) (T := F_Scribe) (N := 2) hx hb hta i_Scribe hown hK hP 15 rfl rfl 0 (by decide) (hta _ fl_Scribe_9) (fun _ h9 => h9) rfl d_Scribe_putPlain_116 ?_
            refine lv_iload hx hb d_Scribe_putPlain_119 (lv_at hl 3 rfl) ?_
            refine lv_iconst (v := 3) hx hb d_Scribe_putPlain_121 (by decide) ?_
            refine ro_V (b0 := (wA w 6)) (As := [.int v4, .int 3]) (rest := [.int (tGet 14 (pNd σ) v4 8), .ref (wA w 15)]) ⟨hx, hb, hml, hown, hta⟩ (f_Book_ofNode l w σ v4 3 hI) ok_Scribe_24 ⟨Nat.le_of_ble_eq_true rfl, Nat.le_of_ble_eq_true rfl⟩ blind_fW (va_recv hK hP (ci := 3) (q0 := 6) rfl rfl) (fW_of hP hK hC hS) rfl hl.1 rfl (Nat.le_of_ble_eq_true rfl) d_Scribe_putPlain_122 ⟨Nat.zero_le _, Nat.zero_le _⟩ (fun r122 hrr => ?_)
            subst hrr
            refine mc_v (b0 := (wA w 15)) (As := [.int (tGet 14 (pNd σ) v4 8), .int (tGet 14 (pNd σ) v4 3)]) (rest := []) ⟨hx, hb, hml, hown, hta⟩ (c_Scribe_putLetters l w _ σ (tGet 14 (pNd σ) v4 8) (tGet 14 (pNd σ) v4 3) _ hI hE) ok_Scribe_51 ⟨Nat.le_of_ble_eq_true rfl, Nat.le_of_ble_eq_true rfl⟩ (va_recv hK hP (ci := 6) (q0 := 15) rfl rfl) hP hK hD hS hA hC rfl hl.1 rfl (Nat.le_of_ble_eq_true rfl) d_Scribe_putPlain_125 ⟨Nat.zero_le _, Nat.zero_le _⟩ (fun σ125 H locs hE hP hD hS => ?_)
            obtain ⟨hE, hI⟩ := hE
            exact J128  v3 v4 σ125 _ _ hP hD hS hI _ (lv_sub hl [0, 1, 2, 3] rfl) hE
      have J62 : ∀ (v4 : Int32) (v5 : Option Nat) (σ : PPS) (H : Heap) (locs : List Loc) (hP : va_P (wG w) classes (WW w σ) H) (hD : va_D A (WW w σ)) (hS : va_S A s.heap H locs) (hI : inv σ) (ls : Array Slot) (hl : lv_has ls 6 [(0, .ref (wA w 15)), (2, .int v2), (4, .int v4), (5, va_re (wE w) v5)]) (hE : w_Scribe_putPlain_J62 v2 (w_Scribe_putPlain_L23 v2 post n23) post v4 v5 σ), W p l e (headSpec ws_Scribe_putPlain { frames := 8, cells := 0, slots := 0, locals := 179 }).room s m ([.ref (wA w 15), .int x0] : List Value).toArray below meth c H locs 0 0 (MQ below (va_Qv (fun u => post u ∧ inv u) (mB (wG w) (WW w) (wI w) A) A) ([.ref (wA w 15), .int x0] : List Value).toArray s 0 0 A) (F0 m 62 ls []) := by
        intro  v4 v5 σ H locs hP hD hS hI ls hl hE
        unfold w_Scribe_putPlain_J62 at hE
        refine lv_aload_n hx hb d_Scribe_putPlain_62 rfl (lv_at hl 0 rfl) ?_
        refine lv_iload hx hb d_Scribe_putPlain_63 (lv_at hl 2 rfl) ?_
        refine lv_aloadQ hx hb d_Scribe_putPlain_65 (lv_at hl 3 rfl) ?_
        refine mc_v (b0 := (wA w 15)) (As := [.int v4, va_re (wE w) v5]) (rest := []) ⟨hx, hb, hml, hown, hta⟩ (c_Scribe_putInstead l w _ σ v4 v5 _ hI hE) ok_Scribe_43 ⟨Nat.le_of_ble_eq_true rfl, Nat.le_of_ble_eq_true rfl⟩ (va_recv hK hP (ci := 6) (q0 := 15) rfl rfl) hP hK hD hS hA hC rfl hl.1 rfl (Nat.le_of_ble_eq_true rfl) d_Scribe_putPlain_67 ⟨Nat.zero_le _, Nat.zero_le _⟩ (fun σ67 H locs hE hP hD hS => ?_)
        obtain ⟨hE, hI⟩ := hE
        refine lv_aload_n hx hb d_Scribe_putPlain_70 rfl (lv_at hl 0 rfl) ?_
        refine va_get (D := (wG w)) (ci := 6) (v := .ref (wA w 6)) (C := R_Scribe) (T := F_Scribe) (N := 2) hx hb hta i_Scribe hown hK hP 15 rfl rfl 0 (by decide) (hta _ fl_Scribe_9) (fun _ h9 => h9) rfl d_Scribe_putPlain_71 ?_
        refine lv_iload hx hb d_Scribe_putPlain_74 (lv_at hl 2 rfl) ?_
        refine lv_bipush (v := 10) hx hb d_Scribe_putPlain_76 (by decide) ?_
        refine ro_V (b0 := (wA w 6)) (As := [.int v4, .int 10]) (rest := []) ⟨hx, hb, hml, hown, hta⟩ (f_Book_ofNode l w σ67 v4 10 hI) ok_Scribe_24 ⟨Nat.le_of_ble_eq_true rfl, Nat.le_of_ble_eq_true rfl⟩ blind_fW (va_recv hK hP (ci := 3) (q0 := 6) rfl rfl) (fW_of hP hK hC hS) rfl hl.1 rfl (Nat.le_of_ble_eq_true rfl) d_Scribe_putPlain_78 ⟨Nat.zero_le _, Nat.zero_le _⟩ (fun r78 hrr => ?_)
        subst hrr
        refine lv_istore_n (lv' := [(3, .int (tGet 14 (pNd σ67) v4 10)), (0, .ref (wA w 15)), (2, .int v2), (4, .int v4), (5, va_re (wE w) v5)]) hx hb d_Scribe_putPlain_81 rfl hl (by decide) rfl (fun ls hl => ?_)
        refine lv_goto (tgt := 128) hx hb d_Scribe_putPlain_82 (by decide) ?_
        exact J128  (tGet 14 (pNd σ67) v4 10) v4 σ67 _ _ hP hD hS hI _ (lv_sub hl [1, 2, 0, 3] rfl) hE
      intro v3 v4 σ H locs hP hD hS hI ls hl hE
      unfold w_Scribe_putPlain_L23 at hE
      refine lv_iload hx hb d_Scribe_putPlain_23 (lv_at hl 3 rfl) ?_
      refine lv_iload_n hx hb d_Scribe_putPlain_25 rfl (lv_at hl 1 rfl) ?_
      refine lv_icmp_ge (tgt := 134) hx hb d_Scribe_putPlain_26 (by decide) (fun cc26 => ?_) (fun cc26 => ?_)
      · have hE := hE.1 cc26
        exact W.vret hx hb hr (fun t ht hW => ⟨⟨σ, rfl, ⟨hE, hI⟩, by rw [ht]; exact hP, va_K.moved hW.alike hK, hD⟩, hS.F ht⟩) hS.2.2 d_Scribe_putPlain_134
      · have hE := hE.2 cc26
        refine lv_aload_n hx hb d_Scribe_putPlain_29 rfl (lv_at hl 0 rfl) ?_
        refine va_get (D := (wG w)) (ci := 6) (v := .ref (wA w 6)) (C := R_Scribe) (T := F_Scribe) (N := 2) hx hb hta i_Scribe hown hK hP 15 rfl rfl 0 (by decide) (hta _ fl_Scribe_9) (fun _ h9 => h9) rfl d_Scribe_putPlain_30 ?_
        refine lv_iload hx hb d_Scribe_putPlain_33 (lv_at hl 3 rfl) ?_
        refine roQ_V (b0 := (wA w 6)) (As := [.int v4]) (rest := []) ⟨hx, hb, hml, hown, hta⟩ (f_Book_kindOf l w σ v4 hI) ok_Scribe_30 ⟨Nat.le_of_ble_eq_true rfl, Nat.le_of_ble_eq_true rfl⟩ blind_fW (va_recv hK hP (ci := 3) (q0 := 6) rfl rfl) (fW_of hP hK hC hS) rfl hl.1 rfl (Nat.le_of_ble_eq_true rfl) d_Scribe_putPlain_35 ⟨Nat.zero_le _, Nat.zero_le _⟩ (fun r35 hrr => ?_)
        have hE := hE r35 hrr
        refine lv_astoreQ (lv' := [(5, va_re (wE w) r35), (0, .ref (wA w 15)), (2, .int v2), (3, .int v3), (4, .int v4)]) hx hb d_Scribe_putPlain_38 hl (by decide) rfl (fun ls hl => ?_)
        refine lv_iload hx hb d_Scribe_putPlain_40 (lv_at hl 4 rfl) ?_
        refine lv_iload_n hx hb d_Scribe_putPlain_42 rfl (lv_at hl 3 rfl) ?_
        refine lv_icmp_lt (tgt := 85) hx hb d_Scribe_putPlain_43 (by decide) (fun cc43 => ?_) (fun cc43 => ?_)
        · have hE := hE.1 cc43
          exact J85  v3 v4 σ _ _ hP hD hS hI _ (lv_sub hl [1, 2, 3, 4] rfl) hE
        · have hE := hE.2 cc43
          refine lv_aloadQ hx hb d_Scribe_putPlain_46 (lv_at hl 0 rfl) ?_
          refine k_sta (k := 21) hx hb hC (by decide) rfl hS hown (hta _ fl_Scribe_34) d_Scribe_putPlain_48 ?_
          obtain ⟨hkx, hE⟩ := hE
          refine lv_acmpE_eq hC.1.2 hkx (fun _ h => by cases h; first | assumption | decide) (tgt := 62) hx hb d_Scribe_putPlain_51 (by decide) (fun cc51 => ?_) (fun cc51 => ?_)
          · have hE := hE.1 cc51
            exact J62  v4 r35 σ _ _ hP hD hS hI _ (lv_sub hl [1, 2, 4, 0] rfl) hE
          · have hE := hE.2 cc51
            refine lv_aloadQ hx hb d_Scribe_putPlain_54 (lv_at hl 0 rfl) ?_
            refine k_sta (k := 22) hx hb hC (by decide) rfl hS hown (hta _ fl_Scribe_40) d_Scribe_putPlain_56 ?_
            obtain ⟨hkx, hE⟩ := hE
            refine lv_acmpE_ne hC.1.2 hkx (fun _ h => by cases h; first | assumption | decide) (tgt := 85) hx hb d_Scribe_putPlain_59 (by decide) (fun cc59 => ?_) (fun cc59 => ?_)
            · have hE := hE.2 cc59
              exact J85  v3 v4 σ _ _ hP hD hS hI _ (lv_sub hl [1, 2, 3, 4] rfl) hE
            · have hE := hE.1 cc59
              exact J62  v4 r35 σ _ _ hP hD hS hI _ (lv_sub hl [1, 2, 4, 0] rfl) hE
  unfold w_Scribe_putPlain at hE
  refine lv_aload_n hx hb d_Scribe_putPlain_0 rfl (lv_at hl 0 rfl) ?_
  refine va_get (D := (wG w)) (ci := 6) (v := .ref (wA w 4)) (C := R_Scribe) (T := F_Scribe) (N := 2) hx hb hta i_Scribe hown hK hP 15 rfl rfl 1 (by decide) (hta _ fl_Scribe_15) (fun _ h9 => h9) rfl d_Scribe_putPlain_1 ?_
  refine cSh_v (As := []) (rest := []) ⟨hx, hb, hml, hown, hta⟩ (c_Strip_clear l (wG w) (wA w 4) (wA w 5) (wI w) 24000 _ (pSh σ) (fun u => u = sClr (pSh σ)) (fun _ e => e)) ok_Scribe_19 ⟨Nat.le_of_ble_eq_true rfl, Nat.le_of_ble_eq_true rfl⟩ hP hK hD hS hA rfl hl.1 rfl (Nat.le_of_ble_eq_true rfl) d_Scribe_putPlain_4 ⟨Nat.zero_le _, Nat.zero_le _⟩ (fun u H locs hrr hP hD hS => ?_)
  subst hrr
  have hP : va_P (wG w) classes (WW w (sSh σ (sClr (pSh σ)))) H := hP
  have hD : va_D A (WW w (sSh σ (sClr (pSh σ)))) := hD
  have hI : inv (sSh σ (sClr (pSh σ))) := (inv.sSh hI (sOk_clr _))
  have hE := hE _ rfl
  generalize (sSh σ (sClr (pSh σ)) : PPS) = σ4 at hP hD hI hE
  refine lv_aload_n hx hb d_Scribe_putPlain_7 rfl (lv_at hl 0 rfl) ?_
  refine va_get (D := (wG w)) (ci := 6) (v := .ref (wA w 6)) (C := R_Scribe) (T := F_Scribe) (N := 2) hx hb hta i_Scribe hown hK hP 15 rfl rfl 0 (by decide) (hta _ fl_Scribe_9) (fun _ h9 => h9) rfl d_Scribe_putPlain_8 ?_
  refine lv_iload_n hx hb d_Scribe_putPlain_11 rfl (lv_at hl 1 rfl) ?_
  refine lv_bipush (v := 10) hx hb d_Scribe_putPlain_12 (by decide) ?_
  refine ro_V (b0 := (wA w 6)) (As := [.int x0, .int 10]) (rest := []) ⟨hx, hb, hml, hown, hta⟩ (f_Book_ofNode l w σ4 x0 10 hI) ok_Scribe_24 ⟨Nat.le_of_ble_eq_true rfl, Nat.le_of_ble_eq_true rfl⟩ blind_fW (va_recv hK hP (ci := 3) (q0 := 6) rfl rfl) (fW_of hP hK hC hS) rfl hl.1 rfl (Nat.le_of_ble_eq_true rfl) d_Scribe_putPlain_14 ⟨Nat.zero_le _, Nat.zero_le _⟩ (fun r14 hrr => ?_)
  subst hrr
  refine lv_istore_n (lv' := [(2, .int (tGet 14 (pNd σ4) x0 10)), (0, .ref (wA w 15)), (1, .int x0)]) hx hb d_Scribe_putPlain_17 rfl hl (by decide) rfl (fun ls hl => ?_)
  refine lv_iload_n hx hb d_Scribe_putPlain_18 rfl (lv_at hl 2 rfl) ?_
  refine lv_istore_n (lv' := [(3, .int x0), (2, .int (tGet 14 (pNd σ4) x0 10)), (0, .ref (wA w 15)), (1, .int x0)]) hx hb d_Scribe_putPlain_19 rfl hl (by decide) rfl (fun ls hl => ?_)
  refine lv_iload_n hx hb d_Scribe_putPlain_20 rfl (lv_at hl 3 rfl) ?_
  refine lv_istore (lv' := [(4, .int x0), (3, .int x0), (2, .int (tGet 14 (pNd σ4) x0 10)), (0, .ref (wA w 15)), (1, .int x0)]) hx hb d_Scribe_putPlain_21 hl (by decide) rfl (fun ls hl => ?_)
  obtain ⟨n23, hE⟩ := hE
  exact L23 (tGet 14 (pNd σ4) x0 10) n23 x0 x0 σ4 _ _ hP hD hS hI _ (lv_sub hl [3, 2, 1, 0] rfl) hE
theorem ok_Scribe_55 : okV "PlainPages$Scribe" 55 R_Scribe y_Scribe_putEnds b_Scribe_putEnds 6 (some .int) 3 := ⟨aW_in 871 (by decide +kernel) rfl, aW_in 873 (by decide +kernel) rfl, aW_in 36 (by decide +kernel) rfl, aW_in 91 (by decide +kernel) rfl, cd_Scribe_putEnds, rfl, by decide +kernel, by decide +kernel, by decide +kernel⟩
theorem ok_Scribe_59 : okV "PlainPages$Scribe" 59 R_Scribe y_Scribe_putBegin b_Scribe_putBegin 4 none 1 := ⟨aW_in 882 (by decide +kernel) rfl, aW_in 884 (by decide +kernel) rfl, aW_in 38 (by decide +kernel) rfl, aW_in 91 (by decide +kernel) rfl, cd_Scribe_putBegin, rfl, by decide +kernel, by decide +kernel, by decide +kernel⟩
theorem d_Scribe_putWritten_0 : decode b_Scribe_putWritten 0 = .ok (.aload_n 0, 1) := by decide +kernel
theorem d_Scribe_putWritten_1 : decode b_Scribe_putWritten 1 = .ok (.getfield 15, 3) := by decide +kernel
theorem d_Scribe_putWritten_4 : decode b_Scribe_putWritten 4 = .ok (.invokevirtual 19, 3) := by decide +kernel
theorem d_Scribe_putWritten_7 : decode b_Scribe_putWritten 7 = .ok (.aload_n 0, 1) := by decide +kernel
theorem d_Scribe_putWritten_8 : decode b_Scribe_putWritten 8 = .ok (.getfield 9, 3) := by decide +kernel
theorem d_Scribe_putWritten_11 : decode b_Scribe_putWritten 11 = .ok (.iload_n 1, 1) := by decide +kernel
theorem d_Scribe_putWritten_12 : decode b_Scribe_putWritten 12 = .ok (.bipush 10, 2) := by decide +kernel
theorem d_Scribe_putWritten_14 : decode b_Scribe_putWritten 14 = .ok (.invokevirtual 24, 3) := by decide +kernel
theorem d_Scribe_putWritten_17 : decode b_Scribe_putWritten 17 = .ok (.istore_n 2, 1) := by decide +kernel
theorem d_Scribe_putWritten_18 : decode b_Scribe_putWritten 18 = .ok (.iconst (-1), 1) := by decide +kernel
theorem d_Scribe_putWritten_19 : decode b_Scribe_putWritten 19 = .ok (.istore_n 3, 1) := by decide +kernel
theorem d_Scribe_putWritten_20 : decode b_Scribe_putWritten 20 = .ok (.iload_n 1, 1) := by decide +kernel
theorem d_Scribe_putWritten_21 : decode b_Scribe_putWritten 21 = .ok (.istore 4, 2) := by decide +kernel
theorem d_Scribe_putWritten_23 : decode b_Scribe_putWritten 23 = .ok (.iload 4, 2) := by decide +kernel
theorem d_Scribe_putWritten_25 : decode b_Scribe_putWritten 25 = .ok (.iload_n 2, 1) := by decide +kernel
theorem d_Scribe_putWritten_26 : decode b_Scribe_putWritten 26 = .ok (.if_icmp .ge 86, 3) := by decide +kernel
theorem d_Scribe_putWritten_29 : decode b_Scribe_putWritten 29 = .ok (.aload_n 0, 1) := by decide +kernel
theorem d_Scribe_putWritten_30 : decode b_Scribe_putWritten 30 = .ok (.iload_n 3, 1) := by decide +kernel
theorem d_Scribe_putWritten_31 : decode b_Scribe_putWritten 31 = .ok (.iload 4, 2) := by decide +kernel
theorem d_Scribe_putWritten_33 : decode b_Scribe_putWritten 33 = .ok (.iload_n 1, 1) := by decide +kernel
theorem d_Scribe_putWritten_34 : decode b_Scribe_putWritten 34 = .ok (.invokevirtual 55, 3) := by decide +kernel
theorem d_Scribe_putWritten_37 : decode b_Scribe_putWritten 37 = .ok (.istore_n 3, 1) := by decide +kernel
theorem d_Scribe_putWritten_38 : decode b_Scribe_putWritten 38 = .ok (.aload_n 0, 1) := by decide +kernel
theorem d_Scribe_putWritten_39 : decode b_Scribe_putWritten 39 = .ok (.getfield 9, 3) := by decide +kernel
theorem d_Scribe_putWritten_42 : decode b_Scribe_putWritten 42 = .ok (.iload 4, 2) := by decide +kernel
theorem d_Scribe_putWritten_44 : decode b_Scribe_putWritten 44 = .ok (.invokevirtual 47, 3) := by decide +kernel
theorem d_Scribe_putWritten_47 : decode b_Scribe_putWritten 47 = .ok (.ifCond .eq 34, 3) := by decide +kernel
theorem d_Scribe_putWritten_50 : decode b_Scribe_putWritten 50 = .ok (.aload_n 0, 1) := by decide +kernel
theorem d_Scribe_putWritten_51 : decode b_Scribe_putWritten 51 = .ok (.iload 4, 2) := by decide +kernel
theorem d_Scribe_putWritten_53 : decode b_Scribe_putWritten 53 = .ok (.invokevirtual 59, 3) := by decide +kernel
theorem d_Scribe_putWritten_56 : decode b_Scribe_putWritten 56 = .ok (.aload_n 0, 1) := by decide +kernel
theorem d_Scribe_putWritten_57 : decode b_Scribe_putWritten 57 = .ok (.getfield 9, 3) := by decide +kernel
theorem d_Scribe_putWritten_60 : decode b_Scribe_putWritten 60 = .ok (.iload 4, 2) := by decide +kernel
theorem d_Scribe_putWritten_62 : decode b_Scribe_putWritten 62 = .ok (.bipush 6, 2) := by decide +kernel
theorem d_Scribe_putWritten_64 : decode b_Scribe_putWritten 64 = .ok (.invokevirtual 24, 3) := by decide +kernel
theorem d_Scribe_putWritten_67 : decode b_Scribe_putWritten 67 = .ok (.iconst (-1), 1) := by decide +kernel
theorem d_Scribe_putWritten_68 : decode b_Scribe_putWritten 68 = .ok (.if_icmp .ne 7, 3) := by decide +kernel
theorem d_Scribe_putWritten_71 : decode b_Scribe_putWritten 71 = .ok (.iload_n 3, 1) := by decide +kernel
theorem d_Scribe_putWritten_72 : decode b_Scribe_putWritten 72 = .ok (.goto 5, 3) := by decide +kernel
theorem d_Scribe_putWritten_75 : decode b_Scribe_putWritten 75 = .ok (.iload 4, 2) := by decide +kernel
theorem d_Scribe_putWritten_77 : decode b_Scribe_putWritten 77 = .ok (.istore_n 3, 1) := by decide +kernel
theorem d_Scribe_putWritten_78 : decode b_Scribe_putWritten 78 = .ok (.goto 28, 3) := by decide +kernel
theorem d_Scribe_putWritten_81 : decode b_Scribe_putWritten 81 = .ok (.aload_n 0, 1) := by decide +kernel
theorem d_Scribe_putWritten_82 : decode b_Scribe_putWritten 82 = .ok (.aload_n 0, 1) := by decide +kernel
theorem d_Scribe_putWritten_83 : decode b_Scribe_putWritten 83 = .ok (.getfield 9, 3) := by decide +kernel
theorem d_Scribe_putWritten_86 : decode b_Scribe_putWritten 86 = .ok (.iload 4, 2) := by decide +kernel
theorem d_Scribe_putWritten_88 : decode b_Scribe_putWritten 88 = .ok (.bipush 8, 2) := by decide +kernel
theorem d_Scribe_putWritten_90 : decode b_Scribe_putWritten 90 = .ok (.invokevirtual 24, 3) := by decide +kernel
theorem d_Scribe_putWritten_93 : decode b_Scribe_putWritten 93 = .ok (.aload_n 0, 1) := by decide +kernel
theorem d_Scribe_putWritten_94 : decode b_Scribe_putWritten 94 = .ok (.getfield 9, 3) := by decide +kernel
theorem d_Scribe_putWritten_97 : decode b_Scribe_putWritten 97 = .ok (.iload 4, 2) := by decide +kernel
theorem d_Scribe_putWritten_99 : decode b_Scribe_putWritten 99 = .ok (.iconst 3, 1) := by decide +kernel
theorem d_Scribe_putWritten_100 : decode b_Scribe_putWritten 100 = .ok (.invokevirtual 24, 3) := by decide +kernel
theorem d_Scribe_putWritten_103 : decode b_Scribe_putWritten 103 = .ok (.invokevirtual 63, 3) := by decide +kernel
theorem d_Scribe_putWritten_106 : decode b_Scribe_putWritten 106 = .ok (.iinc 4 1, 3) := by decide +kernel
theorem d_Scribe_putWritten_109 : decode b_Scribe_putWritten 109 = .ok (.goto (-86), 3) := by decide +kernel
theorem d_Scribe_putWritten_112 : decode b_Scribe_putWritten 112 = .ok (.aload_n 0, 1) := by decide +kernel
theorem d_Scribe_putWritten_113 : decode b_Scribe_putWritten 113 = .ok (.iload_n 3, 1) := by decide +kernel
theorem d_Scribe_putWritten_114 : decode b_Scribe_putWritten 114 = .ok (.iload_n 2, 1) := by decide +kernel
theorem d_Scribe_putWritten_115 : decode b_Scribe_putWritten 115 = .ok (.iload_n 1, 1) := by decide +kernel
theorem d_Scribe_putWritten_116 : decode b_Scribe_putWritten 116 = .ok (.invokevirtual 55, 3) := by decide +kernel
theorem d_Scribe_putWritten_119 : decode b_Scribe_putWritten 119 = .ok (.pop, 1) := by decide +kernel
theorem d_Scribe_putWritten_120 : decode b_Scribe_putWritten 120 = .ok (.return_, 1) := by decide +kernel
def w_Scribe_putWritten_J106  (v1 : Int32) (v2 : Int32) (K23 : Int32 → Int32 → PPS → Prop) (post : PPS → Prop) (v3 : Int32) (v4 : Int32) (σ : PPS) : Prop := K23 v3 (v4 + 1) σ
def w_Scribe_putWritten_J77  (v1 : Int32) (v2 : Int32) (K23 : Int32 → Int32 → PPS → Prop) (post : PPS → Prop) (v4 : Int32) (t0 : Int32) (σ : PPS) : Prop := w_Scribe_putWritten_J106 v1 v2 (K23) post t0 v4 σ
def w_Scribe_putWritten_L23  (v1 : Int32) (v2 : Int32) (post : PPS → Prop) : Nat → Int32 → Int32 → PPS → Prop
  | 0, _, _, _ => False
  | n23 + 1, v3, v4, σ => ((v2 ≤ v4 → w_Scribe_putEnds σ v3 v2 v1 (fun r116 σ116 => post σ116)) ∧ (¬ v2 ≤ v4 → w_Scribe_putEnds σ v3 v4 v1 (fun r34 σ34 => (((b2i (bEle σ34 v4)) = 0 → w_Scribe_putTold σ34 (tGet 14 (pNd σ34) v4 8) (tGet 14 (pNd σ34) v4 3) (fun σ103 => w_Scribe_putWritten_J106 v1 v2 (w_Scribe_putWritten_L23 v1 v2 post n23) post r34 v4 σ103)) ∧ (¬ (b2i (bEle σ34 v4)) = 0 → w_Scribe_putBegin σ34 v4 (fun σ53 => (((tGet 14 (pNd σ53) v4 6) = (-1) → w_Scribe_putWritten_J77 v1 v2 (w_Scribe_putWritten_L23 v1 v2 post n23) post v4 r34 σ53) ∧ (¬ (tGet 14 (pNd σ53) v4 6) = (-1) → w_Scribe_putWritten_J77 v1 v2 (w_Scribe_putWritten_L23 v1 v2 post n23) post v4 v4 σ53))))))))
def w_Scribe_putWritten  (σ : PPS) (x0 : Int32) (post : PPS → Prop) : Prop := (∀ σ4 : PPS, σ4 = sSh σ (sClr (pSh σ)) → (∃ n23, w_Scribe_putWritten_L23 x0 (tGet 14 (pNd σ4) x0 10) post n23 (-1) x0 σ4))
set_option maxHeartbeats 4000000 in
set_option maxRecDepth 100000 in
theorem c_Scribe_putWritten (l : Launch) (w : WD) (sz : Nat) (σ : PPS) (x0 : Int32)  (post : PPS → Prop) (hI : inv σ) (hE : w_Scribe_putWritten σ x0 post) : Met l y_Scribe_putWritten ws_Scribe_putWritten { frames := 7, cells := 0, slots := 0, locals := 154 } (va_Pc [.ref (wA w 15), .int x0] (gW w σ sz)) (va_Qv (fun u => post u ∧ inv u) (mB (wG w) (WW w) (wI w) (va_A (WW w σ) sz)) (va_A (WW w σ) sz)) 0 0 (va_A (WW w σ) sz) := by
  refine Met.ofW (cc := b_Scribe_putWritten) (maxL := 5) (ret := none) (by decide) rfl ?_
  intro p e s m args below meth c s₁ B hml hv
  obtain ⟨rfl, hsz, hP, hK, hD0, hC⟩ := hv
  have hx := B.exec
  have hb := B.bytes
  have hr := B.returns
  have hta : ∀ w ∈ aW, w.before _ s = true := fun w h => atoms_spec (ws := ws_Scribe_putWritten) B.pre w (List.mem_cons_of_mem _ h)
  have hown : s.vm.findClass R_Scribe = some m.cls := findClass_of_methodNamed B.named
  have hlocks := B.notSynchronized
  subst hsz
  have hD := hD0.self (sz := s.heap.size)
  generalize hAe : va_A (WW w σ) s.heap.size = A at hD hC ⊢
  have hA : ∀ q : Nat, s.heap.size ≤ q → A q := fun q h => by rw [← hAe]; exact Or.inr h
  have hS : va_S A s.heap s.heap [] := va_S.rf
  have hP : va_P (wG w) classes (WW w σ) s.heap := hP
  have hl := lv_entry ([.ref (wA w 15), .int x0]) (n := 5) (Nat.le_of_ble_eq_true rfl)
  rw [lg_entry_eq]
  generalize (lg_sl ([.ref (wA w 15), .int x0]) ++ List.replicate (5 - (lg_sl ([.ref (wA w 15), .int x0])).length) Slot.unset).toArray = ls at hl ⊢
  have hl : lv_has ls 5 [(0, .ref (wA w 15)), (1, .int x0)] := hl
  have L23 : ∀ (v1 : Int32) (v2 : Int32) (n23 : Nat) (v3 : Int32) (v4 : Int32) (σ : PPS) (H : Heap) (locs : List Loc) (hP : va_P (wG w) classes (WW w σ) H) (hD : va_D A (WW w σ)) (hS : va_S A s.heap H locs) (hI : inv σ) (ls : Array Slot) (hl : lv_has ls 5 [(0, .ref (wA w 15)), (1, .int v1), (2, .int v2), (3, .int v3), (4, .int v4)]) (hE : w_Scribe_putWritten_L23 v1 v2 post n23 v3 v4 σ), W p l e (headSpec ws_Scribe_putWritten { frames := 7, cells := 0, slots := 0, locals := 154 }).room s m ([.ref (wA w 15), .int x0] : List Value).toArray below meth c H locs 0 0 (MQ below (va_Qv (fun u => post u ∧ inv u) (mB (wG w) (WW w) (wI w) A) A) ([.ref (wA w 15), .int x0] : List Value).toArray s 0 0 A) (F0 m 23 ls []) := by
    intro v1 v2 n23
    induction n23 with
    | zero => intro v3 v4 σ H locs hP hD hS hI ls hl hE; exact hE.elim
    | succ n23 ih23 =>
      have J106 : ∀ (v3 : Int32) (v4 : Int32) (σ : PPS) (H : Heap) (locs : List Loc) (hP : va_P (wG w) classes (WW w σ) H) (hD : va_D A (WW w σ)) (hS : va_S A s.heap H locs) (hI : inv σ) (ls : Array Slot) (hl : lv_has ls 5 [(0, .ref (wA w 15)), (1, .int v1), (2, .int v2), (3, .int v3), (4, .int v4)]) (hE : w_Scribe_putWritten_J106 v1 v2 (w_Scribe_putWritten_L23 v1 v2 post n23) post v3 v4 σ), W p l e (headSpec ws_Scribe_putWritten { frames := 7, cells := 0, slots := 0, locals := 154 }).room s m ([.ref (wA w 15), .int x0] : List Value).toArray below meth c H locs 0 0 (MQ below (va_Qv (fun u => post u ∧ inv u) (mB (wG w) (WW w) (wI w) A) A) ([.ref (wA w 15), .int x0] : List Value).toArray s 0 0 A) (F0 m 106 ls []) := by
        intro  v3 v4 σ H locs hP hD hS hI ls hl hE
        unfold w_Scribe_putWritten_J106 at hE
        refine lv_iinc (v := v4 + 1) (lv' := [(4, .int (v4 + 1)), (0, .ref (wA w 15)), (1, .int v1), (2, .int v2), (3, .int v3)]) hx hb d_Scribe_putWritten_106 hl (k := 4) rfl rfl (by decide) rfl (fun ls hl => ?_)
        refine lv_goto (tgt := 23) hx hb d_Scribe_putWritten_109 (by decide) ?_
        exact ih23 v3 (v4 + 1) σ _ _ hP hD hS hI _ (lv_sub hl [1, 2, 3, 4, 0] rfl) hE
      have J77 : ∀ (v4 : Int32) (t0 : Int32) (σ : PPS) (H : Heap) (locs : List Loc) (hP : va_P (wG w) classes (WW w σ) H) (hD : va_D A (WW w σ)) (hS : va_S A s.heap H locs) (hI : inv σ) (ls : Array Slot) (hl : lv_has ls 5 [(0, .ref (wA w 15)), (1, .int v1), (2, .int v2), (4, .int v4)]) (hE : w_Scribe_putWritten_J77 v1 v2 (w_Scribe_putWritten_L23 v1 v2 post n23) post v4 t0 σ), W p l e (headSpec ws_Scribe_putWritten { frames := 7, cells := 0, slots := 0, locals := 154 }).room s m ([.ref (wA w 15), .int x0] : List Value).toArray below meth c H locs 0 0 (MQ below (va_Qv (fun u => post u ∧ inv u) (mB (wG w) (WW w) (wI w) A) A) ([.ref (wA w 15), .int x0] : List Value).toArray s 0 0 A) (F0 m 77 ls [.int t0]) := by
        intro  v4 t0 σ H locs hP hD hS hI ls hl hE
        unfold w_Scribe_putWritten_J77 at hE
        refine lv_istore_n (lv' := [(3, .int t0), (0, .ref (wA w 15)), (1, .int v1), (2, .int v2), (4, .int v4)]) hx hb d_Scribe_putWritten_77 rfl hl (by decide) rfl (fun ls hl => ?_)
        refine lv_goto (tgt := 106) hx hb d_Scribe_putWritten_78 (by decide) ?_
        exact J106  t0 v4 σ _ _ hP hD hS hI _ (lv_sub hl [1, 2, 3, 0, 4] rfl) hE
      intro v3 v4 σ H locs hP hD hS hI ls hl hE
      unfold w_Scribe_putWritten_L23 at hE
      refine lv_iload hx hb d_Scribe_putWritten_23 (lv_at hl 4 rfl) ?_
      refine lv_iload_n hx hb d_Scribe_putWritten_25 rfl (lv_at hl 2 rfl) ?_
      refine lv_icmp_ge (tgt := 112) hx hb d_Scribe_putWritten_26 (by decide) (fun cc26 => ?_) (fun cc26 => ?_)
      · have hE := hE.1 cc26
        refine lv_aload_n hx hb d_Scribe_putWritten_112 rfl (lv_at hl 0 rfl) ?_
        refine lv_iload_n hx hb d_Scribe_putWritten_113 rfl (lv_at hl 3 rfl) ?_
        refine lv_iload_n hx hb d_Scribe_putWritten_114 rfl (lv_at hl 2 rfl) ?_
        refine lv_iload_n hx hb d_Scribe_putWritten_115 rfl (lv_at hl 1 rfl) ?_
        refine mc_i (b0 := (wA w 15)) (As := [.int v3, .int v2, .int v1]) (rest := []) ⟨hx, hb, hml, hown, hta⟩ (c_Scribe_putEnds l w _ σ v3 v2 v1 _ hI hE) ok_Scribe_55 ⟨Nat.le_of_ble_eq_true rfl, Nat.le_of_ble_eq_true rfl⟩ (va_recv hK hP (ci := 6) (q0 := 15) rfl rfl) hP hK hD hS hA hC rfl hl.1 rfl (Nat.le_of_ble_eq_true rfl) d_Scribe_putWritten_116 ⟨Nat.zero_le _, Nat.zero_le _⟩ (fun r116 σ116 H locs hE hP hD hS => ?_)
        obtain ⟨hE, hI⟩ := hE
        refine lv_pop hx hb d_Scribe_putWritten_119 rfl ?_
        exact W.vret hx hb hr (fun t ht hW => ⟨⟨σ116, rfl, ⟨hE, hI⟩, by rw [ht]; exact hP, va_K.moved hW.alike hK, hD⟩, hS.F ht⟩) hS.2.2 d_Scribe_putWritten_120
      · have hE := hE.2 cc26
        refine lv_aload_n hx hb d_Scribe_putWritten_29 rfl (lv_at hl 0 rfl) ?_
        refine lv_iload_n hx hb d_Scribe_putWritten_30 rfl (lv_at hl 3 rfl) ?_
        refine lv_iload hx hb d_Scribe_putWritten_31 (lv_at hl 4 rfl) ?_
        refine lv_iload_n hx hb d_Scribe_putWritten_33 rfl (lv_at hl 1 rfl) ?_
        refine mc_i (b0 := (wA w 15)) (As := [.int v3, .int v4, .int v1]) (rest := []) ⟨hx, hb, hml, hown, hta⟩ (c_Scribe_putEnds l w _ σ v3 v4 v1 _ hI hE) ok_Scribe_55 ⟨Nat.le_of_ble_eq_true rfl, Nat.le_of_ble_eq_true rfl⟩ (va_recv hK hP (ci := 6) (q0 := 15) rfl rfl) hP hK hD hS hA hC rfl hl.1 rfl (Nat.le_of_ble_eq_true rfl) d_Scribe_putWritten_34 ⟨Nat.zero_le _, Nat.zero_le _⟩ (fun r34 σ34 H locs hE hP hD hS => ?_)
        obtain ⟨hE, hI⟩ := hE
        refine lv_istore_n (lv' := [(3, .int r34), (0, .ref (wA w 15)), (1, .int v1), (2, .int v2), (4, .int v4)]) hx hb d_Scribe_putWritten_37 rfl hl (by decide) rfl (fun ls hl => ?_)
        refine lv_aload_n hx hb d_Scribe_putWritten_38 rfl (lv_at hl 1 rfl) ?_
        refine va_get (D := (wG w)) (ci := 6) (v := .ref (wA w 6)) (C := R_Scribe) (T := F_Scribe) (N := 2) hx hb hta i_Scribe hown hK hP 15 rfl rfl 0 (by decide) (hta _ fl_Scribe_9) (fun _ h9 => h9) rfl d_Scribe_putWritten_39 ?_
        refine lv_iload hx hb d_Scribe_putWritten_42 (lv_at hl 4 rfl) ?_
        refine ro_V (b0 := (wA w 6)) (As := [.int v4]) (rest := []) ⟨hx, hb, hml, hown, hta⟩ (f_Book_isElement l w σ34 v4 hI) ok_Scribe_47 ⟨Nat.le_of_ble_eq_true rfl, Nat.le_of_ble_eq_true rfl⟩ blind_fW (va_recv hK hP (ci := 3) (q0 := 6) rfl rfl) (fW_of hP hK hC hS) rfl hl.1 rfl (Nat.le_of_ble_eq_true rfl) d_Scribe_putWritten_44 ⟨Nat.zero_le _, Nat.zero_le _⟩ (fun r44 hrr => ?_)
        subst hrr
        refine lv_if_eq (tgt := 81) hx hb d_Scribe_putWritten_47 (by decide) (fun cc47 => ?_) (fun cc47 => ?_)
        · have hE := hE.1 cc47
          refine lv_aload_n hx hb d_Scribe_putWritten_81 rfl (lv_at hl 1 rfl) ?_
          refine lv_aload_n hx hb d_Scribe_putWritten_82 rfl (lv_at hl 1 rfl) ?_
          refine va_get (D := (wG w)) (ci := 6) (v := .ref (wA w 6)) (C := R_Scribe) (T := F_Scribe) (N := 2) hx hb hta i_Scribe hown hK hP 15 rfl rfl 0 (by decide) (hta _ fl_Scribe_9) (fun _ h9 => h9) rfl d_Scribe_putWritten_83 ?_
          refine lv_iload hx hb d_Scribe_putWritten_86 (lv_at hl 4 rfl) ?_
          refine lv_bipush (v := 8) hx hb d_Scribe_putWritten_88 (by decide) ?_
          refine ro_V (b0 := (wA w 6)) (As := [.int v4, .int 8]) (rest := [.ref (wA w 15)]) ⟨hx, hb, hml, hown, hta⟩ (f_Book_ofNode l w σ34 v4 8 hI) ok_Scribe_24 ⟨Nat.le_of_ble_eq_true rfl, Nat.le_of_ble_eq_true rfl⟩ blind_fW (va_recv hK hP (ci := 3) (q0 := 6) rfl rfl) (fW_of hP hK hC hS) rfl hl.1 rfl (Nat.le_of_ble_eq_true rfl) d_Scribe_putWritten_90 ⟨Nat.zero_le _, Nat.zero_le _⟩ (fun r90 hrr => ?_)
          subst hrr
          refine lv_aload_n hx hb d_Scribe_putWritten_93 rfl (lv_at hl 1 rfl) ?_
          refine va_get (D := (wG w)) (ci := 6) (v := .ref (wA w 6)) (C := R_Scribe) (T := F_Scribe) (N := 2) hx hb hta i_Scribe hown hK hP 15 rfl rfl 0 (by decide) (hta _ fl_Scribe_9) (fun _ h9 => h9) rfl d_Scribe_putWritten_94 ?_
          refine lv_iload hx hb d_Scribe_putWritten_97 (lv_at hl 4 rfl) ?_
          refine lv_iconst (v := 3) hx hb d_Scribe_putWritten_99 (by decide) ?_
          refine ro_V (b0 := (wA w 6)) (As := [.int v4, .int 3]) (rest := [.int (tGet 14 (pNd σ34) v4 8), .ref (wA w 15)]) ⟨hx, hb, hml, hown, hta⟩ (f_Book_ofNode l w σ34 v4 3 hI) ok_Scribe_24 ⟨Nat.le_of_ble_eq_true rfl, Nat.le_of_ble_eq_true rfl⟩ blind_fW (va_recv hK hP (ci := 3) (q0 := 6) rfl rfl) (fW_of hP hK hC hS) rfl hl.1 rfl (Nat.le_of_ble_eq_true rfl) d_Scribe_putWritten_100 ⟨Nat.zero_le _, Nat.zero_le _⟩ (fun r100 hrr => ?_)
          subst hrr
          refine mc_v (b0 := (wA w 15)) (As := [.int (tGet 14 (pNd σ34) v4 8), .int (tGet 14 (pNd σ34) v4 3)]) (rest := []) ⟨hx, hb, hml, hown, hta⟩ (c_Scribe_putTold l w _ σ34 (tGet 14 (pNd σ34) v4 8) (tGet 14 (pNd σ34) v4 3) _ hI hE) ok_Scribe_63 ⟨Nat.le_of_ble_eq_true rfl, Nat.le_of_ble_eq_true rfl⟩ (va_recv hK hP (ci := 6) (q0 := 15) rfl rfl) hP hK hD hS hA hC rfl hl.1 rfl (Nat.le_of_ble_eq_true rfl) d_Scribe_putWritten_103 ⟨Nat.zero_le _, Nat.zero_le _⟩ (fun σ103 H locs hE hP hD hS => ?_)
          obtain ⟨hE, hI⟩ := hE
          exact J106  r34 v4 σ103 _ _ hP hD hS hI _ (lv_sub hl [1, 2, 3, 0, 4] rfl) hE
        · have hE := hE.2 cc47
          refine lv_aload_n hx hb d_Scribe_putWritten_50 rfl (lv_at hl 1 rfl) ?_
          refine lv_iload hx hb d_Scribe_putWritten_51 (lv_at hl 4 rfl) ?_
          refine mc_v (b0 := (wA w 15)) (As := [.int v4]) (rest := []) ⟨hx, hb, hml, hown, hta⟩ (c_Scribe_putBegin l w _ σ34 v4 _ hI hE) ok_Scribe_59 ⟨Nat.le_of_ble_eq_true rfl, Nat.le_of_ble_eq_true rfl⟩ (va_recv hK hP (ci := 6) (q0 := 15) rfl rfl) hP hK hD hS hA hC rfl hl.1 rfl (Nat.le_of_ble_eq_true rfl) d_Scribe_putWritten_53 ⟨Nat.zero_le _, Nat.zero_le _⟩ (fun σ53 H locs hE hP hD hS => ?_)
          obtain ⟨hE, hI⟩ := hE
          refine lv_aload_n hx hb d_Scribe_putWritten_56 rfl (lv_at hl 1 rfl) ?_
          refine va_get (D := (wG w)) (ci := 6) (v := .ref (wA w 6)) (C := R_Scribe) (T := F_Scribe) (N := 2) hx hb hta i_Scribe hown hK hP 15 rfl rfl 0 (by decide) (hta _ fl_Scribe_9) (fun _ h9 => h9) rfl d_Scribe_putWritten_57 ?_
          refine lv_iload hx hb d_Scribe_putWritten_60 (lv_at hl 4 rfl) ?_
          refine lv_bipush (v := 6) hx hb d_Scribe_putWritten_62 (by decide) ?_
          refine ro_V (b0 := (wA w 6)) (As := [.int v4, .int 6]) (rest := []) ⟨hx, hb, hml, hown, hta⟩ (f_Book_ofNode l w σ53 v4 6 hI) ok_Scribe_24 ⟨Nat.le_of_ble_eq_true rfl, Nat.le_of_ble_eq_true rfl⟩ blind_fW (va_recv hK hP (ci := 3) (q0 := 6) rfl rfl) (fW_of hP hK hC hS) rfl hl.1 rfl (Nat.le_of_ble_eq_true rfl) d_Scribe_putWritten_64 ⟨Nat.zero_le _, Nat.zero_le _⟩ (fun r64 hrr => ?_)
          subst hrr
          refine lv_iconst (v := -1) hx hb d_Scribe_putWritten_67 (by decide) ?_
          refine lv_icmp_ne (tgt := 75) hx hb d_Scribe_putWritten_68 (by decide) (fun cc68 => ?_) (fun cc68 => ?_)
          · have hE := hE.2 cc68
            refine lv_iload hx hb d_Scribe_putWritten_75 (lv_at hl 4 rfl) ?_
            exact J77  v4 v4 σ53 _ _ hP hD hS hI _ (lv_sub hl [1, 2, 3, 4] rfl) hE
          · have hE := hE.1 cc68
            refine lv_iload_n hx hb d_Scribe_putWritten_71 rfl (lv_at hl 0 rfl) ?_
            refine lv_goto (tgt := 77) hx hb d_Scribe_putWritten_72 (by decide) ?_
            exact J77  v4 r34 σ53 _ _ hP hD hS hI _ (lv_sub hl [1, 2, 3, 4] rfl) hE
  unfold w_Scribe_putWritten at hE
  refine lv_aload_n hx hb d_Scribe_putWritten_0 rfl (lv_at hl 0 rfl) ?_
  refine va_get (D := (wG w)) (ci := 6) (v := .ref (wA w 4)) (C := R_Scribe) (T := F_Scribe) (N := 2) hx hb hta i_Scribe hown hK hP 15 rfl rfl 1 (by decide) (hta _ fl_Scribe_15) (fun _ h9 => h9) rfl d_Scribe_putWritten_1 ?_
  refine cSh_v (As := []) (rest := []) ⟨hx, hb, hml, hown, hta⟩ (c_Strip_clear l (wG w) (wA w 4) (wA w 5) (wI w) 24000 _ (pSh σ) (fun u => u = sClr (pSh σ)) (fun _ e => e)) ok_Scribe_19 ⟨Nat.le_of_ble_eq_true rfl, Nat.le_of_ble_eq_true rfl⟩ hP hK hD hS hA rfl hl.1 rfl (Nat.le_of_ble_eq_true rfl) d_Scribe_putWritten_4 ⟨Nat.zero_le _, Nat.zero_le _⟩ (fun u H locs hrr hP hD hS => ?_)
  subst hrr
  have hP : va_P (wG w) classes (WW w (sSh σ (sClr (pSh σ)))) H := hP
  have hD : va_D A (WW w (sSh σ (sClr (pSh σ)))) := hD
  have hI : inv (sSh σ (sClr (pSh σ))) := (inv.sSh hI (sOk_clr _))
  have hE := hE _ rfl
  generalize (sSh σ (sClr (pSh σ)) : PPS) = σ4 at hP hD hI hE
  refine lv_aload_n hx hb d_Scribe_putWritten_7 rfl (lv_at hl 0 rfl) ?_
  refine va_get (D := (wG w)) (ci := 6) (v := .ref (wA w 6)) (C := R_Scribe) (T := F_Scribe) (N := 2) hx hb hta i_Scribe hown hK hP 15 rfl rfl 0 (by decide) (hta _ fl_Scribe_9) (fun _ h9 => h9) rfl d_Scribe_putWritten_8 ?_
  refine lv_iload_n hx hb d_Scribe_putWritten_11 rfl (lv_at hl 1 rfl) ?_
  refine lv_bipush (v := 10) hx hb d_Scribe_putWritten_12 (by decide) ?_
  refine ro_V (b0 := (wA w 6)) (As := [.int x0, .int 10]) (rest := []) ⟨hx, hb, hml, hown, hta⟩ (f_Book_ofNode l w σ4 x0 10 hI) ok_Scribe_24 ⟨Nat.le_of_ble_eq_true rfl, Nat.le_of_ble_eq_true rfl⟩ blind_fW (va_recv hK hP (ci := 3) (q0 := 6) rfl rfl) (fW_of hP hK hC hS) rfl hl.1 rfl (Nat.le_of_ble_eq_true rfl) d_Scribe_putWritten_14 ⟨Nat.zero_le _, Nat.zero_le _⟩ (fun r14 hrr => ?_)
  subst hrr
  refine lv_istore_n (lv' := [(2, .int (tGet 14 (pNd σ4) x0 10)), (0, .ref (wA w 15)), (1, .int x0)]) hx hb d_Scribe_putWritten_17 rfl hl (by decide) rfl (fun ls hl => ?_)
  refine lv_iconst (v := -1) hx hb d_Scribe_putWritten_18 (by decide) ?_
  refine lv_istore_n (lv' := [(3, .int (-1)), (2, .int (tGet 14 (pNd σ4) x0 10)), (0, .ref (wA w 15)), (1, .int x0)]) hx hb d_Scribe_putWritten_19 rfl hl (by decide) rfl (fun ls hl => ?_)
  refine lv_iload_n hx hb d_Scribe_putWritten_20 rfl (lv_at hl 3 rfl) ?_
  refine lv_istore (lv' := [(4, .int x0), (3, .int (-1)), (2, .int (tGet 14 (pNd σ4) x0 10)), (0, .ref (wA w 15)), (1, .int x0)]) hx hb d_Scribe_putWritten_21 hl (by decide) rfl (fun ls hl => ?_)
  obtain ⟨n23, hE⟩ := hE
  exact L23 x0 (tGet 14 (pNd σ4) x0 10) n23 (-1) x0 σ4 _ _ hP hD hS hI _ (lv_sub hl [3, 4, 2, 1, 0] rfl) hE
