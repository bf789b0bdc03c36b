-- printed by wip/gen
theorem fl_X_37 : Cond.fieldLink "PlainPages" 37 "PlainPages" "reader" "LPlainPages$Reader;" ∈ aW := aW_in 224 (by decide +kernel) rfl
theorem ok_X_80 : okV "PlainPages" 80 R_Reader y_Reader_firstFault b_Reader_firstFault 3 (some .int) 0 := ⟨aW_in 373 (by decide +kernel) rfl, aW_in 374 (by decide +kernel) rfl, aW_in 375 (by decide +kernel) rfl, aW_in 89 (by decide +kernel) rfl, cd_Reader_firstFault, rfl, by decide +kernel, by decide +kernel, by decide +kernel⟩
theorem ok_X_83 : okV "PlainPages" 83 R_X y_X_keepFault b_X_keepFault 3 (some .boolean) 2 := ⟨aW_in 612 (by decide +kernel) rfl, aW_in 614 (by decide +kernel) rfl, aW_in 22 (by decide +kernel) rfl, aW_in 84 (by decide +kernel) rfl, cd_X_keepFault, rfl, by decide +kernel, by decide +kernel, by decide +kernel⟩
set_option maxRecDepth 100000 in
theorem xc_87 : Cond.classLink "PlainPages" 87 "java/lang/IllegalArgumentException" ∈ aW := by decide +kernel
set_option maxRecDepth 100000 in
theorem xi_87 : Cond.instantiable "java/lang/IllegalArgumentException" 6 ∈ aW := by decide +kernel
set_option maxRecDepth 100000 in
theorem xn_87 : Cond.initialized "java/lang/IllegalArgumentException" ∈ aW := by decide +kernel
theorem d_X_read_0 : decode b_X_read 0 = .ok (.aload_n 0, 1) := by decide +kernel
theorem d_X_read_1 : decode b_X_read 1 = .ok (.getfield 37, 3) := by decide +kernel
theorem d_X_read_4 : decode b_X_read 4 = .ok (.invokevirtual 80, 3) := by decide +kernel
theorem d_X_read_7 : decode b_X_read 7 = .ok (.istore_n 1, 1) := by decide +kernel
theorem d_X_read_8 : decode b_X_read 8 = .ok (.aload_n 0, 1) := by decide +kernel
theorem d_X_read_9 : decode b_X_read 9 = .ok (.iconst 1, 1) := by decide +kernel
theorem d_X_read_10 : decode b_X_read 10 = .ok (.iload_n 1, 1) := by decide +kernel
theorem d_X_read_11 : decode b_X_read 11 = .ok (.invokevirtual 83, 3) := by decide +kernel
theorem d_X_read_14 : decode b_X_read 14 = .ok (.pop, 1) := by decide +kernel
theorem d_X_read_15 : decode b_X_read 15 = .ok (.iload_n 1, 1) := by decide +kernel
theorem d_X_read_16 : decode b_X_read 16 = .ok (.iconst (-1), 1) := by decide +kernel
theorem d_X_read_17 : decode b_X_read 17 = .ok (.if_icmp .eq 13, 3) := by decide +kernel
theorem d_X_read_20 : decode b_X_read 20 = .ok (.new 87, 3) := by decide +kernel
theorem d_X_read_23 : decode b_X_read 23 = .ok (.dup, 1) := by decide +kernel
theorem d_X_read_24 : decode b_X_read 24 = .ok (.ldc 89, 2) := by decide +kernel
theorem d_X_read_26 : decode b_X_read 26 = .ok (.invokespecial 91, 3) := by decide +kernel
theorem d_X_read_29 : decode b_X_read 29 = .ok (.athrow, 1) := by decide +kernel
theorem d_X_read_30 : decode b_X_read 30 = .ok (.aload_n 0, 1) := by decide +kernel
theorem d_X_read_31 : decode b_X_read 31 = .ok (.getfield 28, 3) := by decide +kernel
theorem d_X_read_34 : decode b_X_read 34 = .ok (.invokevirtual 94, 3) := by decide +kernel
theorem d_X_read_37 : decode b_X_read 37 = .ok (.ireturn, 1) := by decide +kernel
def w_X_read  (σ : PPS)  (post : (Int32 → PPS → Prop) × (PPS → Prop)) : Prop := w_Reader_firstFault σ  (fun r4 σ4 => w_X_keepFault σ4 1 r4 (fun r11 σ11 => ((r4 = (-1) → post.1 ((pNd σ11).1) σ11) ∧ (¬ r4 = (-1) → post.2 σ11))))
set_option maxHeartbeats 4000000 in
set_option maxRecDepth 100000 in
theorem c_X_read (l : Launch) (w : WD) (sz : Nat) (σ : PPS)   (post : (Int32 → PPS → Prop) × (PPS → Prop)) (hI : inv σ) (hls : l.stackTraces = false) (hE : w_X_read σ post) : MetX l y_X_read ws_X_read { frames := 9, cells := 1, slots := 6, locals := 198 } (va_Pc [.ref (wA w 0)] (xW w σ sz)) (QX w "java/lang/IllegalArgumentException" post.1 post.2 (va_A (WW w σ) sz)) 1 6 (va_A (WW w σ) sz) := by
  refine MetX.ofW (cc := b_X_read) (maxL := 2) (ret := (some .int)) (by decide) rfl ?_
  intro p e s m args below meth c s₁ B hml hv
  obtain ⟨rfl, ⟨hsz, hP, hK, hD0, hC⟩, hX⟩ := hv
  have hx := B.exec
  have hb := B.bytes
  have hr := B.returns
  have hta : ∀ w ∈ aW, w.before _ s = true := fun w h => atoms_spec (ws := ws_X_read) B.pre w (List.mem_cons_of_mem _ h)
  have hown : s.vm.findClass R_X = some m.cls := findClass_of_methodNamed B.named
  have hlocks := B.notSynchronized
  have hno := B.noHandlers (atoms_spec (ws := ws_X_read) B.pre _ List.mem_cons_self)
  subst hsz
  have hD := hD0.self (sz := s.heap.size)
  generalize hAe : va_A (WW w σ) s.heap.size = A at hD hC hX ⊢
  have hA : ∀ q : Nat, s.heap.size ≤ q → A q := fun q h => by rw [← hAe]; exact Or.inr h
  have hS : va_S A s.heap s.heap [] := va_S.rf
  have hP : va_P (wG w) classes (WW w σ) s.heap := hP
  have hl := lv_entry ([.ref (wA w 0)]) (n := 2) (Nat.le_of_ble_eq_true rfl)
  rw [lg_entry_eq]
  generalize (lg_sl ([.ref (wA w 0)]) ++ List.replicate (2 - (lg_sl ([.ref (wA w 0)])).length) Slot.unset).toArray = ls at hl ⊢
  have hl : lv_has ls 2 [(0, .ref (wA w 0))] := hl
  unfold w_X_read at hE
  refine lv_aload_n hx hb d_X_read_0 rfl (lv_at hl 0 rfl) ?_
  refine va_get (D := (wG w)) (ci := 0) (v := .ref (wA w 13)) (C := R_X) (T := F_X) (N := 9) hx hb hta i_X hown hK hP 0 rfl rfl 4 (by decide) (hta _ fl_X_37) (fun _ h9 => h9) rfl d_X_read_1 ?_
  refine mc_i (b0 := (wA w 13)) (As := []) (rest := []) ⟨hx, hb, hml, hown, hta⟩ (c_Reader_firstFault l w _ σ  _ hI hE) ok_X_80 ⟨Nat.le_of_ble_eq_true rfl, Nat.le_of_ble_eq_true rfl⟩ (va_recv hK hP (ci := 4) (q0 := 13) rfl rfl) hP hK hD hS hA hC rfl hl.1 rfl (Nat.le_of_ble_eq_true rfl) d_X_read_4 ⟨Nat.zero_le _, Nat.zero_le _⟩ (fun r4 σ4 H locs hE hP hD hS => ?_)
  obtain ⟨hE, hI⟩ := hE
  refine lv_istore_n (lv' := [(1, .int r4), (0, .ref (wA w 0))]) hx hb d_X_read_7 rfl hl (by decide) rfl (fun ls hl => ?_)
  refine lv_aload_n hx hb d_X_read_8 rfl (lv_at hl 1 rfl) ?_
  refine lv_iconst (v := 1) hx hb d_X_read_9 (by decide) ?_
  refine lv_iload_n hx hb d_X_read_10 rfl (lv_at hl 0 rfl) ?_
  refine mc_i (b0 := (wA w 0)) (As := [.int 1, .int r4]) (rest := []) ⟨hx, hb, hml, hown, hta⟩ (c_X_keepFault l w _ σ4 1 r4 _ hI hE) ok_X_83 ⟨Nat.le_of_ble_eq_true rfl, Nat.le_of_ble_eq_true rfl⟩ (va_recv hK hP (ci := 0) (q0 := 0) rfl rfl) hP hK hD hS hA hC rfl hl.1 rfl (Nat.le_of_ble_eq_true rfl) d_X_read_11 ⟨Nat.zero_le _, Nat.zero_le _⟩ (fun r11 σ11 H locs hE hP hD hS => ?_)
  obtain ⟨hE, hI⟩ := hE
  refine lv_pop hx hb d_X_read_14 rfl ?_
  refine lv_iload_n hx hb d_X_read_15 rfl (lv_at hl 0 rfl) ?_
  refine lv_iconst (v := -1) hx hb d_X_read_16 (by decide) ?_
  refine lv_icmp_eq (tgt := 30) hx hb d_X_read_17 (by decide) (fun cc17 => ?_) (fun cc17 => ?_)
  · have hE := hE.1 cc17
    refine lv_aload_n hx hb d_X_read_30 rfl (lv_at hl 1 rfl) ?_
    refine va_get (D := (wG w)) (ci := 0) (v := .ref (wA w 6)) (C := R_X) (T := F_X) (N := 9) hx hb hta i_X hown hK hP 0 rfl rfl 3 (by decide) (hta _ fl_X_28) (fun _ h9 => h9) rfl d_X_read_31 ?_
    refine ro_V (b0 := (wA w 6)) (As := []) (rest := []) ⟨hx, hb, hml, hown, hta⟩ (f_Book_size l w σ11  hI) ok_X_94 ⟨Nat.le_of_ble_eq_true rfl, Nat.le_of_ble_eq_true rfl⟩ blind_fW (va_recv hK hP (ci := 3) (q0 := 6) rfl rfl) (fW_of hP hK hC hS) rfl hl.1 rfl (Nat.le_of_ble_eq_true rfl) d_X_read_34 ⟨Nat.zero_le _, Nat.zero_le _⟩ (fun r34 hrr => ?_)
    subst hrr
    refine W.widen (k := 1) (n := 6) (Nat.zero_le _) (Nat.zero_le _) (w_toX ?_)
    exact W.iret (v := (pNd σ11).1) hx hb hr (fun t ht hW => ⟨Or.inl ⟨_, σ11, rfl, ⟨hE, hI⟩, by rw [ht]; exact hP, va_K.moved hW.alike hK, hD⟩, hS.F ht⟩) hS.2.2 d_X_read_37
  · have hE := hE.2 cc17
    exact x_throw (ti := 7) (ix := 87) (kx := 89) (ic := 91) hx hb hls exOk_A hown (by rw [hml]; exact hl.1) hta hC hX (by decide) rfl (by decide) xc_87 xi_87 xn_87 hno hlocks (Nat.le_of_ble_eq_true rfl) (Nat.le_of_ble_eq_true rfl) (Nat.le_of_ble_eq_true rfl) (Nat.le_of_ble_eq_true rfl) d_X_read_20 d_X_read_23 d_X_read_24 d_X_read_26 d_X_read_29 hP hK hD hS hI hE
theorem fl_X_46 : Cond.fieldLink "PlainPages" 46 "PlainPages" "inspector" "LPlainPages$Inspector;" ∈ aW := aW_in 225 (by decide +kernel) rfl
theorem ok_X_100 : okV "PlainPages" 100 R_Insp y_Insp_firstUnfit b_Insp_firstUnfit 4 (some .int) 0 := ⟨aW_in 708 (by decide +kernel) rfl, aW_in 709 (by decide +kernel) rfl, aW_in 710 (by decide +kernel) rfl, aW_in 90 (by decide +kernel) rfl, cd_Insp_firstUnfit, rfl, by decide +kernel, by decide +kernel, by decide +kernel⟩
set_option maxRecDepth 100000 in
theorem xc_95 : Cond.classLink "PlainPages" 95 "java/lang/IllegalStateException" ∈ aW := by decide +kernel
set_option maxRecDepth 100000 in
theorem xi_95 : Cond.instantiable "java/lang/IllegalStateException" 6 ∈ aW := by decide +kernel
set_option maxRecDepth 100000 in
theorem xn_95 : Cond.initialized "java/lang/IllegalStateException" ∈ aW := by decide +kernel
theorem d_X_isPage_0 : decode b_X_isPage 0 = .ok (.aload_n 0, 1) := by decide +kernel
theorem d_X_isPage_1 : decode b_X_isPage 1 = .ok (.getfield 28, 3) := by decide +kernel
theorem d_X_isPage_4 : decode b_X_isPage 4 = .ok (.invokevirtual 94, 3) := by decide +kernel
theorem d_X_isPage_7 : decode b_X_isPage 7 = .ok (.ifCond .ne 13, 3) := by decide +kernel
theorem d_X_isPage_10 : decode b_X_isPage 10 = .ok (.new 95, 3) := by decide +kernel
theorem d_X_isPage_13 : decode b_X_isPage 13 = .ok (.dup, 1) := by decide +kernel
theorem d_X_isPage_14 : decode b_X_isPage 14 = .ok (.ldc 97, 2) := by decide +kernel
theorem d_X_isPage_16 : decode b_X_isPage 16 = .ok (.invokespecial 99, 3) := by decide +kernel
theorem d_X_isPage_19 : decode b_X_isPage 19 = .ok (.athrow, 1) := by decide +kernel
theorem d_X_isPage_20 : decode b_X_isPage 20 = .ok (.aload_n 0, 1) := by decide +kernel
theorem d_X_isPage_21 : decode b_X_isPage 21 = .ok (.iconst 2, 1) := by decide +kernel
theorem d_X_isPage_22 : decode b_X_isPage 22 = .ok (.aload_n 0, 1) := by decide +kernel
theorem d_X_isPage_23 : decode b_X_isPage 23 = .ok (.getfield 46, 3) := by decide +kernel
theorem d_X_isPage_26 : decode b_X_isPage 26 = .ok (.invokevirtual 100, 3) := by decide +kernel
theorem d_X_isPage_29 : decode b_X_isPage 29 = .ok (.invokevirtual 83, 3) := by decide +kernel
theorem d_X_isPage_32 : decode b_X_isPage 32 = .ok (.ireturn, 1) := by decide +kernel
def w_X_isPage  (σ : PPS)  (post : (Int32 → PPS → Prop) × (PPS → Prop)) : Prop := ((((pNd σ).1) = 0 → post.2 σ) ∧ (¬ ((pNd σ).1) = 0 → w_Insp_firstUnfit σ  (fun r26 => w_X_keepFault σ 2 r26 (fun r29 σ29 => (narrow .boolean (.int r29) = .int r29 ∧ post.1 r29 σ29)))))
set_option maxHeartbeats 4000000 in
set_option maxRecDepth 100000 in
theorem c_X_isPage (l : Launch) (w : WD) (sz : Nat) (σ : PPS)   (post : (Int32 → PPS → Prop) × (PPS → Prop)) (hI : inv σ) (hls : l.stackTraces = false) (hE : w_X_isPage σ post) : MetX l y_X_isPage ws_X_isPage { frames := 9, cells := 1, slots := 6, locals := 201 } (va_Pc [.ref (wA w 0)] (xW w σ sz)) (QX w "java/lang/IllegalStateException" post.1 post.2 (va_A (WW w σ) sz)) 1 6 (va_A (WW w σ) sz) := by
  refine MetX.ofW (cc := b_X_isPage) (maxL := 1) (ret := (some .boolean)) (by decide) rfl ?_
  intro p e s m args below meth c s₁ B hml hv
  obtain ⟨rfl, ⟨hsz, hP, hK, hD0, hC⟩, hX⟩ := hv
  have hx := B.exec
  have hb := B.bytes
  have hr := B.returns
  have hta : ∀ w ∈ aW, w.before _ s = true := fun w h => atoms_spec (ws := ws_X_isPage) B.pre w (List.mem_cons_of_mem _ h)
  have hown : s.vm.findClass R_X = some m.cls := findClass_of_methodNamed B.named
  have hlocks := B.notSynchronized
  have hno := B.noHandlers (atoms_spec (ws := ws_X_isPage) B.pre _ List.mem_cons_self)
  subst hsz
  have hD := hD0.self (sz := s.heap.size)
  generalize hAe : va_A (WW w σ) s.heap.size = A at hD hC hX ⊢
  have hA : ∀ q : Nat, s.heap.size ≤ q → A q := fun q h => by rw [← hAe]; exact Or.inr h
  have hS : va_S A s.heap s.heap [] := va_S.rf
  have hP : va_P (wG w) classes (WW w σ) s.heap := hP
  have hl := lv_entry ([.ref (wA w 0)]) (n := 1) (Nat.le_of_ble_eq_true rfl)
  rw [lg_entry_eq]
  generalize (lg_sl ([.ref (wA w 0)]) ++ List.replicate (1 - (lg_sl ([.ref (wA w 0)])).length) Slot.unset).toArray = ls at hl ⊢
  have hl : lv_has ls 1 [(0, .ref (wA w 0))] := hl
  unfold w_X_isPage at hE
  refine lv_aload_n hx hb d_X_isPage_0 rfl (lv_at hl 0 rfl) ?_
  refine va_get (D := (wG w)) (ci := 0) (v := .ref (wA w 6)) (C := R_X) (T := F_X) (N := 9) hx hb hta i_X hown hK hP 0 rfl rfl 3 (by decide) (hta _ fl_X_28) (fun _ h9 => h9) rfl d_X_isPage_1 ?_
  refine ro_V (b0 := (wA w 6)) (As := []) (rest := []) ⟨hx, hb, hml, hown, hta⟩ (f_Book_size l w σ  hI) ok_X_94 ⟨Nat.le_of_ble_eq_true rfl, Nat.le_of_ble_eq_true rfl⟩ blind_fW (va_recv hK hP (ci := 3) (q0 := 6) rfl rfl) (fW_of hP hK hC hS) rfl hl.1 rfl (Nat.le_of_ble_eq_true rfl) d_X_isPage_4 ⟨Nat.zero_le _, Nat.zero_le _⟩ (fun r4 hrr => ?_)
  subst hrr
  refine lv_if_ne (tgt := 20) hx hb d_X_isPage_7 (by decide) (fun cc7 => ?_) (fun cc7 => ?_)
  · have hE := hE.2 cc7
    refine lv_aload_n hx hb d_X_isPage_20 rfl (lv_at hl 0 rfl) ?_
    refine lv_iconst (v := 2) hx hb d_X_isPage_21 (by decide) ?_
    refine lv_aload_n hx hb d_X_isPage_22 rfl (lv_at hl 0 rfl) ?_
    refine va_get (D := (wG w)) (ci := 0) (v := .ref (wA w 14)) (C := R_X) (T := F_X) (N := 9) hx hb hta i_X hown hK hP 0 rfl rfl 5 (by decide) (hta _ fl_X_46) (fun _ h9 => h9) rfl d_X_isPage_23 ?_
    refine ro_V (b0 := (wA w 14)) (As := []) (rest := [.int 2, .ref (wA w 0)]) ⟨hx, hb, hml, hown, hta⟩ (c_Insp_firstUnfit l w σ   _ hI hE) ok_X_100 ⟨Nat.le_of_ble_eq_true rfl, Nat.le_of_ble_eq_true rfl⟩ blind_fW (va_recv hK hP (ci := 5) (q0 := 14) rfl rfl) (fW_of hP hK hC hS) rfl hl.1 rfl (Nat.le_of_ble_eq_true rfl) d_X_isPage_26 ⟨Nat.zero_le _, Nat.zero_le _⟩ (fun r26 hE => ?_)
    refine mc_i (b0 := (wA w 0)) (As := [.int 2, .int r26]) (rest := []) ⟨hx, hb, hml, hown, hta⟩ (c_X_keepFault l w _ σ 2 r26 _ hI hE) ok_X_83 ⟨Nat.le_of_ble_eq_true rfl, Nat.le_of_ble_eq_true rfl⟩ (va_recv hK hP (ci := 0) (q0 := 0) rfl rfl) hP hK hD hS hA hC rfl hl.1 rfl (Nat.le_of_ble_eq_true rfl) d_X_isPage_29 ⟨Nat.zero_le _, Nat.zero_le _⟩ (fun r29 σ29 H locs hE hP hD hS => ?_)
    obtain ⟨hE, hI⟩ := hE
    refine W.widen (k := 1) (n := 6) (Nat.zero_le _) (Nat.zero_le _) (w_toX ?_)
    obtain ⟨hN, hE⟩ := hE
    exact W.zret (v := r29) hx hb hr hN (fun t ht hW => ⟨Or.inl ⟨_, σ29, rfl, ⟨hE, hI⟩, by rw [ht]; exact hP, va_K.moved hW.alike hK, hD⟩, hS.F ht⟩) hS.2.2 d_X_isPage_32
  · have hE := hE.1 cc7
    exact x_throw (ti := 8) (ix := 95) (kx := 97) (ic := 99) hx hb hls exOk_S hown (by rw [hml]; exact hl.1) hta hC hX (by decide) rfl (by decide) xc_95 xi_95 xn_95 hno hlocks (Nat.le_of_ble_eq_true rfl) (Nat.le_of_ble_eq_true rfl) (Nat.le_of_ble_eq_true rfl) (Nat.le_of_ble_eq_true rfl) d_X_isPage_10 d_X_isPage_13 d_X_isPage_14 d_X_isPage_16 d_X_isPage_19 hP hK hD hS hI hE
theorem ok_X_103 : okV "PlainPages" 103 R_Insp y_Insp_firstAstray b_Insp_firstAstray 2 (some .int) 0 := ⟨aW_in 792 (by decide +kernel) rfl, aW_in 793 (by decide +kernel) rfl, aW_in 794 (by decide +kernel) rfl, aW_in 90 (by decide +kernel) rfl, cd_Insp_firstAstray, rfl, by decide +kernel, by decide +kernel, by decide +kernel⟩
theorem d_X_isLinked_0 : decode b_X_isLinked 0 = .ok (.aload_n 0, 1) := by decide +kernel
theorem d_X_isLinked_1 : decode b_X_isLinked 1 = .ok (.getfield 28, 3) := by decide +kernel
theorem d_X_isLinked_4 : decode b_X_isLinked 4 = .ok (.invokevirtual 94, 3) := by decide +kernel
theorem d_X_isLinked_7 : decode b_X_isLinked 7 = .ok (.ifCond .ne 13, 3) := by decide +kernel
theorem d_X_isLinked_10 : decode b_X_isLinked 10 = .ok (.new 95, 3) := by decide +kernel
theorem d_X_isLinked_13 : decode b_X_isLinked 13 = .ok (.dup, 1) := by decide +kernel
theorem d_X_isLinked_14 : decode b_X_isLinked 14 = .ok (.ldc 97, 2) := by decide +kernel
theorem d_X_isLinked_16 : decode b_X_isLinked 16 = .ok (.invokespecial 99, 3) := by decide +kernel
theorem d_X_isLinked_19 : decode b_X_isLinked 19 = .ok (.athrow, 1) := by decide +kernel
theorem d_X_isLinked_20 : decode b_X_isLinked 20 = .ok (.aload_n 0, 1) := by decide +kernel
theorem d_X_isLinked_21 : decode b_X_isLinked 21 = .ok (.iconst 3, 1) := by decide +kernel
theorem d_X_isLinked_22 : decode b_X_isLinked 22 = .ok (.aload_n 0, 1) := by decide +kernel
theorem d_X_isLinked_23 : decode b_X_isLinked 23 = .ok (.getfield 46, 3) := by decide +kernel
theorem d_X_isLinked_26 : decode b_X_isLinked 26 = .ok (.invokevirtual 103, 3) := by decide +kernel
theorem d_X_isLinked_29 : decode b_X_isLinked 29 = .ok (.invokevirtual 83, 3) := by decide +kernel
theorem d_X_isLinked_32 : decode b_X_isLinked 32 = .ok (.ireturn, 1) := by decide +kernel
def w_X_isLinked  (σ : PPS)  (post : (Int32 → PPS → Prop) × (PPS → Prop)) : Prop := ((((pNd σ).1) = 0 → post.2 σ) ∧ (¬ ((pNd σ).1) = 0 → w_Insp_firstAstray σ  (fun r26 => w_X_keepFault σ 3 r26 (fun r29 σ29 => (narrow .boolean (.int r29) = .int r29 ∧ post.1 r29 σ29)))))
set_option maxHeartbeats 4000000 in
set_option maxRecDepth 100000 in
theorem c_X_isLinked (l : Launch) (w : WD) (sz : Nat) (σ : PPS)   (post : (Int32 → PPS → Prop) × (PPS → Prop)) (hI : inv σ) (hls : l.stackTraces = false) (hE : w_X_isLinked σ post) : MetX l y_X_isLinked ws_X_isLinked { frames := 9, cells := 1, slots := 6, locals := 200 } (va_Pc [.ref (wA w 0)] (xW w σ sz)) (QX w "java/lang/IllegalStateException" post.1 post.2 (va_A (WW w σ) sz)) 1 6 (va_A (WW w σ) sz) := by
  refine MetX.ofW (cc := b_X_isLinked) (maxL := 1) (ret := (some .boolean)) (by decide) rfl ?_
  intro p e s m args below meth c s₁ B hml hv
  obtain ⟨rfl, ⟨hsz, hP, hK, hD0, hC⟩, hX⟩ := hv
  have hx := B.exec
  have hb := B.bytes
  have hr := B.returns
  have hta : ∀ w ∈ aW, w.before _ s = true := fun w h => atoms_spec (ws := ws_X_isLinked) B.pre w (List.mem_cons_of_mem _ h)
  have hown : s.vm.findClass R_X = some m.cls := findClass_of_methodNamed B.named
  have hlocks := B.notSynchronized
  have hno := B.noHandlers (atoms_spec (ws := ws_X_isLinked) B.pre _ List.mem_cons_self)
  subst hsz
  have hD := hD0.self (sz := s.heap.size)
  generalize hAe : va_A (WW w σ) s.heap.size = A at hD hC hX ⊢
  have hA : ∀ q : Nat, s.heap.size ≤ q → A q := fun q h => by rw [← hAe]; exact Or.inr h
  have hS : va_S A s.heap s.heap [] := va_S.rf
  have hP : va_P (wG w) classes (WW w σ) s.heap := hP
  have hl := lv_entry ([.ref (wA w 0)]) (n := 1) (Nat.le_of_ble_eq_true rfl)
  rw [lg_entry_eq]
  generalize (lg_sl ([.ref (wA w 0)]) ++ List.replicate (1 - (lg_sl ([.ref (wA w 0)])).length) Slot.unset).toArray = ls at hl ⊢
  have hl : lv_has ls 1 [(0, .ref (wA w 0))] := hl
  unfold w_X_isLinked at hE
  refine lv_aload_n hx hb d_X_isLinked_0 rfl (lv_at hl 0 rfl) ?_
  refine va_get (D := (wG w)) (ci := 0) (v := .ref (wA w 6)) (C := R_X) (T := F_X) (N := 9) hx hb hta i_X hown hK hP 0 rfl rfl 3 (by decide) (hta _ fl_X_28) (fun _ h9 => h9) rfl d_X_isLinked_1 ?_
  refine ro_V (b0 := (wA w 6)) (As := []) (rest := []) ⟨hx, hb, hml, hown, hta⟩ (f_Book_size l w σ  hI) ok_X_94 ⟨Nat.le_of_ble_eq_true rfl, Nat.le_of_ble_eq_true rfl⟩ blind_fW (va_recv hK hP (ci := 3) (q0 := 6) rfl rfl) (fW_of hP hK hC hS) rfl hl.1 rfl (Nat.le_of_ble_eq_true rfl) d_X_isLinked_4 ⟨Nat.zero_le _, Nat.zero_le _⟩ (fun r4 hrr => ?_)
  subst hrr
  refine lv_if_ne (tgt := 20) hx hb d_X_isLinked_7 (by decide) (fun cc7 => ?_) (fun cc7 => ?_)
  · have hE := hE.2 cc7
    refine lv_aload_n hx hb d_X_isLinked_20 rfl (lv_at hl 0 rfl) ?_
    refine lv_iconst (v := 3) hx hb d_X_isLinked_21 (by decide) ?_
    refine lv_aload_n hx hb d_X_isLinked_22 rfl (lv_at hl 0 rfl) ?_
    refine va_get (D := (wG w)) (ci := 0) (v := .ref (wA w 14)) (C := R_X) (T := F_X) (N := 9) hx hb hta i_X hown hK hP 0 rfl rfl 5 (by decide) (hta _ fl_X_46) (fun _ h9 => h9) rfl d_X_isLinked_23 ?_
    refine ro_V (b0 := (wA w 14)) (As := []) (rest := [.int 3, .ref (wA w 0)]) ⟨hx, hb, hml, hown, hta⟩ (c_Insp_firstAstray l w σ   _ hI hE) ok_X_103 ⟨Nat.le_of_ble_eq_true rfl, Nat.le_of_ble_eq_true rfl⟩ blind_fW (va_recv hK hP (ci := 5) (q0 := 14) rfl rfl) (fW_of hP hK hC hS) rfl hl.1 rfl (Nat.le_of_ble_eq_true rfl) d_X_isLinked_26 ⟨Nat.zero_le _, Nat.zero_le _⟩ (fun r26 hE => ?_)
    refine mc_i (b0 := (wA w 0)) (As := [.int 3, .int r26]) (rest := []) ⟨hx, hb, hml, hown, hta⟩ (c_X_keepFault l w _ σ 3 r26 _ hI hE) ok_X_83 ⟨Nat.le_of_ble_eq_true rfl, Nat.le_of_ble_eq_true rfl⟩ (va_recv hK hP (ci := 0) (q0 := 0) rfl rfl) hP hK hD hS hA hC rfl hl.1 rfl (Nat.le_of_ble_eq_true rfl) d_X_isLinked_29 ⟨Nat.zero_le _, Nat.zero_le _⟩ (fun r29 σ29 H locs hE hP hD hS => ?_)
    obtain ⟨hE, hI⟩ := hE
    refine W.widen (k := 1) (n := 6) (Nat.zero_le _) (Nat.zero_le _) (w_toX ?_)
    obtain ⟨hN, hE⟩ := hE
    exact W.zret (v := r29) hx hb hr hN (fun t ht hW => ⟨Or.inl ⟨_, σ29, rfl, ⟨hE, hI⟩, by rw [ht]; exact hP, va_K.moved hW.alike hK, hD⟩, hS.F ht⟩) hS.2.2 d_X_isLinked_32
  · have hE := hE.1 cc7
    exact x_throw (ti := 8) (ix := 95) (kx := 97) (ic := 99) hx hb hls exOk_S hown (by rw [hml]; exact hl.1) hta hC hX (by decide) rfl (by decide) xc_95 xi_95 xn_95 hno hlocks (Nat.le_of_ble_eq_true rfl) (Nat.le_of_ble_eq_true rfl) (Nat.le_of_ble_eq_true rfl) (Nat.le_of_ble_eq_true rfl) d_X_isLinked_10 d_X_isLinked_13 d_X_isLinked_14 d_X_isLinked_16 d_X_isLinked_19 hP hK hD hS hI hE
theorem fl_X_55 : Cond.fieldLink "PlainPages" 55 "PlainPages" "scribe" "LPlainPages$Scribe;" ∈ aW := aW_in 226 (by decide +kernel) rfl
theorem ok_X_129 : okV "PlainPages" 129 R_Scribe y_Scribe_putPlain b_Scribe_putPlain 6 none 1 := ⟨aW_in 830 (by decide +kernel) rfl, aW_in 831 (by decide +kernel) rfl, aW_in 832 (by decide +kernel) rfl, aW_in 91 (by decide +kernel) rfl, cd_Scribe_putPlain, rfl, by decide +kernel, by decide +kernel, by decide +kernel⟩
set_option maxRecDepth 100000 in
theorem xc_124 : Cond.classLink "PlainPages" 124 "java/lang/IndexOutOfBoundsException" ∈ aW := by decide +kernel
set_option maxRecDepth 100000 in
theorem xi_124 : Cond.instantiable "java/lang/IndexOutOfBoundsException" 6 ∈ aW := by decide +kernel
set_option maxRecDepth 100000 in
theorem xn_124 : Cond.initialized "java/lang/IndexOutOfBoundsException" ∈ aW := by decide +kernel
theorem d_X_plain_0 : decode b_X_plain 0 = .ok (.iload_n 1, 1) := by decide +kernel
theorem d_X_plain_1 : decode b_X_plain 1 = .ok (.ifCond .lt 14, 3) := by decide +kernel
theorem d_X_plain_4 : decode b_X_plain 4 = .ok (.iload_n 1, 1) := by decide +kernel
theorem d_X_plain_5 : decode b_X_plain 5 = .ok (.aload_n 0, 1) := by decide +kernel
theorem d_X_plain_6 : decode b_X_plain 6 = .ok (.getfield 28, 3) := by decide +kernel
theorem d_X_plain_9 : decode b_X_plain 9 = .ok (.invokevirtual 94, 3) := by decide +kernel
theorem d_X_plain_12 : decode b_X_plain 12 = .ok (.if_icmp .lt 13, 3) := by decide +kernel
theorem d_X_plain_15 : decode b_X_plain 15 = .ok (.new 124, 3) := by decide +kernel
theorem d_X_plain_18 : decode b_X_plain 18 = .ok (.dup, 1) := by decide +kernel
theorem d_X_plain_19 : decode b_X_plain 19 = .ok (.ldc 126, 2) := by decide +kernel
theorem d_X_plain_21 : decode b_X_plain 21 = .ok (.invokespecial 128, 3) := by decide +kernel
theorem d_X_plain_24 : decode b_X_plain 24 = .ok (.athrow, 1) := by decide +kernel
theorem d_X_plain_25 : decode b_X_plain 25 = .ok (.aload_n 0, 1) := by decide +kernel
theorem d_X_plain_26 : decode b_X_plain 26 = .ok (.getfield 55, 3) := by decide +kernel
theorem d_X_plain_29 : decode b_X_plain 29 = .ok (.iload_n 1, 1) := by decide +kernel
theorem d_X_plain_30 : decode b_X_plain 30 = .ok (.invokevirtual 129, 3) := by decide +kernel
theorem d_X_plain_33 : decode b_X_plain 33 = .ok (.aload_n 0, 1) := by decide +kernel
theorem d_X_plain_34 : decode b_X_plain 34 = .ok (.getfield 22, 3) := by decide +kernel
theorem d_X_plain_37 : decode b_X_plain 37 = .ok (.invokevirtual 70, 3) := by decide +kernel
theorem d_X_plain_40 : decode b_X_plain 40 = .ok (.ireturn, 1) := by decide +kernel
def w_X_plain_J15   (post : (Int32 → PPS → Prop) × (PPS → Prop)) (σ : PPS) : Prop := post.2 σ
def w_X_plain  (σ : PPS) (x0 : Int32) (post : (Int32 → PPS → Prop) × (PPS → Prop)) : Prop := ((x0 < 0 → w_X_plain_J15 post σ) ∧ (¬ x0 < 0 → ((x0 < ((pNd σ).1) → w_Scribe_putPlain σ x0 (fun σ30 => post.1 ((pSh σ30).1) σ30)) ∧ (¬ x0 < ((pNd σ).1) → w_X_plain_J15 post σ))))
set_option maxHeartbeats 4000000 in
set_option maxRecDepth 100000 in
theorem c_X_plain (l : Launch) (w : WD) (sz : Nat) (σ : PPS) (x0 : Int32)  (post : (Int32 → PPS → Prop) × (PPS → Prop)) (hI : inv σ) (hls : l.stackTraces = false) (hE : w_X_plain σ x0 post) : MetX l y_X_plain ws_X_plain { frames := 9, cells := 1, slots := 6, locals := 204 } (va_Pc [.ref (wA w 0), .int x0] (xW w σ sz)) (QX w "java/lang/IndexOutOfBoundsException" post.1 post.2 (va_A (WW w σ) sz)) 1 6 (va_A (WW w σ) sz) := by
  refine MetX.ofW (cc := b_X_plain) (maxL := 2) (ret := (some .int)) (by decide) rfl ?_
  intro p e s m args below meth c s₁ B hml hv
  obtain ⟨rfl, ⟨hsz, hP, hK, hD0, hC⟩, hX⟩ := hv
  have hx := B.exec
  have hb := B.bytes
  have hr := B.returns
  have hta : ∀ w ∈ aW, w.before _ s = true := fun w h => atoms_spec (ws := ws_X_plain) B.pre w (List.mem_cons_of_mem _ h)
  have hown : s.vm.findClass R_X = some m.cls := findClass_of_methodNamed B.named
  have hlocks := B.notSynchronized
  have hno := B.noHandlers (atoms_spec (ws := ws_X_plain) B.pre _ List.mem_cons_self)
  subst hsz
  have hD := hD0.self (sz := s.heap.size)
  generalize hAe : va_A (WW w σ) s.heap.size = A at hD hC hX ⊢
  have hA : ∀ q : Nat, s.heap.size ≤ q → A q := fun q h => by rw [← hAe]; exact Or.inr h
  have hS : va_S A s.heap s.heap [] := va_S.rf
  have hP : va_P (wG w) classes (WW w σ) s.heap := hP
  have hl := lv_entry ([.ref (wA w 0), .int x0]) (n := 2) (Nat.le_of_ble_eq_true rfl)
  rw [lg_entry_eq]
  generalize (lg_sl ([.ref (wA w 0), .int x0]) ++ List.replicate (2 - (lg_sl ([.ref (wA w 0), .int x0])).length) Slot.unset).toArray = ls at hl ⊢
  have hl : lv_has ls 2 [(0, .ref (wA w 0)), (1, .int x0)] := hl
  have J15 : ∀ (σ : PPS) (H : Heap) (locs : List Loc) (hP : va_P (wG w) classes (WW w σ) H) (hD : va_D A (WW w σ)) (hS : va_S A s.heap H locs) (hI : inv σ) (ls : Array Slot) (hl : lv_has ls 2 []) (hE : w_X_plain_J15 post σ), W p l e (headSpec ws_X_plain { frames := 9, cells := 1, slots := 6, locals := 204 }).room s m ([.ref (wA w 0), .int x0] : List Value).toArray below meth c H locs 0 0 (MQX below (QX w "java/lang/IndexOutOfBoundsException" post.1 post.2 A) ([.ref (wA w 0), .int x0] : List Value).toArray s 1 6 A) (F0 m 15 ls []) := by
    intro  σ H locs hP hD hS hI ls hl hE
    unfold w_X_plain_J15 at hE
    exact x_throw (ti := 16) (ix := 124) (kx := 126) (ic := 128) hx hb hls exOk_I hown (by rw [hml]; exact hl.1) hta hC hX (by decide) rfl (by decide) xc_124 xi_124 xn_124 hno hlocks (Nat.le_of_ble_eq_true rfl) (Nat.le_of_ble_eq_true rfl) (Nat.le_of_ble_eq_true rfl) (Nat.le_of_ble_eq_true rfl) d_X_plain_15 d_X_plain_18 d_X_plain_19 d_X_plain_21 d_X_plain_24 hP hK hD hS hI hE
  unfold w_X_plain at hE
  refine lv_iload_n hx hb d_X_plain_0 rfl (lv_at hl 1 rfl) ?_
  refine lv_if_lt (tgt := 15) hx hb d_X_plain_1 (by decide) (fun cc1 => ?_) (fun cc1 => ?_)
  · have hE := hE.1 cc1
    exact J15  σ _ _ hP hD hS hI _ (lv_sub hl [] rfl) hE
  · have hE := hE.2 cc1
    refine lv_iload_n hx hb d_X_plain_4 rfl (lv_at hl 1 rfl) ?_
    refine lv_aload_n hx hb d_X_plain_5 rfl (lv_at hl 0 rfl) ?_
    refine va_get (D := (wG w)) (ci := 0) (v := .ref (wA w 6)) (C := R_X) (T := F_X) (N := 9) hx hb hta i_X hown hK hP 0 rfl rfl 3 (by decide) (hta _ fl_X_28) (fun _ h9 => h9) rfl d_X_plain_6 ?_
    refine ro_V (b0 := (wA w 6)) (As := []) (rest := [.int x0]) ⟨hx, hb, hml, hown, hta⟩ (f_Book_size l w σ  hI) ok_X_94 ⟨Nat.le_of_ble_eq_true rfl, Nat.le_of_ble_eq_true rfl⟩ blind_fW (va_recv hK hP (ci := 3) (q0 := 6) rfl rfl) (fW_of hP hK hC hS) rfl hl.1 rfl (Nat.le_of_ble_eq_true rfl) d_X_plain_9 ⟨Nat.zero_le _, Nat.zero_le _⟩ (fun r9 hrr => ?_)
    subst hrr
    refine lv_icmp_lt (tgt := 25) hx hb d_X_plain_12 (by decide) (fun cc12 => ?_) (fun cc12 => ?_)
    · have hE := hE.1 cc12
      refine lv_aload_n hx hb d_X_plain_25 rfl (lv_at hl 0 rfl) ?_
      refine va_get (D := (wG w)) (ci := 0) (v := .ref (wA w 15)) (C := R_X) (T := F_X) (N := 9) hx hb hta i_X hown hK hP 0 rfl rfl 6 (by decide) (hta _ fl_X_55) (fun _ h9 => h9) rfl d_X_plain_26 ?_
      refine lv_iload_n hx hb d_X_plain_29 rfl (lv_at hl 1 rfl) ?_
      refine mc_v (b0 := (wA w 15)) (As := [.int x0]) (rest := []) ⟨hx, hb, hml, hown, hta⟩ (c_Scribe_putPlain l w _ σ x0 _ hI hE) ok_X_129 ⟨Nat.le_of_ble_eq_true rfl, Nat.le_of_ble_eq_true rfl⟩ (va_recv hK hP (ci := 6) (q0 := 15) rfl rfl) hP hK hD hS hA hC rfl hl.1 rfl (Nat.le_of_ble_eq_true rfl) d_X_plain_30 ⟨Nat.zero_le _, Nat.zero_le _⟩ (fun σ30 H locs hE hP hD hS => ?_)
      obtain ⟨hE, hI⟩ := hE
      refine lv_aload_n hx hb d_X_plain_33 rfl (lv_at hl 0 rfl) ?_
      refine va_get (D := (wG w)) (ci := 0) (v := .ref (wA w 4)) (C := R_X) (T := F_X) (N := 9) hx hb hta i_X hown hK hP 0 rfl rfl 2 (by decide) (hta _ fl_X_22) (fun _ h9 => h9) rfl d_X_plain_34 ?_
      refine ro_V (b0 := (wA w 4)) (As := []) (rest := []) ⟨hx, hb, hml, hown, hta⟩ (c_Strip_size l (wG w) (wA w 4) (wA w 5) (wI w) 24000 (pSh σ30)  (fun r => r = (pSh σ30).1) rfl) ok_X_70 ⟨Nat.le_of_ble_eq_true rfl, Nat.le_of_ble_eq_true rfl⟩ blind_rW (va_recv hK hP (ci := 1) (q0 := 4) rfl rfl) (fun U h1 h2 => ⟨by rw [h1]; exact hP.sub [4, 5] rfl, va_K.moved h2.alike hK⟩) rfl hl.1 rfl (Nat.le_of_ble_eq_true rfl) d_X_plain_37 ⟨Nat.zero_le _, Nat.zero_le _⟩ (fun r37 hrr => ?_)
      subst hrr
      refine W.widen (k := 1) (n := 6) (Nat.zero_le _) (Nat.zero_le _) (w_toX ?_)
      exact W.iret (v := (pSh σ30).1) hx hb hr (fun t ht hW => ⟨Or.inl ⟨_, σ30, rfl, ⟨hE, hI⟩, by rw [ht]; exact hP, va_K.moved hW.alike hK, hD⟩, hS.F ht⟩) hS.2.2 d_X_plain_40
    · have hE := hE.2 cc12
      exact J15  σ _ _ hP hD hS hI _ (lv_sub hl [] rfl) hE
theorem ok_X_132 : okV "PlainPages" 132 R_Scribe y_Scribe_putWritten b_Scribe_putWritten 5 none 1 := ⟨aW_in 867 (by decide +kernel) rfl, aW_in 868 (by decide +kernel) rfl, aW_in 869 (by decide +kernel) rfl, aW_in 91 (by decide +kernel) rfl, cd_Scribe_putWritten, rfl, by decide +kernel, by decide +kernel, by decide +kernel⟩
theorem d_X_write_0 : decode b_X_write 0 = .ok (.iload_n 1, 1) := by decide +kernel
theorem d_X_write_1 : decode b_X_write 1 = .ok (.ifCond .lt 14, 3) := by decide +kernel
theorem d_X_write_4 : decode b_X_write 4 = .ok (.iload_n 1, 1) := by decide +kernel
theorem d_X_write_5 : decode b_X_write 5 = .ok (.aload_n 0, 1) := by decide +kernel
theorem d_X_write_6 : decode b_X_write 6 = .ok (.getfield 28, 3) := by decide +kernel
theorem d_X_write_9 : decode b_X_write 9 = .ok (.invokevirtual 94, 3) := by decide +kernel
theorem d_X_write_12 : decode b_X_write 12 = .ok (.if_icmp .lt 13, 3) := by decide +kernel
theorem d_X_write_15 : decode b_X_write 15 = .ok (.new 124, 3) := by decide +kernel
theorem d_X_write_18 : decode b_X_write 18 = .ok (.dup, 1) := by decide +kernel
theorem d_X_write_19 : decode b_X_write 19 = .ok (.ldc 126, 2) := by decide +kernel
theorem d_X_write_21 : decode b_X_write 21 = .ok (.invokespecial 128, 3) := by decide +kernel
theorem d_X_write_24 : decode b_X_write 24 = .ok (.athrow, 1) := by decide +kernel
theorem d_X_write_25 : decode b_X_write 25 = .ok (.aload_n 0, 1) := by decide +kernel
theorem d_X_write_26 : decode b_X_write 26 = .ok (.getfield 55, 3) := by decide +kernel
theorem d_X_write_29 : decode b_X_write 29 = .ok (.iload_n 1, 1) := by decide +kernel
theorem d_X_write_30 : decode b_X_write 30 = .ok (.invokevirtual 132, 3) := by decide +kernel
theorem d_X_write_33 : decode b_X_write 33 = .ok (.aload_n 0, 1) := by decide +kernel
theorem d_X_write_34 : decode b_X_write 34 = .ok (.getfield 22, 3) := by decide +kernel
theorem d_X_write_37 : decode b_X_write 37 = .ok (.invokevirtual 70, 3) := by decide +kernel
theorem d_X_write_40 : decode b_X_write 40 = .ok (.ireturn, 1) := by decide +kernel
def w_X_write_J15   (post : (Int32 → PPS → Prop) × (PPS → Prop)) (σ : PPS) : Prop := post.2 σ
def w_X_write  (σ : PPS) (x0 : Int32) (post : (Int32 → PPS → Prop) × (PPS → Prop)) : Prop := ((x0 < 0 → w_X_write_J15 post σ) ∧ (¬ x0 < 0 → ((x0 < ((pNd σ).1) → w_Scribe_putWritten σ x0 (fun σ30 => post.1 ((pSh σ30).1) σ30)) ∧ (¬ x0 < ((pNd σ).1) → w_X_write_J15 post σ))))
set_option maxHeartbeats 4000000 in
set_option maxRecDepth 100000 in
theorem c_X_write (l : Launch) (w : WD) (sz : Nat) (σ : PPS) (x0 : Int32)  (post : (Int32 → PPS → Prop) × (PPS → Prop)) (hI : inv σ) (hls : l.stackTraces = false) (hE : w_X_write σ x0 post) : MetX l y_X_write ws_X_write { frames := 8, cells := 1, slots := 6, locals := 178 } (va_Pc [.ref (wA w 0), .int x0] (xW w σ sz)) (QX w "java/lang/IndexOutOfBoundsException" post.1 post.2 (va_A (WW w σ) sz)) 1 6 (va_A (WW w σ) sz) := by
  refine MetX.ofW (cc := b_X_write) (maxL := 2) (ret := (some .int)) (by decide) rfl ?_
  intro p e s m args below meth c s₁ B hml hv
  obtain ⟨rfl, ⟨hsz, hP, hK, hD0, hC⟩, hX⟩ := hv
  have hx := B.exec
  have hb := B.bytes
  have hr := B.returns
  have hta : ∀ w ∈ aW, w.before _ s = true := fun w h => atoms_spec (ws := ws_X_write) B.pre w (List.mem_cons_of_mem _ h)
  have hown : s.vm.findClass R_X = some m.cls := findClass_of_methodNamed B.named
  have hlocks := B.notSynchronized
  have hno := B.noHandlers (atoms_spec (ws := ws_X_write) B.pre _ List.mem_cons_self)
  subst hsz
  have hD := hD0.self (sz := s.heap.size)
  generalize hAe : va_A (WW w σ) s.heap.size = A at hD hC hX ⊢
  have hA : ∀ q : Nat, s.heap.size ≤ q → A q := fun q h => by rw [← hAe]; exact Or.inr h
  have hS : va_S A s.heap s.heap [] := va_S.rf
  have hP : va_P (wG w) classes (WW w σ) s.heap := hP
  have hl := lv_entry ([.ref (wA w 0), .int x0]) (n := 2) (Nat.le_of_ble_eq_true rfl)
  rw [lg_entry_eq]
  generalize (lg_sl ([.ref (wA w 0), .int x0]) ++ List.replicate (2 - (lg_sl ([.ref (wA w 0), .int x0])).length) Slot.unset).toArray = ls at hl ⊢
  have hl : lv_has ls 2 [(0, .ref (wA w 0)), (1, .int x0)] := hl
  have J15 : ∀ (σ : PPS) (H : Heap) (locs : List Loc) (hP : va_P (wG w) classes (WW w σ) H) (hD : va_D A (WW w σ)) (hS : va_S A s.heap H locs) (hI : inv σ) (ls : Array Slot) (hl : lv_has ls 2 []) (hE : w_X_write_J15 post σ), W p l e (headSpec ws_X_write { frames := 8, cells := 1, slots := 6, locals := 178 }).room s m ([.ref (wA w 0), .int x0] : List Value).toArray below meth c H locs 0 0 (MQX below (QX w "java/lang/IndexOutOfBoundsException" post.1 post.2 A) ([.ref (wA w 0), .int x0] : List Value).toArray s 1 6 A) (F0 m 15 ls []) := by
    intro  σ H locs hP hD hS hI ls hl hE
    unfold w_X_write_J15 at hE
    exact x_throw (ti := 16) (ix := 124) (kx := 126) (ic := 128) hx hb hls exOk_I hown (by rw [hml]; exact hl.1) hta hC hX (by decide) rfl (by decide) xc_124 xi_124 xn_124 hno hlocks (Nat.le_of_ble_eq_true rfl) (Nat.le_of_ble_eq_true rfl) (Nat.le_of_ble_eq_true rfl) (Nat.le_of_ble_eq_true rfl) d_X_write_15 d_X_write_18 d_X_write_19 d_X_write_21 d_X_write_24 hP hK hD hS hI hE
  unfold w_X_write at hE
  refine lv_iload_n hx hb d_X_write_0 rfl (lv_at hl 1 rfl) ?_
  refine lv_if_lt (tgt := 15) hx hb d_X_write_1 (by decide) (fun cc1 => ?_) (fun cc1 => ?_)
  · have hE := hE.1 cc1
    exact J15  σ _ _ hP hD hS hI _ (lv_sub hl [] rfl) hE
  · have hE := hE.2 cc1
    refine lv_iload_n hx hb d_X_write_4 rfl (lv_at hl 1 rfl) ?_
    refine lv_aload_n hx hb d_X_write_5 rfl (lv_at hl 0 rfl) ?_
    refine va_get (D := (wG w)) (ci := 0) (v := .ref (wA w 6)) (C := R_X) (T := F_X) (N := 9) hx hb hta i_X hown hK hP 0 rfl rfl 3 (by decide) (hta _ fl_X_28) (fun _ h9 => h9) rfl d_X_write_6 ?_
    refine ro_V (b0 := (wA w 6)) (As := []) (rest := [.int x0]) ⟨hx, hb, hml, hown, hta⟩ (f_Book_size l w σ  hI) ok_X_94 ⟨Nat.le_of_ble_eq_true rfl, Nat.le_of_ble_eq_true rfl⟩ blind_fW (va_recv hK hP (ci := 3) (q0 := 6) rfl rfl) (fW_of hP hK hC hS) rfl hl.1 rfl (Nat.le_of_ble_eq_true rfl) d_X_write_9 ⟨Nat.zero_le _, Nat.zero_le _⟩ (fun r9 hrr => ?_)
    subst hrr
    refine lv_icmp_lt (tgt := 25) hx hb d_X_write_12 (by decide) (fun cc12 => ?_) (fun cc12 => ?_)
    · have hE := hE.1 cc12
      refine lv_aload_n hx hb d_X_write_25 rfl (lv_at hl 0 rfl) ?_
      refine va_get (D := (wG w)) (ci := 0) (v := .ref (wA w 15)) (C := R_X) (T := F_X) (N := 9) hx hb hta i_X hown hK hP 0 rfl rfl 6 (by decide) (hta _ fl_X_55) (fun _ h9 => h9) rfl d_X_write_26 ?_
      refine lv_iload_n hx hb d_X_write_29 rfl (lv_at hl 1 rfl) ?_
      refine mc_v (b0 := (wA w 15)) (As := [.int x0]) (rest := []) ⟨hx, hb, hml, hown, hta⟩ (c_Scribe_putWritten l w _ σ x0 _ hI hE) ok_X_132 ⟨Nat.le_of_ble_eq_true rfl, Nat.le_of_ble_eq_true rfl⟩ (va_recv hK hP (ci := 6) (q0 := 15) rfl rfl) hP hK hD hS hA hC rfl hl.1 rfl (Nat.le_of_ble_eq_true rfl) d_X_write_30 ⟨Nat.zero_le _, Nat.zero_le _⟩ (fun σ30 H locs hE hP hD hS => ?_)
      obtain ⟨hE, hI⟩ := hE
      refine lv_aload_n hx hb d_X_write_33 rfl (lv_at hl 0 rfl) ?_
      refine va_get (D := (wG w)) (ci := 0) (v := .ref (wA w 4)) (C := R_X) (T := F_X) (N := 9) hx hb hta i_X hown hK hP 0 rfl rfl 2 (by decide) (hta _ fl_X_22) (fun _ h9 => h9) rfl d_X_write_34 ?_
      refine ro_V (b0 := (wA w 4)) (As := []) (rest := []) ⟨hx, hb, hml, hown, hta⟩ (c_Strip_size l (wG w) (wA w 4) (wA w 5) (wI w) 24000 (pSh σ30)  (fun r => r = (pSh σ30).1) rfl) ok_X_70 ⟨Nat.le_of_ble_eq_true rfl, Nat.le_of_ble_eq_true rfl⟩ blind_rW (va_recv hK hP (ci := 1) (q0 := 4) rfl rfl) (fun U h1 h2 => ⟨by rw [h1]; exact hP.sub [4, 5] rfl, va_K.moved h2.alike hK⟩) rfl hl.1 rfl (Nat.le_of_ble_eq_true rfl) d_X_write_37 ⟨Nat.zero_le _, Nat.zero_le _⟩ (fun r37 hrr => ?_)
      subst hrr
      refine W.widen (k := 1) (n := 6) (Nat.zero_le _) (Nat.zero_le _) (w_toX ?_)
      exact W.iret (v := (pSh σ30).1) hx hb hr (fun t ht hW => ⟨Or.inl ⟨_, σ30, rfl, ⟨hE, hI⟩, by rw [ht]; exact hP, va_K.moved hW.alike hK, hD⟩, hS.F ht⟩) hS.2.2 d_X_write_40
    · have hE := hE.2 cc12
      exact J15  σ _ _ hP hD hS hI _ (lv_sub hl [] rfl) hE
