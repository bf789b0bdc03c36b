-- printed by wip/gen
theorem ok_Reader_44 : okV "PlainPages$Reader" 44 R_Str y_Str_length b_Str_length 1 (some .int) 0 := ⟨aW_in 391 (by decide +kernel) rfl, aW_in 392 (by decide +kernel) rfl, aW_in 393 (by decide +kernel) rfl, aW_in 93 (by decide +kernel) rfl, cd_Str_length, rfl, by decide +kernel, by decide +kernel, by decide +kernel⟩
theorem fl_Reader_9 : Cond.fieldLink "PlainPages$Reader" 9 "PlainPages$Reader" "tape" "LPlainPages$Strip;" ∈ aW := aW_in 178 (by decide +kernel) rfl
theorem ok_Reader_65 : okV "PlainPages$Reader" 65 R_Strip y_Strip_get b_Strip_get 2 (some .int) 1 := ⟨aW_in 401 (by decide +kernel) rfl, aW_in 301 (by decide +kernel) rfl, aW_in 302 (by decide +kernel) rfl, aW_in 85 (by decide +kernel) rfl, cd_Strip_get, rfl, by decide +kernel, by decide +kernel, by decide +kernel⟩
theorem ok_Reader_84 : okV "PlainPages$Reader" 84 R_Str y_Str_charAt b_Str_charAt 2 (some .char) 1 := ⟨aW_in 402 (by decide +kernel) rfl, aW_in 403 (by decide +kernel) rfl, aW_in 404 (by decide +kernel) rfl, aW_in 93 (by decide +kernel) rfl, cd_Str_charAt, rfl, by decide +kernel, by decide +kernel, by decide +kernel⟩
theorem d_Reader_standsAt_0 : decode b_Reader_standsAt 0 = .ok (.iconst 0, 1) := by decide +kernel
theorem d_Reader_standsAt_1 : decode b_Reader_standsAt 1 = .ok (.istore_n 3, 1) := by decide +kernel
theorem d_Reader_standsAt_2 : decode b_Reader_standsAt 2 = .ok (.iload_n 3, 1) := by decide +kernel
theorem d_Reader_standsAt_3 : decode b_Reader_standsAt 3 = .ok (.aload_n 2, 1) := by decide +kernel
theorem d_Reader_standsAt_4 : decode b_Reader_standsAt 4 = .ok (.invokevirtual 44, 3) := by decide +kernel
theorem d_Reader_standsAt_7 : decode b_Reader_standsAt 7 = .ok (.if_icmp .ge 29, 3) := by decide +kernel
theorem d_Reader_standsAt_10 : decode b_Reader_standsAt 10 = .ok (.aload_n 0, 1) := by decide +kernel
theorem d_Reader_standsAt_11 : decode b_Reader_standsAt 11 = .ok (.getfield 9, 3) := by decide +kernel
theorem d_Reader_standsAt_14 : decode b_Reader_standsAt 14 = .ok (.iload_n 1, 1) := by decide +kernel
theorem d_Reader_standsAt_15 : decode b_Reader_standsAt 15 = .ok (.iload_n 3, 1) := by decide +kernel
theorem d_Reader_standsAt_16 : decode b_Reader_standsAt 16 = .ok (.iadd, 1) := by decide +kernel
theorem d_Reader_standsAt_17 : decode b_Reader_standsAt 17 = .ok (.invokevirtual 65, 3) := by decide +kernel
theorem d_Reader_standsAt_20 : decode b_Reader_standsAt 20 = .ok (.aload_n 2, 1) := by decide +kernel
theorem d_Reader_standsAt_21 : decode b_Reader_standsAt 21 = .ok (.iload_n 3, 1) := by decide +kernel
theorem d_Reader_standsAt_22 : decode b_Reader_standsAt 22 = .ok (.invokevirtual 84, 3) := by decide +kernel
theorem d_Reader_standsAt_25 : decode b_Reader_standsAt 25 = .ok (.if_icmp .eq 5, 3) := by decide +kernel
theorem d_Reader_standsAt_28 : decode b_Reader_standsAt 28 = .ok (.iconst 0, 1) := by decide +kernel
theorem d_Reader_standsAt_29 : decode b_Reader_standsAt 29 = .ok (.ireturn, 1) := by decide +kernel
theorem d_Reader_standsAt_30 : decode b_Reader_standsAt 30 = .ok (.iinc 3 1, 3) := by decide +kernel
theorem d_Reader_standsAt_33 : decode b_Reader_standsAt 33 = .ok (.goto (-31), 3) := by decide +kernel
theorem d_Reader_standsAt_36 : decode b_Reader_standsAt 36 = .ok (.iconst 1, 1) := by decide +kernel
theorem d_Reader_standsAt_37 : decode b_Reader_standsAt 37 = .ok (.ireturn, 1) := by decide +kernel
def w_Reader_standsAt_L2  (σ : PPS) (v1 : Int32) (v2 : Nat) (post : Int32 → Prop) : Nat → Int32 → Prop
  | 0, _ => False
  | n2 + 1, v3 => (v2 < 49 ∧ (((nI (tLn.getD v2 0)) ≤ v3 → post 1) ∧ (¬ (nI (tLn.getD v2 0)) ≤ v3 → (v2 < 49 ∧ (vp_in v3 (tLn.getD v2 0) ∧ (((sGet (pTp σ) (v1 + v3)) = (tCh v2 v3) → w_Reader_standsAt_L2 σ v1 v2 post n2 (v3 + 1)) ∧ (¬ (sGet (pTp σ) (v1 + v3)) = (tCh v2 v3) → post 0)))))))
def w_Reader_standsAt  (σ : PPS) (x0 : Int32) (x1 : Nat) (post : Int32 → Prop) : Prop := (∃ n2, w_Reader_standsAt_L2 σ x0 x1 post n2 0)
set_option maxHeartbeats 4000000 in
set_option maxRecDepth 100000 in
theorem c_Reader_standsAt (l : Launch) (w : WD) (σ : PPS) (x0 : Int32) (x1 : Nat)  (post : Int32 → Prop) (hI : inv σ) (hE : w_Reader_standsAt σ x0 x1 post) : Met l y_Reader_standsAt ws_Reader_standsAt { frames := 4, cells := 0, slots := 0, locals := 85 } (va_Pc [.ref (wA w 13), .int x0, .ref (wK w x1)] (fW w σ)) (vp_Si post) 0 0 (fun _ => False) := by
  refine Met.ofW (cc := b_Reader_standsAt) (maxL := 4) (ret := (some .boolean)) (by decide) rfl ?_
  intro p e s m args below meth c s₁ B hml hv
  obtain ⟨rfl, hP, hK, hC⟩ := hv
  have hS : va_S (fun _ : Nat => False) s.heap s.heap [] := va_S.rf
  have hx := B.exec
  have hb := B.bytes
  have hr := B.returns
  have hta : ∀ w ∈ aW, w.before _ s = true := fun w h => atoms_spec (ws := ws_Reader_standsAt) B.pre w (List.mem_cons_of_mem _ h)
  have hown : s.vm.findClass R_Reader = some m.cls := findClass_of_methodNamed B.named
  have hlocks := B.notSynchronized
  have hl := lv_entry ([.ref (wA w 13), .int x0, .ref (wK w x1)]) (n := 4) (Nat.le_of_ble_eq_true rfl)
  rw [lg_entry_eq]
  generalize (lg_sl ([.ref (wA w 13), .int x0, .ref (wK w x1)]) ++ List.replicate (4 - (lg_sl ([.ref (wA w 13), .int x0, .ref (wK w x1)])).length) Slot.unset).toArray = ls at hl ⊢
  have hl : lv_has ls 4 [(0, .ref (wA w 13)), (1, .int x0), (2, .ref (wK w x1))] := hl
  have L2 : ∀ (v1 : Int32) (v2 : Nat) (n2 : Nat) (v3 : Int32) (ls : Array Slot) (hl : lv_has ls 4 [(0, .ref (wA w 13)), (1, .int v1), (2, .ref (wK w v2)), (3, .int v3)]) (hE : w_Reader_standsAt_L2 σ v1 v2 post n2 v3), W p l e (headSpec ws_Reader_standsAt { frames := 4, cells := 0, slots := 0, locals := 85 }).room s m ([.ref (wA w 13), .int x0, .ref (wK w x1)] : List Value).toArray below meth c s.heap [] 0 0 (MQ below (vp_Si post) ([.ref (wA w 13), .int x0, .ref (wK w x1)] : List Value).toArray s 0 0 (fun _ => False)) (F0 m 2 ls []) := by
    intro v1 v2 n2
    induction n2 with
    | zero => intro v3 ls hl hE; exact hE.elim
    | succ n2 ih2 =>
      intro v3 ls hl hE
      unfold w_Reader_standsAt_L2 at hE
      refine lv_iload_n hx hb d_Reader_standsAt_2 rfl (lv_at hl 3 rfl) ?_
      refine lv_aload_n hx hb d_Reader_standsAt_3 rfl (lv_at hl 2 rfl) ?_
      obtain ⟨hi4, hE⟩ := hE
      refine ro_V (b0 := wK w v2) (As := []) (rest := [.int v3]) ⟨hx, hb, hml, hown, hta⟩ (f_Str_length l w v2 hi4) ok_Reader_44 ⟨Nat.le_of_ble_eq_true rfl, Nat.le_of_ble_eq_true rfl⟩ blind_cW (t_recv hC hS hi4) (cW_of hC hS) rfl hl.1 rfl (Nat.le_of_ble_eq_true rfl) d_Reader_standsAt_4 ⟨Nat.zero_le _, Nat.zero_le _⟩ (fun r4 hrr => ?_)
      subst hrr
      refine lv_icmp_ge (tgt := 36) hx hb d_Reader_standsAt_7 (by decide) (fun cc7 => ?_) (fun cc7 => ?_)
      · have hE := hE.1 cc7
        refine lv_iconst (v := 1) hx hb d_Reader_standsAt_36 (by decide) ?_
        exact W.zret (v := 1) hx hb hr rfl (fun t ht hW => ⟨_, rfl, hE, ht⟩) (fun q h => by cases h) d_Reader_standsAt_37
      · have hE := hE.2 cc7
        refine lv_aload_n hx hb d_Reader_standsAt_10 rfl (lv_at hl 0 rfl) ?_
        refine va_get (D := (wG w)) (ci := 4) (v := .ref (wA w 2)) (C := R_Reader) (T := F_Reader) (N := 6) hx hb hta i_Reader hown hK hP 13 rfl rfl 0 (by decide) (hta _ fl_Reader_9) (fun _ h9 => h9) rfl d_Reader_standsAt_11 ?_
        refine lv_iload_n hx hb d_Reader_standsAt_14 rfl (lv_at hl 1 rfl) ?_
        refine lv_iload_n hx hb d_Reader_standsAt_15 rfl (lv_at hl 3 rfl) ?_
        refine lv_iadd hx hb d_Reader_standsAt_16 ?_
        refine ro_V (b0 := (wA w 2)) (As := [.int (v1 + v3)]) (rest := []) ⟨hx, hb, hml, hown, hta⟩ (c_Strip_get l (wG w) (wA w 2) (wA w 3) (wI w) 4000 (pTp σ) (v1 + v3) (fun r => r = sGet (pTp σ) (v1 + v3)) (l_Strip_get (by decide) (inv.Tp hI) (v1 + v3))) ok_Reader_65 ⟨Nat.le_of_ble_eq_true rfl, Nat.le_of_ble_eq_true rfl⟩ blind_rW (va_recv hK hP (ci := 1) (q0 := 2) rfl rfl) (fun U h1 h2 => ⟨by rw [h1]; exact hP.sub [2, 3] rfl, va_K.moved h2.alike hK⟩) rfl hl.1 rfl (Nat.le_of_ble_eq_true rfl) d_Reader_standsAt_17 ⟨Nat.zero_le _, Nat.zero_le _⟩ (fun r17 hrr => ?_)
        subst hrr
        refine lv_aload_n hx hb d_Reader_standsAt_20 rfl (lv_at hl 2 rfl) ?_
        refine lv_iload_n hx hb d_Reader_standsAt_21 rfl (lv_at hl 3 rfl) ?_
        obtain ⟨hi22, hE⟩ := hE
        obtain ⟨hc22_0, hE⟩ := hE
        refine ro_V (b0 := wK w v2) (As := [.int v3]) (rest := [.int (sGet (pTp σ) (v1 + v3))]) ⟨hx, hb, hml, hown, hta⟩ (f_Str_charAt l w v2 v3 hi22 hc22_0) ok_Reader_84 ⟨Nat.le_of_ble_eq_true rfl, Nat.le_of_ble_eq_true rfl⟩ blind_cW (t_recv hC hS hi22) (cW_of hC hS) rfl hl.1 rfl (Nat.le_of_ble_eq_true rfl) d_Reader_standsAt_22 ⟨Nat.zero_le _, Nat.zero_le _⟩ (fun r22 hrr => ?_)
        subst hrr
        refine lv_icmp_eq (tgt := 30) hx hb d_Reader_standsAt_25 (by decide) (fun cc25 => ?_) (fun cc25 => ?_)
        · have hE := hE.1 cc25
          refine lv_iinc (v := v3 + 1) (lv' := [(3, .int (v3 + 1)), (0, .ref (wA w 13)), (1, .int v1), (2, .ref (wK w v2))]) hx hb d_Reader_standsAt_30 hl (k := 3) rfl rfl (by decide) rfl (fun ls hl => ?_)
          refine lv_goto (tgt := 2) hx hb d_Reader_standsAt_33 (by decide) ?_
          exact ih2 (v3 + 1) _ (lv_sub hl [1, 2, 3, 0] rfl) hE
        · have hE := hE.2 cc25
          refine lv_iconst (v := 0) hx hb d_Reader_standsAt_28 (by decide) ?_
          exact W.zret (v := 0) hx hb hr rfl (fun t ht hW => ⟨_, rfl, hE, ht⟩) (fun q h => by cases h) d_Reader_standsAt_29
  unfold w_Reader_standsAt at hE
  refine lv_iconst (v := 0) hx hb d_Reader_standsAt_0 (by decide) ?_
  refine lv_istore_n (lv' := [(3, .int 0), (0, .ref (wA w 13)), (1, .int x0), (2, .ref (wK w x1))]) hx hb d_Reader_standsAt_1 rfl hl (by decide) rfl (fun ls hl => ?_)
  obtain ⟨n2, hE⟩ := hE
  exact L2 x0 x1 n2 0 _ (lv_sub hl [1, 2, 3, 0] rfl) hE
theorem fl_Reader_15 : Cond.fieldLink "PlainPages$Reader" 15 "PlainPages$Reader" "book" "LPlainPages$Book;" ∈ aW := aW_in 179 (by decide +kernel) rfl
theorem fl_Reader_23 : Cond.fieldLink "PlainPages$Reader" 23 "PlainPages$Reader" "open" "I" ∈ aW := aW_in 181 (by decide +kernel) rfl
theorem ok_Reader_158 : okV "PlainPages$Reader" 158 R_Book y_Book_ofNode b_Book_ofNode 3 (some .int) 2 := ⟨aW_in 593 (by decide +kernel) rfl, aW_in 285 (by decide +kernel) rfl, aW_in 286 (by decide +kernel) rfl, aW_in 87 (by decide +kernel) rfl, cd_Book_ofNode, rfl, by decide +kernel, by decide +kernel, by decide +kernel⟩
theorem fl_Reader_19 : Cond.fieldLink "PlainPages$Reader" 19 "PlainPages$Reader" "at" "I" ∈ aW := aW_in 180 (by decide +kernel) rfl
theorem ok_Reader_167 : okV "PlainPages$Reader" 167 R_Book y_Book_letterAt b_Book_letterAt 4 (some .int) 3 := ⟨aW_in 606 (by decide +kernel) rfl, aW_in 297 (by decide +kernel) rfl, aW_in 298 (by decide +kernel) rfl, aW_in 87 (by decide +kernel) rfl, cd_Book_letterAt, rfl, by decide +kernel, by decide +kernel, by decide +kernel⟩
theorem d_Reader_isOpenName_0 : decode b_Reader_isOpenName 0 = .ok (.aload_n 0, 1) := by decide +kernel
theorem d_Reader_isOpenName_1 : decode b_Reader_isOpenName 1 = .ok (.getfield 15, 3) := by decide +kernel
theorem d_Reader_isOpenName_4 : decode b_Reader_isOpenName 4 = .ok (.aload_n 0, 1) := by decide +kernel
theorem d_Reader_isOpenName_5 : decode b_Reader_isOpenName 5 = .ok (.getfield 23, 3) := by decide +kernel
theorem d_Reader_isOpenName_8 : decode b_Reader_isOpenName 8 = .ok (.iconst 3, 1) := by decide +kernel
theorem d_Reader_isOpenName_9 : decode b_Reader_isOpenName 9 = .ok (.invokevirtual 158, 3) := by decide +kernel
theorem d_Reader_isOpenName_12 : decode b_Reader_isOpenName 12 = .ok (.istore_n 2, 1) := by decide +kernel
theorem d_Reader_isOpenName_13 : decode b_Reader_isOpenName 13 = .ok (.aload_n 0, 1) := by decide +kernel
theorem d_Reader_isOpenName_14 : decode b_Reader_isOpenName 14 = .ok (.getfield 15, 3) := by decide +kernel
theorem d_Reader_isOpenName_17 : decode b_Reader_isOpenName 17 = .ok (.aload_n 0, 1) := by decide +kernel
theorem d_Reader_isOpenName_18 : decode b_Reader_isOpenName 18 = .ok (.getfield 23, 3) := by decide +kernel
theorem d_Reader_isOpenName_21 : decode b_Reader_isOpenName 21 = .ok (.bipush 8, 2) := by decide +kernel
theorem d_Reader_isOpenName_23 : decode b_Reader_isOpenName 23 = .ok (.invokevirtual 158, 3) := by decide +kernel
theorem d_Reader_isOpenName_26 : decode b_Reader_isOpenName 26 = .ok (.istore_n 3, 1) := by decide +kernel
theorem d_Reader_isOpenName_27 : decode b_Reader_isOpenName 27 = .ok (.iload_n 2, 1) := by decide +kernel
theorem d_Reader_isOpenName_28 : decode b_Reader_isOpenName 28 = .ok (.aload_n 0, 1) := by decide +kernel
theorem d_Reader_isOpenName_29 : decode b_Reader_isOpenName 29 = .ok (.getfield 19, 3) := by decide +kernel
theorem d_Reader_isOpenName_32 : decode b_Reader_isOpenName 32 = .ok (.iload_n 1, 1) := by decide +kernel
theorem d_Reader_isOpenName_33 : decode b_Reader_isOpenName 33 = .ok (.isub, 1) := by decide +kernel
theorem d_Reader_isOpenName_34 : decode b_Reader_isOpenName 34 = .ok (.if_icmp .eq 5, 3) := by decide +kernel
theorem d_Reader_isOpenName_37 : decode b_Reader_isOpenName 37 = .ok (.iconst 0, 1) := by decide +kernel
theorem d_Reader_isOpenName_38 : decode b_Reader_isOpenName 38 = .ok (.ireturn, 1) := by decide +kernel
theorem d_Reader_isOpenName_39 : decode b_Reader_isOpenName 39 = .ok (.iconst 0, 1) := by decide +kernel
theorem d_Reader_isOpenName_40 : decode b_Reader_isOpenName 40 = .ok (.istore 4, 2) := by decide +kernel
theorem d_Reader_isOpenName_42 : decode b_Reader_isOpenName 42 = .ok (.iload 4, 2) := by decide +kernel
theorem d_Reader_isOpenName_44 : decode b_Reader_isOpenName 44 = .ok (.iload_n 2, 1) := by decide +kernel
theorem d_Reader_isOpenName_45 : decode b_Reader_isOpenName 45 = .ok (.if_icmp .ge 36, 3) := by decide +kernel
theorem d_Reader_isOpenName_48 : decode b_Reader_isOpenName 48 = .ok (.aload_n 0, 1) := by decide +kernel
theorem d_Reader_isOpenName_49 : decode b_Reader_isOpenName 49 = .ok (.getfield 15, 3) := by decide +kernel
theorem d_Reader_isOpenName_52 : decode b_Reader_isOpenName 52 = .ok (.iload_n 3, 1) := by decide +kernel
theorem d_Reader_isOpenName_53 : decode b_Reader_isOpenName 53 = .ok (.iload_n 2, 1) := by decide +kernel
theorem d_Reader_isOpenName_54 : decode b_Reader_isOpenName 54 = .ok (.iload 4, 2) := by decide +kernel
theorem d_Reader_isOpenName_56 : decode b_Reader_isOpenName 56 = .ok (.invokevirtual 167, 3) := by decide +kernel
theorem d_Reader_isOpenName_59 : decode b_Reader_isOpenName 59 = .ok (.aload_n 0, 1) := by decide +kernel
theorem d_Reader_isOpenName_60 : decode b_Reader_isOpenName 60 = .ok (.getfield 9, 3) := by decide +kernel
theorem d_Reader_isOpenName_63 : decode b_Reader_isOpenName 63 = .ok (.iload_n 1, 1) := by decide +kernel
theorem d_Reader_isOpenName_64 : decode b_Reader_isOpenName 64 = .ok (.iload 4, 2) := by decide +kernel
theorem d_Reader_isOpenName_66 : decode b_Reader_isOpenName 66 = .ok (.iadd, 1) := by decide +kernel
theorem d_Reader_isOpenName_67 : decode b_Reader_isOpenName 67 = .ok (.invokevirtual 65, 3) := by decide +kernel
theorem d_Reader_isOpenName_70 : decode b_Reader_isOpenName 70 = .ok (.if_icmp .eq 5, 3) := by decide +kernel
theorem d_Reader_isOpenName_73 : decode b_Reader_isOpenName 73 = .ok (.iconst 0, 1) := by decide +kernel
theorem d_Reader_isOpenName_74 : decode b_Reader_isOpenName 74 = .ok (.ireturn, 1) := by decide +kernel
theorem d_Reader_isOpenName_75 : decode b_Reader_isOpenName 75 = .ok (.iinc 4 1, 3) := by decide +kernel
theorem d_Reader_isOpenName_78 : decode b_Reader_isOpenName 78 = .ok (.goto (-36), 3) := by decide +kernel
theorem d_Reader_isOpenName_81 : decode b_Reader_isOpenName 81 = .ok (.iconst 1, 1) := by decide +kernel
theorem d_Reader_isOpenName_82 : decode b_Reader_isOpenName 82 = .ok (.ireturn, 1) := by decide +kernel
def w_Reader_isOpenName_L42  (σ : PPS) (v1 : Int32) (v2 : Int32) (v3 : Int32) (post : Int32 → Prop) : Nat → Int32 → Prop
  | 0, _ => False
  | n42 + 1, v4 => ((v2 ≤ v4 → post 1) ∧ (¬ v2 ≤ v4 → (((bLet σ v3 v2 v4) = (sGet (pTp σ) (v1 + v4)) → w_Reader_isOpenName_L42 σ v1 v2 v3 post n42 (v4 + 1)) ∧ (¬ (bLet σ v3 v2 v4) = (sGet (pTp σ) (v1 + v4)) → post 0))))
def w_Reader_isOpenName  (σ : PPS) (x0 : Int32) (post : Int32 → Prop) : Prop := (((tGet 14 (pNd σ) (pOp σ) 3) = ((pPs σ) - x0) → (∃ n42, w_Reader_isOpenName_L42 σ x0 (tGet 14 (pNd σ) (pOp σ) 3) (tGet 14 (pNd σ) (pOp σ) 8) post n42 0)) ∧ (¬ (tGet 14 (pNd σ) (pOp σ) 3) = ((pPs σ) - x0) → post 0))
set_option maxHeartbeats 4000000 in
set_option maxRecDepth 100000 in
theorem c_Reader_isOpenName (l : Launch) (w : WD) (σ : PPS) (x0 : Int32)  (post : Int32 → Prop) (hI : inv σ) (hE : w_Reader_isOpenName σ x0 post) : Met l y_Reader_isOpenName ws_Reader_isOpenName { frames := 2, cells := 0, slots := 0, locals := 45 } (va_Pc [.ref (wA w 13), .int x0] (fW w σ)) (vp_Si post) 0 0 (fun _ => False) := by
  refine Met.ofW (cc := b_Reader_isOpenName) (maxL := 5) (ret := (some .boolean)) (by decide) rfl ?_
  intro p e s m args below meth c s₁ B hml hv
  obtain ⟨rfl, hP, hK, hC⟩ := hv
  have hS : va_S (fun _ : Nat => False) s.heap s.heap [] := va_S.rf
  have hx := B.exec
  have hb := B.bytes
  have hr := B.returns
  have hta : ∀ w ∈ aW, w.before _ s = true := fun w h => atoms_spec (ws := ws_Reader_isOpenName) B.pre w (List.mem_cons_of_mem _ h)
  have hown : s.vm.findClass R_Reader = some m.cls := findClass_of_methodNamed B.named
  have hlocks := B.notSynchronized
  have hl := lv_entry ([.ref (wA w 13), .int x0]) (n := 5) (Nat.le_of_ble_eq_true rfl)
  rw [lg_entry_eq]
  generalize (lg_sl ([.ref (wA w 13), .int x0]) ++ List.replicate (5 - (lg_sl ([.ref (wA w 13), .int x0])).length) Slot.unset).toArray = ls at hl ⊢
  have hl : lv_has ls 5 [(0, .ref (wA w 13)), (1, .int x0)] := hl
  have L42 : ∀ (v1 : Int32) (v2 : Int32) (v3 : Int32) (n42 : Nat) (v4 : Int32) (ls : Array Slot) (hl : lv_has ls 5 [(0, .ref (wA w 13)), (1, .int v1), (2, .int v2), (3, .int v3), (4, .int v4)]) (hE : w_Reader_isOpenName_L42 σ v1 v2 v3 post n42 v4), W p l e (headSpec ws_Reader_isOpenName { frames := 2, cells := 0, slots := 0, locals := 45 }).room s m ([.ref (wA w 13), .int x0] : List Value).toArray below meth c s.heap [] 0 0 (MQ below (vp_Si post) ([.ref (wA w 13), .int x0] : List Value).toArray s 0 0 (fun _ => False)) (F0 m 42 ls []) := by
    intro v1 v2 v3 n42
    induction n42 with
    | zero => intro v4 ls hl hE; exact hE.elim
    | succ n42 ih42 =>
      intro v4 ls hl hE
      unfold w_Reader_isOpenName_L42 at hE
      refine lv_iload hx hb d_Reader_isOpenName_42 (lv_at hl 4 rfl) ?_
      refine lv_iload_n hx hb d_Reader_isOpenName_44 rfl (lv_at hl 2 rfl) ?_
      refine lv_icmp_ge (tgt := 81) hx hb d_Reader_isOpenName_45 (by decide) (fun cc45 => ?_) (fun cc45 => ?_)
      · have hE := hE.1 cc45
        refine lv_iconst (v := 1) hx hb d_Reader_isOpenName_81 (by decide) ?_
        exact W.zret (v := 1) hx hb hr rfl (fun t ht hW => ⟨_, rfl, hE, ht⟩) (fun q h => by cases h) d_Reader_isOpenName_82
      · have hE := hE.2 cc45
        refine lv_aload_n hx hb d_Reader_isOpenName_48 rfl (lv_at hl 0 rfl) ?_
        refine va_get (D := (wG w)) (ci := 4) (v := .ref (wA w 6)) (C := R_Reader) (T := F_Reader) (N := 6) hx hb hta i_Reader hown hK hP 13 rfl rfl 1 (by decide) (hta _ fl_Reader_15) (fun _ h9 => h9) rfl d_Reader_isOpenName_49 ?_
        refine lv_iload_n hx hb d_Reader_isOpenName_52 rfl (lv_at hl 3 rfl) ?_
        refine lv_iload_n hx hb d_Reader_isOpenName_53 rfl (lv_at hl 2 rfl) ?_
        refine lv_iload hx hb d_Reader_isOpenName_54 (lv_at hl 4 rfl) ?_
        refine ro_V (b0 := (wA w 6)) (As := [.int v3, .int v2, .int v4]) (rest := []) ⟨hx, hb, hml, hown, hta⟩ (f_Book_letterAt l w σ v3 v2 v4 hI) ok_Reader_167 ⟨Nat.le_of_ble_eq_true rfl, Nat.le_of_ble_eq_true rfl⟩ blind_fW (va_recv hK hP (ci := 3) (q0 := 6) rfl rfl) (fW_of hP hK hC hS) rfl hl.1 rfl (Nat.le_of_ble_eq_true rfl) d_Reader_isOpenName_56 ⟨Nat.zero_le _, Nat.zero_le _⟩ (fun r56 hrr => ?_)
        subst hrr
        refine lv_aload_n hx hb d_Reader_isOpenName_59 rfl (lv_at hl 0 rfl) ?_
        refine va_get (D := (wG w)) (ci := 4) (v := .ref (wA w 2)) (C := R_Reader) (T := F_Reader) (N := 6) hx hb hta i_Reader hown hK hP 13 rfl rfl 0 (by decide) (hta _ fl_Reader_9) (fun _ h9 => h9) rfl d_Reader_isOpenName_60 ?_
        refine lv_iload_n hx hb d_Reader_isOpenName_63 rfl (lv_at hl 1 rfl) ?_
        refine lv_iload hx hb d_Reader_isOpenName_64 (lv_at hl 4 rfl) ?_
        refine lv_iadd hx hb d_Reader_isOpenName_66 ?_
        refine ro_V (b0 := (wA w 2)) (As := [.int (v1 + v4)]) (rest := [.int (bLet σ v3 v2 v4)]) ⟨hx, hb, hml, hown, hta⟩ (c_Strip_get l (wG w) (wA w 2) (wA w 3) (wI w) 4000 (pTp σ) (v1 + v4) (fun r => r = sGet (pTp σ) (v1 + v4)) (l_Strip_get (by decide) (inv.Tp hI) (v1 + v4))) ok_Reader_65 ⟨Nat.le_of_ble_eq_true rfl, Nat.le_of_ble_eq_true rfl⟩ blind_rW (va_recv hK hP (ci := 1) (q0 := 2) rfl rfl) (fun U h1 h2 => ⟨by rw [h1]; exact hP.sub [2, 3] rfl, va_K.moved h2.alike hK⟩) rfl hl.1 rfl (Nat.le_of_ble_eq_true rfl) d_Reader_isOpenName_67 ⟨Nat.zero_le _, Nat.zero_le _⟩ (fun r67 hrr => ?_)
        subst hrr
        refine lv_icmp_eq (tgt := 75) hx hb d_Reader_isOpenName_70 (by decide) (fun cc70 => ?_) (fun cc70 => ?_)
        · have hE := hE.1 cc70
          refine lv_iinc (v := v4 + 1) (lv' := [(4, .int (v4 + 1)), (0, .ref (wA w 13)), (1, .int v1), (2, .int v2), (3, .int v3)]) hx hb d_Reader_isOpenName_75 hl (k := 4) rfl rfl (by decide) rfl (fun ls hl => ?_)
          refine lv_goto (tgt := 42) hx hb d_Reader_isOpenName_78 (by decide) ?_
          exact ih42 (v4 + 1) _ (lv_sub hl [1, 2, 3, 4, 0] rfl) hE
        · have hE := hE.2 cc70
          refine lv_iconst (v := 0) hx hb d_Reader_isOpenName_73 (by decide) ?_
          exact W.zret (v := 0) hx hb hr rfl (fun t ht hW => ⟨_, rfl, hE, ht⟩) (fun q h => by cases h) d_Reader_isOpenName_74
  unfold w_Reader_isOpenName at hE
  refine lv_aload_n hx hb d_Reader_isOpenName_0 rfl (lv_at hl 0 rfl) ?_
  refine va_get (D := (wG w)) (ci := 4) (v := .ref (wA w 6)) (C := R_Reader) (T := F_Reader) (N := 6) hx hb hta i_Reader hown hK hP 13 rfl rfl 1 (by decide) (hta _ fl_Reader_15) (fun _ h9 => h9) rfl d_Reader_isOpenName_1 ?_
  refine lv_aload_n hx hb d_Reader_isOpenName_4 rfl (lv_at hl 0 rfl) ?_
  refine va_get (D := (wG w)) (ci := 4) (v := .int (pOp σ)) (C := R_Reader) (T := F_Reader) (N := 6) hx hb hta i_Reader hown hK hP 13 rfl rfl 3 (by decide) (hta _ fl_Reader_23) (fun _ h9 => h9) rfl d_Reader_isOpenName_5 ?_
  refine lv_iconst (v := 3) hx hb d_Reader_isOpenName_8 (by decide) ?_
  refine ro_V (b0 := (wA w 6)) (As := [.int (pOp σ), .int 3]) (rest := []) ⟨hx, hb, hml, hown, hta⟩ (f_Book_ofNode l w σ (pOp σ) 3 hI) ok_Reader_158 ⟨Nat.le_of_ble_eq_true rfl, Nat.le_of_ble_eq_true rfl⟩ blind_fW (va_recv hK hP (ci := 3) (q0 := 6) rfl rfl) (fW_of hP hK hC hS) rfl hl.1 rfl (Nat.le_of_ble_eq_true rfl) d_Reader_isOpenName_9 ⟨Nat.zero_le _, Nat.zero_le _⟩ (fun r9 hrr => ?_)
  subst hrr
  refine lv_istore_n (lv' := [(2, .int (tGet 14 (pNd σ) (pOp σ) 3)), (0, .ref (wA w 13)), (1, .int x0)]) hx hb d_Reader_isOpenName_12 rfl hl (by decide) rfl (fun ls hl => ?_)
  refine lv_aload_n hx hb d_Reader_isOpenName_13 rfl (lv_at hl 1 rfl) ?_
  refine va_get (D := (wG w)) (ci := 4) (v := .ref (wA w 6)) (C := R_Reader) (T := F_Reader) (N := 6) hx hb hta i_Reader hown hK hP 13 rfl rfl 1 (by decide) (hta _ fl_Reader_15) (fun _ h9 => h9) rfl d_Reader_isOpenName_14 ?_
  refine lv_aload_n hx hb d_Reader_isOpenName_17 rfl (lv_at hl 1 rfl) ?_
  refine va_get (D := (wG w)) (ci := 4) (v := .int (pOp σ)) (C := R_Reader) (T := F_Reader) (N := 6) hx hb hta i_Reader hown hK hP 13 rfl rfl 3 (by decide) (hta _ fl_Reader_23) (fun _ h9 => h9) rfl d_Reader_isOpenName_18 ?_
  refine lv_bipush (v := 8) hx hb d_Reader_isOpenName_21 (by decide) ?_
  refine ro_V (b0 := (wA w 6)) (As := [.int (pOp σ), .int 8]) (rest := []) ⟨hx, hb, hml, hown, hta⟩ (f_Book_ofNode l w σ (pOp σ) 8 hI) ok_Reader_158 ⟨Nat.le_of_ble_eq_true rfl, Nat.le_of_ble_eq_true rfl⟩ blind_fW (va_recv hK hP (ci := 3) (q0 := 6) rfl rfl) (fW_of hP hK hC hS) rfl hl.1 rfl (Nat.le_of_ble_eq_true rfl) d_Reader_isOpenName_23 ⟨Nat.zero_le _, Nat.zero_le _⟩ (fun r23 hrr => ?_)
  subst hrr
  refine lv_istore_n (lv' := [(3, .int (tGet 14 (pNd σ) (pOp σ) 8)), (2, .int (tGet 14 (pNd σ) (pOp σ) 3)), (0, .ref (wA w 13)), (1, .int x0)]) hx hb d_Reader_isOpenName_26 rfl hl (by decide) rfl (fun ls hl => ?_)
  refine lv_iload_n hx hb d_Reader_isOpenName_27 rfl (lv_at hl 1 rfl) ?_
  refine lv_aload_n hx hb d_Reader_isOpenName_28 rfl (lv_at hl 2 rfl) ?_
  refine va_get (D := (wG w)) (ci := 4) (v := .int (pPs σ)) (C := R_Reader) (T := F_Reader) (N := 6) hx hb hta i_Reader hown hK hP 13 rfl rfl 2 (by decide) (hta _ fl_Reader_19) (fun _ h9 => h9) rfl d_Reader_isOpenName_29 ?_
  refine lv_iload_n hx hb d_Reader_isOpenName_32 rfl (lv_at hl 3 rfl) ?_
  refine lv_isub hx hb d_Reader_isOpenName_33 ?_
  refine lv_icmp_eq (tgt := 39) hx hb d_Reader_isOpenName_34 (by decide) (fun cc34 => ?_) (fun cc34 => ?_)
  · have hE := hE.1 cc34
    refine lv_iconst (v := 0) hx hb d_Reader_isOpenName_39 (by decide) ?_
    refine lv_istore (lv' := [(4, .int 0), (3, .int (tGet 14 (pNd σ) (pOp σ) 8)), (2, .int (tGet 14 (pNd σ) (pOp σ) 3)), (0, .ref (wA w 13)), (1, .int x0)]) hx hb d_Reader_isOpenName_40 hl (by decide) rfl (fun ls hl => ?_)
    obtain ⟨n42, hE⟩ := hE
    exact L42 x0 (tGet 14 (pNd σ) (pOp σ) 3) (tGet 14 (pNd σ) (pOp σ) 8) n42 0 _ (lv_sub hl [3, 4, 2, 1, 0] rfl) hE
  · have hE := hE.2 cc34
    refine lv_iconst (v := 0) hx hb d_Reader_isOpenName_37 (by decide) ?_
    exact W.zret (v := 0) hx hb hr rfl (fun t ht hW => ⟨_, rfl, hE, ht⟩) (fun q h => by cases h) d_Reader_isOpenName_38
theorem fl_Reader_30 : Cond.fieldLink "PlainPages$Reader" 30 "PlainPages$Reader" "wrong" "I" ∈ aW := aW_in 183 (by decide +kernel) rfl
theorem d_Reader_refuse_0 : decode b_Reader_refuse 0 = .ok (.aload_n 0, 1) := by decide +kernel
theorem d_Reader_refuse_1 : decode b_Reader_refuse 1 = .ok (.iload_n 1, 1) := by decide +kernel
theorem d_Reader_refuse_2 : decode b_Reader_refuse 2 = .ok (.putfield 30, 3) := by decide +kernel
theorem d_Reader_refuse_5 : decode b_Reader_refuse 5 = .ok (.iconst 0, 1) := by decide +kernel
theorem d_Reader_refuse_6 : decode b_Reader_refuse 6 = .ok (.ireturn, 1) := by decide +kernel
def w_Reader_refuse  (σ : PPS) (x0 : Int32) (post : Int32 → PPS → Prop) : Prop := (∀ σ2 : PPS, σ2 = sWr σ x0 → post 0 σ2)
set_option maxHeartbeats 4000000 in
set_option maxRecDepth 100000 in
theorem c_Reader_refuse (l : Launch) (w : WD) (sz : Nat) (σ : PPS) (x0 : Int32)  (post : Int32 → PPS → Prop) (hI : inv σ) (hE : w_Reader_refuse σ x0 post) : Met l y_Reader_refuse ws_Reader_refuse { frames := 0, cells := 0, slots := 0, locals := 0 } (va_Pc [.ref (wA w 13), .int x0] (gW w σ sz)) (va_Qi (fun r u => post r u ∧ inv u) (mB (wG w) (WW w) (wI w) (va_A (WW w σ) sz)) (va_A (WW w σ) sz)) 0 0 (va_A (WW w σ) sz) := by
  refine Met.ofW (cc := b_Reader_refuse) (maxL := 2) (ret := (some .boolean)) (by decide) rfl ?_
  intro p e s m args below meth c s₁ B hml hv
  obtain ⟨rfl, hsz, hP, hK, hD0, hC⟩ := hv
  have hx := B.exec
  have hb := B.bytes
  have hr := B.returns
  have hta : ∀ w ∈ aW, w.before _ s = true := fun w h => atoms_spec (ws := ws_Reader_refuse) B.pre w (List.mem_cons_of_mem _ h)
  have hown : s.vm.findClass R_Reader = some m.cls := findClass_of_methodNamed B.named
  have hlocks := B.notSynchronized
  subst hsz
  have hD := hD0.self (sz := s.heap.size)
  generalize hAe : va_A (WW w σ) s.heap.size = A at hD hC ⊢
  have hA : ∀ q : Nat, s.heap.size ≤ q → A q := fun q h => by rw [← hAe]; exact Or.inr h
  have hS : va_S A s.heap s.heap [] := va_S.rf
  have hP : va_P (wG w) classes (WW w σ) s.heap := hP
  have hl := lv_entry ([.ref (wA w 13), .int x0]) (n := 2) (Nat.le_of_ble_eq_true rfl)
  rw [lg_entry_eq]
  generalize (lg_sl ([.ref (wA w 13), .int x0]) ++ List.replicate (2 - (lg_sl ([.ref (wA w 13), .int x0])).length) Slot.unset).toArray = ls at hl ⊢
  have hl : lv_has ls 2 [(0, .ref (wA w 13)), (1, .int x0)] := hl
  unfold w_Reader_refuse at hE
  refine lv_aload_n hx hb d_Reader_refuse_0 rfl (lv_at hl 0 rfl) ?_
  refine lv_iload_n hx hb d_Reader_refuse_1 rfl (lv_at hl 1 rfl) ?_
  refine va_put (D := (wG w)) (ci := 4) (v := .int x0) (ty := .int) (C := R_Reader) (T := F_Reader) (N := 6) hx hb hta i_Reader t_Reader t_Reader_ok n_Reader hown hK hP hD hS 13 rfl rfl 5 (by decide) (hta _ fl_Reader_30) (fun _ h9 => h9) rfl (by decide +kernel) rfl rfl (Nat.le_of_ble_eq_true rfl) d_Reader_refuse_2 (fun H locs hP hD hS => ?_)
  have hP : va_P (wG w) classes (WW w (sWr σ x0)) H := hP
  have hD : va_D A (WW w (sWr σ x0)) := hD
  have hI : inv (sWr σ x0) := hI
  have hE := hE _ rfl
  generalize (sWr σ x0 : PPS) = σ2 at hP hD hI hE
  refine lv_iconst (v := 0) hx hb d_Reader_refuse_5 (by decide) ?_
  exact W.zret (v := 0) hx hb hr rfl (fun t ht hW => ⟨⟨_, σ2, rfl, ⟨hE, hI⟩, by rw [ht]; exact hP, va_K.moved hW.alike hK, hD⟩, hS.F ht⟩) hS.2.2 d_Reader_refuse_6
theorem ok_Reader_75 : okV "PlainPages$Reader" 75 R_Reader y_Reader_refuse b_Reader_refuse 2 (some .boolean) 1 := ⟨aW_in 456 (by decide +kernel) rfl, aW_in 458 (by decide +kernel) rfl, aW_in 5 (by decide +kernel) rfl, aW_in 89 (by decide +kernel) rfl, cd_Reader_refuse, rfl, by decide +kernel, by decide +kernel, by decide +kernel⟩
theorem d_Reader_take_0 : decode b_Reader_take 0 = .ok (.aload_n 0, 1) := by decide +kernel
theorem d_Reader_take_1 : decode b_Reader_take 1 = .ok (.getfield 9, 3) := by decide +kernel
theorem d_Reader_take_4 : decode b_Reader_take 4 = .ok (.aload_n 0, 1) := by decide +kernel
theorem d_Reader_take_5 : decode b_Reader_take 5 = .ok (.getfield 19, 3) := by decide +kernel
theorem d_Reader_take_8 : decode b_Reader_take 8 = .ok (.invokevirtual 65, 3) := by decide +kernel
theorem d_Reader_take_11 : decode b_Reader_take 11 = .ok (.iload_n 1, 1) := by decide +kernel
theorem d_Reader_take_12 : decode b_Reader_take 12 = .ok (.if_icmp .eq 12, 3) := by decide +kernel
theorem d_Reader_take_15 : decode b_Reader_take 15 = .ok (.aload_n 0, 1) := by decide +kernel
theorem d_Reader_take_16 : decode b_Reader_take 16 = .ok (.aload_n 0, 1) := by decide +kernel
theorem d_Reader_take_17 : decode b_Reader_take 17 = .ok (.getfield 19, 3) := by decide +kernel
theorem d_Reader_take_20 : decode b_Reader_take 20 = .ok (.invokevirtual 75, 3) := by decide +kernel
theorem d_Reader_take_23 : decode b_Reader_take 23 = .ok (.ireturn, 1) := by decide +kernel
theorem d_Reader_take_24 : decode b_Reader_take 24 = .ok (.aload_n 0, 1) := by decide +kernel
theorem d_Reader_take_25 : decode b_Reader_take 25 = .ok (.dup, 1) := by decide +kernel
theorem d_Reader_take_26 : decode b_Reader_take 26 = .ok (.getfield 19, 3) := by decide +kernel
theorem d_Reader_take_29 : decode b_Reader_take 29 = .ok (.iconst 1, 1) := by decide +kernel
theorem d_Reader_take_30 : decode b_Reader_take 30 = .ok (.iadd, 1) := by decide +kernel
theorem d_Reader_take_31 : decode b_Reader_take 31 = .ok (.putfield 19, 3) := by decide +kernel
theorem d_Reader_take_34 : decode b_Reader_take 34 = .ok (.iconst 1, 1) := by decide +kernel
theorem d_Reader_take_35 : decode b_Reader_take 35 = .ok (.ireturn, 1) := by decide +kernel
def w_Reader_take  (σ : PPS) (x0 : Int32) (post : Int32 → PPS → Prop) : Prop := (((sGet (pTp σ) (pPs σ)) = x0 → (∀ σ31 : PPS, σ31 = sPs σ ((pPs σ) + 1) → post 1 σ31)) ∧ (¬ (sGet (pTp σ) (pPs σ)) = x0 → w_Reader_refuse σ (pPs σ) (fun r20 σ20 => (narrow .boolean (.int r20) = .int r20 ∧ post r20 σ20))))
set_option maxHeartbeats 4000000 in
set_option maxRecDepth 100000 in
theorem c_Reader_take (l : Launch) (w : WD) (sz : Nat) (σ : PPS) (x0 : Int32)  (post : Int32 → PPS → Prop) (hI : inv σ) (hE : w_Reader_take σ x0 post) : Met l y_Reader_take ws_Reader_take { frames := 1, cells := 0, slots := 0, locals := 21 } (va_Pc [.ref (wA w 13), .int x0] (gW w σ sz)) (va_Qi (fun r u => post r u ∧ inv u) (mB (wG w) (WW w) (wI w) (va_A (WW w σ) sz)) (va_A (WW w σ) sz)) 0 0 (va_A (WW w σ) sz) := by
  refine Met.ofW (cc := b_Reader_take) (maxL := 2) (ret := (some .boolean)) (by decide) rfl ?_
  intro p e s m args below meth c s₁ B hml hv
  obtain ⟨rfl, hsz, hP, hK, hD0, hC⟩ := hv
  have hx := B.exec
  have hb := B.bytes
  have hr := B.returns
  have hta : ∀ w ∈ aW, w.before _ s = true := fun w h => atoms_spec (ws := ws_Reader_take) B.pre w (List.mem_cons_of_mem _ h)
  have hown : s.vm.findClass R_Reader = some m.cls := findClass_of_methodNamed B.named
  have hlocks := B.notSynchronized
  subst hsz
  have hD := hD0.self (sz := s.heap.size)
  generalize hAe : va_A (WW w σ) s.heap.size = A at hD hC ⊢
  have hA : ∀ q : Nat, s.heap.size ≤ q → A q := fun q h => by rw [← hAe]; exact Or.inr h
  have hS : va_S A s.heap s.heap [] := va_S.rf
  have hP : va_P (wG w) classes (WW w σ) s.heap := hP
  have hl := lv_entry ([.ref (wA w 13), .int x0]) (n := 2) (Nat.le_of_ble_eq_true rfl)
  rw [lg_entry_eq]
  generalize (lg_sl ([.ref (wA w 13), .int x0]) ++ List.replicate (2 - (lg_sl ([.ref (wA w 13), .int x0])).length) Slot.unset).toArray = ls at hl ⊢
  have hl : lv_has ls 2 [(0, .ref (wA w 13)), (1, .int x0)] := hl
  unfold w_Reader_take at hE
  refine lv_aload_n hx hb d_Reader_take_0 rfl (lv_at hl 0 rfl) ?_
  refine va_get (D := (wG w)) (ci := 4) (v := .ref (wA w 2)) (C := R_Reader) (T := F_Reader) (N := 6) hx hb hta i_Reader hown hK hP 13 rfl rfl 0 (by decide) (hta _ fl_Reader_9) (fun _ h9 => h9) rfl d_Reader_take_1 ?_
  refine lv_aload_n hx hb d_Reader_take_4 rfl (lv_at hl 0 rfl) ?_
  refine va_get (D := (wG w)) (ci := 4) (v := .int (pPs σ)) (C := R_Reader) (T := F_Reader) (N := 6) hx hb hta i_Reader hown hK hP 13 rfl rfl 2 (by decide) (hta _ fl_Reader_19) (fun _ h9 => h9) rfl d_Reader_take_5 ?_
  refine ro_V (b0 := (wA w 2)) (As := [.int (pPs σ)]) (rest := []) ⟨hx, hb, hml, hown, hta⟩ (c_Strip_get l (wG w) (wA w 2) (wA w 3) (wI w) 4000 (pTp σ) (pPs σ) (fun r => r = sGet (pTp σ) (pPs σ)) (l_Strip_get (by decide) (inv.Tp hI) (pPs σ))) ok_Reader_65 ⟨Nat.le_of_ble_eq_true rfl, Nat.le_of_ble_eq_true rfl⟩ blind_rW (va_recv hK hP (ci := 1) (q0 := 2) rfl rfl) (fun U h1 h2 => ⟨by rw [h1]; exact hP.sub [2, 3] rfl, va_K.moved h2.alike hK⟩) rfl hl.1 rfl (Nat.le_of_ble_eq_true rfl) d_Reader_take_8 ⟨Nat.zero_le _, Nat.zero_le _⟩ (fun r8 hrr => ?_)
  subst hrr
  refine lv_iload_n hx hb d_Reader_take_11 rfl (lv_at hl 1 rfl) ?_
  refine lv_icmp_eq (tgt := 24) hx hb d_Reader_take_12 (by decide) (fun cc12 => ?_) (fun cc12 => ?_)
  · have hE := hE.1 cc12
    refine lv_aload_n hx hb d_Reader_take_24 rfl (lv_at hl 0 rfl) ?_
    refine lv_dup hx hb d_Reader_take_25 rfl ?_
    refine va_get (D := (wG w)) (ci := 4) (v := .int (pPs σ)) (C := R_Reader) (T := F_Reader) (N := 6) hx hb hta i_Reader hown hK hP 13 rfl rfl 2 (by decide) (hta _ fl_Reader_19) (fun _ h9 => h9) rfl d_Reader_take_26 ?_
    refine lv_iconst (v := 1) hx hb d_Reader_take_29 (by decide) ?_
    refine lv_iadd hx hb d_Reader_take_30 ?_
    refine va_put (D := (wG w)) (ci := 4) (v := .int ((pPs σ) + 1)) (ty := .int) (C := R_Reader) (T := F_Reader) (N := 6) hx hb hta i_Reader t_Reader t_Reader_ok n_Reader hown hK hP hD hS 13 rfl rfl 2 (by decide) (hta _ fl_Reader_19) (fun _ h9 => h9) rfl (by decide +kernel) rfl rfl (Nat.le_of_ble_eq_true rfl) d_Reader_take_31 (fun H locs hP hD hS => ?_)
    have hP : va_P (wG w) classes (WW w (sPs σ ((pPs σ) + 1))) H := hP
    have hD : va_D A (WW w (sPs σ ((pPs σ) + 1))) := hD
    have hI : inv (sPs σ ((pPs σ) + 1)) := hI
    have hE := hE _ rfl
    generalize (sPs σ ((pPs σ) + 1) : PPS) = σ31 at hP hD hI hE
    refine lv_iconst (v := 1) hx hb d_Reader_take_34 (by decide) ?_
    exact W.zret (v := 1) hx hb hr rfl (fun t ht hW => ⟨⟨_, σ31, rfl, ⟨hE, hI⟩, by rw [ht]; exact hP, va_K.moved hW.alike hK, hD⟩, hS.F ht⟩) hS.2.2 d_Reader_take_35
  · have hE := hE.2 cc12
    refine lv_aload_n hx hb d_Reader_take_15 rfl (lv_at hl 0 rfl) ?_
    refine lv_aload_n hx hb d_Reader_take_16 rfl (lv_at hl 0 rfl) ?_
    refine va_get (D := (wG w)) (ci := 4) (v := .int (pPs σ)) (C := R_Reader) (T := F_Reader) (N := 6) hx hb hta i_Reader hown hK hP 13 rfl rfl 2 (by decide) (hta _ fl_Reader_19) (fun _ h9 => h9) rfl d_Reader_take_17 ?_
    refine mc_i (b0 := (wA w 13)) (As := [.int (pPs σ)]) (rest := []) ⟨hx, hb, hml, hown, hta⟩ (c_Reader_refuse l w _ σ (pPs σ) _ hI hE) ok_Reader_75 ⟨Nat.le_of_ble_eq_true rfl, Nat.le_of_ble_eq_true rfl⟩ (va_recv hK hP (ci := 4) (q0 := 13) rfl rfl) hP hK hD hS hA hC rfl hl.1 rfl (Nat.le_of_ble_eq_true rfl) d_Reader_take_20 ⟨Nat.zero_le _, Nat.zero_le _⟩ (fun r20 σ20 H locs hE hP hD hS => ?_)
    obtain ⟨hE, hI⟩ := hE
    obtain ⟨hN, hE⟩ := hE
    exact W.zret (v := r20) hx hb hr hN (fun t ht hW => ⟨⟨_, σ20, rfl, ⟨hE, hI⟩, by rw [ht]; exact hP, va_K.moved hW.alike hK, hD⟩, hS.F ht⟩) hS.2.2 d_Reader_take_23
theorem ok_Reader_57 : okV "PlainPages$Reader" 57 R_Strip y_Strip_size b_Strip_size 1 (some .int) 0 := ⟨aW_in 444 (by decide +kernel) rfl, aW_in 261 (by decide +kernel) rfl, aW_in 262 (by decide +kernel) rfl, aW_in 85 (by decide +kernel) rfl, cd_Strip_size, rfl, by decide +kernel, by decide +kernel, by decide +kernel⟩
theorem ok_Reader_79 : okS "PlainPages$Reader" 79 y_Signs_isWhite b_Signs_isWhite 1 (some .boolean) 1 := ⟨aW_in 445 (by decide +kernel) rfl, aW_in 446 (by decide +kernel) rfl, aW_in 97 (by decide +kernel) rfl, cd_Signs_isWhite, by decide +kernel, by decide +kernel, by decide +kernel⟩
theorem d_Reader_skipWhite_0 : decode b_Reader_skipWhite 0 = .ok (.aload_n 0, 1) := by decide +kernel
theorem d_Reader_skipWhite_1 : decode b_Reader_skipWhite 1 = .ok (.getfield 19, 3) := by decide +kernel
theorem d_Reader_skipWhite_4 : decode b_Reader_skipWhite 4 = .ok (.aload_n 0, 1) := by decide +kernel
theorem d_Reader_skipWhite_5 : decode b_Reader_skipWhite 5 = .ok (.getfield 9, 3) := by decide +kernel
theorem d_Reader_skipWhite_8 : decode b_Reader_skipWhite 8 = .ok (.invokevirtual 57, 3) := by decide +kernel
theorem d_Reader_skipWhite_11 : decode b_Reader_skipWhite 11 = .ok (.if_icmp .ge 33, 3) := by decide +kernel
theorem d_Reader_skipWhite_14 : decode b_Reader_skipWhite 14 = .ok (.aload_n 0, 1) := by decide +kernel
theorem d_Reader_skipWhite_15 : decode b_Reader_skipWhite 15 = .ok (.getfield 9, 3) := by decide +kernel
theorem d_Reader_skipWhite_18 : decode b_Reader_skipWhite 18 = .ok (.aload_n 0, 1) := by decide +kernel
theorem d_Reader_skipWhite_19 : decode b_Reader_skipWhite 19 = .ok (.getfield 19, 3) := by decide +kernel
theorem d_Reader_skipWhite_22 : decode b_Reader_skipWhite 22 = .ok (.invokevirtual 65, 3) := by decide +kernel
theorem d_Reader_skipWhite_25 : decode b_Reader_skipWhite 25 = .ok (.invokestatic 79, 3) := by decide +kernel
theorem d_Reader_skipWhite_28 : decode b_Reader_skipWhite 28 = .ok (.ifCond .eq 16, 3) := by decide +kernel
theorem d_Reader_skipWhite_31 : decode b_Reader_skipWhite 31 = .ok (.aload_n 0, 1) := by decide +kernel
theorem d_Reader_skipWhite_32 : decode b_Reader_skipWhite 32 = .ok (.dup, 1) := by decide +kernel
theorem d_Reader_skipWhite_33 : decode b_Reader_skipWhite 33 = .ok (.getfield 19, 3) := by decide +kernel
theorem d_Reader_skipWhite_36 : decode b_Reader_skipWhite 36 = .ok (.iconst 1, 1) := by decide +kernel
theorem d_Reader_skipWhite_37 : decode b_Reader_skipWhite 37 = .ok (.iadd, 1) := by decide +kernel
theorem d_Reader_skipWhite_38 : decode b_Reader_skipWhite 38 = .ok (.putfield 19, 3) := by decide +kernel
theorem d_Reader_skipWhite_41 : decode b_Reader_skipWhite 41 = .ok (.goto (-41), 3) := by decide +kernel
theorem d_Reader_skipWhite_44 : decode b_Reader_skipWhite 44 = .ok (.return_, 1) := by decide +kernel
def w_Reader_skipWhite_L0   (post : PPS → Prop) : Nat → PPS → Prop
  | 0, _ => False
  | n0 + 1, σ => ((((pTp σ).1) ≤ (pPs σ) → post σ) ∧ (¬ ((pTp σ).1) ≤ (pPs σ) → (((b2i (cWh (sGet (pTp σ) (pPs σ)))) = 0 → post σ) ∧ (¬ (b2i (cWh (sGet (pTp σ) (pPs σ)))) = 0 → (∀ σ38 : PPS, σ38 = sPs σ ((pPs σ) + 1) → w_Reader_skipWhite_L0 post n0 σ38)))))
def w_Reader_skipWhite  (σ : PPS)  (post : PPS → Prop) : Prop := (∃ n0, w_Reader_skipWhite_L0 post n0 σ)
set_option maxHeartbeats 4000000 in
set_option maxRecDepth 100000 in
theorem c_Reader_skipWhite (l : Launch) (w : WD) (sz : Nat) (σ : PPS)   (post : PPS → Prop) (hI : inv σ) (hE : w_Reader_skipWhite σ post) : Met l y_Reader_skipWhite ws_Reader_skipWhite { frames := 1, cells := 0, slots := 0, locals := 21 } (va_Pc [.ref (wA w 13)] (gW w σ sz)) (va_Qv (fun u => post u ∧ inv u) (mB (wG w) (WW w) (wI w) (va_A (WW w σ) sz)) (va_A (WW w σ) sz)) 0 0 (va_A (WW w σ) sz) := by
  refine Met.ofW (cc := b_Reader_skipWhite) (maxL := 1) (ret := none) (by decide) rfl ?_
  intro p e s m args below meth c s₁ B hml hv
  obtain ⟨rfl, hsz, hP, hK, hD0, hC⟩ := hv
  have hx := B.exec
  have hb := B.bytes
  have hr := B.returns
  have hta : ∀ w ∈ aW, w.before _ s = true := fun w h => atoms_spec (ws := ws_Reader_skipWhite) B.pre w (List.mem_cons_of_mem _ h)
  have hown : s.vm.findClass R_Reader = some m.cls := findClass_of_methodNamed B.named
  have hlocks := B.notSynchronized
  subst hsz
  have hD := hD0.self (sz := s.heap.size)
  generalize hAe : va_A (WW w σ) s.heap.size = A at hD hC ⊢
  have hA : ∀ q : Nat, s.heap.size ≤ q → A q := fun q h => by rw [← hAe]; exact Or.inr h
  have hS : va_S A s.heap s.heap [] := va_S.rf
  have hP : va_P (wG w) classes (WW w σ) s.heap := hP
  have hl := lv_entry ([.ref (wA w 13)]) (n := 1) (Nat.le_of_ble_eq_true rfl)
  rw [lg_entry_eq]
  generalize (lg_sl ([.ref (wA w 13)]) ++ List.replicate (1 - (lg_sl ([.ref (wA w 13)])).length) Slot.unset).toArray = ls at hl ⊢
  have hl : lv_has ls 1 [(0, .ref (wA w 13))] := hl
  have L0 : ∀ (n0 : Nat) (σ : PPS) (H : Heap) (locs : List Loc) (hP : va_P (wG w) classes (WW w σ) H) (hD : va_D A (WW w σ)) (hS : va_S A s.heap H locs) (hI : inv σ) (ls : Array Slot) (hl : lv_has ls 1 [(0, .ref (wA w 13))]) (hE : w_Reader_skipWhite_L0 post n0 σ), W p l e (headSpec ws_Reader_skipWhite { frames := 1, cells := 0, slots := 0, locals := 21 }).room s m ([.ref (wA w 13)] : List Value).toArray below meth c H locs 0 0 (MQ below (va_Qv (fun u => post u ∧ inv u) (mB (wG w) (WW w) (wI w) A) A) ([.ref (wA w 13)] : List Value).toArray s 0 0 A) (F0 m 0 ls []) := by
    intro n0
    induction n0 with
    | zero => intro σ H locs hP hD hS hI ls hl hE; exact hE.elim
    | succ n0 ih0 =>
      intro σ H locs hP hD hS hI ls hl hE
      unfold w_Reader_skipWhite_L0 at hE
      refine lv_aload_n hx hb d_Reader_skipWhite_0 rfl (lv_at hl 0 rfl) ?_
      refine va_get (D := (wG w)) (ci := 4) (v := .int (pPs σ)) (C := R_Reader) (T := F_Reader) (N := 6) hx hb hta i_Reader hown hK hP 13 rfl rfl 2 (by decide) (hta _ fl_Reader_19) (fun _ h9 => h9) rfl d_Reader_skipWhite_1 ?_
      refine lv_aload_n hx hb d_Reader_skipWhite_4 rfl (lv_at hl 0 rfl) ?_
      refine va_get (D := (wG w)) (ci := 4) (v := .ref (wA w 2)) (C := R_Reader) (T := F_Reader) (N := 6) hx hb hta i_Reader hown hK hP 13 rfl rfl 0 (by decide) (hta _ fl_Reader_9) (fun _ h9 => h9) rfl d_Reader_skipWhite_5 ?_
      refine ro_V (b0 := (wA w 2)) (As := []) (rest := [.int (pPs σ)]) ⟨hx, hb, hml, hown, hta⟩ (c_Strip_size l (wG w) (wA w 2) (wA w 3) (wI w) 4000 (pTp σ)  (fun r => r = (pTp σ).1) rfl) ok_Reader_57 ⟨Nat.le_of_ble_eq_true rfl, Nat.le_of_ble_eq_true rfl⟩ blind_rW (va_recv hK hP (ci := 1) (q0 := 2) rfl rfl) (fun U h1 h2 => ⟨by rw [h1]; exact hP.sub [2, 3] rfl, va_K.moved h2.alike hK⟩) rfl hl.1 rfl (Nat.le_of_ble_eq_true rfl) d_Reader_skipWhite_8 ⟨Nat.zero_le _, Nat.zero_le _⟩ (fun r8 hrr => ?_)
      subst hrr
      refine lv_icmp_ge (tgt := 44) hx hb d_Reader_skipWhite_11 (by decide) (fun cc11 => ?_) (fun cc11 => ?_)
      · have hE := hE.1 cc11
        exact W.vret hx hb hr (fun t ht hW => ⟨⟨σ, rfl, ⟨hE, hI⟩, by rw [ht]; exact hP, va_K.moved hW.alike hK, hD⟩, hS.F ht⟩) hS.2.2 d_Reader_skipWhite_44
      · have hE := hE.2 cc11
        refine lv_aload_n hx hb d_Reader_skipWhite_14 rfl (lv_at hl 0 rfl) ?_
        refine va_get (D := (wG w)) (ci := 4) (v := .ref (wA w 2)) (C := R_Reader) (T := F_Reader) (N := 6) hx hb hta i_Reader hown hK hP 13 rfl rfl 0 (by decide) (hta _ fl_Reader_9) (fun _ h9 => h9) rfl d_Reader_skipWhite_15 ?_
        refine lv_aload_n hx hb d_Reader_skipWhite_18 rfl (lv_at hl 0 rfl) ?_
        refine va_get (D := (wG w)) (ci := 4) (v := .int (pPs σ)) (C := R_Reader) (T := F_Reader) (N := 6) hx hb hta i_Reader hown hK hP 13 rfl rfl 2 (by decide) (hta _ fl_Reader_19) (fun _ h9 => h9) rfl d_Reader_skipWhite_19 ?_
        refine ro_V (b0 := (wA w 2)) (As := [.int (pPs σ)]) (rest := []) ⟨hx, hb, hml, hown, hta⟩ (c_Strip_get l (wG w) (wA w 2) (wA w 3) (wI w) 4000 (pTp σ) (pPs σ) (fun r => r = sGet (pTp σ) (pPs σ)) (l_Strip_get (by decide) (inv.Tp hI) (pPs σ))) ok_Reader_65 ⟨Nat.le_of_ble_eq_true rfl, Nat.le_of_ble_eq_true rfl⟩ blind_rW (va_recv hK hP (ci := 1) (q0 := 2) rfl rfl) (fun U h1 h2 => ⟨by rw [h1]; exact hP.sub [2, 3] rfl, va_K.moved h2.alike hK⟩) rfl hl.1 rfl (Nat.le_of_ble_eq_true rfl) d_Reader_skipWhite_22 ⟨Nat.zero_le _, Nat.zero_le _⟩ (fun r22 hrr => ?_)
        subst hrr
        refine ro_S  (As := [.int (sGet (pTp σ) (pPs σ))]) (rest := []) ⟨hx, hb, hml, hown, hta⟩ (f_Signs_isWhite l (sGet (pTp σ) (pPs σ))) ok_Reader_79 ⟨Nat.le_of_ble_eq_true rfl, Nat.le_of_ble_eq_true rfl⟩ blind_true  (fun _ _ _ => trivial) rfl hl.1 rfl (Nat.le_of_ble_eq_true rfl) d_Reader_skipWhite_25 ⟨Nat.zero_le _, Nat.zero_le _⟩ (fun r25 hrr => ?_)
        subst hrr
        refine lv_if_eq (tgt := 44) hx hb d_Reader_skipWhite_28 (by decide) (fun cc28 => ?_) (fun cc28 => ?_)
        · have hE := hE.1 cc28
          exact W.vret hx hb hr (fun t ht hW => ⟨⟨σ, rfl, ⟨hE, hI⟩, by rw [ht]; exact hP, va_K.moved hW.alike hK, hD⟩, hS.F ht⟩) hS.2.2 d_Reader_skipWhite_44
        · have hE := hE.2 cc28
          refine lv_aload_n hx hb d_Reader_skipWhite_31 rfl (lv_at hl 0 rfl) ?_
          refine lv_dup hx hb d_Reader_skipWhite_32 rfl ?_
          refine va_get (D := (wG w)) (ci := 4) (v := .int (pPs σ)) (C := R_Reader) (T := F_Reader) (N := 6) hx hb hta i_Reader hown hK hP 13 rfl rfl 2 (by decide) (hta _ fl_Reader_19) (fun _ h9 => h9) rfl d_Reader_skipWhite_33 ?_
          refine lv_iconst (v := 1) hx hb d_Reader_skipWhite_36 (by decide) ?_
          refine lv_iadd hx hb d_Reader_skipWhite_37 ?_
          refine va_put (D := (wG w)) (ci := 4) (v := .int ((pPs σ) + 1)) (ty := .int) (C := R_Reader) (T := F_Reader) (N := 6) hx hb hta i_Reader t_Reader t_Reader_ok n_Reader hown hK hP hD hS 13 rfl rfl 2 (by decide) (hta _ fl_Reader_19) (fun _ h9 => h9) rfl (by decide +kernel) rfl rfl (Nat.le_of_ble_eq_true rfl) d_Reader_skipWhite_38 (fun H locs hP hD hS => ?_)
          have hP : va_P (wG w) classes (WW w (sPs σ ((pPs σ) + 1))) H := hP
          have hD : va_D A (WW w (sPs σ ((pPs σ) + 1))) := hD
          have hI : inv (sPs σ ((pPs σ) + 1)) := hI
          have hE := hE _ rfl
          generalize (sPs σ ((pPs σ) + 1) : PPS) = σ38 at hP hD hI hE
          refine lv_goto (tgt := 0) hx hb d_Reader_skipWhite_41 (by decide) ?_
          exact ih0 σ38 _ _ hP hD hS hI _ (lv_sub hl [0] rfl) hE
  unfold w_Reader_skipWhite at hE
  obtain ⟨n0, hE⟩ := hE
  exact L0  n0 σ _ _ hP hD hS hI _ (lv_sub hl [0] rfl) hE
theorem ok_Reader_88 : okS "PlainPages$Reader" 88 y_Signs_beginsName b_Signs_beginsName 1 (some .boolean) 1 := ⟨aW_in 464 (by decide +kernel) rfl, aW_in 465 (by decide +kernel) rfl, aW_in 97 (by decide +kernel) rfl, cd_Signs_beginsName, by decide +kernel, by decide +kernel, by decide +kernel⟩
theorem ok_Reader_91 : okS "PlainPages$Reader" 91 y_Signs_goesOnName b_Signs_goesOnName 1 (some .boolean) 1 := ⟨aW_in 467 (by decide +kernel) rfl, aW_in 468 (by decide +kernel) rfl, aW_in 97 (by decide +kernel) rfl, cd_Signs_goesOnName, by decide +kernel, by decide +kernel, by decide +kernel⟩
theorem d_Reader_passName_0 : decode b_Reader_passName 0 = .ok (.aload_n 0, 1) := by decide +kernel
theorem d_Reader_passName_1 : decode b_Reader_passName 1 = .ok (.getfield 19, 3) := by decide +kernel
theorem d_Reader_passName_4 : decode b_Reader_passName 4 = .ok (.istore_n 1, 1) := by decide +kernel
theorem d_Reader_passName_5 : decode b_Reader_passName 5 = .ok (.aload_n 0, 1) := by decide +kernel
theorem d_Reader_passName_6 : decode b_Reader_passName 6 = .ok (.getfield 9, 3) := by decide +kernel
theorem d_Reader_passName_9 : decode b_Reader_passName 9 = .ok (.aload_n 0, 1) := by decide +kernel
theorem d_Reader_passName_10 : decode b_Reader_passName 10 = .ok (.getfield 19, 3) := by decide +kernel
theorem d_Reader_passName_13 : decode b_Reader_passName 13 = .ok (.invokevirtual 65, 3) := by decide +kernel
theorem d_Reader_passName_16 : decode b_Reader_passName 16 = .ok (.invokestatic 88, 3) := by decide +kernel
theorem d_Reader_passName_19 : decode b_Reader_passName 19 = .ok (.ifCond .ne 12, 3) := by decide +kernel
theorem d_Reader_passName_22 : decode b_Reader_passName 22 = .ok (.aload_n 0, 1) := by decide +kernel
theorem d_Reader_passName_23 : decode b_Reader_passName 23 = .ok (.aload_n 0, 1) := by decide +kernel
theorem d_Reader_passName_24 : decode b_Reader_passName 24 = .ok (.getfield 19, 3) := by decide +kernel
theorem d_Reader_passName_27 : decode b_Reader_passName 27 = .ok (.invokevirtual 75, 3) := by decide +kernel
theorem d_Reader_passName_30 : decode b_Reader_passName 30 = .ok (.ireturn, 1) := by decide +kernel
theorem d_Reader_passName_31 : decode b_Reader_passName 31 = .ok (.aload_n 0, 1) := by decide +kernel
theorem d_Reader_passName_32 : decode b_Reader_passName 32 = .ok (.getfield 19, 3) := by decide +kernel
theorem d_Reader_passName_35 : decode b_Reader_passName 35 = .ok (.aload_n 0, 1) := by decide +kernel
theorem d_Reader_passName_36 : decode b_Reader_passName 36 = .ok (.getfield 9, 3) := by decide +kernel
theorem d_Reader_passName_39 : decode b_Reader_passName 39 = .ok (.invokevirtual 57, 3) := by decide +kernel
theorem d_Reader_passName_42 : decode b_Reader_passName 42 = .ok (.if_icmp .ge 33, 3) := by decide +kernel
theorem d_Reader_passName_45 : decode b_Reader_passName 45 = .ok (.aload_n 0, 1) := by decide +kernel
theorem d_Reader_passName_46 : decode b_Reader_passName 46 = .ok (.getfield 9, 3) := by decide +kernel
theorem d_Reader_passName_49 : decode b_Reader_passName 49 = .ok (.aload_n 0, 1) := by decide +kernel
theorem d_Reader_passName_50 : decode b_Reader_passName 50 = .ok (.getfield 19, 3) := by decide +kernel
theorem d_Reader_passName_53 : decode b_Reader_passName 53 = .ok (.invokevirtual 65, 3) := by decide +kernel
theorem d_Reader_passName_56 : decode b_Reader_passName 56 = .ok (.invokestatic 91, 3) := by decide +kernel
theorem d_Reader_passName_59 : decode b_Reader_passName 59 = .ok (.ifCond .eq 16, 3) := by decide +kernel
theorem d_Reader_passName_62 : decode b_Reader_passName 62 = .ok (.aload_n 0, 1) := by decide +kernel
theorem d_Reader_passName_63 : decode b_Reader_passName 63 = .ok (.dup, 1) := by decide +kernel
theorem d_Reader_passName_64 : decode b_Reader_passName 64 = .ok (.getfield 19, 3) := by decide +kernel
theorem d_Reader_passName_67 : decode b_Reader_passName 67 = .ok (.iconst 1, 1) := by decide +kernel
theorem d_Reader_passName_68 : decode b_Reader_passName 68 = .ok (.iadd, 1) := by decide +kernel
theorem d_Reader_passName_69 : decode b_Reader_passName 69 = .ok (.putfield 19, 3) := by decide +kernel
theorem d_Reader_passName_72 : decode b_Reader_passName 72 = .ok (.goto (-41), 3) := by decide +kernel
theorem d_Reader_passName_75 : decode b_Reader_passName 75 = .ok (.aload_n 0, 1) := by decide +kernel
theorem d_Reader_passName_76 : decode b_Reader_passName 76 = .ok (.getfield 19, 3) := by decide +kernel
theorem d_Reader_passName_79 : decode b_Reader_passName 79 = .ok (.iload_n 1, 1) := by decide +kernel
theorem d_Reader_passName_80 : decode b_Reader_passName 80 = .ok (.isub, 1) := by decide +kernel
theorem d_Reader_passName_81 : decode b_Reader_passName 81 = .ok (.bipush 30, 2) := by decide +kernel
theorem d_Reader_passName_83 : decode b_Reader_passName 83 = .ok (.if_icmp .le 14, 3) := by decide +kernel
theorem d_Reader_passName_86 : decode b_Reader_passName 86 = .ok (.aload_n 0, 1) := by decide +kernel
theorem d_Reader_passName_87 : decode b_Reader_passName 87 = .ok (.iload_n 1, 1) := by decide +kernel
theorem d_Reader_passName_88 : decode b_Reader_passName 88 = .ok (.bipush 30, 2) := by decide +kernel
theorem d_Reader_passName_90 : decode b_Reader_passName 90 = .ok (.iadd, 1) := by decide +kernel
theorem d_Reader_passName_91 : decode b_Reader_passName 91 = .ok (.invokevirtual 75, 3) := by decide +kernel
theorem d_Reader_passName_94 : decode b_Reader_passName 94 = .ok (.ifCond .eq 7, 3) := by decide +kernel
theorem d_Reader_passName_97 : decode b_Reader_passName 97 = .ok (.iconst 1, 1) := by decide +kernel
theorem d_Reader_passName_98 : decode b_Reader_passName 98 = .ok (.goto 4, 3) := by decide +kernel
theorem d_Reader_passName_101 : decode b_Reader_passName 101 = .ok (.iconst 0, 1) := by decide +kernel
theorem d_Reader_passName_102 : decode b_Reader_passName 102 = .ok (.ireturn, 1) := by decide +kernel
def w_Reader_passName_J97   (post : Int32 → PPS → Prop) (σ : PPS) : Prop := post 1 σ
def w_Reader_passName_J75   (post : Int32 → PPS → Prop) (v1 : Int32) (σ : PPS) : Prop := ((((pPs σ) - v1) ≤ 30 → w_Reader_passName_J97 post σ) ∧ (¬ ((pPs σ) - v1) ≤ 30 → w_Reader_refuse σ (v1 + 30) (fun r91 σ91 => ((r91 = 0 → post 0 σ91) ∧ (¬ r91 = 0 → w_Reader_passName_J97 post σ91)))))
def w_Reader_passName_L31  (v1 : Int32) (post : Int32 → PPS → Prop) : Nat → PPS → Prop
  | 0, _ => False
  | n31 + 1, σ => ((((pTp σ).1) ≤ (pPs σ) → w_Reader_passName_J75 post v1 σ) ∧ (¬ ((pTp σ).1) ≤ (pPs σ) → (((b2i (cGn (sGet (pTp σ) (pPs σ)))) = 0 → w_Reader_passName_J75 post v1 σ) ∧ (¬ (b2i (cGn (sGet (pTp σ) (pPs σ)))) = 0 → (∀ σ69 : PPS, σ69 = sPs σ ((pPs σ) + 1) → w_Reader_passName_L31 v1 post n31 σ69)))))
def w_Reader_passName  (σ : PPS)  (post : Int32 → PPS → Prop) : Prop := (((b2i (cBn (sGet (pTp σ) (pPs σ)))) = 0 → w_Reader_refuse σ (pPs σ) (fun r27 σ27 => (narrow .boolean (.int r27) = .int r27 ∧ post r27 σ27))) ∧ (¬ (b2i (cBn (sGet (pTp σ) (pPs σ)))) = 0 → (∃ n31, w_Reader_passName_L31 (pPs σ) post n31 σ)))
set_option maxHeartbeats 4000000 in
set_option maxRecDepth 100000 in
theorem c_Reader_passName (l : Launch) (w : WD) (sz : Nat) (σ : PPS)   (post : Int32 → PPS → Prop) (hI : inv σ) (hE : w_Reader_passName σ post) : Met l y_Reader_passName ws_Reader_passName { frames := 2, cells := 0, slots := 0, locals := 40 } (va_Pc [.ref (wA w 13)] (gW w σ sz)) (va_Qi (fun r u => post r u ∧ inv u) (mB (wG w) (WW w) (wI w) (va_A (WW w σ) sz)) (va_A (WW w σ) sz)) 0 0 (va_A (WW w σ) sz) := by
  refine Met.ofW (cc := b_Reader_passName) (maxL := 2) (ret := (some .boolean)) (by decide) rfl ?_
  intro p e s m args below meth c s₁ B hml hv
  obtain ⟨rfl, hsz, hP, hK, hD0, hC⟩ := hv
  have hx := B.exec
  have hb := B.bytes
  have hr := B.returns
  have hta : ∀ w ∈ aW, w.before _ s = true := fun w h => atoms_spec (ws := ws_Reader_passName) B.pre w (List.mem_cons_of_mem _ h)
  have hown : s.vm.findClass R_Reader = some m.cls := findClass_of_methodNamed B.named
  have hlocks := B.notSynchronized
  subst hsz
  have hD := hD0.self (sz := s.heap.size)
  generalize hAe : va_A (WW w σ) s.heap.size = A at hD hC ⊢
  have hA : ∀ q : Nat, s.heap.size ≤ q → A q := fun q h => by rw [← hAe]; exact Or.inr h
  have hS : va_S A s.heap s.heap [] := va_S.rf
  have hP : va_P (wG w) classes (WW w σ) s.heap := hP
  have hl := lv_entry ([.ref (wA w 13)]) (n := 2) (Nat.le_of_ble_eq_true rfl)
  rw [lg_entry_eq]
  generalize (lg_sl ([.ref (wA w 13)]) ++ List.replicate (2 - (lg_sl ([.ref (wA w 13)])).length) Slot.unset).toArray = ls at hl ⊢
  have hl : lv_has ls 2 [(0, .ref (wA w 13))] := hl
  have J97 : ∀ (σ : PPS) (H : Heap) (locs : List Loc) (hP : va_P (wG w) classes (WW w σ) H) (hD : va_D A (WW w σ)) (hS : va_S A s.heap H locs) (hI : inv σ) (ls : Array Slot) (hl : lv_has ls 2 []) (hE : w_Reader_passName_J97 post σ), W p l e (headSpec ws_Reader_passName { frames := 2, cells := 0, slots := 0, locals := 40 }).room s m ([.ref (wA w 13)] : List Value).toArray below meth c H locs 0 0 (MQ below (va_Qi (fun r u => post r u ∧ inv u) (mB (wG w) (WW w) (wI w) A) A) ([.ref (wA w 13)] : List Value).toArray s 0 0 A) (F0 m 97 ls []) := by
    intro  σ H locs hP hD hS hI ls hl hE
    unfold w_Reader_passName_J97 at hE
    refine lv_iconst (v := 1) hx hb d_Reader_passName_97 (by decide) ?_
    refine lv_goto (tgt := 102) hx hb d_Reader_passName_98 (by decide) ?_
    exact W.zret (v := 1) hx hb hr rfl (fun t ht hW => ⟨⟨_, σ, rfl, ⟨hE, hI⟩, by rw [ht]; exact hP, va_K.moved hW.alike hK, hD⟩, hS.F ht⟩) hS.2.2 d_Reader_passName_102
  have J75 : ∀ (v1 : Int32) (σ : PPS) (H : Heap) (locs : List Loc) (hP : va_P (wG w) classes (WW w σ) H) (hD : va_D A (WW w σ)) (hS : va_S A s.heap H locs) (hI : inv σ) (ls : Array Slot) (hl : lv_has ls 2 [(0, .ref (wA w 13)), (1, .int v1)]) (hE : w_Reader_passName_J75 post v1 σ), W p l e (headSpec ws_Reader_passName { frames := 2, cells := 0, slots := 0, locals := 40 }).room s m ([.ref (wA w 13)] : List Value).toArray below meth c H locs 0 0 (MQ below (va_Qi (fun r u => post r u ∧ inv u) (mB (wG w) (WW w) (wI w) A) A) ([.ref (wA w 13)] : List Value).toArray s 0 0 A) (F0 m 75 ls []) := by
    intro  v1 σ H locs hP hD hS hI ls hl hE
    unfold w_Reader_passName_J75 at hE
    refine lv_aload_n hx hb d_Reader_passName_75 rfl (lv_at hl 0 rfl) ?_
    refine va_get (D := (wG w)) (ci := 4) (v := .int (pPs σ)) (C := R_Reader) (T := F_Reader) (N := 6) hx hb hta i_Reader hown hK hP 13 rfl rfl 2 (by decide) (hta _ fl_Reader_19) (fun _ h9 => h9) rfl d_Reader_passName_76 ?_
    refine lv_iload_n hx hb d_Reader_passName_79 rfl (lv_at hl 1 rfl) ?_
    refine lv_isub hx hb d_Reader_passName_80 ?_
    refine lv_bipush (v := 30) hx hb d_Reader_passName_81 (by decide) ?_
    refine lv_icmp_le (tgt := 97) hx hb d_Reader_passName_83 (by decide) (fun cc83 => ?_) (fun cc83 => ?_)
    · have hE := hE.1 cc83
      exact J97  σ _ _ hP hD hS hI _ (lv_sub hl [] rfl) hE
    · have hE := hE.2 cc83
      refine lv_aload_n hx hb d_Reader_passName_86 rfl (lv_at hl 0 rfl) ?_
      refine lv_iload_n hx hb d_Reader_passName_87 rfl (lv_at hl 1 rfl) ?_
      refine lv_bipush (v := 30) hx hb d_Reader_passName_88 (by decide) ?_
      refine lv_iadd hx hb d_Reader_passName_90 ?_
      refine mc_i (b0 := (wA w 13)) (As := [.int (v1 + 30)]) (rest := []) ⟨hx, hb, hml, hown, hta⟩ (c_Reader_refuse l w _ σ (v1 + 30) _ hI hE) ok_Reader_75 ⟨Nat.le_of_ble_eq_true rfl, Nat.le_of_ble_eq_true rfl⟩ (va_recv hK hP (ci := 4) (q0 := 13) rfl rfl) hP hK hD hS hA hC rfl hl.1 rfl (Nat.le_of_ble_eq_true rfl) d_Reader_passName_91 ⟨Nat.zero_le _, Nat.zero_le _⟩ (fun r91 σ91 H locs hE hP hD hS => ?_)
      obtain ⟨hE, hI⟩ := hE
      refine lv_if_eq (tgt := 101) hx hb d_Reader_passName_94 (by decide) (fun cc94 => ?_) (fun cc94 => ?_)
      · have hE := hE.1 cc94
        refine lv_iconst (v := 0) hx hb d_Reader_passName_101 (by decide) ?_
        exact W.zret (v := 0) hx hb hr rfl (fun t ht hW => ⟨⟨_, σ91, rfl, ⟨hE, hI⟩, by rw [ht]; exact hP, va_K.moved hW.alike hK, hD⟩, hS.F ht⟩) hS.2.2 d_Reader_passName_102
      · have hE := hE.2 cc94
        exact J97  σ91 _ _ hP hD hS hI _ (lv_sub hl [] rfl) hE
  have L31 : ∀ (v1 : Int32) (n31 : Nat) (σ : PPS) (H : Heap) (locs : List Loc) (hP : va_P (wG w) classes (WW w σ) H) (hD : va_D A (WW w σ)) (hS : va_S A s.heap H locs) (hI : inv σ) (ls : Array Slot) (hl : lv_has ls 2 [(0, .ref (wA w 13)), (1, .int v1)]) (hE : w_Reader_passName_L31 v1 post n31 σ), W p l e (headSpec ws_Reader_passName { frames := 2, cells := 0, slots := 0, locals := 40 }).room s m ([.ref (wA w 13)] : List Value).toArray below meth c H locs 0 0 (MQ below (va_Qi (fun r u => post r u ∧ inv u) (mB (wG w) (WW w) (wI w) A) A) ([.ref (wA w 13)] : List Value).toArray s 0 0 A) (F0 m 31 ls []) := by
    intro v1 n31
    induction n31 with
    | zero => intro σ H locs hP hD hS hI ls hl hE; exact hE.elim
    | succ n31 ih31 =>
      intro σ H locs hP hD hS hI ls hl hE
      unfold w_Reader_passName_L31 at hE
      refine lv_aload_n hx hb d_Reader_passName_31 rfl (lv_at hl 0 rfl) ?_
      refine va_get (D := (wG w)) (ci := 4) (v := .int (pPs σ)) (C := R_Reader) (T := F_Reader) (N := 6) hx hb hta i_Reader hown hK hP 13 rfl rfl 2 (by decide) (hta _ fl_Reader_19) (fun _ h9 => h9) rfl d_Reader_passName_32 ?_
      refine lv_aload_n hx hb d_Reader_passName_35 rfl (lv_at hl 0 rfl) ?_
      refine va_get (D := (wG w)) (ci := 4) (v := .ref (wA w 2)) (C := R_Reader) (T := F_Reader) (N := 6) hx hb hta i_Reader hown hK hP 13 rfl rfl 0 (by decide) (hta _ fl_Reader_9) (fun _ h9 => h9) rfl d_Reader_passName_36 ?_
      refine ro_V (b0 := (wA w 2)) (As := []) (rest := [.int (pPs σ)]) ⟨hx, hb, hml, hown, hta⟩ (c_Strip_size l (wG w) (wA w 2) (wA w 3) (wI w) 4000 (pTp σ)  (fun r => r = (pTp σ).1) rfl) ok_Reader_57 ⟨Nat.le_of_ble_eq_true rfl, Nat.le_of_ble_eq_true rfl⟩ blind_rW (va_recv hK hP (ci := 1) (q0 := 2) rfl rfl) (fun U h1 h2 => ⟨by rw [h1]; exact hP.sub [2, 3] rfl, va_K.moved h2.alike hK⟩) rfl hl.1 rfl (Nat.le_of_ble_eq_true rfl) d_Reader_passName_39 ⟨Nat.zero_le _, Nat.zero_le _⟩ (fun r39 hrr => ?_)
      subst hrr
      refine lv_icmp_ge (tgt := 75) hx hb d_Reader_passName_42 (by decide) (fun cc42 => ?_) (fun cc42 => ?_)
      · have hE := hE.1 cc42
        exact J75  v1 σ _ _ hP hD hS hI _ (lv_sub hl [0, 1] rfl) hE
      · have hE := hE.2 cc42
        refine lv_aload_n hx hb d_Reader_passName_45 rfl (lv_at hl 0 rfl) ?_
        refine va_get (D := (wG w)) (ci := 4) (v := .ref (wA w 2)) (C := R_Reader) (T := F_Reader) (N := 6) hx hb hta i_Reader hown hK hP 13 rfl rfl 0 (by decide) (hta _ fl_Reader_9) (fun _ h9 => h9) rfl d_Reader_passName_46 ?_
        refine lv_aload_n hx hb d_Reader_passName_49 rfl (lv_at hl 0 rfl) ?_
        refine va_get (D := (wG w)) (ci := 4) (v := .int (pPs σ)) (C := R_Reader) (T := F_Reader) (N := 6) hx hb hta i_Reader hown hK hP 13 rfl rfl 2 (by decide) (hta _ fl_Reader_19) (fun _ h9 => h9) rfl d_Reader_passName_50 ?_
        refine ro_V (b0 := (wA w 2)) (As := [.int (pPs σ)]) (rest := []) ⟨hx, hb, hml, hown, hta⟩ (c_Strip_get l (wG w) (wA w 2) (wA w 3) (wI w) 4000 (pTp σ) (pPs σ) (fun r => r = sGet (pTp σ) (pPs σ)) (l_Strip_get (by decide) (inv.Tp hI) (pPs σ))) ok_Reader_65 ⟨Nat.le_of_ble_eq_true rfl, Nat.le_of_ble_eq_true rfl⟩ blind_rW (va_recv hK hP (ci := 1) (q0 := 2) rfl rfl) (fun U h1 h2 => ⟨by rw [h1]; exact hP.sub [2, 3] rfl, va_K.moved h2.alike hK⟩) rfl hl.1 rfl (Nat.le_of_ble_eq_true rfl) d_Reader_passName_53 ⟨Nat.zero_le _, Nat.zero_le _⟩ (fun r53 hrr => ?_)
        subst hrr
        refine ro_S  (As := [.int (sGet (pTp σ) (pPs σ))]) (rest := []) ⟨hx, hb, hml, hown, hta⟩ (f_Signs_goesOnName l (sGet (pTp σ) (pPs σ))) ok_Reader_91 ⟨Nat.le_of_ble_eq_true rfl, Nat.le_of_ble_eq_true rfl⟩ blind_true  (fun _ _ _ => trivial) rfl hl.1 rfl (Nat.le_of_ble_eq_true rfl) d_Reader_passName_56 ⟨Nat.zero_le _, Nat.zero_le _⟩ (fun r56 hrr => ?_)
        subst hrr
        refine lv_if_eq (tgt := 75) hx hb d_Reader_passName_59 (by decide) (fun cc59 => ?_) (fun cc59 => ?_)
        · have hE := hE.1 cc59
          exact J75  v1 σ _ _ hP hD hS hI _ (lv_sub hl [0, 1] rfl) hE
        · have hE := hE.2 cc59
          refine lv_aload_n hx hb d_Reader_passName_62 rfl (lv_at hl 0 rfl) ?_
          refine lv_dup hx hb d_Reader_passName_63 rfl ?_
          refine va_get (D := (wG w)) (ci := 4) (v := .int (pPs σ)) (C := R_Reader) (T := F_Reader) (N := 6) hx hb hta i_Reader hown hK hP 13 rfl rfl 2 (by decide) (hta _ fl_Reader_19) (fun _ h9 => h9) rfl d_Reader_passName_64 ?_
          refine lv_iconst (v := 1) hx hb d_Reader_passName_67 (by decide) ?_
          refine lv_iadd hx hb d_Reader_passName_68 ?_
          refine va_put (D := (wG w)) (ci := 4) (v := .int ((pPs σ) + 1)) (ty := .int) (C := R_Reader) (T := F_Reader) (N := 6) hx hb hta i_Reader t_Reader t_Reader_ok n_Reader hown hK hP hD hS 13 rfl rfl 2 (by decide) (hta _ fl_Reader_19) (fun _ h9 => h9) rfl (by decide +kernel) rfl rfl (Nat.le_of_ble_eq_true rfl) d_Reader_passName_69 (fun H locs hP hD hS => ?_)
          have hP : va_P (wG w) classes (WW w (sPs σ ((pPs σ) + 1))) H := hP
          have hD : va_D A (WW w (sPs σ ((pPs σ) + 1))) := hD
          have hI : inv (sPs σ ((pPs σ) + 1)) := hI
          have hE := hE _ rfl
          generalize (sPs σ ((pPs σ) + 1) : PPS) = σ69 at hP hD hI hE
          refine lv_goto (tgt := 31) hx hb d_Reader_passName_72 (by decide) ?_
          exact ih31 σ69 _ _ hP hD hS hI _ (lv_sub hl [0, 1] rfl) hE
  unfold w_Reader_passName at hE
  refine lv_aload_n hx hb d_Reader_passName_0 rfl (lv_at hl 0 rfl) ?_
  refine va_get (D := (wG w)) (ci := 4) (v := .int (pPs σ)) (C := R_Reader) (T := F_Reader) (N := 6) hx hb hta i_Reader hown hK hP 13 rfl rfl 2 (by decide) (hta _ fl_Reader_19) (fun _ h9 => h9) rfl d_Reader_passName_1 ?_
  refine lv_istore_n (lv' := [(1, .int (pPs σ)), (0, .ref (wA w 13))]) hx hb d_Reader_passName_4 rfl hl (by decide) rfl (fun ls hl => ?_)
  refine lv_aload_n hx hb d_Reader_passName_5 rfl (lv_at hl 1 rfl) ?_
  refine va_get (D := (wG w)) (ci := 4) (v := .ref (wA w 2)) (C := R_Reader) (T := F_Reader) (N := 6) hx hb hta i_Reader hown hK hP 13 rfl rfl 0 (by decide) (hta _ fl_Reader_9) (fun _ h9 => h9) rfl d_Reader_passName_6 ?_
  refine lv_aload_n hx hb d_Reader_passName_9 rfl (lv_at hl 1 rfl) ?_
  refine va_get (D := (wG w)) (ci := 4) (v := .int (pPs σ)) (C := R_Reader) (T := F_Reader) (N := 6) hx hb hta i_Reader hown hK hP 13 rfl rfl 2 (by decide) (hta _ fl_Reader_19) (fun _ h9 => h9) rfl d_Reader_passName_10 ?_
  refine ro_V (b0 := (wA w 2)) (As := [.int (pPs σ)]) (rest := []) ⟨hx, hb, hml, hown, hta⟩ (c_Strip_get l (wG w) (wA w 2) (wA w 3) (wI w) 4000 (pTp σ) (pPs σ) (fun r => r = sGet (pTp σ) (pPs σ)) (l_Strip_get (by decide) (inv.Tp hI) (pPs σ))) ok_Reader_65 ⟨Nat.le_of_ble_eq_true rfl, Nat.le_of_ble_eq_true rfl⟩ blind_rW (va_recv hK hP (ci := 1) (q0 := 2) rfl rfl) (fun U h1 h2 => ⟨by rw [h1]; exact hP.sub [2, 3] rfl, va_K.moved h2.alike hK⟩) rfl hl.1 rfl (Nat.le_of_ble_eq_true rfl) d_Reader_passName_13 ⟨Nat.zero_le _, Nat.zero_le _⟩ (fun r13 hrr => ?_)
  subst hrr
  refine ro_S  (As := [.int (sGet (pTp σ) (pPs σ))]) (rest := []) ⟨hx, hb, hml, hown, hta⟩ (f_Signs_beginsName l (sGet (pTp σ) (pPs σ))) ok_Reader_88 ⟨Nat.le_of_ble_eq_true rfl, Nat.le_of_ble_eq_true rfl⟩ blind_true  (fun _ _ _ => trivial) rfl hl.1 rfl (Nat.le_of_ble_eq_true rfl) d_Reader_passName_16 ⟨Nat.zero_le _, Nat.zero_le _⟩ (fun r16 hrr => ?_)
  subst hrr
  refine lv_if_ne (tgt := 31) hx hb d_Reader_passName_19 (by decide) (fun cc19 => ?_) (fun cc19 => ?_)
  · have hE := hE.2 cc19
    obtain ⟨n31, hE⟩ := hE
    exact L31 (pPs σ) n31 σ _ _ hP hD hS hI _ (lv_sub hl [1, 0] rfl) hE
  · have hE := hE.1 cc19
    refine lv_aload_n hx hb d_Reader_passName_22 rfl (lv_at hl 1 rfl) ?_
    refine lv_aload_n hx hb d_Reader_passName_23 rfl (lv_at hl 1 rfl) ?_
    refine va_get (D := (wG w)) (ci := 4) (v := .int (pPs σ)) (C := R_Reader) (T := F_Reader) (N := 6) hx hb hta i_Reader hown hK hP 13 rfl rfl 2 (by decide) (hta _ fl_Reader_19) (fun _ h9 => h9) rfl d_Reader_passName_24 ?_
    refine mc_i (b0 := (wA w 13)) (As := [.int (pPs σ)]) (rest := []) ⟨hx, hb, hml, hown, hta⟩ (c_Reader_refuse l w _ σ (pPs σ) _ hI hE) ok_Reader_75 ⟨Nat.le_of_ble_eq_true rfl, Nat.le_of_ble_eq_true rfl⟩ (va_recv hK hP (ci := 4) (q0 := 13) rfl rfl) hP hK hD hS hA hC rfl hl.1 rfl (Nat.le_of_ble_eq_true rfl) d_Reader_passName_27 ⟨Nat.zero_le _, Nat.zero_le _⟩ (fun r27 σ27 H locs hE hP hD hS => ?_)
    obtain ⟨hE, hI⟩ := hE
    obtain ⟨hN, hE⟩ := hE
    exact W.zret (v := r27) hx hb hr hN (fun t ht hW => ⟨⟨_, σ27, rfl, ⟨hE, hI⟩, by rw [ht]; exact hP, va_K.moved hW.alike hK, hD⟩, hS.F ht⟩) hS.2.2 d_Reader_passName_30
theorem ok_Reader_94 : okV "PlainPages$Reader" 94 R_Book y_Book_addLetter b_Book_addLetter 2 none 1 := ⟨aW_in 490 (by decide +kernel) rfl, aW_in 491 (by decide +kernel) rfl, aW_in 492 (by decide +kernel) rfl, aW_in 87 (by decide +kernel) rfl, cd_Book_addLetter, rfl, by decide +kernel, by decide +kernel, by decide +kernel⟩
theorem d_Reader_keepLetters_0 : decode b_Reader_keepLetters 0 = .ok (.iload_n 1, 1) := by decide +kernel
theorem d_Reader_keepLetters_1 : decode b_Reader_keepLetters 1 = .ok (.istore_n 2, 1) := by decide +kernel
theorem d_Reader_keepLetters_2 : decode b_Reader_keepLetters 2 = .ok (.iload_n 2, 1) := by decide +kernel
theorem d_Reader_keepLetters_3 : decode b_Reader_keepLetters 3 = .ok (.aload_n 0, 1) := by decide +kernel
theorem d_Reader_keepLetters_4 : decode b_Reader_keepLetters 4 = .ok (.getfield 19, 3) := by decide +kernel
theorem d_Reader_keepLetters_7 : decode b_Reader_keepLetters 7 = .ok (.if_icmp .ge 24, 3) := by decide +kernel
theorem d_Reader_keepLetters_10 : decode b_Reader_keepLetters 10 = .ok (.aload_n 0, 1) := by decide +kernel
theorem d_Reader_keepLetters_11 : decode b_Reader_keepLetters 11 = .ok (.getfield 15, 3) := by decide +kernel
theorem d_Reader_keepLetters_14 : decode b_Reader_keepLetters 14 = .ok (.aload_n 0, 1) := by decide +kernel
theorem d_Reader_keepLetters_15 : decode b_Reader_keepLetters 15 = .ok (.getfield 9, 3) := by decide +kernel
theorem d_Reader_keepLetters_18 : decode b_Reader_keepLetters 18 = .ok (.iload_n 2, 1) := by decide +kernel
theorem d_Reader_keepLetters_19 : decode b_Reader_keepLetters 19 = .ok (.invokevirtual 65, 3) := by decide +kernel
theorem d_Reader_keepLetters_22 : decode b_Reader_keepLetters 22 = .ok (.invokevirtual 94, 3) := by decide +kernel
theorem d_Reader_keepLetters_25 : decode b_Reader_keepLetters 25 = .ok (.iinc 2 1, 3) := by decide +kernel
theorem d_Reader_keepLetters_28 : decode b_Reader_keepLetters 28 = .ok (.goto (-26), 3) := by decide +kernel
theorem d_Reader_keepLetters_31 : decode b_Reader_keepLetters 31 = .ok (.return_, 1) := by decide +kernel
def w_Reader_keepLetters_L2   (post : PPS → Prop) : Nat → Int32 → PPS → Prop
  | 0, _, _ => False
  | n2 + 1, v2, σ => (((pPs σ) ≤ v2 → post σ) ∧ (¬ (pPs σ) ≤ v2 → w_Book_addLetter σ (sGet (pTp σ) v2) (fun σ22 => w_Reader_keepLetters_L2 post n2 (v2 + 1) σ22)))
def w_Reader_keepLetters  (σ : PPS) (x0 : Int32) (post : PPS → Prop) : Prop := (∃ n2, w_Reader_keepLetters_L2 post n2 x0 σ)
set_option maxHeartbeats 4000000 in
set_option maxRecDepth 100000 in
theorem c_Reader_keepLetters (l : Launch) (w : WD) (sz : Nat) (σ : PPS) (x0 : Int32)  (post : PPS → Prop) (hI : inv σ) (hE : w_Reader_keepLetters σ x0 post) : Met l y_Reader_keepLetters ws_Reader_keepLetters { frames := 2, cells := 0, slots := 0, locals := 42 } (va_Pc [.ref (wA w 13), .int x0] (gW w σ sz)) (va_Qv (fun u => post u ∧ inv u) (mB (wG w) (WW w) (wI w) (va_A (WW w σ) sz)) (va_A (WW w σ) sz)) 0 0 (va_A (WW w σ) sz) := by
  refine Met.ofW (cc := b_Reader_keepLetters) (maxL := 3) (ret := none) (by decide) rfl ?_
  intro p e s m args below meth c s₁ B hml hv
  obtain ⟨rfl, hsz, hP, hK, hD0, hC⟩ := hv
  have hx := B.exec
  have hb := B.bytes
  have hr := B.returns
  have hta : ∀ w ∈ aW, w.before _ s = true := fun w h => atoms_spec (ws := ws_Reader_keepLetters) B.pre w (List.mem_cons_of_mem _ h)
  have hown : s.vm.findClass R_Reader = some m.cls := findClass_of_methodNamed B.named
  have hlocks := B.notSynchronized
  subst hsz
  have hD := hD0.self (sz := s.heap.size)
  generalize hAe : va_A (WW w σ) s.heap.size = A at hD hC ⊢
  have hA : ∀ q : Nat, s.heap.size ≤ q → A q := fun q h => by rw [← hAe]; exact Or.inr h
  have hS : va_S A s.heap s.heap [] := va_S.rf
  have hP : va_P (wG w) classes (WW w σ) s.heap := hP
  have hl := lv_entry ([.ref (wA w 13), .int x0]) (n := 3) (Nat.le_of_ble_eq_true rfl)
  rw [lg_entry_eq]
  generalize (lg_sl ([.ref (wA w 13), .int x0]) ++ List.replicate (3 - (lg_sl ([.ref (wA w 13), .int x0])).length) Slot.unset).toArray = ls at hl ⊢
  have hl : lv_has ls 3 [(0, .ref (wA w 13)), (1, .int x0)] := hl
  have L2 : ∀ (n2 : Nat) (v2 : Int32) (σ : PPS) (H : Heap) (locs : List Loc) (hP : va_P (wG w) classes (WW w σ) H) (hD : va_D A (WW w σ)) (hS : va_S A s.heap H locs) (hI : inv σ) (ls : Array Slot) (hl : lv_has ls 3 [(0, .ref (wA w 13)), (2, .int v2)]) (hE : w_Reader_keepLetters_L2 post n2 v2 σ), W p l e (headSpec ws_Reader_keepLetters { frames := 2, cells := 0, slots := 0, locals := 42 }).room s m ([.ref (wA w 13), .int x0] : List Value).toArray below meth c H locs 0 0 (MQ below (va_Qv (fun u => post u ∧ inv u) (mB (wG w) (WW w) (wI w) A) A) ([.ref (wA w 13), .int x0] : List Value).toArray s 0 0 A) (F0 m 2 ls []) := by
    intro n2
    induction n2 with
    | zero => intro v2 σ H locs hP hD hS hI ls hl hE; exact hE.elim
    | succ n2 ih2 =>
      intro v2 σ H locs hP hD hS hI ls hl hE
      unfold w_Reader_keepLetters_L2 at hE
      refine lv_iload_n hx hb d_Reader_keepLetters_2 rfl (lv_at hl 1 rfl) ?_
      refine lv_aload_n hx hb d_Reader_keepLetters_3 rfl (lv_at hl 0 rfl) ?_
      refine va_get (D := (wG w)) (ci := 4) (v := .int (pPs σ)) (C := R_Reader) (T := F_Reader) (N := 6) hx hb hta i_Reader hown hK hP 13 rfl rfl 2 (by decide) (hta _ fl_Reader_19) (fun _ h9 => h9) rfl d_Reader_keepLetters_4 ?_
      refine lv_icmp_ge (tgt := 31) hx hb d_Reader_keepLetters_7 (by decide) (fun cc7 => ?_) (fun cc7 => ?_)
      · have hE := hE.1 cc7
        exact W.vret hx hb hr (fun t ht hW => ⟨⟨σ, rfl, ⟨hE, hI⟩, by rw [ht]; exact hP, va_K.moved hW.alike hK, hD⟩, hS.F ht⟩) hS.2.2 d_Reader_keepLetters_31
      · have hE := hE.2 cc7
        refine lv_aload_n hx hb d_Reader_keepLetters_10 rfl (lv_at hl 0 rfl) ?_
        refine va_get (D := (wG w)) (ci := 4) (v := .ref (wA w 6)) (C := R_Reader) (T := F_Reader) (N := 6) hx hb hta i_Reader hown hK hP 13 rfl rfl 1 (by decide) (hta _ fl_Reader_15) (fun _ h9 => h9) rfl d_Reader_keepLetters_11 ?_
        refine lv_aload_n hx hb d_Reader_keepLetters_14 rfl (lv_at hl 0 rfl) ?_
        refine va_get (D := (wG w)) (ci := 4) (v := .ref (wA w 2)) (C := R_Reader) (T := F_Reader) (N := 6) hx hb hta i_Reader hown hK hP 13 rfl rfl 0 (by decide) (hta _ fl_Reader_9) (fun _ h9 => h9) rfl d_Reader_keepLetters_15 ?_
        refine lv_iload_n hx hb d_Reader_keepLetters_18 rfl (lv_at hl 1 rfl) ?_
        refine ro_V (b0 := (wA w 2)) (As := [.int v2]) (rest := [.ref (wA w 6)]) ⟨hx, hb, hml, hown, hta⟩ (c_Strip_get l (wG w) (wA w 2) (wA w 3) (wI w) 4000 (pTp σ) v2 (fun r => r = sGet (pTp σ) v2) (l_Strip_get (by decide) (inv.Tp hI) v2)) ok_Reader_65 ⟨Nat.le_of_ble_eq_true rfl, Nat.le_of_ble_eq_true rfl⟩ blind_rW (va_recv hK hP (ci := 1) (q0 := 2) rfl rfl) (fun U h1 h2 => ⟨by rw [h1]; exact hP.sub [2, 3] rfl, va_K.moved h2.alike hK⟩) rfl hl.1 rfl (Nat.le_of_ble_eq_true rfl) d_Reader_keepLetters_19 ⟨Nat.zero_le _, Nat.zero_le _⟩ (fun r19 hrr => ?_)
        subst hrr
        refine mc_v (b0 := (wA w 6)) (As := [.int (sGet (pTp σ) v2)]) (rest := []) ⟨hx, hb, hml, hown, hta⟩ (c_Book_addLetter l w _ σ (sGet (pTp σ) v2) _ hI hE) ok_Reader_94 ⟨Nat.le_of_ble_eq_true rfl, Nat.le_of_ble_eq_true rfl⟩ (va_recv hK hP (ci := 3) (q0 := 6) rfl rfl) hP hK hD hS hA hC rfl hl.1 rfl (Nat.le_of_ble_eq_true rfl) d_Reader_keepLetters_22 ⟨Nat.zero_le _, Nat.zero_le _⟩ (fun σ22 H locs hE hP hD hS => ?_)
        obtain ⟨hE, hI⟩ := hE
        refine lv_iinc (v := v2 + 1) (lv' := [(2, .int (v2 + 1)), (0, .ref (wA w 13))]) hx hb d_Reader_keepLetters_25 hl (k := 1) rfl rfl (by decide) rfl (fun ls hl => ?_)
        refine lv_goto (tgt := 2) hx hb d_Reader_keepLetters_28 (by decide) ?_
        exact ih2 (v2 + 1) σ22 _ _ hP hD hS hI _ (lv_sub hl [1, 0] rfl) hE
  unfold w_Reader_keepLetters at hE
  refine lv_iload_n hx hb d_Reader_keepLetters_0 rfl (lv_at hl 1 rfl) ?_
  refine lv_istore_n (lv' := [(2, .int x0), (0, .ref (wA w 13)), (1, .int x0)]) hx hb d_Reader_keepLetters_1 rfl hl (by decide) rfl (fun ls hl => ?_)
  obtain ⟨n2, hE⟩ := hE
  exact L2  n2 x0 σ _ _ hP hD hS hI _ (lv_sub hl [1, 0] rfl) hE
theorem ok_Reader_98 : okV "PlainPages$Reader" 98 R_Reader y_Reader_take b_Reader_take 2 (some .boolean) 1 := ⟨aW_in 452 (by decide +kernel) rfl, aW_in 454 (by decide +kernel) rfl, aW_in 4 (by decide +kernel) rfl, aW_in 89 (by decide +kernel) rfl, cd_Reader_take, rfl, by decide +kernel, by decide +kernel, by decide +kernel⟩
theorem ok_Reader_101 : okV "PlainPages$Reader" 101 R_Reader y_Reader_passName b_Reader_passName 2 (some .boolean) 0 := ⟨aW_in 460 (by decide +kernel) rfl, aW_in 462 (by decide +kernel) rfl, aW_in 6 (by decide +kernel) rfl, aW_in 89 (by decide +kernel) rfl, cd_Reader_passName, rfl, by decide +kernel, by decide +kernel, by decide +kernel⟩
theorem ok_Reader_104 : okV "PlainPages$Reader" 104 R_Book y_Book_addNode b_Book_addNode 6 (some .int) 3 := ⟨aW_in 474 (by decide +kernel) rfl, aW_in 475 (by decide +kernel) rfl, aW_in 476 (by decide +kernel) rfl, aW_in 87 (by decide +kernel) rfl, cd_Book_addNode, rfl, by decide +kernel, by decide +kernel, by decide +kernel⟩
theorem ok_Reader_108 : okV "PlainPages$Reader" 108 R_Reader y_Reader_keepLetters b_Reader_keepLetters 3 none 1 := ⟨aW_in 486 (by decide +kernel) rfl, aW_in 488 (by decide +kernel) rfl, aW_in 7 (by decide +kernel) rfl, aW_in 89 (by decide +kernel) rfl, cd_Reader_keepLetters, rfl, by decide +kernel, by decide +kernel, by decide +kernel⟩
theorem ok_Reader_111 : okV "PlainPages$Reader" 111 R_Book y_Book_endLetters b_Book_endLetters 2 none 1 := ⟨aW_in 495 (by decide +kernel) rfl, aW_in 496 (by decide +kernel) rfl, aW_in 497 (by decide +kernel) rfl, aW_in 87 (by decide +kernel) rfl, cd_Book_endLetters, rfl, by decide +kernel, by decide +kernel, by decide +kernel⟩
theorem ok_Reader_114 : okV "PlainPages$Reader" 114 R_Book y_Book_keepKind b_Book_keepKind 5 none 1 := ⟨aW_in 499 (by decide +kernel) rfl, aW_in 500 (by decide +kernel) rfl, aW_in 501 (by decide +kernel) rfl, aW_in 87 (by decide +kernel) rfl, cd_Book_keepKind, rfl, by decide +kernel, by decide +kernel, by decide +kernel⟩
theorem fl_Reader_26 : Cond.fieldLink "PlainPages$Reader" 26 "PlainPages$Reader" "inTag" "Z" ∈ aW := aW_in 182 (by decide +kernel) rfl
theorem d_Reader_beginElement_0 : decode b_Reader_beginElement 0 = .ok (.aload_n 0, 1) := by decide +kernel
theorem d_Reader_beginElement_1 : decode b_Reader_beginElement 1 = .ok (.getfield 19, 3) := by decide +kernel
theorem d_Reader_beginElement_4 : decode b_Reader_beginElement 4 = .ok (.istore_n 1, 1) := by decide +kernel
theorem d_Reader_beginElement_5 : decode b_Reader_beginElement 5 = .ok (.aload_n 0, 1) := by decide +kernel
theorem d_Reader_beginElement_6 : decode b_Reader_beginElement 6 = .ok (.bipush 60, 2) := by decide +kernel
theorem d_Reader_beginElement_8 : decode b_Reader_beginElement 8 = .ok (.invokevirtual 98, 3) := by decide +kernel
theorem d_Reader_beginElement_11 : decode b_Reader_beginElement 11 = .ok (.ifCond .eq 10, 3) := by decide +kernel
theorem d_Reader_beginElement_14 : decode b_Reader_beginElement 14 = .ok (.aload_n 0, 1) := by decide +kernel
theorem d_Reader_beginElement_15 : decode b_Reader_beginElement 15 = .ok (.invokevirtual 101, 3) := by decide +kernel
theorem d_Reader_beginElement_18 : decode b_Reader_beginElement 18 = .ok (.ifCond .ne 5, 3) := by decide +kernel
theorem d_Reader_beginElement_21 : decode b_Reader_beginElement 21 = .ok (.iconst 0, 1) := by decide +kernel
theorem d_Reader_beginElement_22 : decode b_Reader_beginElement 22 = .ok (.ireturn, 1) := by decide +kernel
theorem d_Reader_beginElement_23 : decode b_Reader_beginElement 23 = .ok (.aload_n 0, 1) := by decide +kernel
theorem d_Reader_beginElement_24 : decode b_Reader_beginElement 24 = .ok (.aload_n 0, 1) := by decide +kernel
theorem d_Reader_beginElement_25 : decode b_Reader_beginElement 25 = .ok (.getfield 15, 3) := by decide +kernel
theorem d_Reader_beginElement_28 : decode b_Reader_beginElement 28 = .ok (.iconst 1, 1) := by decide +kernel
theorem d_Reader_beginElement_29 : decode b_Reader_beginElement 29 = .ok (.aload_n 0, 1) := by decide +kernel
theorem d_Reader_beginElement_30 : decode b_Reader_beginElement 30 = .ok (.getfield 23, 3) := by decide +kernel
theorem d_Reader_beginElement_33 : decode b_Reader_beginElement 33 = .ok (.iload_n 1, 1) := by decide +kernel
theorem d_Reader_beginElement_34 : decode b_Reader_beginElement 34 = .ok (.invokevirtual 104, 3) := by decide +kernel
theorem d_Reader_beginElement_37 : decode b_Reader_beginElement 37 = .ok (.putfield 23, 3) := by decide +kernel
theorem d_Reader_beginElement_40 : decode b_Reader_beginElement 40 = .ok (.aload_n 0, 1) := by decide +kernel
theorem d_Reader_beginElement_41 : decode b_Reader_beginElement 41 = .ok (.iload_n 1, 1) := by decide +kernel
theorem d_Reader_beginElement_42 : decode b_Reader_beginElement 42 = .ok (.iconst 1, 1) := by decide +kernel
theorem d_Reader_beginElement_43 : decode b_Reader_beginElement 43 = .ok (.iadd, 1) := by decide +kernel
theorem d_Reader_beginElement_44 : decode b_Reader_beginElement 44 = .ok (.invokevirtual 108, 3) := by decide +kernel
theorem d_Reader_beginElement_47 : decode b_Reader_beginElement 47 = .ok (.aload_n 0, 1) := by decide +kernel
theorem d_Reader_beginElement_48 : decode b_Reader_beginElement 48 = .ok (.getfield 15, 3) := by decide +kernel
theorem d_Reader_beginElement_51 : decode b_Reader_beginElement 51 = .ok (.aload_n 0, 1) := by decide +kernel
theorem d_Reader_beginElement_52 : decode b_Reader_beginElement 52 = .ok (.getfield 23, 3) := by decide +kernel
theorem d_Reader_beginElement_55 : decode b_Reader_beginElement 55 = .ok (.invokevirtual 111, 3) := by decide +kernel
theorem d_Reader_beginElement_58 : decode b_Reader_beginElement 58 = .ok (.aload_n 0, 1) := by decide +kernel
theorem d_Reader_beginElement_59 : decode b_Reader_beginElement 59 = .ok (.getfield 15, 3) := by decide +kernel
theorem d_Reader_beginElement_62 : decode b_Reader_beginElement 62 = .ok (.aload_n 0, 1) := by decide +kernel
theorem d_Reader_beginElement_63 : decode b_Reader_beginElement 63 = .ok (.getfield 23, 3) := by decide +kernel
theorem d_Reader_beginElement_66 : decode b_Reader_beginElement 66 = .ok (.invokevirtual 114, 3) := by decide +kernel
theorem d_Reader_beginElement_69 : decode b_Reader_beginElement 69 = .ok (.aload_n 0, 1) := by decide +kernel
theorem d_Reader_beginElement_70 : decode b_Reader_beginElement 70 = .ok (.iconst 1, 1) := by decide +kernel
theorem d_Reader_beginElement_71 : decode b_Reader_beginElement 71 = .ok (.putfield 26, 3) := by decide +kernel
theorem d_Reader_beginElement_74 : decode b_Reader_beginElement 74 = .ok (.iconst 1, 1) := by decide +kernel
theorem d_Reader_beginElement_75 : decode b_Reader_beginElement 75 = .ok (.ireturn, 1) := by decide +kernel
def w_Reader_beginElement  (σ : PPS)  (post : Int32 → PPS → Prop) : Prop := w_Reader_take σ 60 (fun r8 σ8 => ((r8 = 0 → post 0 σ8) ∧ (¬ r8 = 0 → w_Reader_passName σ8  (fun r15 σ15 => ((r15 = 0 → post 0 σ15) ∧ (¬ r15 = 0 → w_Book_addNode σ15 1 (pOp σ15) (pPs σ) (fun r34 σ34 => (∀ σ37 : PPS, σ37 = sOp σ34 r34 → w_Reader_keepLetters σ37 ((pPs σ) + 1) (fun σ44 => w_Book_endLetters σ44 (pOp σ44) (fun σ55 => w_Book_keepKind σ55 (pOp σ55) (fun σ66 => (∀ σ71 : PPS, σ71 = sIn σ66 1 → post 1 σ71))))))))))))
set_option maxHeartbeats 4000000 in
set_option maxRecDepth 100000 in
theorem c_Reader_beginElement (l : Launch) (w : WD) (sz : Nat) (σ : PPS)   (post : Int32 → PPS → Prop) (hI : inv σ) (hE : w_Reader_beginElement σ post) : Met l y_Reader_beginElement ws_Reader_beginElement { frames := 6, cells := 0, slots := 0, locals := 133 } (va_Pc [.ref (wA w 13)] (gW w σ sz)) (va_Qi (fun r u => post r u ∧ inv u) (mB (wG w) (WW w) (wI w) (va_A (WW w σ) sz)) (va_A (WW w σ) sz)) 0 0 (va_A (WW w σ) sz) := by
  refine Met.ofW (cc := b_Reader_beginElement) (maxL := 2) (ret := (some .boolean)) (by decide) rfl ?_
  intro p e s m args below meth c s₁ B hml hv
  obtain ⟨rfl, hsz, hP, hK, hD0, hC⟩ := hv
  have hx := B.exec
  have hb := B.bytes
  have hr := B.returns
  have hta : ∀ w ∈ aW, w.before _ s = true := fun w h => atoms_spec (ws := ws_Reader_beginElement) B.pre w (List.mem_cons_of_mem _ h)
  have hown : s.vm.findClass R_Reader = some m.cls := findClass_of_methodNamed B.named
  have hlocks := B.notSynchronized
  subst hsz
  have hD := hD0.self (sz := s.heap.size)
  generalize hAe : va_A (WW w σ) s.heap.size = A at hD hC ⊢
  have hA : ∀ q : Nat, s.heap.size ≤ q → A q := fun q h => by rw [← hAe]; exact Or.inr h
  have hS : va_S A s.heap s.heap [] := va_S.rf
  have hP : va_P (wG w) classes (WW w σ) s.heap := hP
  have hl := lv_entry ([.ref (wA w 13)]) (n := 2) (Nat.le_of_ble_eq_true rfl)
  rw [lg_entry_eq]
  generalize (lg_sl ([.ref (wA w 13)]) ++ List.replicate (2 - (lg_sl ([.ref (wA w 13)])).length) Slot.unset).toArray = ls at hl ⊢
  have hl : lv_has ls 2 [(0, .ref (wA w 13))] := hl
  unfold w_Reader_beginElement at hE
  refine lv_aload_n hx hb d_Reader_beginElement_0 rfl (lv_at hl 0 rfl) ?_
  refine va_get (D := (wG w)) (ci := 4) (v := .int (pPs σ)) (C := R_Reader) (T := F_Reader) (N := 6) hx hb hta i_Reader hown hK hP 13 rfl rfl 2 (by decide) (hta _ fl_Reader_19) (fun _ h9 => h9) rfl d_Reader_beginElement_1 ?_
  refine lv_istore_n (lv' := [(1, .int (pPs σ)), (0, .ref (wA w 13))]) hx hb d_Reader_beginElement_4 rfl hl (by decide) rfl (fun ls hl => ?_)
  refine lv_aload_n hx hb d_Reader_beginElement_5 rfl (lv_at hl 1 rfl) ?_
  refine lv_bipush (v := 60) hx hb d_Reader_beginElement_6 (by decide) ?_
  refine mc_i (b0 := (wA w 13)) (As := [.int 60]) (rest := []) ⟨hx, hb, hml, hown, hta⟩ (c_Reader_take l w _ σ 60 _ hI hE) ok_Reader_98 ⟨Nat.le_of_ble_eq_true rfl, Nat.le_of_ble_eq_true rfl⟩ (va_recv hK hP (ci := 4) (q0 := 13) rfl rfl) hP hK hD hS hA hC rfl hl.1 rfl (Nat.le_of_ble_eq_true rfl) d_Reader_beginElement_8 ⟨Nat.zero_le _, Nat.zero_le _⟩ (fun r8 σ8 H locs hE hP hD hS => ?_)
  obtain ⟨hE, hI⟩ := hE
  refine lv_if_eq (tgt := 21) hx hb d_Reader_beginElement_11 (by decide) (fun cc11 => ?_) (fun cc11 => ?_)
  · have hE := hE.1 cc11
    refine lv_iconst (v := 0) hx hb d_Reader_beginElement_21 (by decide) ?_
    exact W.zret (v := 0) hx hb hr rfl (fun t ht hW => ⟨⟨_, σ8, rfl, ⟨hE, hI⟩, by rw [ht]; exact hP, va_K.moved hW.alike hK, hD⟩, hS.F ht⟩) hS.2.2 d_Reader_beginElement_22
  · have hE := hE.2 cc11
    refine lv_aload_n hx hb d_Reader_beginElement_14 rfl (lv_at hl 1 rfl) ?_
    refine mc_i (b0 := (wA w 13)) (As := []) (rest := []) ⟨hx, hb, hml, hown, hta⟩ (c_Reader_passName l w _ σ8  _ hI hE) ok_Reader_101 ⟨Nat.le_of_ble_eq_true rfl, Nat.le_of_ble_eq_true rfl⟩ (va_recv hK hP (ci := 4) (q0 := 13) rfl rfl) hP hK hD hS hA hC rfl hl.1 rfl (Nat.le_of_ble_eq_true rfl) d_Reader_beginElement_15 ⟨Nat.zero_le _, Nat.zero_le _⟩ (fun r15 σ15 H locs hE hP hD hS => ?_)
    obtain ⟨hE, hI⟩ := hE
    refine lv_if_ne (tgt := 23) hx hb d_Reader_beginElement_18 (by decide) (fun cc18 => ?_) (fun cc18 => ?_)
    · have hE := hE.2 cc18
      refine lv_aload_n hx hb d_Reader_beginElement_23 rfl (lv_at hl 1 rfl) ?_
      refine lv_aload_n hx hb d_Reader_beginElement_24 rfl (lv_at hl 1 rfl) ?_
      refine va_get (D := (wG w)) (ci := 4) (v := .ref (wA w 6)) (C := R_Reader) (T := F_Reader) (N := 6) hx hb hta i_Reader hown hK hP 13 rfl rfl 1 (by decide) (hta _ fl_Reader_15) (fun _ h9 => h9) rfl d_Reader_beginElement_25 ?_
      refine lv_iconst (v := 1) hx hb d_Reader_beginElement_28 (by decide) ?_
      refine lv_aload_n hx hb d_Reader_beginElement_29 rfl (lv_at hl 1 rfl) ?_
      refine va_get (D := (wG w)) (ci := 4) (v := .int (pOp σ15)) (C := R_Reader) (T := F_Reader) (N := 6) hx hb hta i_Reader hown hK hP 13 rfl rfl 3 (by decide) (hta _ fl_Reader_23) (fun _ h9 => h9) rfl d_Reader_beginElement_30 ?_
      refine lv_iload_n hx hb d_Reader_beginElement_33 rfl (lv_at hl 0 rfl) ?_
      refine mc_i (b0 := (wA w 6)) (As := [.int 1, .int (pOp σ15), .int (pPs σ)]) (rest := [.ref (wA w 13)]) ⟨hx, hb, hml, hown, hta⟩ (c_Book_addNode l w _ σ15 1 (pOp σ15) (pPs σ) _ hI hE) ok_Reader_104 ⟨Nat.le_of_ble_eq_true rfl, Nat.le_of_ble_eq_true rfl⟩ (va_recv hK hP (ci := 3) (q0 := 6) rfl rfl) hP hK hD hS hA hC rfl hl.1 rfl (Nat.le_of_ble_eq_true rfl) d_Reader_beginElement_34 ⟨Nat.zero_le _, Nat.zero_le _⟩ (fun r34 σ34 H locs hE hP hD hS => ?_)
      obtain ⟨hE, hI⟩ := hE
      refine va_put (D := (wG w)) (ci := 4) (v := .int r34) (ty := .int) (C := R_Reader) (T := F_Reader) (N := 6) hx hb hta i_Reader t_Reader t_Reader_ok n_Reader hown hK hP hD hS 13 rfl rfl 3 (by decide) (hta _ fl_Reader_23) (fun _ h9 => h9) rfl (by decide +kernel) rfl rfl (Nat.le_of_ble_eq_true rfl) d_Reader_beginElement_37 (fun H locs hP hD hS => ?_)
      have hP : va_P (wG w) classes (WW w (sOp σ34 r34)) H := hP
      have hD : va_D A (WW w (sOp σ34 r34)) := hD
      have hI : inv (sOp σ34 r34) := hI
      have hE := hE _ rfl
      generalize (sOp σ34 r34 : PPS) = σ37 at hP hD hI hE
      refine lv_aload_n hx hb d_Reader_beginElement_40 rfl (lv_at hl 1 rfl) ?_
      refine lv_iload_n hx hb d_Reader_beginElement_41 rfl (lv_at hl 0 rfl) ?_
      refine lv_iconst (v := 1) hx hb d_Reader_beginElement_42 (by decide) ?_
      refine lv_iadd hx hb d_Reader_beginElement_43 ?_
      refine mc_v (b0 := (wA w 13)) (As := [.int ((pPs σ) + 1)]) (rest := []) ⟨hx, hb, hml, hown, hta⟩ (c_Reader_keepLetters l w _ σ37 ((pPs σ) + 1) _ hI hE) ok_Reader_108 ⟨Nat.le_of_ble_eq_true rfl, Nat.le_of_ble_eq_true rfl⟩ (va_recv hK hP (ci := 4) (q0 := 13) rfl rfl) hP hK hD hS hA hC rfl hl.1 rfl (Nat.le_of_ble_eq_true rfl) d_Reader_beginElement_44 ⟨Nat.zero_le _, Nat.zero_le _⟩ (fun σ44 H locs hE hP hD hS => ?_)
      obtain ⟨hE, hI⟩ := hE
      refine lv_aload_n hx hb d_Reader_beginElement_47 rfl (lv_at hl 1 rfl) ?_
      refine va_get (D := (wG w)) (ci := 4) (v := .ref (wA w 6)) (C := R_Reader) (T := F_Reader) (N := 6) hx hb hta i_Reader hown hK hP 13 rfl rfl 1 (by decide) (hta _ fl_Reader_15) (fun _ h9 => h9) rfl d_Reader_beginElement_48 ?_
      refine lv_aload_n hx hb d_Reader_beginElement_51 rfl (lv_at hl 1 rfl) ?_
      refine va_get (D := (wG w)) (ci := 4) (v := .int (pOp σ44)) (C := R_Reader) (T := F_Reader) (N := 6) hx hb hta i_Reader hown hK hP 13 rfl rfl 3 (by decide) (hta _ fl_Reader_23) (fun _ h9 => h9) rfl d_Reader_beginElement_52 ?_
      refine mc_v (b0 := (wA w 6)) (As := [.int (pOp σ44)]) (rest := []) ⟨hx, hb, hml, hown, hta⟩ (c_Book_endLetters l w _ σ44 (pOp σ44) _ hI hE) ok_Reader_111 ⟨Nat.le_of_ble_eq_true rfl, Nat.le_of_ble_eq_true rfl⟩ (va_recv hK hP (ci := 3) (q0 := 6) rfl rfl) hP hK hD hS hA hC rfl hl.1 rfl (Nat.le_of_ble_eq_true rfl) d_Reader_beginElement_55 ⟨Nat.zero_le _, Nat.zero_le _⟩ (fun σ55 H locs hE hP hD hS => ?_)
      obtain ⟨hE, hI⟩ := hE
      refine lv_aload_n hx hb d_Reader_beginElement_58 rfl (lv_at hl 1 rfl) ?_
      refine va_get (D := (wG w)) (ci := 4) (v := .ref (wA w 6)) (C := R_Reader) (T := F_Reader) (N := 6) hx hb hta i_Reader hown hK hP 13 rfl rfl 1 (by decide) (hta _ fl_Reader_15) (fun _ h9 => h9) rfl d_Reader_beginElement_59 ?_
      refine lv_aload_n hx hb d_Reader_beginElement_62 rfl (lv_at hl 1 rfl) ?_
      refine va_get (D := (wG w)) (ci := 4) (v := .int (pOp σ55)) (C := R_Reader) (T := F_Reader) (N := 6) hx hb hta i_Reader hown hK hP 13 rfl rfl 3 (by decide) (hta _ fl_Reader_23) (fun _ h9 => h9) rfl d_Reader_beginElement_63 ?_
      refine mc_v (b0 := (wA w 6)) (As := [.int (pOp σ55)]) (rest := []) ⟨hx, hb, hml, hown, hta⟩ (c_Book_keepKind l w _ σ55 (pOp σ55) _ hI hE) ok_Reader_114 ⟨Nat.le_of_ble_eq_true rfl, Nat.le_of_ble_eq_true rfl⟩ (va_recv hK hP (ci := 3) (q0 := 6) rfl rfl) hP hK hD hS hA hC rfl hl.1 rfl (Nat.le_of_ble_eq_true rfl) d_Reader_beginElement_66 ⟨Nat.zero_le _, Nat.zero_le _⟩ (fun σ66 H locs hE hP hD hS => ?_)
      obtain ⟨hE, hI⟩ := hE
      refine lv_aload_n hx hb d_Reader_beginElement_69 rfl (lv_at hl 1 rfl) ?_
      refine lv_iconst (v := 1) hx hb d_Reader_beginElement_70 (by decide) ?_
      refine va_put (D := (wG w)) (ci := 4) (v := .int 1) (ty := .boolean) (C := R_Reader) (T := F_Reader) (N := 6) hx hb hta i_Reader t_Reader t_Reader_ok n_Reader hown hK hP hD hS 13 rfl rfl 4 (by decide) (hta _ fl_Reader_26) (fun _ h9 => h9) rfl (by decide +kernel) rfl rfl (Nat.le_of_ble_eq_true rfl) d_Reader_beginElement_71 (fun H locs hP hD hS => ?_)
      have hP : va_P (wG w) classes (WW w (sIn σ66 1)) H := hP
      have hD : va_D A (WW w (sIn σ66 1)) := hD
      have hI : inv (sIn σ66 1) := hI
      have hE := hE _ rfl
      generalize (sIn σ66 1 : PPS) = σ71 at hP hD hI hE
      refine lv_iconst (v := 1) hx hb d_Reader_beginElement_74 (by decide) ?_
      exact W.zret (v := 1) hx hb hr rfl (fun t ht hW => ⟨⟨_, σ71, rfl, ⟨hE, hI⟩, by rw [ht]; exact hP, va_K.moved hW.alike hK, hD⟩, hS.F ht⟩) hS.2.2 d_Reader_beginElement_75
    · have hE := hE.1 cc18
      refine lv_iconst (v := 0) hx hb d_Reader_beginElement_21 (by decide) ?_
      exact W.zret (v := 0) hx hb hr rfl (fun t ht hW => ⟨⟨_, σ15, rfl, ⟨hE, hI⟩, by rw [ht]; exact hP, va_K.moved hW.alike hK, hD⟩, hS.F ht⟩) hS.2.2 d_Reader_beginElement_22
theorem ok_Reader_185 : okS "PlainPages$Reader" 185 y_Signs_characterAt b_Signs_characterAt 7 (some .int) 2 := ⟨aW_in 552 (by decide +kernel) rfl, aW_in 337 (by decide +kernel) rfl, aW_in 97 (by decide +kernel) rfl, cd_Signs_characterAt, by decide +kernel, by decide +kernel, by decide +kernel⟩
theorem ok_Reader_189 : okS "PlainPages$Reader" 189 y_Signs_bytesOf b_Signs_bytesOf 1 (some .int) 1 := ⟨aW_in 553 (by decide +kernel) rfl, aW_in 347 (by decide +kernel) rfl, aW_in 97 (by decide +kernel) rfl, cd_Signs_bytesOf, by decide +kernel, by decide +kernel, by decide +kernel⟩
theorem d_Reader_takeCharacter_0 : decode b_Reader_takeCharacter 0 = .ok (.aload_n 0, 1) := by decide +kernel
theorem d_Reader_takeCharacter_1 : decode b_Reader_takeCharacter 1 = .ok (.getfield 9, 3) := by decide +kernel
theorem d_Reader_takeCharacter_4 : decode b_Reader_takeCharacter 4 = .ok (.aload_n 0, 1) := by decide +kernel
theorem d_Reader_takeCharacter_5 : decode b_Reader_takeCharacter 5 = .ok (.getfield 19, 3) := by decide +kernel
theorem d_Reader_takeCharacter_8 : decode b_Reader_takeCharacter 8 = .ok (.invokestatic 185, 3) := by decide +kernel
theorem d_Reader_takeCharacter_11 : decode b_Reader_takeCharacter 11 = .ok (.istore_n 1, 1) := by decide +kernel
theorem d_Reader_takeCharacter_12 : decode b_Reader_takeCharacter 12 = .ok (.aload_n 0, 1) := by decide +kernel
theorem d_Reader_takeCharacter_13 : decode b_Reader_takeCharacter 13 = .ok (.dup, 1) := by decide +kernel
theorem d_Reader_takeCharacter_14 : decode b_Reader_takeCharacter 14 = .ok (.getfield 19, 3) := by decide +kernel
theorem d_Reader_takeCharacter_17 : decode b_Reader_takeCharacter 17 = .ok (.iload_n 1, 1) := by decide +kernel
theorem d_Reader_takeCharacter_18 : decode b_Reader_takeCharacter 18 = .ok (.invokestatic 189, 3) := by decide +kernel
theorem d_Reader_takeCharacter_21 : decode b_Reader_takeCharacter 21 = .ok (.iadd, 1) := by decide +kernel
theorem d_Reader_takeCharacter_22 : decode b_Reader_takeCharacter 22 = .ok (.putfield 19, 3) := by decide +kernel
theorem d_Reader_takeCharacter_25 : decode b_Reader_takeCharacter 25 = .ok (.iload_n 1, 1) := by decide +kernel
theorem d_Reader_takeCharacter_26 : decode b_Reader_takeCharacter 26 = .ok (.ireturn, 1) := by decide +kernel
def w_Reader_takeCharacter  (σ : PPS)  (post : Int32 → PPS → Prop) : Prop := w_Signs_characterAt σ (pPs σ) (fun r8 => (∀ σ22 : PPS, σ22 = sPs σ ((pPs σ) + (cBy r8)) → post r8 σ22))
set_option maxHeartbeats 4000000 in
set_option maxRecDepth 100000 in
theorem c_Reader_takeCharacter (l : Launch) (w : WD) (sz : Nat) (σ : PPS)   (post : Int32 → PPS → Prop) (hI : inv σ) (hE : w_Reader_takeCharacter σ post) : Met l y_Reader_takeCharacter ws_Reader_takeCharacter { frames := 2, cells := 0, slots := 0, locals := 47 } (va_Pc [.ref (wA w 13)] (gW w σ sz)) (va_Qi (fun r u => post r u ∧ inv u) (mB (wG w) (WW w) (wI w) (va_A (WW w σ) sz)) (va_A (WW w σ) sz)) 0 0 (va_A (WW w σ) sz) := by
  refine Met.ofW (cc := b_Reader_takeCharacter) (maxL := 2) (ret := (some .int)) (by decide) rfl ?_
  intro p e s m args below meth c s₁ B hml hv
  obtain ⟨rfl, hsz, hP, hK, hD0, hC⟩ := hv
  have hx := B.exec
  have hb := B.bytes
  have hr := B.returns
  have hta : ∀ w ∈ aW, w.before _ s = true := fun w h => atoms_spec (ws := ws_Reader_takeCharacter) B.pre w (List.mem_cons_of_mem _ h)
  have hown : s.vm.findClass R_Reader = some m.cls := findClass_of_methodNamed B.named
  have hlocks := B.notSynchronized
  subst hsz
  have hD := hD0.self (sz := s.heap.size)
  generalize hAe : va_A (WW w σ) s.heap.size = A at hD hC ⊢
  have hA : ∀ q : Nat, s.heap.size ≤ q → A q := fun q h => by rw [← hAe]; exact Or.inr h
  have hS : va_S A s.heap s.heap [] := va_S.rf
  have hP : va_P (wG w) classes (WW w σ) s.heap := hP
  have hl := lv_entry ([.ref (wA w 13)]) (n := 2) (Nat.le_of_ble_eq_true rfl)
  rw [lg_entry_eq]
  generalize (lg_sl ([.ref (wA w 13)]) ++ List.replicate (2 - (lg_sl ([.ref (wA w 13)])).length) Slot.unset).toArray = ls at hl ⊢
  have hl : lv_has ls 2 [(0, .ref (wA w 13))] := hl
  unfold w_Reader_takeCharacter at hE
  refine lv_aload_n hx hb d_Reader_takeCharacter_0 rfl (lv_at hl 0 rfl) ?_
  refine va_get (D := (wG w)) (ci := 4) (v := .ref (wA w 2)) (C := R_Reader) (T := F_Reader) (N := 6) hx hb hta i_Reader hown hK hP 13 rfl rfl 0 (by decide) (hta _ fl_Reader_9) (fun _ h9 => h9) rfl d_Reader_takeCharacter_1 ?_
  refine lv_aload_n hx hb d_Reader_takeCharacter_4 rfl (lv_at hl 0 rfl) ?_
  refine va_get (D := (wG w)) (ci := 4) (v := .int (pPs σ)) (C := R_Reader) (T := F_Reader) (N := 6) hx hb hta i_Reader hown hK hP 13 rfl rfl 2 (by decide) (hta _ fl_Reader_19) (fun _ h9 => h9) rfl d_Reader_takeCharacter_5 ?_
  refine ro_S  (As := [.ref (wA w 2), .int (pPs σ)]) (rest := []) ⟨hx, hb, hml, hown, hta⟩ (c_Signs_characterAt l w σ (pPs σ)  _ hI hE) ok_Reader_185 ⟨Nat.le_of_ble_eq_true rfl, Nat.le_of_ble_eq_true rfl⟩ blind_fW  (fW_of hP hK hC hS) rfl hl.1 rfl (Nat.le_of_ble_eq_true rfl) d_Reader_takeCharacter_8 ⟨Nat.zero_le _, Nat.zero_le _⟩ (fun r8 hE => ?_)
  refine lv_istore_n (lv' := [(1, .int r8), (0, .ref (wA w 13))]) hx hb d_Reader_takeCharacter_11 rfl hl (by decide) rfl (fun ls hl => ?_)
  refine lv_aload_n hx hb d_Reader_takeCharacter_12 rfl (lv_at hl 1 rfl) ?_
  refine lv_dup hx hb d_Reader_takeCharacter_13 rfl ?_
  refine va_get (D := (wG w)) (ci := 4) (v := .int (pPs σ)) (C := R_Reader) (T := F_Reader) (N := 6) hx hb hta i_Reader hown hK hP 13 rfl rfl 2 (by decide) (hta _ fl_Reader_19) (fun _ h9 => h9) rfl d_Reader_takeCharacter_14 ?_
  refine lv_iload_n hx hb d_Reader_takeCharacter_17 rfl (lv_at hl 0 rfl) ?_
  refine ro_S  (As := [.int r8]) (rest := [.int (pPs σ), .ref (wA w 13)]) ⟨hx, hb, hml, hown, hta⟩ (f_Signs_bytesOf l r8) ok_Reader_189 ⟨Nat.le_of_ble_eq_true rfl, Nat.le_of_ble_eq_true rfl⟩ blind_true  (fun _ _ _ => trivial) rfl hl.1 rfl (Nat.le_of_ble_eq_true rfl) d_Reader_takeCharacter_18 ⟨Nat.zero_le _, Nat.zero_le _⟩ (fun r18 hrr => ?_)
  subst hrr
  refine lv_iadd hx hb d_Reader_takeCharacter_21 ?_
  refine va_put (D := (wG w)) (ci := 4) (v := .int ((pPs σ) + (cBy r8))) (ty := .int) (C := R_Reader) (T := F_Reader) (N := 6) hx hb hta i_Reader t_Reader t_Reader_ok n_Reader hown hK hP hD hS 13 rfl rfl 2 (by decide) (hta _ fl_Reader_19) (fun _ h9 => h9) rfl (by decide +kernel) rfl rfl (Nat.le_of_ble_eq_true rfl) d_Reader_takeCharacter_22 (fun H locs hP hD hS => ?_)
  have hP : va_P (wG w) classes (WW w (sPs σ ((pPs σ) + (cBy r8)))) H := hP
  have hD : va_D A (WW w (sPs σ ((pPs σ) + (cBy r8)))) := hD
  have hI : inv (sPs σ ((pPs σ) + (cBy r8))) := hI
  have hE := hE _ rfl
  generalize (sPs σ ((pPs σ) + (cBy r8)) : PPS) = σ22 at hP hD hI hE
  refine lv_iload_n hx hb d_Reader_takeCharacter_25 rfl (lv_at hl 0 rfl) ?_
  exact W.iret (v := r8) hx hb hr (fun t ht hW => ⟨⟨_, σ22, rfl, ⟨hE, hI⟩, by rw [ht]; exact hP, va_K.moved hW.alike hK, hD⟩, hS.F ht⟩) hS.2.2 d_Reader_takeCharacter_26
theorem ok_Reader_192 : okS "PlainPages$Reader" 192 y_Signs_valueOfDigit b_Signs_valueOfDigit 2 (some .int) 2 := ⟨aW_in 558 (by decide +kernel) rfl, aW_in 559 (by decide +kernel) rfl, aW_in 97 (by decide +kernel) rfl, cd_Signs_valueOfDigit, by decide +kernel, by decide +kernel, by decide +kernel⟩
theorem d_Reader_takeNumbered_0 : decode b_Reader_takeNumbered 0 = .ok (.aload_n 0, 1) := by decide +kernel
theorem d_Reader_takeNumbered_1 : decode b_Reader_takeNumbered 1 = .ok (.getfield 9, 3) := by decide +kernel
theorem d_Reader_takeNumbered_4 : decode b_Reader_takeNumbered 4 = .ok (.aload_n 0, 1) := by decide +kernel
theorem d_Reader_takeNumbered_5 : decode b_Reader_takeNumbered 5 = .ok (.getfield 19, 3) := by decide +kernel
theorem d_Reader_takeNumbered_8 : decode b_Reader_takeNumbered 8 = .ok (.iconst 2, 1) := by decide +kernel
theorem d_Reader_takeNumbered_9 : decode b_Reader_takeNumbered 9 = .ok (.iadd, 1) := by decide +kernel
theorem d_Reader_takeNumbered_10 : decode b_Reader_takeNumbered 10 = .ok (.invokevirtual 65, 3) := by decide +kernel
theorem d_Reader_takeNumbered_13 : decode b_Reader_takeNumbered 13 = .ok (.bipush 120, 2) := by decide +kernel
theorem d_Reader_takeNumbered_15 : decode b_Reader_takeNumbered 15 = .ok (.if_icmp .eq 21, 3) := by decide +kernel
theorem d_Reader_takeNumbered_18 : decode b_Reader_takeNumbered 18 = .ok (.aload_n 0, 1) := by decide +kernel
theorem d_Reader_takeNumbered_19 : decode b_Reader_takeNumbered 19 = .ok (.getfield 9, 3) := by decide +kernel
theorem d_Reader_takeNumbered_22 : decode b_Reader_takeNumbered 22 = .ok (.aload_n 0, 1) := by decide +kernel
theorem d_Reader_takeNumbered_23 : decode b_Reader_takeNumbered 23 = .ok (.getfield 19, 3) := by decide +kernel
theorem d_Reader_takeNumbered_26 : decode b_Reader_takeNumbered 26 = .ok (.iconst 2, 1) := by decide +kernel
theorem d_Reader_takeNumbered_27 : decode b_Reader_takeNumbered 27 = .ok (.iadd, 1) := by decide +kernel
theorem d_Reader_takeNumbered_28 : decode b_Reader_takeNumbered 28 = .ok (.invokevirtual 65, 3) := by decide +kernel
theorem d_Reader_takeNumbered_31 : decode b_Reader_takeNumbered 31 = .ok (.bipush 88, 2) := by decide +kernel
theorem d_Reader_takeNumbered_33 : decode b_Reader_takeNumbered 33 = .ok (.if_icmp .ne 7, 3) := by decide +kernel
theorem d_Reader_takeNumbered_36 : decode b_Reader_takeNumbered 36 = .ok (.iconst 1, 1) := by decide +kernel
theorem d_Reader_takeNumbered_37 : decode b_Reader_takeNumbered 37 = .ok (.goto 4, 3) := by decide +kernel
theorem d_Reader_takeNumbered_40 : decode b_Reader_takeNumbered 40 = .ok (.iconst 0, 1) := by decide +kernel
theorem d_Reader_takeNumbered_41 : decode b_Reader_takeNumbered 41 = .ok (.istore_n 1, 1) := by decide +kernel
theorem d_Reader_takeNumbered_42 : decode b_Reader_takeNumbered 42 = .ok (.iload_n 1, 1) := by decide +kernel
theorem d_Reader_takeNumbered_43 : decode b_Reader_takeNumbered 43 = .ok (.ifCond .eq 8, 3) := by decide +kernel
theorem d_Reader_takeNumbered_46 : decode b_Reader_takeNumbered 46 = .ok (.bipush 6, 2) := by decide +kernel
theorem d_Reader_takeNumbered_48 : decode b_Reader_takeNumbered 48 = .ok (.goto 5, 3) := by decide +kernel
theorem d_Reader_takeNumbered_51 : decode b_Reader_takeNumbered 51 = .ok (.bipush 7, 2) := by decide +kernel
theorem d_Reader_takeNumbered_53 : decode b_Reader_takeNumbered 53 = .ok (.istore_n 2, 1) := by decide +kernel
theorem d_Reader_takeNumbered_54 : decode b_Reader_takeNumbered 54 = .ok (.aload_n 0, 1) := by decide +kernel
theorem d_Reader_takeNumbered_55 : decode b_Reader_takeNumbered 55 = .ok (.dup, 1) := by decide +kernel
theorem d_Reader_takeNumbered_56 : decode b_Reader_takeNumbered 56 = .ok (.getfield 19, 3) := by decide +kernel
theorem d_Reader_takeNumbered_59 : decode b_Reader_takeNumbered 59 = .ok (.iload_n 1, 1) := by decide +kernel
theorem d_Reader_takeNumbered_60 : decode b_Reader_takeNumbered 60 = .ok (.ifCond .eq 7, 3) := by decide +kernel
theorem d_Reader_takeNumbered_63 : decode b_Reader_takeNumbered 63 = .ok (.iconst 3, 1) := by decide +kernel
theorem d_Reader_takeNumbered_64 : decode b_Reader_takeNumbered 64 = .ok (.goto 4, 3) := by decide +kernel
theorem d_Reader_takeNumbered_67 : decode b_Reader_takeNumbered 67 = .ok (.iconst 2, 1) := by decide +kernel
theorem d_Reader_takeNumbered_68 : decode b_Reader_takeNumbered 68 = .ok (.iadd, 1) := by decide +kernel
theorem d_Reader_takeNumbered_69 : decode b_Reader_takeNumbered 69 = .ok (.putfield 19, 3) := by decide +kernel
theorem d_Reader_takeNumbered_72 : decode b_Reader_takeNumbered 72 = .ok (.iconst 0, 1) := by decide +kernel
theorem d_Reader_takeNumbered_73 : decode b_Reader_takeNumbered 73 = .ok (.istore_n 3, 1) := by decide +kernel
theorem d_Reader_takeNumbered_74 : decode b_Reader_takeNumbered 74 = .ok (.iconst 0, 1) := by decide +kernel
theorem d_Reader_takeNumbered_75 : decode b_Reader_takeNumbered 75 = .ok (.istore 4, 2) := by decide +kernel
theorem d_Reader_takeNumbered_77 : decode b_Reader_takeNumbered 77 = .ok (.iload 4, 2) := by decide +kernel
theorem d_Reader_takeNumbered_79 : decode b_Reader_takeNumbered 79 = .ok (.iload_n 2, 1) := by decide +kernel
theorem d_Reader_takeNumbered_80 : decode b_Reader_takeNumbered 80 = .ok (.if_icmp .gt 108, 3) := by decide +kernel
theorem d_Reader_takeNumbered_83 : decode b_Reader_takeNumbered 83 = .ok (.aload_n 0, 1) := by decide +kernel
theorem d_Reader_takeNumbered_84 : decode b_Reader_takeNumbered 84 = .ok (.getfield 9, 3) := by decide +kernel
theorem d_Reader_takeNumbered_87 : decode b_Reader_takeNumbered 87 = .ok (.aload_n 0, 1) := by decide +kernel
theorem d_Reader_takeNumbered_88 : decode b_Reader_takeNumbered 88 = .ok (.getfield 19, 3) := by decide +kernel
theorem d_Reader_takeNumbered_91 : decode b_Reader_takeNumbered 91 = .ok (.invokevirtual 65, 3) := by decide +kernel
theorem d_Reader_takeNumbered_94 : decode b_Reader_takeNumbered 94 = .ok (.iload_n 1, 1) := by decide +kernel
theorem d_Reader_takeNumbered_95 : decode b_Reader_takeNumbered 95 = .ok (.invokestatic 192, 3) := by decide +kernel
theorem d_Reader_takeNumbered_98 : decode b_Reader_takeNumbered 98 = .ok (.istore 5, 2) := by decide +kernel
theorem d_Reader_takeNumbered_100 : decode b_Reader_takeNumbered 100 = .ok (.iload 5, 2) := by decide +kernel
theorem d_Reader_takeNumbered_102 : decode b_Reader_takeNumbered 102 = .ok (.iconst (-1), 1) := by decide +kernel
theorem d_Reader_takeNumbered_103 : decode b_Reader_takeNumbered 103 = .ok (.if_icmp .ne 52, 3) := by decide +kernel
theorem d_Reader_takeNumbered_106 : decode b_Reader_takeNumbered 106 = .ok (.iload 4, 2) := by decide +kernel
theorem d_Reader_takeNumbered_108 : decode b_Reader_takeNumbered 108 = .ok (.ifCond .le 23, 3) := by decide +kernel
theorem d_Reader_takeNumbered_111 : decode b_Reader_takeNumbered 111 = .ok (.aload_n 0, 1) := by decide +kernel
theorem d_Reader_takeNumbered_112 : decode b_Reader_takeNumbered 112 = .ok (.getfield 9, 3) := by decide +kernel
theorem d_Reader_takeNumbered_115 : decode b_Reader_takeNumbered 115 = .ok (.aload_n 0, 1) := by decide +kernel
theorem d_Reader_takeNumbered_116 : decode b_Reader_takeNumbered 116 = .ok (.getfield 19, 3) := by decide +kernel
theorem d_Reader_takeNumbered_119 : decode b_Reader_takeNumbered 119 = .ok (.invokevirtual 65, 3) := by decide +kernel
theorem d_Reader_takeNumbered_122 : decode b_Reader_takeNumbered 122 = .ok (.bipush 59, 2) := by decide +kernel
theorem d_Reader_takeNumbered_124 : decode b_Reader_takeNumbered 124 = .ok (.if_icmp .ne 7, 3) := by decide +kernel
theorem d_Reader_takeNumbered_127 : decode b_Reader_takeNumbered 127 = .ok (.iconst 1, 1) := by decide +kernel
theorem d_Reader_takeNumbered_128 : decode b_Reader_takeNumbered 128 = .ok (.goto 4, 3) := by decide +kernel
theorem d_Reader_takeNumbered_131 : decode b_Reader_takeNumbered 131 = .ok (.iconst 0, 1) := by decide +kernel
theorem d_Reader_takeNumbered_132 : decode b_Reader_takeNumbered 132 = .ok (.istore 6, 2) := by decide +kernel
theorem d_Reader_takeNumbered_134 : decode b_Reader_takeNumbered 134 = .ok (.aload_n 0, 1) := by decide +kernel
theorem d_Reader_takeNumbered_135 : decode b_Reader_takeNumbered 135 = .ok (.dup, 1) := by decide +kernel
theorem d_Reader_takeNumbered_136 : decode b_Reader_takeNumbered 136 = .ok (.getfield 19, 3) := by decide +kernel
theorem d_Reader_takeNumbered_139 : decode b_Reader_takeNumbered 139 = .ok (.iconst 1, 1) := by decide +kernel
theorem d_Reader_takeNumbered_140 : decode b_Reader_takeNumbered 140 = .ok (.iadd, 1) := by decide +kernel
theorem d_Reader_takeNumbered_141 : decode b_Reader_takeNumbered 141 = .ok (.putfield 19, 3) := by decide +kernel
theorem d_Reader_takeNumbered_144 : decode b_Reader_takeNumbered 144 = .ok (.iload 6, 2) := by decide +kernel
theorem d_Reader_takeNumbered_146 : decode b_Reader_takeNumbered 146 = .ok (.ifCond .eq 7, 3) := by decide +kernel
theorem d_Reader_takeNumbered_149 : decode b_Reader_takeNumbered 149 = .ok (.iload_n 3, 1) := by decide +kernel
theorem d_Reader_takeNumbered_150 : decode b_Reader_takeNumbered 150 = .ok (.goto 4, 3) := by decide +kernel
theorem d_Reader_takeNumbered_153 : decode b_Reader_takeNumbered 153 = .ok (.iconst (-1), 1) := by decide +kernel
theorem d_Reader_takeNumbered_154 : decode b_Reader_takeNumbered 154 = .ok (.ireturn, 1) := by decide +kernel
theorem d_Reader_takeNumbered_155 : decode b_Reader_takeNumbered 155 = .ok (.iload_n 3, 1) := by decide +kernel
theorem d_Reader_takeNumbered_156 : decode b_Reader_takeNumbered 156 = .ok (.iload_n 1, 1) := by decide +kernel
theorem d_Reader_takeNumbered_157 : decode b_Reader_takeNumbered 157 = .ok (.ifCond .eq 8, 3) := by decide +kernel
theorem d_Reader_takeNumbered_160 : decode b_Reader_takeNumbered 160 = .ok (.bipush 16, 2) := by decide +kernel
theorem d_Reader_takeNumbered_162 : decode b_Reader_takeNumbered 162 = .ok (.goto 5, 3) := by decide +kernel
theorem d_Reader_takeNumbered_165 : decode b_Reader_takeNumbered 165 = .ok (.bipush 10, 2) := by decide +kernel
theorem d_Reader_takeNumbered_167 : decode b_Reader_takeNumbered 167 = .ok (.imul, 1) := by decide +kernel
theorem d_Reader_takeNumbered_168 : decode b_Reader_takeNumbered 168 = .ok (.iload 5, 2) := by decide +kernel
theorem d_Reader_takeNumbered_170 : decode b_Reader_takeNumbered 170 = .ok (.iadd, 1) := by decide +kernel
theorem d_Reader_takeNumbered_171 : decode b_Reader_takeNumbered 171 = .ok (.istore_n 3, 1) := by decide +kernel
theorem d_Reader_takeNumbered_172 : decode b_Reader_takeNumbered 172 = .ok (.aload_n 0, 1) := by decide +kernel
theorem d_Reader_takeNumbered_173 : decode b_Reader_takeNumbered 173 = .ok (.dup, 1) := by decide +kernel
theorem d_Reader_takeNumbered_174 : decode b_Reader_takeNumbered 174 = .ok (.getfield 19, 3) := by decide +kernel
theorem d_Reader_takeNumbered_177 : decode b_Reader_takeNumbered 177 = .ok (.iconst 1, 1) := by decide +kernel
theorem d_Reader_takeNumbered_178 : decode b_Reader_takeNumbered 178 = .ok (.iadd, 1) := by decide +kernel
theorem d_Reader_takeNumbered_179 : decode b_Reader_takeNumbered 179 = .ok (.putfield 19, 3) := by decide +kernel
theorem d_Reader_takeNumbered_182 : decode b_Reader_takeNumbered 182 = .ok (.iinc 4 1, 3) := by decide +kernel
theorem d_Reader_takeNumbered_185 : decode b_Reader_takeNumbered 185 = .ok (.goto (-108), 3) := by decide +kernel
theorem d_Reader_takeNumbered_188 : decode b_Reader_takeNumbered 188 = .ok (.iconst (-1), 1) := by decide +kernel
theorem d_Reader_takeNumbered_189 : decode b_Reader_takeNumbered 189 = .ok (.ireturn, 1) := by decide +kernel
def w_Reader_takeNumbered_J167  (v1 : Int32) (v2 : Int32) (K77 : Int32 → Int32 → PPS → Prop) (post : Int32 → PPS → Prop) (v4 : Int32) (v5 : Int32) (t0 : Int32) (t1 : Int32) (σ : PPS) : Prop := (∀ σ179 : PPS, σ179 = sPs σ ((pPs σ) + 1) → K77 ((t1 * t0) + v5) (v4 + 1) σ179)
def w_Reader_takeNumbered_J132   (post : Int32 → PPS → Prop) (v3 : Int32) (t0 : Int32) (σ : PPS) : Prop := (∀ σ141 : PPS, σ141 = sPs σ ((pPs σ) + 1) → ((t0 = 0 → post (-1) σ141) ∧ (¬ t0 = 0 → post v3 σ141)))
def w_Reader_takeNumbered_J131   (post : Int32 → PPS → Prop) (v3 : Int32) (σ : PPS) : Prop := w_Reader_takeNumbered_J132 post v3 0 σ
def w_Reader_takeNumbered_L77  (v1 : Int32) (v2 : Int32) (post : Int32 → PPS → Prop) : Nat → Int32 → Int32 → PPS → Prop
  | 0, _, _, _ => False
  | n77 + 1, v3, v4, σ => ((v2 < v4 → post (-1) σ) ∧ (¬ v2 < v4 → (((cDv (sGet (pTp σ) (pPs σ)) v1) = (-1) → ((v4 ≤ 0 → w_Reader_takeNumbered_J131 post v3 σ) ∧ (¬ v4 ≤ 0 → (((sGet (pTp σ) (pPs σ)) = 59 → w_Reader_takeNumbered_J132 post v3 1 σ) ∧ (¬ (sGet (pTp σ) (pPs σ)) = 59 → w_Reader_takeNumbered_J131 post v3 σ))))) ∧ (¬ (cDv (sGet (pTp σ) (pPs σ)) v1) = (-1) → ((v1 = 0 → w_Reader_takeNumbered_J167 v1 v2 (w_Reader_takeNumbered_L77 v1 v2 post n77) post v4 (cDv (sGet (pTp σ) (pPs σ)) v1) 10 v3 σ) ∧ (¬ v1 = 0 → w_Reader_takeNumbered_J167 v1 v2 (w_Reader_takeNumbered_L77 v1 v2 post n77) post v4 (cDv (sGet (pTp σ) (pPs σ)) v1) 16 v3 σ))))))
def w_Reader_takeNumbered_J68   (post : Int32 → PPS → Prop) (v1 : Int32) (v2 : Int32) (t0 : Int32) (t1 : Int32) (σ : PPS) : Prop := (∀ σ69 : PPS, σ69 = sPs σ (t1 + t0) → (∃ n77, w_Reader_takeNumbered_L77 v1 v2 post n77 0 0 σ69))
def w_Reader_takeNumbered_J53   (post : Int32 → PPS → Prop) (v1 : Int32) (t0 : Int32) (σ : PPS) : Prop := ((v1 = 0 → w_Reader_takeNumbered_J68 post v1 t0 2 (pPs σ) σ) ∧ (¬ v1 = 0 → w_Reader_takeNumbered_J68 post v1 t0 3 (pPs σ) σ))
def w_Reader_takeNumbered_J41   (post : Int32 → PPS → Prop) (t0 : Int32) (σ : PPS) : Prop := ((t0 = 0 → w_Reader_takeNumbered_J53 post t0 7 σ) ∧ (¬ t0 = 0 → w_Reader_takeNumbered_J53 post t0 6 σ))
def w_Reader_takeNumbered_J36   (post : Int32 → PPS → Prop) (σ : PPS) : Prop := w_Reader_takeNumbered_J41 post 1 σ
def w_Reader_takeNumbered  (σ : PPS)  (post : Int32 → PPS → Prop) : Prop := (((sGet (pTp σ) ((pPs σ) + 2)) = 120 → w_Reader_takeNumbered_J36 post σ) ∧ (¬ (sGet (pTp σ) ((pPs σ) + 2)) = 120 → (((sGet (pTp σ) ((pPs σ) + 2)) = 88 → w_Reader_takeNumbered_J36 post σ) ∧ (¬ (sGet (pTp σ) ((pPs σ) + 2)) = 88 → w_Reader_takeNumbered_J41 post 0 σ))))
set_option maxHeartbeats 4000000 in
set_option maxRecDepth 100000 in
theorem c_Reader_takeNumbered (l : Launch) (w : WD) (sz : Nat) (σ : PPS)   (post : Int32 → PPS → Prop) (hI : inv σ) (hE : w_Reader_takeNumbered σ post) : Met l y_Reader_takeNumbered ws_Reader_takeNumbered { frames := 2, cells := 0, slots := 0, locals := 41 } (va_Pc [.ref (wA w 13)] (gW w σ sz)) (va_Qi (fun r u => post r u ∧ inv u) (mB (wG w) (WW w) (wI w) (va_A (WW w σ) sz)) (va_A (WW w σ) sz)) 0 0 (va_A (WW w σ) sz) := by
  refine Met.ofW (cc := b_Reader_takeNumbered) (maxL := 7) (ret := (some .int)) (by decide) rfl ?_
  intro p e s m args below meth c s₁ B hml hv
  obtain ⟨rfl, hsz, hP, hK, hD0, hC⟩ := hv
  have hx := B.exec
  have hb := B.bytes
  have hr := B.returns
  have hta : ∀ w ∈ aW, w.before _ s = true := fun w h => atoms_spec (ws := ws_Reader_takeNumbered) B.pre w (List.mem_cons_of_mem _ h)
  have hown : s.vm.findClass R_Reader = some m.cls := findClass_of_methodNamed B.named
  have hlocks := B.notSynchronized
  subst hsz
  have hD := hD0.self (sz := s.heap.size)
  generalize hAe : va_A (WW w σ) s.heap.size = A at hD hC ⊢
  have hA : ∀ q : Nat, s.heap.size ≤ q → A q := fun q h => by rw [← hAe]; exact Or.inr h
  have hS : va_S A s.heap s.heap [] := va_S.rf
  have hP : va_P (wG w) classes (WW w σ) s.heap := hP
  have hl := lv_entry ([.ref (wA w 13)]) (n := 7) (Nat.le_of_ble_eq_true rfl)
  rw [lg_entry_eq]
  generalize (lg_sl ([.ref (wA w 13)]) ++ List.replicate (7 - (lg_sl ([.ref (wA w 13)])).length) Slot.unset).toArray = ls at hl ⊢
  have hl : lv_has ls 7 [(0, .ref (wA w 13))] := hl
  have J132 : ∀ (v3 : Int32) (t0 : Int32) (σ : PPS) (H : Heap) (locs : List Loc) (hP : va_P (wG w) classes (WW w σ) H) (hD : va_D A (WW w σ)) (hS : va_S A s.heap H locs) (hI : inv σ) (ls : Array Slot) (hl : lv_has ls 7 [(0, .ref (wA w 13)), (3, .int v3)]) (hE : w_Reader_takeNumbered_J132 post v3 t0 σ), W p l e (headSpec ws_Reader_takeNumbered { frames := 2, cells := 0, slots := 0, locals := 41 }).room s m ([.ref (wA w 13)] : List Value).toArray below meth c H locs 0 0 (MQ below (va_Qi (fun r u => post r u ∧ inv u) (mB (wG w) (WW w) (wI w) A) A) ([.ref (wA w 13)] : List Value).toArray s 0 0 A) (F0 m 132 ls [.int t0]) := by
    intro  v3 t0 σ H locs hP hD hS hI ls hl hE
    unfold w_Reader_takeNumbered_J132 at hE
    refine lv_istore (lv' := [(6, .int t0), (0, .ref (wA w 13)), (3, .int v3)]) hx hb d_Reader_takeNumbered_132 hl (by decide) rfl (fun ls hl => ?_)
    refine lv_aload_n hx hb d_Reader_takeNumbered_134 rfl (lv_at hl 1 rfl) ?_
    refine lv_dup hx hb d_Reader_takeNumbered_135 rfl ?_
    refine va_get (D := (wG w)) (ci := 4) (v := .int (pPs σ)) (C := R_Reader) (T := F_Reader) (N := 6) hx hb hta i_Reader hown hK hP 13 rfl rfl 2 (by decide) (hta _ fl_Reader_19) (fun _ h9 => h9) rfl d_Reader_takeNumbered_136 ?_
    refine lv_iconst (v := 1) hx hb d_Reader_takeNumbered_139 (by decide) ?_
    refine lv_iadd hx hb d_Reader_takeNumbered_140 ?_
    refine va_put (D := (wG w)) (ci := 4) (v := .int ((pPs σ) + 1)) (ty := .int) (C := R_Reader) (T := F_Reader) (N := 6) hx hb hta i_Reader t_Reader t_Reader_ok n_Reader hown hK hP hD hS 13 rfl rfl 2 (by decide) (hta _ fl_Reader_19) (fun _ h9 => h9) rfl (by decide +kernel) rfl rfl (Nat.le_of_ble_eq_true rfl) d_Reader_takeNumbered_141 (fun H locs hP hD hS => ?_)
    have hP : va_P (wG w) classes (WW w (sPs σ ((pPs σ) + 1))) H := hP
    have hD : va_D A (WW w (sPs σ ((pPs σ) + 1))) := hD
    have hI : inv (sPs σ ((pPs σ) + 1)) := hI
    have hE := hE _ rfl
    generalize (sPs σ ((pPs σ) + 1) : PPS) = σ141 at hP hD hI hE
    refine lv_iload hx hb d_Reader_takeNumbered_144 (lv_at hl 0 rfl) ?_
    refine lv_if_eq (tgt := 153) hx hb d_Reader_takeNumbered_146 (by decide) (fun cc146 => ?_) (fun cc146 => ?_)
    · have hE := hE.1 cc146
      refine lv_iconst (v := -1) hx hb d_Reader_takeNumbered_153 (by decide) ?_
      exact W.iret (v := (-1)) hx hb hr (fun t ht hW => ⟨⟨_, σ141, rfl, ⟨hE, hI⟩, by rw [ht]; exact hP, va_K.moved hW.alike hK, hD⟩, hS.F ht⟩) hS.2.2 d_Reader_takeNumbered_154
    · have hE := hE.2 cc146
      refine lv_iload_n hx hb d_Reader_takeNumbered_149 rfl (lv_at hl 2 rfl) ?_
      refine lv_goto (tgt := 154) hx hb d_Reader_takeNumbered_150 (by decide) ?_
      exact W.iret (v := v3) hx hb hr (fun t ht hW => ⟨⟨_, σ141, rfl, ⟨hE, hI⟩, by rw [ht]; exact hP, va_K.moved hW.alike hK, hD⟩, hS.F ht⟩) hS.2.2 d_Reader_takeNumbered_154
  have J131 : ∀ (v3 : Int32) (σ : PPS) (H : Heap) (locs : List Loc) (hP : va_P (wG w) classes (WW w σ) H) (hD : va_D A (WW w σ)) (hS : va_S A s.heap H locs) (hI : inv σ) (ls : Array Slot) (hl : lv_has ls 7 [(0, .ref (wA w 13)), (3, .int v3)]) (hE : w_Reader_takeNumbered_J131 post v3 σ), W p l e (headSpec ws_Reader_takeNumbered { frames := 2, cells := 0, slots := 0, locals := 41 }).room s m ([.ref (wA w 13)] : List Value).toArray below meth c H locs 0 0 (MQ below (va_Qi (fun r u => post r u ∧ inv u) (mB (wG w) (WW w) (wI w) A) A) ([.ref (wA w 13)] : List Value).toArray s 0 0 A) (F0 m 131 ls []) := by
    intro  v3 σ H locs hP hD hS hI ls hl hE
    unfold w_Reader_takeNumbered_J131 at hE
    refine lv_iconst (v := 0) hx hb d_Reader_takeNumbered_131 (by decide) ?_
    exact J132  v3 0 σ _ _ hP hD hS hI _ (lv_sub hl [0, 1] rfl) hE
  have L77 : ∀ (v1 : Int32) (v2 : Int32) (n77 : Nat) (v3 : Int32) (v4 : Int32) (σ : PPS) (H : Heap) (locs : List Loc) (hP : va_P (wG w) classes (WW w σ) H) (hD : va_D A (WW w σ)) (hS : va_S A s.heap H locs) (hI : inv σ) (ls : Array Slot) (hl : lv_has ls 7 [(0, .ref (wA w 13)), (1, .int v1), (2, .int v2), (3, .int v3), (4, .int v4)]) (hE : w_Reader_takeNumbered_L77 v1 v2 post n77 v3 v4 σ), W p l e (headSpec ws_Reader_takeNumbered { frames := 2, cells := 0, slots := 0, locals := 41 }).room s m ([.ref (wA w 13)] : List Value).toArray below meth c H locs 0 0 (MQ below (va_Qi (fun r u => post r u ∧ inv u) (mB (wG w) (WW w) (wI w) A) A) ([.ref (wA w 13)] : List Value).toArray s 0 0 A) (F0 m 77 ls []) := by
    intro v1 v2 n77
    induction n77 with
    | zero => intro v3 v4 σ H locs hP hD hS hI ls hl hE; exact hE.elim
    | succ n77 ih77 =>
      have J167 : ∀ (v4 : Int32) (v5 : Int32) (t0 : Int32) (t1 : Int32) (σ : PPS) (H : Heap) (locs : List Loc) (hP : va_P (wG w) classes (WW w σ) H) (hD : va_D A (WW w σ)) (hS : va_S A s.heap H locs) (hI : inv σ) (ls : Array Slot) (hl : lv_has ls 7 [(0, .ref (wA w 13)), (1, .int v1), (2, .int v2), (4, .int v4), (5, .int v5)]) (hE : w_Reader_takeNumbered_J167 v1 v2 (w_Reader_takeNumbered_L77 v1 v2 post n77) post v4 v5 t0 t1 σ), W p l e (headSpec ws_Reader_takeNumbered { frames := 2, cells := 0, slots := 0, locals := 41 }).room s m ([.ref (wA w 13)] : List Value).toArray below meth c H locs 0 0 (MQ below (va_Qi (fun r u => post r u ∧ inv u) (mB (wG w) (WW w) (wI w) A) A) ([.ref (wA w 13)] : List Value).toArray s 0 0 A) (F0 m 167 ls [.int t0, .int t1]) := by
        intro  v4 v5 t0 t1 σ H locs hP hD hS hI ls hl hE
        unfold w_Reader_takeNumbered_J167 at hE
        refine lv_imul hx hb d_Reader_takeNumbered_167 ?_
        refine lv_iload hx hb d_Reader_takeNumbered_168 (lv_at hl 4 rfl) ?_
        refine lv_iadd hx hb d_Reader_takeNumbered_170 ?_
        refine lv_istore_n (lv' := [(3, .int ((t1 * t0) + v5)), (0, .ref (wA w 13)), (1, .int v1), (2, .int v2), (4, .int v4), (5, .int v5)]) hx hb d_Reader_takeNumbered_171 rfl hl (by decide) rfl (fun ls hl => ?_)
        refine lv_aload_n hx hb d_Reader_takeNumbered_172 rfl (lv_at hl 1 rfl) ?_
        refine lv_dup hx hb d_Reader_takeNumbered_173 rfl ?_
        refine va_get (D := (wG w)) (ci := 4) (v := .int (pPs σ)) (C := R_Reader) (T := F_Reader) (N := 6) hx hb hta i_Reader hown hK hP 13 rfl rfl 2 (by decide) (hta _ fl_Reader_19) (fun _ h9 => h9) rfl d_Reader_takeNumbered_174 ?_
        refine lv_iconst (v := 1) hx hb d_Reader_takeNumbered_177 (by decide) ?_
        refine lv_iadd hx hb d_Reader_takeNumbered_178 ?_
        refine va_put (D := (wG w)) (ci := 4) (v := .int ((pPs σ) + 1)) (ty := .int) (C := R_Reader) (T := F_Reader) (N := 6) hx hb hta i_Reader t_Reader t_Reader_ok n_Reader hown hK hP hD hS 13 rfl rfl 2 (by decide) (hta _ fl_Reader_19) (fun _ h9 => h9) rfl (by decide +kernel) rfl rfl (Nat.le_of_ble_eq_true rfl) d_Reader_takeNumbered_179 (fun H locs hP hD hS => ?_)
        have hP : va_P (wG w) classes (WW w (sPs σ ((pPs σ) + 1))) H := hP
        have hD : va_D A (WW w (sPs σ ((pPs σ) + 1))) := hD
        have hI : inv (sPs σ ((pPs σ) + 1)) := hI
        have hE := hE _ rfl
        generalize (sPs σ ((pPs σ) + 1) : PPS) = σ179 at hP hD hI hE
        refine lv_iinc (v := v4 + 1) (lv' := [(4, .int (v4 + 1)), (3, .int ((t1 * t0) + v5)), (0, .ref (wA w 13)), (1, .int v1), (2, .int v2), (5, .int v5)]) hx hb d_Reader_takeNumbered_182 hl (k := 4) rfl rfl (by decide) rfl (fun ls hl => ?_)
        refine lv_goto (tgt := 77) hx hb d_Reader_takeNumbered_185 (by decide) ?_
        exact ih77 ((t1 * t0) + v5) (v4 + 1) σ179 _ _ hP hD hS hI _ (lv_sub hl [2, 3, 4, 1, 0] rfl) hE
      intro v3 v4 σ H locs hP hD hS hI ls hl hE
      unfold w_Reader_takeNumbered_L77 at hE
      refine lv_iload hx hb d_Reader_takeNumbered_77 (lv_at hl 4 rfl) ?_
      refine lv_iload_n hx hb d_Reader_takeNumbered_79 rfl (lv_at hl 2 rfl) ?_
      refine lv_icmp_gt (tgt := 188) hx hb d_Reader_takeNumbered_80 (by decide) (fun cc80 => ?_) (fun cc80 => ?_)
      · have hE := hE.1 cc80
        refine lv_iconst (v := -1) hx hb d_Reader_takeNumbered_188 (by decide) ?_
        exact W.iret (v := (-1)) hx hb hr (fun t ht hW => ⟨⟨_, σ, rfl, ⟨hE, hI⟩, by rw [ht]; exact hP, va_K.moved hW.alike hK, hD⟩, hS.F ht⟩) hS.2.2 d_Reader_takeNumbered_189
      · have hE := hE.2 cc80
        refine lv_aload_n hx hb d_Reader_takeNumbered_83 rfl (lv_at hl 0 rfl) ?_
        refine va_get (D := (wG w)) (ci := 4) (v := .ref (wA w 2)) (C := R_Reader) (T := F_Reader) (N := 6) hx hb hta i_Reader hown hK hP 13 rfl rfl 0 (by decide) (hta _ fl_Reader_9) (fun _ h9 => h9) rfl d_Reader_takeNumbered_84 ?_
        refine lv_aload_n hx hb d_Reader_takeNumbered_87 rfl (lv_at hl 0 rfl) ?_
        refine va_get (D := (wG w)) (ci := 4) (v := .int (pPs σ)) (C := R_Reader) (T := F_Reader) (N := 6) hx hb hta i_Reader hown hK hP 13 rfl rfl 2 (by decide) (hta _ fl_Reader_19) (fun _ h9 => h9) rfl d_Reader_takeNumbered_88 ?_
        refine ro_V (b0 := (wA w 2)) (As := [.int (pPs σ)]) (rest := []) ⟨hx, hb, hml, hown, hta⟩ (c_Strip_get l (wG w) (wA w 2) (wA w 3) (wI w) 4000 (pTp σ) (pPs σ) (fun r => r = sGet (pTp σ) (pPs σ)) (l_Strip_get (by decide) (inv.Tp hI) (pPs σ))) ok_Reader_65 ⟨Nat.le_of_ble_eq_true rfl, Nat.le_of_ble_eq_true rfl⟩ blind_rW (va_recv hK hP (ci := 1) (q0 := 2) rfl rfl) (fun U h1 h2 => ⟨by rw [h1]; exact hP.sub [2, 3] rfl, va_K.moved h2.alike hK⟩) rfl hl.1 rfl (Nat.le_of_ble_eq_true rfl) d_Reader_takeNumbered_91 ⟨Nat.zero_le _, Nat.zero_le _⟩ (fun r91 hrr => ?_)
        subst hrr
        refine lv_iload_n hx hb d_Reader_takeNumbered_94 rfl (lv_at hl 1 rfl) ?_
        refine ro_S  (As := [.int (sGet (pTp σ) (pPs σ)), .int v1]) (rest := []) ⟨hx, hb, hml, hown, hta⟩ (f_Signs_valueOfDigit l (sGet (pTp σ) (pPs σ)) v1) ok_Reader_192 ⟨Nat.le_of_ble_eq_true rfl, Nat.le_of_ble_eq_true rfl⟩ blind_true  (fun _ _ _ => trivial) rfl hl.1 rfl (Nat.le_of_ble_eq_true rfl) d_Reader_takeNumbered_95 ⟨Nat.zero_le _, Nat.zero_le _⟩ (fun r95 hrr => ?_)
        subst hrr
        refine lv_istore (lv' := [(5, .int (cDv (sGet (pTp σ) (pPs σ)) v1)), (0, .ref (wA w 13)), (1, .int v1), (2, .int v2), (3, .int v3), (4, .int v4)]) hx hb d_Reader_takeNumbered_98 hl (by decide) rfl (fun ls hl => ?_)
        refine lv_iload hx hb d_Reader_takeNumbered_100 (lv_at hl 0 rfl) ?_
        refine lv_iconst (v := -1) hx hb d_Reader_takeNumbered_102 (by decide) ?_
        refine lv_icmp_ne (tgt := 155) hx hb d_Reader_takeNumbered_103 (by decide) (fun cc103 => ?_) (fun cc103 => ?_)
        · have hE := hE.2 cc103
          refine lv_iload_n hx hb d_Reader_takeNumbered_155 rfl (lv_at hl 4 rfl) ?_
          refine lv_iload_n hx hb d_Reader_takeNumbered_156 rfl (lv_at hl 2 rfl) ?_
          refine lv_if_eq (tgt := 165) hx hb d_Reader_takeNumbered_157 (by decide) (fun cc157 => ?_) (fun cc157 => ?_)
          · have hE := hE.1 cc157
            refine lv_bipush (v := 10) hx hb d_Reader_takeNumbered_165 (by decide) ?_
            exact J167  v4 (cDv (sGet (pTp σ) (pPs σ)) v1) 10 v3 σ _ _ hP hD hS hI _ (lv_sub hl [1, 2, 3, 5, 0] rfl) hE
          · have hE := hE.2 cc157
            refine lv_bipush (v := 16) hx hb d_Reader_takeNumbered_160 (by decide) ?_
            refine lv_goto (tgt := 167) hx hb d_Reader_takeNumbered_162 (by decide) ?_
            exact J167  v4 (cDv (sGet (pTp σ) (pPs σ)) v1) 16 v3 σ _ _ hP hD hS hI _ (lv_sub hl [1, 2, 3, 5, 0] rfl) hE
        · have hE := hE.1 cc103
          refine lv_iload hx hb d_Reader_takeNumbered_106 (lv_at hl 5 rfl) ?_
          refine lv_if_le (tgt := 131) hx hb d_Reader_takeNumbered_108 (by decide) (fun cc108 => ?_) (fun cc108 => ?_)
          · have hE := hE.1 cc108
            exact J131  v3 σ _ _ hP hD hS hI _ (lv_sub hl [1, 4] rfl) hE
          · have hE := hE.2 cc108
            refine lv_aload_n hx hb d_Reader_takeNumbered_111 rfl (lv_at hl 1 rfl) ?_
            refine va_get (D := (wG w)) (ci := 4) (v := .ref (wA w 2)) (C := R_Reader) (T := F_Reader) (N := 6) hx hb hta i_Reader hown hK hP 13 rfl rfl 0 (by decide) (hta _ fl_Reader_9) (fun _ h9 => h9) rfl d_Reader_takeNumbered_112 ?_
            refine lv_aload_n hx hb d_Reader_takeNumbered_115 rfl (lv_at hl 1 rfl) ?_
            refine va_get (D := (wG w)) (ci := 4) (v := .int (pPs σ)) (C := R_Reader) (T := F_Reader) (N := 6) hx hb hta i_Reader hown hK hP 13 rfl rfl 2 (by decide) (hta _ fl_Reader_19) (fun _ h9 => h9) rfl d_Reader_takeNumbered_116 ?_
            refine ro_V (b0 := (wA w 2)) (As := [.int (pPs σ)]) (rest := []) ⟨hx, hb, hml, hown, hta⟩ (c_Strip_get l (wG w) (wA w 2) (wA w 3) (wI w) 4000 (pTp σ) (pPs σ) (fun r => r = sGet (pTp σ) (pPs σ)) (l_Strip_get (by decide) (inv.Tp hI) (pPs σ))) ok_Reader_65 ⟨Nat.le_of_ble_eq_true rfl, Nat.le_of_ble_eq_true rfl⟩ blind_rW (va_recv hK hP (ci := 1) (q0 := 2) rfl rfl) (fun U h1 h2 => ⟨by rw [h1]; exact hP.sub [2, 3] rfl, va_K.moved h2.alike hK⟩) rfl hl.1 rfl (Nat.le_of_ble_eq_true rfl) d_Reader_takeNumbered_119 ⟨Nat.zero_le _, Nat.zero_le _⟩ (fun r119 hrr => ?_)
            subst hrr
            refine lv_bipush (v := 59) hx hb d_Reader_takeNumbered_122 (by decide) ?_
            refine lv_icmp_ne (tgt := 131) hx hb d_Reader_takeNumbered_124 (by decide) (fun cc124 => ?_) (fun cc124 => ?_)
            · have hE := hE.2 cc124
              exact J131  v3 σ _ _ hP hD hS hI _ (lv_sub hl [1, 4] rfl) hE
            · have hE := hE.1 cc124
              refine lv_iconst (v := 1) hx hb d_Reader_takeNumbered_127 (by decide) ?_
              refine lv_goto (tgt := 132) hx hb d_Reader_takeNumbered_128 (by decide) ?_
              exact J132  v3 1 σ _ _ hP hD hS hI _ (lv_sub hl [1, 4] rfl) hE
  have J68 : ∀ (v1 : Int32) (v2 : Int32) (t0 : Int32) (t1 : Int32) (σ : PPS) (H : Heap) (locs : List Loc) (hP : va_P (wG w) classes (WW w σ) H) (hD : va_D A (WW w σ)) (hS : va_S A s.heap H locs) (hI : inv σ) (ls : Array Slot) (hl : lv_has ls 7 [(0, .ref (wA w 13)), (1, .int v1), (2, .int v2)]) (hE : w_Reader_takeNumbered_J68 post v1 v2 t0 t1 σ), W p l e (headSpec ws_Reader_takeNumbered { frames := 2, cells := 0, slots := 0, locals := 41 }).room s m ([.ref (wA w 13)] : List Value).toArray below meth c H locs 0 0 (MQ below (va_Qi (fun r u => post r u ∧ inv u) (mB (wG w) (WW w) (wI w) A) A) ([.ref (wA w 13)] : List Value).toArray s 0 0 A) (F0 m 68 ls [.int t0, .int t1, .ref (wA w 13)]) := by
    intro  v1 v2 t0 t1 σ H locs hP hD hS hI ls hl hE
    unfold w_Reader_takeNumbered_J68 at hE
    refine lv_iadd hx hb d_Reader_takeNumbered_68 ?_
    refine va_put (D := (wG w)) (ci := 4) (v := .int (t1 + t0)) (ty := .int) (C := R_Reader) (T := F_Reader) (N := 6) hx hb hta i_Reader t_Reader t_Reader_ok n_Reader hown hK hP hD hS 13 rfl rfl 2 (by decide) (hta _ fl_Reader_19) (fun _ h9 => h9) rfl (by decide +kernel) rfl rfl (Nat.le_of_ble_eq_true rfl) d_Reader_takeNumbered_69 (fun H locs hP hD hS => ?_)
    have hP : va_P (wG w) classes (WW w (sPs σ (t1 + t0))) H := hP
    have hD : va_D A (WW w (sPs σ (t1 + t0))) := hD
    have hI : inv (sPs σ (t1 + t0)) := hI
    have hE := hE _ rfl
    generalize (sPs σ (t1 + t0) : PPS) = σ69 at hP hD hI hE
    refine lv_iconst (v := 0) hx hb d_Reader_takeNumbered_72 (by decide) ?_
    refine lv_istore_n (lv' := [(3, .int 0), (0, .ref (wA w 13)), (1, .int v1), (2, .int v2)]) hx hb d_Reader_takeNumbered_73 rfl hl (by decide) rfl (fun ls hl => ?_)
    refine lv_iconst (v := 0) hx hb d_Reader_takeNumbered_74 (by decide) ?_
    refine lv_istore (lv' := [(4, .int 0), (3, .int 0), (0, .ref (wA w 13)), (1, .int v1), (2, .int v2)]) hx hb d_Reader_takeNumbered_75 hl (by decide) rfl (fun ls hl => ?_)
    obtain ⟨n77, hE⟩ := hE
    exact L77 v1 v2 n77 0 0 σ69 _ _ hP hD hS hI _ (lv_sub hl [2, 3, 4, 1, 0] rfl) hE
  have J53 : ∀ (v1 : Int32) (t0 : Int32) (σ : PPS) (H : Heap) (locs : List Loc) (hP : va_P (wG w) classes (WW w σ) H) (hD : va_D A (WW w σ)) (hS : va_S A s.heap H locs) (hI : inv σ) (ls : Array Slot) (hl : lv_has ls 7 [(0, .ref (wA w 13)), (1, .int v1)]) (hE : w_Reader_takeNumbered_J53 post v1 t0 σ), W p l e (headSpec ws_Reader_takeNumbered { frames := 2, cells := 0, slots := 0, locals := 41 }).room s m ([.ref (wA w 13)] : List Value).toArray below meth c H locs 0 0 (MQ below (va_Qi (fun r u => post r u ∧ inv u) (mB (wG w) (WW w) (wI w) A) A) ([.ref (wA w 13)] : List Value).toArray s 0 0 A) (F0 m 53 ls [.int t0]) := by
    intro  v1 t0 σ H locs hP hD hS hI ls hl hE
    unfold w_Reader_takeNumbered_J53 at hE
    refine lv_istore_n (lv' := [(2, .int t0), (0, .ref (wA w 13)), (1, .int v1)]) hx hb d_Reader_takeNumbered_53 rfl hl (by decide) rfl (fun ls hl => ?_)
    refine lv_aload_n hx hb d_Reader_takeNumbered_54 rfl (lv_at hl 1 rfl) ?_
    refine lv_dup hx hb d_Reader_takeNumbered_55 rfl ?_
    refine va_get (D := (wG w)) (ci := 4) (v := .int (pPs σ)) (C := R_Reader) (T := F_Reader) (N := 6) hx hb hta i_Reader hown hK hP 13 rfl rfl 2 (by decide) (hta _ fl_Reader_19) (fun _ h9 => h9) rfl d_Reader_takeNumbered_56 ?_
    refine lv_iload_n hx hb d_Reader_takeNumbered_59 rfl (lv_at hl 2 rfl) ?_
    refine lv_if_eq (tgt := 67) hx hb d_Reader_takeNumbered_60 (by decide) (fun cc60 => ?_) (fun cc60 => ?_)
    · have hE := hE.1 cc60
      refine lv_iconst (v := 2) hx hb d_Reader_takeNumbered_67 (by decide) ?_
      exact J68  v1 t0 2 (pPs σ) σ _ _ hP hD hS hI _ (lv_sub hl [1, 2, 0] rfl) hE
    · have hE := hE.2 cc60
      refine lv_iconst (v := 3) hx hb d_Reader_takeNumbered_63 (by decide) ?_
      refine lv_goto (tgt := 68) hx hb d_Reader_takeNumbered_64 (by decide) ?_
      exact J68  v1 t0 3 (pPs σ) σ _ _ hP hD hS hI _ (lv_sub hl [1, 2, 0] rfl) hE
  have J41 : ∀ (t0 : Int32) (σ : PPS) (H : Heap) (locs : List Loc) (hP : va_P (wG w) classes (WW w σ) H) (hD : va_D A (WW w σ)) (hS : va_S A s.heap H locs) (hI : inv σ) (ls : Array Slot) (hl : lv_has ls 7 [(0, .ref (wA w 13))]) (hE : w_Reader_takeNumbered_J41 post t0 σ), W p l e (headSpec ws_Reader_takeNumbered { frames := 2, cells := 0, slots := 0, locals := 41 }).room s m ([.ref (wA w 13)] : List Value).toArray below meth c H locs 0 0 (MQ below (va_Qi (fun r u => post r u ∧ inv u) (mB (wG w) (WW w) (wI w) A) A) ([.ref (wA w 13)] : List Value).toArray s 0 0 A) (F0 m 41 ls [.int t0]) := by
    intro  t0 σ H locs hP hD hS hI ls hl hE
    unfold w_Reader_takeNumbered_J41 at hE
    refine lv_istore_n (lv' := [(1, .int t0), (0, .ref (wA w 13))]) hx hb d_Reader_takeNumbered_41 rfl hl (by decide) rfl (fun ls hl => ?_)
    refine lv_iload_n hx hb d_Reader_takeNumbered_42 rfl (lv_at hl 0 rfl) ?_
    refine lv_if_eq (tgt := 51) hx hb d_Reader_takeNumbered_43 (by decide) (fun cc43 => ?_) (fun cc43 => ?_)
    · have hE := hE.1 cc43
      refine lv_bipush (v := 7) hx hb d_Reader_takeNumbered_51 (by decide) ?_
      exact J53  t0 7 σ _ _ hP hD hS hI _ (lv_sub hl [1, 0] rfl) hE
    · have hE := hE.2 cc43
      refine lv_bipush (v := 6) hx hb d_Reader_takeNumbered_46 (by decide) ?_
      refine lv_goto (tgt := 53) hx hb d_Reader_takeNumbered_48 (by decide) ?_
      exact J53  t0 6 σ _ _ hP hD hS hI _ (lv_sub hl [1, 0] rfl) hE
  have J36 : ∀ (σ : PPS) (H : Heap) (locs : List Loc) (hP : va_P (wG w) classes (WW w σ) H) (hD : va_D A (WW w σ)) (hS : va_S A s.heap H locs) (hI : inv σ) (ls : Array Slot) (hl : lv_has ls 7 [(0, .ref (wA w 13))]) (hE : w_Reader_takeNumbered_J36 post σ), W p l e (headSpec ws_Reader_takeNumbered { frames := 2, cells := 0, slots := 0, locals := 41 }).room s m ([.ref (wA w 13)] : List Value).toArray below meth c H locs 0 0 (MQ below (va_Qi (fun r u => post r u ∧ inv u) (mB (wG w) (WW w) (wI w) A) A) ([.ref (wA w 13)] : List Value).toArray s 0 0 A) (F0 m 36 ls []) := by
    intro  σ H locs hP hD hS hI ls hl hE
    unfold w_Reader_takeNumbered_J36 at hE
    refine lv_iconst (v := 1) hx hb d_Reader_takeNumbered_36 (by decide) ?_
    refine lv_goto (tgt := 41) hx hb d_Reader_takeNumbered_37 (by decide) ?_
    exact J41  1 σ _ _ hP hD hS hI _ (lv_sub hl [0] rfl) hE
  unfold w_Reader_takeNumbered at hE
  refine lv_aload_n hx hb d_Reader_takeNumbered_0 rfl (lv_at hl 0 rfl) ?_
  refine va_get (D := (wG w)) (ci := 4) (v := .ref (wA w 2)) (C := R_Reader) (T := F_Reader) (N := 6) hx hb hta i_Reader hown hK hP 13 rfl rfl 0 (by decide) (hta _ fl_Reader_9) (fun _ h9 => h9) rfl d_Reader_takeNumbered_1 ?_
  refine lv_aload_n hx hb d_Reader_takeNumbered_4 rfl (lv_at hl 0 rfl) ?_
  refine va_get (D := (wG w)) (ci := 4) (v := .int (pPs σ)) (C := R_Reader) (T := F_Reader) (N := 6) hx hb hta i_Reader hown hK hP 13 rfl rfl 2 (by decide) (hta _ fl_Reader_19) (fun _ h9 => h9) rfl d_Reader_takeNumbered_5 ?_
  refine lv_iconst (v := 2) hx hb d_Reader_takeNumbered_8 (by decide) ?_
  refine lv_iadd hx hb d_Reader_takeNumbered_9 ?_
  refine ro_V (b0 := (wA w 2)) (As := [.int ((pPs σ) + 2)]) (rest := []) ⟨hx, hb, hml, hown, hta⟩ (c_Strip_get l (wG w) (wA w 2) (wA w 3) (wI w) 4000 (pTp σ) ((pPs σ) + 2) (fun r => r = sGet (pTp σ) ((pPs σ) + 2)) (l_Strip_get (by decide) (inv.Tp hI) ((pPs σ) + 2))) ok_Reader_65 ⟨Nat.le_of_ble_eq_true rfl, Nat.le_of_ble_eq_true rfl⟩ blind_rW (va_recv hK hP (ci := 1) (q0 := 2) rfl rfl) (fun U h1 h2 => ⟨by rw [h1]; exact hP.sub [2, 3] rfl, va_K.moved h2.alike hK⟩) rfl hl.1 rfl (Nat.le_of_ble_eq_true rfl) d_Reader_takeNumbered_10 ⟨Nat.zero_le _, Nat.zero_le _⟩ (fun r10 hrr => ?_)
  subst hrr
  refine lv_bipush (v := 120) hx hb d_Reader_takeNumbered_13 (by decide) ?_
  refine lv_icmp_eq (tgt := 36) hx hb d_Reader_takeNumbered_15 (by decide) (fun cc15 => ?_) (fun cc15 => ?_)
  · have hE := hE.1 cc15
    exact J36  σ _ _ hP hD hS hI _ (lv_sub hl [0] rfl) hE
  · have hE := hE.2 cc15
    refine lv_aload_n hx hb d_Reader_takeNumbered_18 rfl (lv_at hl 0 rfl) ?_
    refine va_get (D := (wG w)) (ci := 4) (v := .ref (wA w 2)) (C := R_Reader) (T := F_Reader) (N := 6) hx hb hta i_Reader hown hK hP 13 rfl rfl 0 (by decide) (hta _ fl_Reader_9) (fun _ h9 => h9) rfl d_Reader_takeNumbered_19 ?_
    refine lv_aload_n hx hb d_Reader_takeNumbered_22 rfl (lv_at hl 0 rfl) ?_
    refine va_get (D := (wG w)) (ci := 4) (v := .int (pPs σ)) (C := R_Reader) (T := F_Reader) (N := 6) hx hb hta i_Reader hown hK hP 13 rfl rfl 2 (by decide) (hta _ fl_Reader_19) (fun _ h9 => h9) rfl d_Reader_takeNumbered_23 ?_
    refine lv_iconst (v := 2) hx hb d_Reader_takeNumbered_26 (by decide) ?_
    refine lv_iadd hx hb d_Reader_takeNumbered_27 ?_
    refine ro_V (b0 := (wA w 2)) (As := [.int ((pPs σ) + 2)]) (rest := []) ⟨hx, hb, hml, hown, hta⟩ (c_Strip_get l (wG w) (wA w 2) (wA w 3) (wI w) 4000 (pTp σ) ((pPs σ) + 2) (fun r => r = sGet (pTp σ) ((pPs σ) + 2)) (l_Strip_get (by decide) (inv.Tp hI) ((pPs σ) + 2))) ok_Reader_65 ⟨Nat.le_of_ble_eq_true rfl, Nat.le_of_ble_eq_true rfl⟩ blind_rW (va_recv hK hP (ci := 1) (q0 := 2) rfl rfl) (fun U h1 h2 => ⟨by rw [h1]; exact hP.sub [2, 3] rfl, va_K.moved h2.alike hK⟩) rfl hl.1 rfl (Nat.le_of_ble_eq_true rfl) d_Reader_takeNumbered_28 ⟨Nat.zero_le _, Nat.zero_le _⟩ (fun r28 hrr => ?_)
    subst hrr
    refine lv_bipush (v := 88) hx hb d_Reader_takeNumbered_31 (by decide) ?_
    refine lv_icmp_ne (tgt := 40) hx hb d_Reader_takeNumbered_33 (by decide) (fun cc33 => ?_) (fun cc33 => ?_)
    · have hE := hE.2 cc33
      refine lv_iconst (v := 0) hx hb d_Reader_takeNumbered_40 (by decide) ?_
      exact J41  0 σ _ _ hP hD hS hI _ (lv_sub hl [0] rfl) hE
    · have hE := hE.1 cc33
      exact J36  σ _ _ hP hD hS hI _ (lv_sub hl [0] rfl) hE
theorem ok_Reader_40 : okV "PlainPages$Reader" 40 R_Reader y_Reader_standsAt b_Reader_standsAt 4 (some .boolean) 2 := ⟨aW_in 387 (by decide +kernel) rfl, aW_in 389 (by decide +kernel) rfl, aW_in 1 (by decide +kernel) rfl, aW_in 89 (by decide +kernel) rfl, cd_Reader_standsAt, rfl, by decide +kernel, by decide +kernel, by decide +kernel⟩
theorem d_Reader_takeNamed_0 : decode b_Reader_takeNamed 0 = .ok (.iconst (-1), 1) := by decide +kernel
theorem d_Reader_takeNamed_1 : decode b_Reader_takeNamed 1 = .ok (.istore_n 1, 1) := by decide +kernel
theorem d_Reader_takeNamed_2 : decode b_Reader_takeNamed 2 = .ok (.aload_n 0, 1) := by decide +kernel
theorem d_Reader_takeNamed_3 : decode b_Reader_takeNamed 3 = .ok (.aload_n 0, 1) := by decide +kernel
theorem d_Reader_takeNamed_4 : decode b_Reader_takeNamed 4 = .ok (.getfield 19, 3) := by decide +kernel
theorem d_Reader_takeNamed_7 : decode b_Reader_takeNamed 7 = .ok (.ldc 196, 2) := by decide +kernel
theorem d_Reader_takeNamed_9 : decode b_Reader_takeNamed 9 = .ok (.invokevirtual 40, 3) := by decide +kernel
theorem d_Reader_takeNamed_12 : decode b_Reader_takeNamed 12 = .ok (.ifCond .eq 19, 3) := by decide +kernel
theorem d_Reader_takeNamed_15 : decode b_Reader_takeNamed 15 = .ok (.bipush 38, 2) := by decide +kernel
theorem d_Reader_takeNamed_17 : decode b_Reader_takeNamed 17 = .ok (.istore_n 1, 1) := by decide +kernel
theorem d_Reader_takeNamed_18 : decode b_Reader_takeNamed 18 = .ok (.aload_n 0, 1) := by decide +kernel
theorem d_Reader_takeNamed_19 : decode b_Reader_takeNamed 19 = .ok (.dup, 1) := by decide +kernel
theorem d_Reader_takeNamed_20 : decode b_Reader_takeNamed 20 = .ok (.getfield 19, 3) := by decide +kernel
theorem d_Reader_takeNamed_23 : decode b_Reader_takeNamed 23 = .ok (.iconst 5, 1) := by decide +kernel
theorem d_Reader_takeNamed_24 : decode b_Reader_takeNamed 24 = .ok (.iadd, 1) := by decide +kernel
theorem d_Reader_takeNamed_25 : decode b_Reader_takeNamed 25 = .ok (.putfield 19, 3) := by decide +kernel
theorem d_Reader_takeNamed_28 : decode b_Reader_takeNamed 28 = .ok (.goto 118, 3) := by decide +kernel
theorem d_Reader_takeNamed_31 : decode b_Reader_takeNamed 31 = .ok (.aload_n 0, 1) := by decide +kernel
theorem d_Reader_takeNamed_32 : decode b_Reader_takeNamed 32 = .ok (.aload_n 0, 1) := by decide +kernel
theorem d_Reader_takeNamed_33 : decode b_Reader_takeNamed 33 = .ok (.getfield 19, 3) := by decide +kernel
theorem d_Reader_takeNamed_36 : decode b_Reader_takeNamed 36 = .ok (.ldc 198, 2) := by decide +kernel
theorem d_Reader_takeNamed_38 : decode b_Reader_takeNamed 38 = .ok (.invokevirtual 40, 3) := by decide +kernel
theorem d_Reader_takeNamed_41 : decode b_Reader_takeNamed 41 = .ok (.ifCond .eq 19, 3) := by decide +kernel
theorem d_Reader_takeNamed_44 : decode b_Reader_takeNamed 44 = .ok (.bipush 60, 2) := by decide +kernel
theorem d_Reader_takeNamed_46 : decode b_Reader_takeNamed 46 = .ok (.istore_n 1, 1) := by decide +kernel
theorem d_Reader_takeNamed_47 : decode b_Reader_takeNamed 47 = .ok (.aload_n 0, 1) := by decide +kernel
theorem d_Reader_takeNamed_48 : decode b_Reader_takeNamed 48 = .ok (.dup, 1) := by decide +kernel
theorem d_Reader_takeNamed_49 : decode b_Reader_takeNamed 49 = .ok (.getfield 19, 3) := by decide +kernel
theorem d_Reader_takeNamed_52 : decode b_Reader_takeNamed 52 = .ok (.iconst 4, 1) := by decide +kernel
theorem d_Reader_takeNamed_53 : decode b_Reader_takeNamed 53 = .ok (.iadd, 1) := by decide +kernel
theorem d_Reader_takeNamed_54 : decode b_Reader_takeNamed 54 = .ok (.putfield 19, 3) := by decide +kernel
theorem d_Reader_takeNamed_57 : decode b_Reader_takeNamed 57 = .ok (.goto 89, 3) := by decide +kernel
theorem d_Reader_takeNamed_60 : decode b_Reader_takeNamed 60 = .ok (.aload_n 0, 1) := by decide +kernel
theorem d_Reader_takeNamed_61 : decode b_Reader_takeNamed 61 = .ok (.aload_n 0, 1) := by decide +kernel
theorem d_Reader_takeNamed_62 : decode b_Reader_takeNamed 62 = .ok (.getfield 19, 3) := by decide +kernel
theorem d_Reader_takeNamed_65 : decode b_Reader_takeNamed 65 = .ok (.ldc 200, 2) := by decide +kernel
theorem d_Reader_takeNamed_67 : decode b_Reader_takeNamed 67 = .ok (.invokevirtual 40, 3) := by decide +kernel
theorem d_Reader_takeNamed_70 : decode b_Reader_takeNamed 70 = .ok (.ifCond .eq 19, 3) := by decide +kernel
theorem d_Reader_takeNamed_73 : decode b_Reader_takeNamed 73 = .ok (.bipush 62, 2) := by decide +kernel
theorem d_Reader_takeNamed_75 : decode b_Reader_takeNamed 75 = .ok (.istore_n 1, 1) := by decide +kernel
theorem d_Reader_takeNamed_76 : decode b_Reader_takeNamed 76 = .ok (.aload_n 0, 1) := by decide +kernel
theorem d_Reader_takeNamed_77 : decode b_Reader_takeNamed 77 = .ok (.dup, 1) := by decide +kernel
theorem d_Reader_takeNamed_78 : decode b_Reader_takeNamed 78 = .ok (.getfield 19, 3) := by decide +kernel
theorem d_Reader_takeNamed_81 : decode b_Reader_takeNamed 81 = .ok (.iconst 4, 1) := by decide +kernel
theorem d_Reader_takeNamed_82 : decode b_Reader_takeNamed 82 = .ok (.iadd, 1) := by decide +kernel
theorem d_Reader_takeNamed_83 : decode b_Reader_takeNamed 83 = .ok (.putfield 19, 3) := by decide +kernel
theorem d_Reader_takeNamed_86 : decode b_Reader_takeNamed 86 = .ok (.goto 60, 3) := by decide +kernel
theorem d_Reader_takeNamed_89 : decode b_Reader_takeNamed 89 = .ok (.aload_n 0, 1) := by decide +kernel
theorem d_Reader_takeNamed_90 : decode b_Reader_takeNamed 90 = .ok (.aload_n 0, 1) := by decide +kernel
theorem d_Reader_takeNamed_91 : decode b_Reader_takeNamed 91 = .ok (.getfield 19, 3) := by decide +kernel
theorem d_Reader_takeNamed_94 : decode b_Reader_takeNamed 94 = .ok (.ldc 202, 2) := by decide +kernel
theorem d_Reader_takeNamed_96 : decode b_Reader_takeNamed 96 = .ok (.invokevirtual 40, 3) := by decide +kernel
theorem d_Reader_takeNamed_99 : decode b_Reader_takeNamed 99 = .ok (.ifCond .eq 20, 3) := by decide +kernel
theorem d_Reader_takeNamed_102 : decode b_Reader_takeNamed 102 = .ok (.bipush 34, 2) := by decide +kernel
theorem d_Reader_takeNamed_104 : decode b_Reader_takeNamed 104 = .ok (.istore_n 1, 1) := by decide +kernel
theorem d_Reader_takeNamed_105 : decode b_Reader_takeNamed 105 = .ok (.aload_n 0, 1) := by decide +kernel
theorem d_Reader_takeNamed_106 : decode b_Reader_takeNamed 106 = .ok (.dup, 1) := by decide +kernel
theorem d_Reader_takeNamed_107 : decode b_Reader_takeNamed 107 = .ok (.getfield 19, 3) := by decide +kernel
theorem d_Reader_takeNamed_110 : decode b_Reader_takeNamed 110 = .ok (.bipush 6, 2) := by decide +kernel
theorem d_Reader_takeNamed_112 : decode b_Reader_takeNamed 112 = .ok (.iadd, 1) := by decide +kernel
theorem d_Reader_takeNamed_113 : decode b_Reader_takeNamed 113 = .ok (.putfield 19, 3) := by decide +kernel
theorem d_Reader_takeNamed_116 : decode b_Reader_takeNamed 116 = .ok (.goto 30, 3) := by decide +kernel
theorem d_Reader_takeNamed_119 : decode b_Reader_takeNamed 119 = .ok (.aload_n 0, 1) := by decide +kernel
theorem d_Reader_takeNamed_120 : decode b_Reader_takeNamed 120 = .ok (.aload_n 0, 1) := by decide +kernel
theorem d_Reader_takeNamed_121 : decode b_Reader_takeNamed 121 = .ok (.getfield 19, 3) := by decide +kernel
theorem d_Reader_takeNamed_124 : decode b_Reader_takeNamed 124 = .ok (.ldc 204, 2) := by decide +kernel
theorem d_Reader_takeNamed_126 : decode b_Reader_takeNamed 126 = .ok (.invokevirtual 40, 3) := by decide +kernel
theorem d_Reader_takeNamed_129 : decode b_Reader_takeNamed 129 = .ok (.ifCond .eq 17, 3) := by decide +kernel
theorem d_Reader_takeNamed_132 : decode b_Reader_takeNamed 132 = .ok (.bipush 39, 2) := by decide +kernel
theorem d_Reader_takeNamed_134 : decode b_Reader_takeNamed 134 = .ok (.istore_n 1, 1) := by decide +kernel
theorem d_Reader_takeNamed_135 : decode b_Reader_takeNamed 135 = .ok (.aload_n 0, 1) := by decide +kernel
theorem d_Reader_takeNamed_136 : decode b_Reader_takeNamed 136 = .ok (.dup, 1) := by decide +kernel
theorem d_Reader_takeNamed_137 : decode b_Reader_takeNamed 137 = .ok (.getfield 19, 3) := by decide +kernel
theorem d_Reader_takeNamed_140 : decode b_Reader_takeNamed 140 = .ok (.bipush 6, 2) := by decide +kernel
theorem d_Reader_takeNamed_142 : decode b_Reader_takeNamed 142 = .ok (.iadd, 1) := by decide +kernel
theorem d_Reader_takeNamed_143 : decode b_Reader_takeNamed 143 = .ok (.putfield 19, 3) := by decide +kernel
theorem d_Reader_takeNamed_146 : decode b_Reader_takeNamed 146 = .ok (.iload_n 1, 1) := by decide +kernel
theorem d_Reader_takeNamed_147 : decode b_Reader_takeNamed 147 = .ok (.ireturn, 1) := by decide +kernel
def w_Reader_takeNamed  (σ : PPS)  (post : Int32 → PPS → Prop) : Prop := w_Reader_standsAt σ (pPs σ) 2 (fun r9 => ((r9 = 0 → w_Reader_standsAt σ (pPs σ) 3 (fun r38 => ((r38 = 0 → w_Reader_standsAt σ (pPs σ) 4 (fun r67 => ((r67 = 0 → w_Reader_standsAt σ (pPs σ) 5 (fun r96 => ((r96 = 0 → w_Reader_standsAt σ (pPs σ) 6 (fun r126 => ((r126 = 0 → post (-1) σ) ∧ (¬ r126 = 0 → (∀ σ143 : PPS, σ143 = sPs σ ((pPs σ) + 6) → post 39 σ143))))) ∧ (¬ r96 = 0 → (∀ σ113 : PPS, σ113 = sPs σ ((pPs σ) + 6) → post 34 σ113))))) ∧ (¬ r67 = 0 → (∀ σ83 : PPS, σ83 = sPs σ ((pPs σ) + 4) → post 62 σ83))))) ∧ (¬ r38 = 0 → (∀ σ54 : PPS, σ54 = sPs σ ((pPs σ) + 4) → post 60 σ54))))) ∧ (¬ r9 = 0 → (∀ σ25 : PPS, σ25 = sPs σ ((pPs σ) + 5) → post 38 σ25))))
set_option maxHeartbeats 4000000 in
set_option maxRecDepth 100000 in
theorem c_Reader_takeNamed (l : Launch) (w : WD) (sz : Nat) (σ : PPS)   (post : Int32 → PPS → Prop) (hI : inv σ) (hE : w_Reader_takeNamed σ post) : Met l y_Reader_takeNamed ws_Reader_takeNamed { frames := 5, cells := 0, slots := 0, locals := 108 } (va_Pc [.ref (wA w 13)] (gW w σ sz)) (va_Qi (fun r u => post r u ∧ inv u) (mB (wG w) (WW w) (wI w) (va_A (WW w σ) sz)) (va_A (WW w σ) sz)) 0 0 (va_A (WW w σ) sz) := by
  refine Met.ofW (cc := b_Reader_takeNamed) (maxL := 2) (ret := (some .int)) (by decide) rfl ?_
  intro p e s m args below meth c s₁ B hml hv
  obtain ⟨rfl, hsz, hP, hK, hD0, hC⟩ := hv
  have hx := B.exec
  have hb := B.bytes
  have hr := B.returns
  have hta : ∀ w ∈ aW, w.before _ s = true := fun w h => atoms_spec (ws := ws_Reader_takeNamed) B.pre w (List.mem_cons_of_mem _ h)
  have hown : s.vm.findClass R_Reader = some m.cls := findClass_of_methodNamed B.named
  have hlocks := B.notSynchronized
  subst hsz
  have hD := hD0.self (sz := s.heap.size)
  generalize hAe : va_A (WW w σ) s.heap.size = A at hD hC ⊢
  have hA : ∀ q : Nat, s.heap.size ≤ q → A q := fun q h => by rw [← hAe]; exact Or.inr h
  have hS : va_S A s.heap s.heap [] := va_S.rf
  have hP : va_P (wG w) classes (WW w σ) s.heap := hP
  have hl := lv_entry ([.ref (wA w 13)]) (n := 2) (Nat.le_of_ble_eq_true rfl)
  rw [lg_entry_eq]
  generalize (lg_sl ([.ref (wA w 13)]) ++ List.replicate (2 - (lg_sl ([.ref (wA w 13)])).length) Slot.unset).toArray = ls at hl ⊢
  have hl : lv_has ls 2 [(0, .ref (wA w 13))] := hl
  unfold w_Reader_takeNamed at hE
  refine lv_iconst (v := -1) hx hb d_Reader_takeNamed_0 (by decide) ?_
  refine lv_istore_n (lv' := [(1, .int (-1)), (0, .ref (wA w 13))]) hx hb d_Reader_takeNamed_1 rfl hl (by decide) rfl (fun ls hl => ?_)
  refine lv_aload_n hx hb d_Reader_takeNamed_2 rfl (lv_at hl 1 rfl) ?_
  refine lv_aload_n hx hb d_Reader_takeNamed_3 rfl (lv_at hl 1 rfl) ?_
  refine va_get (D := (wG w)) (ci := 4) (v := .int (pPs σ)) (C := R_Reader) (T := F_Reader) (N := 6) hx hb hta i_Reader hown hK hP 13 rfl rfl 2 (by decide) (hta _ fl_Reader_19) (fun _ h9 => h9) rfl d_Reader_takeNamed_4 ?_
  refine t_ldc (i := 2) hx hb hC (by decide) rfl hown d_Reader_takeNamed_7 ?_
  refine ro_V (b0 := (wA w 13)) (As := [.int (pPs σ), .ref (wK w 2)]) (rest := []) ⟨hx, hb, hml, hown, hta⟩ (c_Reader_standsAt l w σ (pPs σ) 2  _ hI hE) ok_Reader_40 ⟨Nat.le_of_ble_eq_true rfl, Nat.le_of_ble_eq_true rfl⟩ blind_fW (va_recv hK hP (ci := 4) (q0 := 13) rfl rfl) (fW_of hP hK hC hS) rfl hl.1 rfl (Nat.le_of_ble_eq_true rfl) d_Reader_takeNamed_9 ⟨Nat.zero_le _, Nat.zero_le _⟩ (fun r9 hE => ?_)
  refine lv_if_eq (tgt := 31) hx hb d_Reader_takeNamed_12 (by decide) (fun cc12 => ?_) (fun cc12 => ?_)
  · have hE := hE.1 cc12
    refine lv_aload_n hx hb d_Reader_takeNamed_31 rfl (lv_at hl 1 rfl) ?_
    refine lv_aload_n hx hb d_Reader_takeNamed_32 rfl (lv_at hl 1 rfl) ?_
    refine va_get (D := (wG w)) (ci := 4) (v := .int (pPs σ)) (C := R_Reader) (T := F_Reader) (N := 6) hx hb hta i_Reader hown hK hP 13 rfl rfl 2 (by decide) (hta _ fl_Reader_19) (fun _ h9 => h9) rfl d_Reader_takeNamed_33 ?_
    refine t_ldc (i := 3) hx hb hC (by decide) rfl hown d_Reader_takeNamed_36 ?_
    refine ro_V (b0 := (wA w 13)) (As := [.int (pPs σ), .ref (wK w 3)]) (rest := []) ⟨hx, hb, hml, hown, hta⟩ (c_Reader_standsAt l w σ (pPs σ) 3  _ hI hE) ok_Reader_40 ⟨Nat.le_of_ble_eq_true rfl, Nat.le_of_ble_eq_true rfl⟩ blind_fW (va_recv hK hP (ci := 4) (q0 := 13) rfl rfl) (fW_of hP hK hC hS) rfl hl.1 rfl (Nat.le_of_ble_eq_true rfl) d_Reader_takeNamed_38 ⟨Nat.zero_le _, Nat.zero_le _⟩ (fun r38 hE => ?_)
    refine lv_if_eq (tgt := 60) hx hb d_Reader_takeNamed_41 (by decide) (fun cc41 => ?_) (fun cc41 => ?_)
    · have hE := hE.1 cc41
      refine lv_aload_n hx hb d_Reader_takeNamed_60 rfl (lv_at hl 1 rfl) ?_
      refine lv_aload_n hx hb d_Reader_takeNamed_61 rfl (lv_at hl 1 rfl) ?_
      refine va_get (D := (wG w)) (ci := 4) (v := .int (pPs σ)) (C := R_Reader) (T := F_Reader) (N := 6) hx hb hta i_Reader hown hK hP 13 rfl rfl 2 (by decide) (hta _ fl_Reader_19) (fun _ h9 => h9) rfl d_Reader_takeNamed_62 ?_
      refine t_ldc (i := 4) hx hb hC (by decide) rfl hown d_Reader_takeNamed_65 ?_
      refine ro_V (b0 := (wA w 13)) (As := [.int (pPs σ), .ref (wK w 4)]) (rest := []) ⟨hx, hb, hml, hown, hta⟩ (c_Reader_standsAt l w σ (pPs σ) 4  _ hI hE) ok_Reader_40 ⟨Nat.le_of_ble_eq_true rfl, Nat.le_of_ble_eq_true rfl⟩ blind_fW (va_recv hK hP (ci := 4) (q0 := 13) rfl rfl) (fW_of hP hK hC hS) rfl hl.1 rfl (Nat.le_of_ble_eq_true rfl) d_Reader_takeNamed_67 ⟨Nat.zero_le _, Nat.zero_le _⟩ (fun r67 hE => ?_)
      refine lv_if_eq (tgt := 89) hx hb d_Reader_takeNamed_70 (by decide) (fun cc70 => ?_) (fun cc70 => ?_)
      · have hE := hE.1 cc70
        refine lv_aload_n hx hb d_Reader_takeNamed_89 rfl (lv_at hl 1 rfl) ?_
        refine lv_aload_n hx hb d_Reader_takeNamed_90 rfl (lv_at hl 1 rfl) ?_
        refine va_get (D := (wG w)) (ci := 4) (v := .int (pPs σ)) (C := R_Reader) (T := F_Reader) (N := 6) hx hb hta i_Reader hown hK hP 13 rfl rfl 2 (by decide) (hta _ fl_Reader_19) (fun _ h9 => h9) rfl d_Reader_takeNamed_91 ?_
        refine t_ldc (i := 5) hx hb hC (by decide) rfl hown d_Reader_takeNamed_94 ?_
        refine ro_V (b0 := (wA w 13)) (As := [.int (pPs σ), .ref (wK w 5)]) (rest := []) ⟨hx, hb, hml, hown, hta⟩ (c_Reader_standsAt l w σ (pPs σ) 5  _ hI hE) ok_Reader_40 ⟨Nat.le_of_ble_eq_true rfl, Nat.le_of_ble_eq_true rfl⟩ blind_fW (va_recv hK hP (ci := 4) (q0 := 13) rfl rfl) (fW_of hP hK hC hS) rfl hl.1 rfl (Nat.le_of_ble_eq_true rfl) d_Reader_takeNamed_96 ⟨Nat.zero_le _, Nat.zero_le _⟩ (fun r96 hE => ?_)
        refine lv_if_eq (tgt := 119) hx hb d_Reader_takeNamed_99 (by decide) (fun cc99 => ?_) (fun cc99 => ?_)
        · have hE := hE.1 cc99
          refine lv_aload_n hx hb d_Reader_takeNamed_119 rfl (lv_at hl 1 rfl) ?_
          refine lv_aload_n hx hb d_Reader_takeNamed_120 rfl (lv_at hl 1 rfl) ?_
          refine va_get (D := (wG w)) (ci := 4) (v := .int (pPs σ)) (C := R_Reader) (T := F_Reader) (N := 6) hx hb hta i_Reader hown hK hP 13 rfl rfl 2 (by decide) (hta _ fl_Reader_19) (fun _ h9 => h9) rfl d_Reader_takeNamed_121 ?_
          refine t_ldc (i := 6) hx hb hC (by decide) rfl hown d_Reader_takeNamed_124 ?_
          refine ro_V (b0 := (wA w 13)) (As := [.int (pPs σ), .ref (wK w 6)]) (rest := []) ⟨hx, hb, hml, hown, hta⟩ (c_Reader_standsAt l w σ (pPs σ) 6  _ hI hE) ok_Reader_40 ⟨Nat.le_of_ble_eq_true rfl, Nat.le_of_ble_eq_true rfl⟩ blind_fW (va_recv hK hP (ci := 4) (q0 := 13) rfl rfl) (fW_of hP hK hC hS) rfl hl.1 rfl (Nat.le_of_ble_eq_true rfl) d_Reader_takeNamed_126 ⟨Nat.zero_le _, Nat.zero_le _⟩ (fun r126 hE => ?_)
          refine lv_if_eq (tgt := 146) hx hb d_Reader_takeNamed_129 (by decide) (fun cc129 => ?_) (fun cc129 => ?_)
          · have hE := hE.1 cc129
            refine lv_iload_n hx hb d_Reader_takeNamed_146 rfl (lv_at hl 0 rfl) ?_
            exact W.iret (v := (-1)) hx hb hr (fun t ht hW => ⟨⟨_, σ, rfl, ⟨hE, hI⟩, by rw [ht]; exact hP, va_K.moved hW.alike hK, hD⟩, hS.F ht⟩) hS.2.2 d_Reader_takeNamed_147
          · have hE := hE.2 cc129
            refine lv_bipush (v := 39) hx hb d_Reader_takeNamed_132 (by decide) ?_
            refine lv_istore_n (lv' := [(1, .int 39), (0, .ref (wA w 13))]) hx hb d_Reader_takeNamed_134 rfl hl (by decide) rfl (fun ls hl => ?_)
            refine lv_aload_n hx hb d_Reader_takeNamed_135 rfl (lv_at hl 1 rfl) ?_
            refine lv_dup hx hb d_Reader_takeNamed_136 rfl ?_
            refine va_get (D := (wG w)) (ci := 4) (v := .int (pPs σ)) (C := R_Reader) (T := F_Reader) (N := 6) hx hb hta i_Reader hown hK hP 13 rfl rfl 2 (by decide) (hta _ fl_Reader_19) (fun _ h9 => h9) rfl d_Reader_takeNamed_137 ?_
            refine lv_bipush (v := 6) hx hb d_Reader_takeNamed_140 (by decide) ?_
            refine lv_iadd hx hb d_Reader_takeNamed_142 ?_
            refine va_put (D := (wG w)) (ci := 4) (v := .int ((pPs σ) + 6)) (ty := .int) (C := R_Reader) (T := F_Reader) (N := 6) hx hb hta i_Reader t_Reader t_Reader_ok n_Reader hown hK hP hD hS 13 rfl rfl 2 (by decide) (hta _ fl_Reader_19) (fun _ h9 => h9) rfl (by decide +kernel) rfl rfl (Nat.le_of_ble_eq_true rfl) d_Reader_takeNamed_143 (fun H locs hP hD hS => ?_)
            have hP : va_P (wG w) classes (WW w (sPs σ ((pPs σ) + 6))) H := hP
            have hD : va_D A (WW w (sPs σ ((pPs σ) + 6))) := hD
            have hI : inv (sPs σ ((pPs σ) + 6)) := hI
            have hE := hE _ rfl
            generalize (sPs σ ((pPs σ) + 6) : PPS) = σ143 at hP hD hI hE
            refine lv_iload_n hx hb d_Reader_takeNamed_146 rfl (lv_at hl 0 rfl) ?_
            exact W.iret (v := 39) hx hb hr (fun t ht hW => ⟨⟨_, σ143, rfl, ⟨hE, hI⟩, by rw [ht]; exact hP, va_K.moved hW.alike hK, hD⟩, hS.F ht⟩) hS.2.2 d_Reader_takeNamed_147
        · have hE := hE.2 cc99
          refine lv_bipush (v := 34) hx hb d_Reader_takeNamed_102 (by decide) ?_
          refine lv_istore_n (lv' := [(1, .int 34), (0, .ref (wA w 13))]) hx hb d_Reader_takeNamed_104 rfl hl (by decide) rfl (fun ls hl => ?_)
          refine lv_aload_n hx hb d_Reader_takeNamed_105 rfl (lv_at hl 1 rfl) ?_
          refine lv_dup hx hb d_Reader_takeNamed_106 rfl ?_
          refine va_get (D := (wG w)) (ci := 4) (v := .int (pPs σ)) (C := R_Reader) (T := F_Reader) (N := 6) hx hb hta i_Reader hown hK hP 13 rfl rfl 2 (by decide) (hta _ fl_Reader_19) (fun _ h9 => h9) rfl d_Reader_takeNamed_107 ?_
          refine lv_bipush (v := 6) hx hb d_Reader_takeNamed_110 (by decide) ?_
          refine lv_iadd hx hb d_Reader_takeNamed_112 ?_
          refine va_put (D := (wG w)) (ci := 4) (v := .int ((pPs σ) + 6)) (ty := .int) (C := R_Reader) (T := F_Reader) (N := 6) hx hb hta i_Reader t_Reader t_Reader_ok n_Reader hown hK hP hD hS 13 rfl rfl 2 (by decide) (hta _ fl_Reader_19) (fun _ h9 => h9) rfl (by decide +kernel) rfl rfl (Nat.le_of_ble_eq_true rfl) d_Reader_takeNamed_113 (fun H locs hP hD hS => ?_)
          have hP : va_P (wG w) classes (WW w (sPs σ ((pPs σ) + 6))) H := hP
          have hD : va_D A (WW w (sPs σ ((pPs σ) + 6))) := hD
          have hI : inv (sPs σ ((pPs σ) + 6)) := hI
          have hE := hE _ rfl
          generalize (sPs σ ((pPs σ) + 6) : PPS) = σ113 at hP hD hI hE
          refine lv_goto (tgt := 146) hx hb d_Reader_takeNamed_116 (by decide) ?_
          refine lv_iload_n hx hb d_Reader_takeNamed_146 rfl (lv_at hl 0 rfl) ?_
          exact W.iret (v := 34) hx hb hr (fun t ht hW => ⟨⟨_, σ113, rfl, ⟨hE, hI⟩, by rw [ht]; exact hP, va_K.moved hW.alike hK, hD⟩, hS.F ht⟩) hS.2.2 d_Reader_takeNamed_147
      · have hE := hE.2 cc70
        refine lv_bipush (v := 62) hx hb d_Reader_takeNamed_73 (by decide) ?_
        refine lv_istore_n (lv' := [(1, .int 62), (0, .ref (wA w 13))]) hx hb d_Reader_takeNamed_75 rfl hl (by decide) rfl (fun ls hl => ?_)
        refine lv_aload_n hx hb d_Reader_takeNamed_76 rfl (lv_at hl 1 rfl) ?_
        refine lv_dup hx hb d_Reader_takeNamed_77 rfl ?_
        refine va_get (D := (wG w)) (ci := 4) (v := .int (pPs σ)) (C := R_Reader) (T := F_Reader) (N := 6) hx hb hta i_Reader hown hK hP 13 rfl rfl 2 (by decide) (hta _ fl_Reader_19) (fun _ h9 => h9) rfl d_Reader_takeNamed_78 ?_
        refine lv_iconst (v := 4) hx hb d_Reader_takeNamed_81 (by decide) ?_
        refine lv_iadd hx hb d_Reader_takeNamed_82 ?_
        refine va_put (D := (wG w)) (ci := 4) (v := .int ((pPs σ) + 4)) (ty := .int) (C := R_Reader) (T := F_Reader) (N := 6) hx hb hta i_Reader t_Reader t_Reader_ok n_Reader hown hK hP hD hS 13 rfl rfl 2 (by decide) (hta _ fl_Reader_19) (fun _ h9 => h9) rfl (by decide +kernel) rfl rfl (Nat.le_of_ble_eq_true rfl) d_Reader_takeNamed_83 (fun H locs hP hD hS => ?_)
        have hP : va_P (wG w) classes (WW w (sPs σ ((pPs σ) + 4))) H := hP
        have hD : va_D A (WW w (sPs σ ((pPs σ) + 4))) := hD
        have hI : inv (sPs σ ((pPs σ) + 4)) := hI
        have hE := hE _ rfl
        generalize (sPs σ ((pPs σ) + 4) : PPS) = σ83 at hP hD hI hE
        refine lv_goto (tgt := 146) hx hb d_Reader_takeNamed_86 (by decide) ?_
        refine lv_iload_n hx hb d_Reader_takeNamed_146 rfl (lv_at hl 0 rfl) ?_
        exact W.iret (v := 62) hx hb hr (fun t ht hW => ⟨⟨_, σ83, rfl, ⟨hE, hI⟩, by rw [ht]; exact hP, va_K.moved hW.alike hK, hD⟩, hS.F ht⟩) hS.2.2 d_Reader_takeNamed_147
    · have hE := hE.2 cc41
      refine lv_bipush (v := 60) hx hb d_Reader_takeNamed_44 (by decide) ?_
      refine lv_istore_n (lv' := [(1, .int 60), (0, .ref (wA w 13))]) hx hb d_Reader_takeNamed_46 rfl hl (by decide) rfl (fun ls hl => ?_)
      refine lv_aload_n hx hb d_Reader_takeNamed_47 rfl (lv_at hl 1 rfl) ?_
      refine lv_dup hx hb d_Reader_takeNamed_48 rfl ?_
      refine va_get (D := (wG w)) (ci := 4) (v := .int (pPs σ)) (C := R_Reader) (T := F_Reader) (N := 6) hx hb hta i_Reader hown hK hP 13 rfl rfl 2 (by decide) (hta _ fl_Reader_19) (fun _ h9 => h9) rfl d_Reader_takeNamed_49 ?_
      refine lv_iconst (v := 4) hx hb d_Reader_takeNamed_52 (by decide) ?_
      refine lv_iadd hx hb d_Reader_takeNamed_53 ?_
      refine va_put (D := (wG w)) (ci := 4) (v := .int ((pPs σ) + 4)) (ty := .int) (C := R_Reader) (T := F_Reader) (N := 6) hx hb hta i_Reader t_Reader t_Reader_ok n_Reader hown hK hP hD hS 13 rfl rfl 2 (by decide) (hta _ fl_Reader_19) (fun _ h9 => h9) rfl (by decide +kernel) rfl rfl (Nat.le_of_ble_eq_true rfl) d_Reader_takeNamed_54 (fun H locs hP hD hS => ?_)
      have hP : va_P (wG w) classes (WW w (sPs σ ((pPs σ) + 4))) H := hP
      have hD : va_D A (WW w (sPs σ ((pPs σ) + 4))) := hD
      have hI : inv (sPs σ ((pPs σ) + 4)) := hI
      have hE := hE _ rfl
      generalize (sPs σ ((pPs σ) + 4) : PPS) = σ54 at hP hD hI hE
      refine lv_goto (tgt := 146) hx hb d_Reader_takeNamed_57 (by decide) ?_
      refine lv_iload_n hx hb d_Reader_takeNamed_146 rfl (lv_at hl 0 rfl) ?_
      exact W.iret (v := 60) hx hb hr (fun t ht hW => ⟨⟨_, σ54, rfl, ⟨hE, hI⟩, by rw [ht]; exact hP, va_K.moved hW.alike hK, hD⟩, hS.F ht⟩) hS.2.2 d_Reader_takeNamed_147
  · have hE := hE.2 cc12
    refine lv_bipush (v := 38) hx hb d_Reader_takeNamed_15 (by decide) ?_
    refine lv_istore_n (lv' := [(1, .int 38), (0, .ref (wA w 13))]) hx hb d_Reader_takeNamed_17 rfl hl (by decide) rfl (fun ls hl => ?_)
    refine lv_aload_n hx hb d_Reader_takeNamed_18 rfl (lv_at hl 1 rfl) ?_
    refine lv_dup hx hb d_Reader_takeNamed_19 rfl ?_
    refine va_get (D := (wG w)) (ci := 4) (v := .int (pPs σ)) (C := R_Reader) (T := F_Reader) (N := 6) hx hb hta i_Reader hown hK hP 13 rfl rfl 2 (by decide) (hta _ fl_Reader_19) (fun _ h9 => h9) rfl d_Reader_takeNamed_20 ?_
    refine lv_iconst (v := 5) hx hb d_Reader_takeNamed_23 (by decide) ?_
    refine lv_iadd hx hb d_Reader_takeNamed_24 ?_
    refine va_put (D := (wG w)) (ci := 4) (v := .int ((pPs σ) + 5)) (ty := .int) (C := R_Reader) (T := F_Reader) (N := 6) hx hb hta i_Reader t_Reader t_Reader_ok n_Reader hown hK hP hD hS 13 rfl rfl 2 (by decide) (hta _ fl_Reader_19) (fun _ h9 => h9) rfl (by decide +kernel) rfl rfl (Nat.le_of_ble_eq_true rfl) d_Reader_takeNamed_25 (fun H locs hP hD hS => ?_)
    have hP : va_P (wG w) classes (WW w (sPs σ ((pPs σ) + 5))) H := hP
    have hD : va_D A (WW w (sPs σ ((pPs σ) + 5))) := hD
    have hI : inv (sPs σ ((pPs σ) + 5)) := hI
    have hE := hE _ rfl
    generalize (sPs σ ((pPs σ) + 5) : PPS) = σ25 at hP hD hI hE
    refine lv_goto (tgt := 146) hx hb d_Reader_takeNamed_28 (by decide) ?_
    refine lv_iload_n hx hb d_Reader_takeNamed_146 rfl (lv_at hl 0 rfl) ?_
    exact W.iret (v := 38) hx hb hr (fun t ht hW => ⟨⟨_, σ25, rfl, ⟨hE, hI⟩, by rw [ht]; exact hP, va_K.moved hW.alike hK, hD⟩, hS.F ht⟩) hS.2.2 d_Reader_takeNamed_147
theorem ok_Reader_176 : okV "PlainPages$Reader" 176 R_Reader y_Reader_takeNamed b_Reader_takeNamed 2 (some .int) 0 := ⟨aW_in 561 (by decide +kernel) rfl, aW_in 563 (by decide +kernel) rfl, aW_in 15 (by decide +kernel) rfl, aW_in 89 (by decide +kernel) rfl, cd_Reader_takeNamed, rfl, by decide +kernel, by decide +kernel, by decide +kernel⟩
theorem ok_Reader_173 : okV "PlainPages$Reader" 173 R_Reader y_Reader_takeNumbered b_Reader_takeNumbered 7 (some .int) 0 := ⟨aW_in 554 (by decide +kernel) rfl, aW_in 556 (by decide +kernel) rfl, aW_in 14 (by decide +kernel) rfl, aW_in 89 (by decide +kernel) rfl, cd_Reader_takeNumbered, rfl, by decide +kernel, by decide +kernel, by decide +kernel⟩
theorem ok_Reader_170 : okV "PlainPages$Reader" 170 R_Reader y_Reader_takeCharacter b_Reader_takeCharacter 2 (some .int) 0 := ⟨aW_in 548 (by decide +kernel) rfl, aW_in 550 (by decide +kernel) rfl, aW_in 13 (by decide +kernel) rfl, aW_in 89 (by decide +kernel) rfl, cd_Reader_takeCharacter, rfl, by decide +kernel, by decide +kernel, by decide +kernel⟩
theorem ok_Reader_179 : okS "PlainPages$Reader" 179 y_Signs_isCharacter b_Signs_isCharacter 1 (some .boolean) 1 := ⟨aW_in 570 (by decide +kernel) rfl, aW_in 341 (by decide +kernel) rfl, aW_in 97 (by decide +kernel) rfl, cd_Signs_isCharacter, by decide +kernel, by decide +kernel, by decide +kernel⟩
theorem ok_Reader_182 : okS "PlainPages$Reader" 182 y_Signs_isForbidden b_Signs_isForbidden 1 (some .boolean) 1 := ⟨aW_in 571 (by decide +kernel) rfl, aW_in 572 (by decide +kernel) rfl, aW_in 97 (by decide +kernel) rfl, cd_Signs_isForbidden, by decide +kernel, by decide +kernel, by decide +kernel⟩
theorem d_Reader_takeCharacters_0 : decode b_Reader_takeCharacters 0 = .ok (.aload_n 0, 1) := by decide +kernel
theorem d_Reader_takeCharacters_1 : decode b_Reader_takeCharacters 1 = .ok (.getfield 9, 3) := by decide +kernel
theorem d_Reader_takeCharacters_4 : decode b_Reader_takeCharacters 4 = .ok (.invokevirtual 57, 3) := by decide +kernel
theorem d_Reader_takeCharacters_7 : decode b_Reader_takeCharacters 7 = .ok (.aload_n 0, 1) := by decide +kernel
theorem d_Reader_takeCharacters_8 : decode b_Reader_takeCharacters 8 = .ok (.getfield 19, 3) := by decide +kernel
theorem d_Reader_takeCharacters_11 : decode b_Reader_takeCharacters 11 = .ok (.isub, 1) := by decide +kernel
theorem d_Reader_takeCharacters_12 : decode b_Reader_takeCharacters 12 = .ok (.istore_n 2, 1) := by decide +kernel
theorem d_Reader_takeCharacters_13 : decode b_Reader_takeCharacters 13 = .ok (.iload_n 2, 1) := by decide +kernel
theorem d_Reader_takeCharacters_14 : decode b_Reader_takeCharacters 14 = .ok (.ifCond .le 125, 3) := by decide +kernel
theorem d_Reader_takeCharacters_17 : decode b_Reader_takeCharacters 17 = .ok (.aload_n 0, 1) := by decide +kernel
theorem d_Reader_takeCharacters_18 : decode b_Reader_takeCharacters 18 = .ok (.getfield 9, 3) := by decide +kernel
theorem d_Reader_takeCharacters_21 : decode b_Reader_takeCharacters 21 = .ok (.aload_n 0, 1) := by decide +kernel
theorem d_Reader_takeCharacters_22 : decode b_Reader_takeCharacters 22 = .ok (.getfield 19, 3) := by decide +kernel
theorem d_Reader_takeCharacters_25 : decode b_Reader_takeCharacters 25 = .ok (.invokevirtual 65, 3) := by decide +kernel
theorem d_Reader_takeCharacters_28 : decode b_Reader_takeCharacters 28 = .ok (.istore_n 3, 1) := by decide +kernel
theorem d_Reader_takeCharacters_29 : decode b_Reader_takeCharacters 29 = .ok (.iload_n 3, 1) := by decide +kernel
theorem d_Reader_takeCharacters_30 : decode b_Reader_takeCharacters 30 = .ok (.iload_n 1, 1) := by decide +kernel
theorem d_Reader_takeCharacters_31 : decode b_Reader_takeCharacters 31 = .ok (.if_icmp .eq 14, 3) := by decide +kernel
theorem d_Reader_takeCharacters_34 : decode b_Reader_takeCharacters 34 = .ok (.iload_n 3, 1) := by decide +kernel
theorem d_Reader_takeCharacters_35 : decode b_Reader_takeCharacters 35 = .ok (.bipush 60, 2) := by decide +kernel
theorem d_Reader_takeCharacters_37 : decode b_Reader_takeCharacters 37 = .ok (.if_icmp .eq 8, 3) := by decide +kernel
theorem d_Reader_takeCharacters_40 : decode b_Reader_takeCharacters 40 = .ok (.iload_n 3, 1) := by decide +kernel
theorem d_Reader_takeCharacters_41 : decode b_Reader_takeCharacters 41 = .ok (.iconst (-1), 1) := by decide +kernel
theorem d_Reader_takeCharacters_42 : decode b_Reader_takeCharacters 42 = .ok (.if_icmp .ne 5, 3) := by decide +kernel
theorem d_Reader_takeCharacters_45 : decode b_Reader_takeCharacters 45 = .ok (.iconst 1, 1) := by decide +kernel
theorem d_Reader_takeCharacters_46 : decode b_Reader_takeCharacters 46 = .ok (.ireturn, 1) := by decide +kernel
theorem d_Reader_takeCharacters_47 : decode b_Reader_takeCharacters 47 = .ok (.aload_n 0, 1) := by decide +kernel
theorem d_Reader_takeCharacters_48 : decode b_Reader_takeCharacters 48 = .ok (.getfield 19, 3) := by decide +kernel
theorem d_Reader_takeCharacters_51 : decode b_Reader_takeCharacters 51 = .ok (.istore 4, 2) := by decide +kernel
theorem d_Reader_takeCharacters_53 : decode b_Reader_takeCharacters 53 = .ok (.iload_n 3, 1) := by decide +kernel
theorem d_Reader_takeCharacters_54 : decode b_Reader_takeCharacters 54 = .ok (.bipush 38, 2) := by decide +kernel
theorem d_Reader_takeCharacters_56 : decode b_Reader_takeCharacters 56 = .ok (.if_icmp .eq 12, 3) := by decide +kernel
theorem d_Reader_takeCharacters_59 : decode b_Reader_takeCharacters 59 = .ok (.aload_n 0, 1) := by decide +kernel
theorem d_Reader_takeCharacters_60 : decode b_Reader_takeCharacters 60 = .ok (.invokevirtual 170, 3) := by decide +kernel
theorem d_Reader_takeCharacters_63 : decode b_Reader_takeCharacters 63 = .ok (.istore 5, 2) := by decide +kernel
theorem d_Reader_takeCharacters_65 : decode b_Reader_takeCharacters 65 = .ok (.goto 36, 3) := by decide +kernel
theorem d_Reader_takeCharacters_68 : decode b_Reader_takeCharacters 68 = .ok (.aload_n 0, 1) := by decide +kernel
theorem d_Reader_takeCharacters_69 : decode b_Reader_takeCharacters 69 = .ok (.getfield 9, 3) := by decide +kernel
theorem d_Reader_takeCharacters_72 : decode b_Reader_takeCharacters 72 = .ok (.aload_n 0, 1) := by decide +kernel
theorem d_Reader_takeCharacters_73 : decode b_Reader_takeCharacters 73 = .ok (.getfield 19, 3) := by decide +kernel
theorem d_Reader_takeCharacters_76 : decode b_Reader_takeCharacters 76 = .ok (.iconst 1, 1) := by decide +kernel
theorem d_Reader_takeCharacters_77 : decode b_Reader_takeCharacters 77 = .ok (.iadd, 1) := by decide +kernel
theorem d_Reader_takeCharacters_78 : decode b_Reader_takeCharacters 78 = .ok (.invokevirtual 65, 3) := by decide +kernel
theorem d_Reader_takeCharacters_81 : decode b_Reader_takeCharacters 81 = .ok (.bipush 35, 2) := by decide +kernel
theorem d_Reader_takeCharacters_83 : decode b_Reader_takeCharacters 83 = .ok (.if_icmp .ne 12, 3) := by decide +kernel
theorem d_Reader_takeCharacters_86 : decode b_Reader_takeCharacters 86 = .ok (.aload_n 0, 1) := by decide +kernel
theorem d_Reader_takeCharacters_87 : decode b_Reader_takeCharacters 87 = .ok (.invokevirtual 173, 3) := by decide +kernel
theorem d_Reader_takeCharacters_90 : decode b_Reader_takeCharacters 90 = .ok (.istore 5, 2) := by decide +kernel
theorem d_Reader_takeCharacters_92 : decode b_Reader_takeCharacters 92 = .ok (.goto 9, 3) := by decide +kernel
theorem d_Reader_takeCharacters_95 : decode b_Reader_takeCharacters 95 = .ok (.aload_n 0, 1) := by decide +kernel
theorem d_Reader_takeCharacters_96 : decode b_Reader_takeCharacters 96 = .ok (.invokevirtual 176, 3) := by decide +kernel
theorem d_Reader_takeCharacters_99 : decode b_Reader_takeCharacters 99 = .ok (.istore 5, 2) := by decide +kernel
theorem d_Reader_takeCharacters_101 : decode b_Reader_takeCharacters 101 = .ok (.iload 5, 2) := by decide +kernel
theorem d_Reader_takeCharacters_103 : decode b_Reader_takeCharacters 103 = .ok (.invokestatic 179, 3) := by decide +kernel
theorem d_Reader_takeCharacters_106 : decode b_Reader_takeCharacters 106 = .ok (.ifCond .eq 11, 3) := by decide +kernel
theorem d_Reader_takeCharacters_109 : decode b_Reader_takeCharacters 109 = .ok (.iload 5, 2) := by decide +kernel
theorem d_Reader_takeCharacters_111 : decode b_Reader_takeCharacters 111 = .ok (.invokestatic 182, 3) := by decide +kernel
theorem d_Reader_takeCharacters_114 : decode b_Reader_takeCharacters 114 = .ok (.ifCond .eq 10, 3) := by decide +kernel
theorem d_Reader_takeCharacters_117 : decode b_Reader_takeCharacters 117 = .ok (.aload_n 0, 1) := by decide +kernel
theorem d_Reader_takeCharacters_118 : decode b_Reader_takeCharacters 118 = .ok (.iload 4, 2) := by decide +kernel
theorem d_Reader_takeCharacters_120 : decode b_Reader_takeCharacters 120 = .ok (.invokevirtual 75, 3) := by decide +kernel
theorem d_Reader_takeCharacters_123 : decode b_Reader_takeCharacters 123 = .ok (.ireturn, 1) := by decide +kernel
theorem d_Reader_takeCharacters_124 : decode b_Reader_takeCharacters 124 = .ok (.aload_n 0, 1) := by decide +kernel
theorem d_Reader_takeCharacters_125 : decode b_Reader_takeCharacters 125 = .ok (.getfield 15, 3) := by decide +kernel
theorem d_Reader_takeCharacters_128 : decode b_Reader_takeCharacters 128 = .ok (.iload 5, 2) := by decide +kernel
theorem d_Reader_takeCharacters_130 : decode b_Reader_takeCharacters 130 = .ok (.invokevirtual 94, 3) := by decide +kernel
theorem d_Reader_takeCharacters_133 : decode b_Reader_takeCharacters 133 = .ok (.iinc 2 (-1), 3) := by decide +kernel
theorem d_Reader_takeCharacters_136 : decode b_Reader_takeCharacters 136 = .ok (.goto (-123), 3) := by decide +kernel
theorem d_Reader_takeCharacters_139 : decode b_Reader_takeCharacters 139 = .ok (.iconst 1, 1) := by decide +kernel
theorem d_Reader_takeCharacters_140 : decode b_Reader_takeCharacters 140 = .ok (.ireturn, 1) := by decide +kernel
def w_Reader_takeCharacters_J117   (post : Int32 → PPS → Prop) (v4 : Int32) (σ : PPS) : Prop := w_Reader_refuse σ v4 (fun r120 σ120 => (narrow .boolean (.int r120) = .int r120 ∧ post r120 σ120))
def w_Reader_takeCharacters_J101  (v1 : Int32) (K13 : Int32 → PPS → Prop) (post : Int32 → PPS → Prop) (v2 : Int32) (v4 : Int32) (v5 : Int32) (σ : PPS) : Prop := (((b2i (cCh v5)) = 0 → w_Reader_takeCharacters_J117 post v4 σ) ∧ (¬ (b2i (cCh v5)) = 0 → (((b2i (cFb v5)) = 0 → w_Book_addLetter σ v5 (fun σ130 => K13 (v2 + (-1)) σ130)) ∧ (¬ (b2i (cFb v5)) = 0 → w_Reader_takeCharacters_J117 post v4 σ))))
def w_Reader_takeCharacters_L13  (v1 : Int32) (post : Int32 → PPS → Prop) : Nat → Int32 → PPS → Prop
  | 0, _, _ => False
  | n13 + 1, v2, σ => ((v2 ≤ 0 → post 1 σ) ∧ (¬ v2 ≤ 0 → (((sGet (pTp σ) (pPs σ)) = v1 → post 1 σ) ∧ (¬ (sGet (pTp σ) (pPs σ)) = v1 → (((sGet (pTp σ) (pPs σ)) = 60 → post 1 σ) ∧ (¬ (sGet (pTp σ) (pPs σ)) = 60 → (((sGet (pTp σ) (pPs σ)) = (-1) → post 1 σ) ∧ (¬ (sGet (pTp σ) (pPs σ)) = (-1) → (((sGet (pTp σ) (pPs σ)) = 38 → (((sGet (pTp σ) ((pPs σ) + 1)) = 35 → w_Reader_takeNumbered σ  (fun r87 σ87 => w_Reader_takeCharacters_J101 v1 (w_Reader_takeCharacters_L13 v1 post n13) post v2 (pPs σ) r87 σ87)) ∧ (¬ (sGet (pTp σ) ((pPs σ) + 1)) = 35 → w_Reader_takeNamed σ  (fun r96 σ96 => w_Reader_takeCharacters_J101 v1 (w_Reader_takeCharacters_L13 v1 post n13) post v2 (pPs σ) r96 σ96)))) ∧ (¬ (sGet (pTp σ) (pPs σ)) = 38 → w_Reader_takeCharacter σ  (fun r60 σ60 => w_Reader_takeCharacters_J101 v1 (w_Reader_takeCharacters_L13 v1 post n13) post v2 (pPs σ) r60 σ60)))))))))))
def w_Reader_takeCharacters  (σ : PPS) (x0 : Int32) (post : Int32 → PPS → Prop) : Prop := (∃ n13, w_Reader_takeCharacters_L13 x0 post n13 (((pTp σ).1) - (pPs σ)) σ)
set_option maxHeartbeats 4000000 in
set_option maxRecDepth 100000 in
theorem c_Reader_takeCharacters (l : Launch) (w : WD) (sz : Nat) (σ : PPS) (x0 : Int32)  (post : Int32 → PPS → Prop) (hI : inv σ) (hE : w_Reader_takeCharacters σ x0 post) : Met l y_Reader_takeCharacters ws_Reader_takeCharacters { frames := 6, cells := 0, slots := 0, locals := 129 } (va_Pc [.ref (wA w 13), .int x0] (gW w σ sz)) (va_Qi (fun r u => post r u ∧ inv u) (mB (wG w) (WW w) (wI w) (va_A (WW w σ) sz)) (va_A (WW w σ) sz)) 0 0 (va_A (WW w σ) sz) := by
  refine Met.ofW (cc := b_Reader_takeCharacters) (maxL := 6) (ret := (some .boolean)) (by decide) rfl ?_
  intro p e s m args below meth c s₁ B hml hv
  obtain ⟨rfl, hsz, hP, hK, hD0, hC⟩ := hv
  have hx := B.exec
  have hb := B.bytes
  have hr := B.returns
  have hta : ∀ w ∈ aW, w.before _ s = true := fun w h => atoms_spec (ws := ws_Reader_takeCharacters) B.pre w (List.mem_cons_of_mem _ h)
  have hown : s.vm.findClass R_Reader = some m.cls := findClass_of_methodNamed B.named
  have hlocks := B.notSynchronized
  subst hsz
  have hD := hD0.self (sz := s.heap.size)
  generalize hAe : va_A (WW w σ) s.heap.size = A at hD hC ⊢
  have hA : ∀ q : Nat, s.heap.size ≤ q → A q := fun q h => by rw [← hAe]; exact Or.inr h
  have hS : va_S A s.heap s.heap [] := va_S.rf
  have hP : va_P (wG w) classes (WW w σ) s.heap := hP
  have hl := lv_entry ([.ref (wA w 13), .int x0]) (n := 6) (Nat.le_of_ble_eq_true rfl)
  rw [lg_entry_eq]
  generalize (lg_sl ([.ref (wA w 13), .int x0]) ++ List.replicate (6 - (lg_sl ([.ref (wA w 13), .int x0])).length) Slot.unset).toArray = ls at hl ⊢
  have hl : lv_has ls 6 [(0, .ref (wA w 13)), (1, .int x0)] := hl
  have J117 : ∀ (v4 : Int32) (σ : PPS) (H : Heap) (locs : List Loc) (hP : va_P (wG w) classes (WW w σ) H) (hD : va_D A (WW w σ)) (hS : va_S A s.heap H locs) (hI : inv σ) (ls : Array Slot) (hl : lv_has ls 6 [(0, .ref (wA w 13)), (4, .int v4)]) (hE : w_Reader_takeCharacters_J117 post v4 σ), W p l e (headSpec ws_Reader_takeCharacters { frames := 6, cells := 0, slots := 0, locals := 129 }).room s m ([.ref (wA w 13), .int x0] : List Value).toArray below meth c H locs 0 0 (MQ below (va_Qi (fun r u => post r u ∧ inv u) (mB (wG w) (WW w) (wI w) A) A) ([.ref (wA w 13), .int x0] : List Value).toArray s 0 0 A) (F0 m 117 ls []) := by
    intro  v4 σ H locs hP hD hS hI ls hl hE
    unfold w_Reader_takeCharacters_J117 at hE
    refine lv_aload_n hx hb d_Reader_takeCharacters_117 rfl (lv_at hl 0 rfl) ?_
    refine lv_iload hx hb d_Reader_takeCharacters_118 (lv_at hl 1 rfl) ?_
    refine mc_i (b0 := (wA w 13)) (As := [.int v4]) (rest := []) ⟨hx, hb, hml, hown, hta⟩ (c_Reader_refuse l w _ σ v4 _ hI hE) ok_Reader_75 ⟨Nat.le_of_ble_eq_true rfl, Nat.le_of_ble_eq_true rfl⟩ (va_recv hK hP (ci := 4) (q0 := 13) rfl rfl) hP hK hD hS hA hC rfl hl.1 rfl (Nat.le_of_ble_eq_true rfl) d_Reader_takeCharacters_120 ⟨Nat.zero_le _, Nat.zero_le _⟩ (fun r120 σ120 H locs hE hP hD hS => ?_)
    obtain ⟨hE, hI⟩ := hE
    obtain ⟨hN, hE⟩ := hE
    exact W.zret (v := r120) hx hb hr hN (fun t ht hW => ⟨⟨_, σ120, rfl, ⟨hE, hI⟩, by rw [ht]; exact hP, va_K.moved hW.alike hK, hD⟩, hS.F ht⟩) hS.2.2 d_Reader_takeCharacters_123
  have L13 : ∀ (v1 : Int32) (n13 : Nat) (v2 : Int32) (σ : PPS) (H : Heap) (locs : List Loc) (hP : va_P (wG w) classes (WW w σ) H) (hD : va_D A (WW w σ)) (hS : va_S A s.heap H locs) (hI : inv σ) (ls : Array Slot) (hl : lv_has ls 6 [(0, .ref (wA w 13)), (1, .int v1), (2, .int v2)]) (hE : w_Reader_takeCharacters_L13 v1 post n13 v2 σ), W p l e (headSpec ws_Reader_takeCharacters { frames := 6, cells := 0, slots := 0, locals := 129 }).room s m ([.ref (wA w 13), .int x0] : List Value).toArray below meth c H locs 0 0 (MQ below (va_Qi (fun r u => post r u ∧ inv u) (mB (wG w) (WW w) (wI w) A) A) ([.ref (wA w 13), .int x0] : List Value).toArray s 0 0 A) (F0 m 13 ls []) := by
    intro v1 n13
    induction n13 with
    | zero => intro v2 σ H locs hP hD hS hI ls hl hE; exact hE.elim
    | succ n13 ih13 =>
      have J101 : ∀ (v2 : Int32) (v4 : Int32) (v5 : Int32) (σ : PPS) (H : Heap) (locs : List Loc) (hP : va_P (wG w) classes (WW w σ) H) (hD : va_D A (WW w σ)) (hS : va_S A s.heap H locs) (hI : inv σ) (ls : Array Slot) (hl : lv_has ls 6 [(0, .ref (wA w 13)), (1, .int v1), (2, .int v2), (4, .int v4), (5, .int v5)]) (hE : w_Reader_takeCharacters_J101 v1 (w_Reader_takeCharacters_L13 v1 post n13) post v2 v4 v5 σ), W p l e (headSpec ws_Reader_takeCharacters { frames := 6, cells := 0, slots := 0, locals := 129 }).room s m ([.ref (wA w 13), .int x0] : List Value).toArray below meth c H locs 0 0 (MQ below (va_Qi (fun r u => post r u ∧ inv u) (mB (wG w) (WW w) (wI w) A) A) ([.ref (wA w 13), .int x0] : List Value).toArray s 0 0 A) (F0 m 101 ls []) := by
        intro  v2 v4 v5 σ H locs hP hD hS hI ls hl hE
        unfold w_Reader_takeCharacters_J101 at hE
        refine lv_iload hx hb d_Reader_takeCharacters_101 (lv_at hl 4 rfl) ?_
        refine ro_S  (As := [.int v5]) (rest := []) ⟨hx, hb, hml, hown, hta⟩ (f_Signs_isCharacter l v5) ok_Reader_179 ⟨Nat.le_of_ble_eq_true rfl, Nat.le_of_ble_eq_true rfl⟩ blind_true  (fun _ _ _ => trivial) rfl hl.1 rfl (Nat.le_of_ble_eq_true rfl) d_Reader_takeCharacters_103 ⟨Nat.zero_le _, Nat.zero_le _⟩ (fun r103 hrr => ?_)
        subst hrr
        refine lv_if_eq (tgt := 117) hx hb d_Reader_takeCharacters_106 (by decide) (fun cc106 => ?_) (fun cc106 => ?_)
        · have hE := hE.1 cc106
          exact J117  v4 σ _ _ hP hD hS hI _ (lv_sub hl [0, 3] rfl) hE
        · have hE := hE.2 cc106
          refine lv_iload hx hb d_Reader_takeCharacters_109 (lv_at hl 4 rfl) ?_
          refine ro_S  (As := [.int v5]) (rest := []) ⟨hx, hb, hml, hown, hta⟩ (f_Signs_isForbidden l v5) ok_Reader_182 ⟨Nat.le_of_ble_eq_true rfl, Nat.le_of_ble_eq_true rfl⟩ blind_true  (fun _ _ _ => trivial) rfl hl.1 rfl (Nat.le_of_ble_eq_true rfl) d_Reader_takeCharacters_111 ⟨Nat.zero_le _, Nat.zero_le _⟩ (fun r111 hrr => ?_)
          subst hrr
          refine lv_if_eq (tgt := 124) hx hb d_Reader_takeCharacters_114 (by decide) (fun cc114 => ?_) (fun cc114 => ?_)
          · have hE := hE.1 cc114
            refine lv_aload_n hx hb d_Reader_takeCharacters_124 rfl (lv_at hl 0 rfl) ?_
            refine va_get (D := (wG w)) (ci := 4) (v := .ref (wA w 6)) (C := R_Reader) (T := F_Reader) (N := 6) hx hb hta i_Reader hown hK hP 13 rfl rfl 1 (by decide) (hta _ fl_Reader_15) (fun _ h9 => h9) rfl d_Reader_takeCharacters_125 ?_
            refine lv_iload hx hb d_Reader_takeCharacters_128 (lv_at hl 4 rfl) ?_
            refine mc_v (b0 := (wA w 6)) (As := [.int v5]) (rest := []) ⟨hx, hb, hml, hown, hta⟩ (c_Book_addLetter l w _ σ v5 _ hI hE) ok_Reader_94 ⟨Nat.le_of_ble_eq_true rfl, Nat.le_of_ble_eq_true rfl⟩ (va_recv hK hP (ci := 3) (q0 := 6) rfl rfl) hP hK hD hS hA hC rfl hl.1 rfl (Nat.le_of_ble_eq_true rfl) d_Reader_takeCharacters_130 ⟨Nat.zero_le _, Nat.zero_le _⟩ (fun σ130 H locs hE hP hD hS => ?_)
            obtain ⟨hE, hI⟩ := hE
            refine lv_iinc (v := v2 + (-1)) (lv' := [(2, .int (v2 + (-1))), (0, .ref (wA w 13)), (1, .int v1), (4, .int v4), (5, .int v5)]) hx hb d_Reader_takeCharacters_133 hl (k := 2) rfl rfl (by decide) rfl (fun ls hl => ?_)
            refine lv_goto (tgt := 13) hx hb d_Reader_takeCharacters_136 (by decide) ?_
            exact ih13 (v2 + (-1)) σ130 _ _ hP hD hS hI _ (lv_sub hl [1, 2, 0] rfl) hE
          · have hE := hE.2 cc114
            exact J117  v4 σ _ _ hP hD hS hI _ (lv_sub hl [0, 3] rfl) hE
      intro v2 σ H locs hP hD hS hI ls hl hE
      unfold w_Reader_takeCharacters_L13 at hE
      refine lv_iload_n hx hb d_Reader_takeCharacters_13 rfl (lv_at hl 2 rfl) ?_
      refine lv_if_le (tgt := 139) hx hb d_Reader_takeCharacters_14 (by decide) (fun cc14 => ?_) (fun cc14 => ?_)
      · have hE := hE.1 cc14
        refine lv_iconst (v := 1) hx hb d_Reader_takeCharacters_139 (by decide) ?_
        exact W.zret (v := 1) hx hb hr rfl (fun t ht hW => ⟨⟨_, σ, rfl, ⟨hE, hI⟩, by rw [ht]; exact hP, va_K.moved hW.alike hK, hD⟩, hS.F ht⟩) hS.2.2 d_Reader_takeCharacters_140
      · have hE := hE.2 cc14
        refine lv_aload_n hx hb d_Reader_takeCharacters_17 rfl (lv_at hl 0 rfl) ?_
        refine va_get (D := (wG w)) (ci := 4) (v := .ref (wA w 2)) (C := R_Reader) (T := F_Reader) (N := 6) hx hb hta i_Reader hown hK hP 13 rfl rfl 0 (by decide) (hta _ fl_Reader_9) (fun _ h9 => h9) rfl d_Reader_takeCharacters_18 ?_
        refine lv_aload_n hx hb d_Reader_takeCharacters_21 rfl (lv_at hl 0 rfl) ?_
        refine va_get (D := (wG w)) (ci := 4) (v := .int (pPs σ)) (C := R_Reader) (T := F_Reader) (N := 6) hx hb hta i_Reader hown hK hP 13 rfl rfl 2 (by decide) (hta _ fl_Reader_19) (fun _ h9 => h9) rfl d_Reader_takeCharacters_22 ?_
        refine ro_V (b0 := (wA w 2)) (As := [.int (pPs σ)]) (rest := []) ⟨hx, hb, hml, hown, hta⟩ (c_Strip_get l (wG w) (wA w 2) (wA w 3) (wI w) 4000 (pTp σ) (pPs σ) (fun r => r = sGet (pTp σ) (pPs σ)) (l_Strip_get (by decide) (inv.Tp hI) (pPs σ))) ok_Reader_65 ⟨Nat.le_of_ble_eq_true rfl, Nat.le_of_ble_eq_true rfl⟩ blind_rW (va_recv hK hP (ci := 1) (q0 := 2) rfl rfl) (fun U h1 h2 => ⟨by rw [h1]; exact hP.sub [2, 3] rfl, va_K.moved h2.alike hK⟩) rfl hl.1 rfl (Nat.le_of_ble_eq_true rfl) d_Reader_takeCharacters_25 ⟨Nat.zero_le _, Nat.zero_le _⟩ (fun r25 hrr => ?_)
        subst hrr
        refine lv_istore_n (lv' := [(3, .int (sGet (pTp σ) (pPs σ))), (0, .ref (wA w 13)), (1, .int v1), (2, .int v2)]) hx hb d_Reader_takeCharacters_28 rfl hl (by decide) rfl (fun ls hl => ?_)
        refine lv_iload_n hx hb d_Reader_takeCharacters_29 rfl (lv_at hl 0 rfl) ?_
        refine lv_iload_n hx hb d_Reader_takeCharacters_30 rfl (lv_at hl 2 rfl) ?_
        refine lv_icmp_eq (tgt := 45) hx hb d_Reader_takeCharacters_31 (by decide) (fun cc31 => ?_) (fun cc31 => ?_)
        · have hE := hE.1 cc31
          refine lv_iconst (v := 1) hx hb d_Reader_takeCharacters_45 (by decide) ?_
          exact W.zret (v := 1) hx hb hr rfl (fun t ht hW => ⟨⟨_, σ, rfl, ⟨hE, hI⟩, by rw [ht]; exact hP, va_K.moved hW.alike hK, hD⟩, hS.F ht⟩) hS.2.2 d_Reader_takeCharacters_46
        · have hE := hE.2 cc31
          refine lv_iload_n hx hb d_Reader_takeCharacters_34 rfl (lv_at hl 0 rfl) ?_
          refine lv_bipush (v := 60) hx hb d_Reader_takeCharacters_35 (by decide) ?_
          refine lv_icmp_eq (tgt := 45) hx hb d_Reader_takeCharacters_37 (by decide) (fun cc37 => ?_) (fun cc37 => ?_)
          · have hE := hE.1 cc37
            refine lv_iconst (v := 1) hx hb d_Reader_takeCharacters_45 (by decide) ?_
            exact W.zret (v := 1) hx hb hr rfl (fun t ht hW => ⟨⟨_, σ, rfl, ⟨hE, hI⟩, by rw [ht]; exact hP, va_K.moved hW.alike hK, hD⟩, hS.F ht⟩) hS.2.2 d_Reader_takeCharacters_46
          · have hE := hE.2 cc37
            refine lv_iload_n hx hb d_Reader_takeCharacters_40 rfl (lv_at hl 0 rfl) ?_
            refine lv_iconst (v := -1) hx hb d_Reader_takeCharacters_41 (by decide) ?_
            refine lv_icmp_ne (tgt := 47) hx hb d_Reader_takeCharacters_42 (by decide) (fun cc42 => ?_) (fun cc42 => ?_)
            · have hE := hE.2 cc42
              refine lv_aload_n hx hb d_Reader_takeCharacters_47 rfl (lv_at hl 1 rfl) ?_
              refine va_get (D := (wG w)) (ci := 4) (v := .int (pPs σ)) (C := R_Reader) (T := F_Reader) (N := 6) hx hb hta i_Reader hown hK hP 13 rfl rfl 2 (by decide) (hta _ fl_Reader_19) (fun _ h9 => h9) rfl d_Reader_takeCharacters_48 ?_
              refine lv_istore (lv' := [(4, .int (pPs σ)), (3, .int (sGet (pTp σ) (pPs σ))), (0, .ref (wA w 13)), (1, .int v1), (2, .int v2)]) hx hb d_Reader_takeCharacters_51 hl (by decide) rfl (fun ls hl => ?_)
              refine lv_iload_n hx hb d_Reader_takeCharacters_53 rfl (lv_at hl 1 rfl) ?_
              refine lv_bipush (v := 38) hx hb d_Reader_takeCharacters_54 (by decide) ?_
              refine lv_icmp_eq (tgt := 68) hx hb d_Reader_takeCharacters_56 (by decide) (fun cc56 => ?_) (fun cc56 => ?_)
              · have hE := hE.1 cc56
                refine lv_aload_n hx hb d_Reader_takeCharacters_68 rfl (lv_at hl 2 rfl) ?_
                refine va_get (D := (wG w)) (ci := 4) (v := .ref (wA w 2)) (C := R_Reader) (T := F_Reader) (N := 6) hx hb hta i_Reader hown hK hP 13 rfl rfl 0 (by decide) (hta _ fl_Reader_9) (fun _ h9 => h9) rfl d_Reader_takeCharacters_69 ?_
                refine lv_aload_n hx hb d_Reader_takeCharacters_72 rfl (lv_at hl 2 rfl) ?_
                refine va_get (D := (wG w)) (ci := 4) (v := .int (pPs σ)) (C := R_Reader) (T := F_Reader) (N := 6) hx hb hta i_Reader hown hK hP 13 rfl rfl 2 (by decide) (hta _ fl_Reader_19) (fun _ h9 => h9) rfl d_Reader_takeCharacters_73 ?_
                refine lv_iconst (v := 1) hx hb d_Reader_takeCharacters_76 (by decide) ?_
                refine lv_iadd hx hb d_Reader_takeCharacters_77 ?_
                refine ro_V (b0 := (wA w 2)) (As := [.int ((pPs σ) + 1)]) (rest := []) ⟨hx, hb, hml, hown, hta⟩ (c_Strip_get l (wG w) (wA w 2) (wA w 3) (wI w) 4000 (pTp σ) ((pPs σ) + 1) (fun r => r = sGet (pTp σ) ((pPs σ) + 1)) (l_Strip_get (by decide) (inv.Tp hI) ((pPs σ) + 1))) ok_Reader_65 ⟨Nat.le_of_ble_eq_true rfl, Nat.le_of_ble_eq_true rfl⟩ blind_rW (va_recv hK hP (ci := 1) (q0 := 2) rfl rfl) (fun U h1 h2 => ⟨by rw [h1]; exact hP.sub [2, 3] rfl, va_K.moved h2.alike hK⟩) rfl hl.1 rfl (Nat.le_of_ble_eq_true rfl) d_Reader_takeCharacters_78 ⟨Nat.zero_le _, Nat.zero_le _⟩ (fun r78 hrr => ?_)
                subst hrr
                refine lv_bipush (v := 35) hx hb d_Reader_takeCharacters_81 (by decide) ?_
                refine lv_icmp_ne (tgt := 95) hx hb d_Reader_takeCharacters_83 (by decide) (fun cc83 => ?_) (fun cc83 => ?_)
                · have hE := hE.2 cc83
                  refine lv_aload_n hx hb d_Reader_takeCharacters_95 rfl (lv_at hl 2 rfl) ?_
                  refine mc_i (b0 := (wA w 13)) (As := []) (rest := []) ⟨hx, hb, hml, hown, hta⟩ (c_Reader_takeNamed l w _ σ  _ hI hE) ok_Reader_176 ⟨Nat.le_of_ble_eq_true rfl, Nat.le_of_ble_eq_true rfl⟩ (va_recv hK hP (ci := 4) (q0 := 13) rfl rfl) hP hK hD hS hA hC rfl hl.1 rfl (Nat.le_of_ble_eq_true rfl) d_Reader_takeCharacters_96 ⟨Nat.zero_le _, Nat.zero_le _⟩ (fun r96 σ96 H locs hE hP hD hS => ?_)
                  obtain ⟨hE, hI⟩ := hE
                  refine lv_istore (lv' := [(5, .int r96), (4, .int (pPs σ)), (3, .int (sGet (pTp σ) (pPs σ))), (0, .ref (wA w 13)), (1, .int v1), (2, .int v2)]) hx hb d_Reader_takeCharacters_99 hl (by decide) rfl (fun ls hl => ?_)
                  exact J101  v2 (pPs σ) r96 σ96 _ _ hP hD hS hI _ (lv_sub hl [3, 4, 5, 1, 0] rfl) hE
                · have hE := hE.1 cc83
                  refine lv_aload_n hx hb d_Reader_takeCharacters_86 rfl (lv_at hl 2 rfl) ?_
                  refine mc_i (b0 := (wA w 13)) (As := []) (rest := []) ⟨hx, hb, hml, hown, hta⟩ (c_Reader_takeNumbered l w _ σ  _ hI hE) ok_Reader_173 ⟨Nat.le_of_ble_eq_true rfl, Nat.le_of_ble_eq_true rfl⟩ (va_recv hK hP (ci := 4) (q0 := 13) rfl rfl) hP hK hD hS hA hC rfl hl.1 rfl (Nat.le_of_ble_eq_true rfl) d_Reader_takeCharacters_87 ⟨Nat.zero_le _, Nat.zero_le _⟩ (fun r87 σ87 H locs hE hP hD hS => ?_)
                  obtain ⟨hE, hI⟩ := hE
                  refine lv_istore (lv' := [(5, .int r87), (4, .int (pPs σ)), (3, .int (sGet (pTp σ) (pPs σ))), (0, .ref (wA w 13)), (1, .int v1), (2, .int v2)]) hx hb d_Reader_takeCharacters_90 hl (by decide) rfl (fun ls hl => ?_)
                  refine lv_goto (tgt := 101) hx hb d_Reader_takeCharacters_92 (by decide) ?_
                  exact J101  v2 (pPs σ) r87 σ87 _ _ hP hD hS hI _ (lv_sub hl [3, 4, 5, 1, 0] rfl) hE
              · have hE := hE.2 cc56
                refine lv_aload_n hx hb d_Reader_takeCharacters_59 rfl (lv_at hl 2 rfl) ?_
                refine mc_i (b0 := (wA w 13)) (As := []) (rest := []) ⟨hx, hb, hml, hown, hta⟩ (c_Reader_takeCharacter l w _ σ  _ hI hE) ok_Reader_170 ⟨Nat.le_of_ble_eq_true rfl, Nat.le_of_ble_eq_true rfl⟩ (va_recv hK hP (ci := 4) (q0 := 13) rfl rfl) hP hK hD hS hA hC rfl hl.1 rfl (Nat.le_of_ble_eq_true rfl) d_Reader_takeCharacters_60 ⟨Nat.zero_le _, Nat.zero_le _⟩ (fun r60 σ60 H locs hE hP hD hS => ?_)
                obtain ⟨hE, hI⟩ := hE
                refine lv_istore (lv' := [(5, .int r60), (4, .int (pPs σ)), (3, .int (sGet (pTp σ) (pPs σ))), (0, .ref (wA w 13)), (1, .int v1), (2, .int v2)]) hx hb d_Reader_takeCharacters_63 hl (by decide) rfl (fun ls hl => ?_)
                refine lv_goto (tgt := 101) hx hb d_Reader_takeCharacters_65 (by decide) ?_
                exact J101  v2 (pPs σ) r60 σ60 _ _ hP hD hS hI _ (lv_sub hl [3, 4, 5, 1, 0] rfl) hE
            · have hE := hE.1 cc42
              refine lv_iconst (v := 1) hx hb d_Reader_takeCharacters_45 (by decide) ?_
              exact W.zret (v := 1) hx hb hr rfl (fun t ht hW => ⟨⟨_, σ, rfl, ⟨hE, hI⟩, by rw [ht]; exact hP, va_K.moved hW.alike hK, hD⟩, hS.F ht⟩) hS.2.2 d_Reader_takeCharacters_46
  unfold w_Reader_takeCharacters at hE
  refine lv_aload_n hx hb d_Reader_takeCharacters_0 rfl (lv_at hl 0 rfl) ?_
  refine va_get (D := (wG w)) (ci := 4) (v := .ref (wA w 2)) (C := R_Reader) (T := F_Reader) (N := 6) hx hb hta i_Reader hown hK hP 13 rfl rfl 0 (by decide) (hta _ fl_Reader_9) (fun _ h9 => h9) rfl d_Reader_takeCharacters_1 ?_
  refine ro_V (b0 := (wA w 2)) (As := []) (rest := []) ⟨hx, hb, hml, hown, hta⟩ (c_Strip_size l (wG w) (wA w 2) (wA w 3) (wI w) 4000 (pTp σ)  (fun r => r = (pTp σ).1) rfl) ok_Reader_57 ⟨Nat.le_of_ble_eq_true rfl, Nat.le_of_ble_eq_true rfl⟩ blind_rW (va_recv hK hP (ci := 1) (q0 := 2) rfl rfl) (fun U h1 h2 => ⟨by rw [h1]; exact hP.sub [2, 3] rfl, va_K.moved h2.alike hK⟩) rfl hl.1 rfl (Nat.le_of_ble_eq_true rfl) d_Reader_takeCharacters_4 ⟨Nat.zero_le _, Nat.zero_le _⟩ (fun r4 hrr => ?_)
  subst hrr
  refine lv_aload_n hx hb d_Reader_takeCharacters_7 rfl (lv_at hl 0 rfl) ?_
  refine va_get (D := (wG w)) (ci := 4) (v := .int (pPs σ)) (C := R_Reader) (T := F_Reader) (N := 6) hx hb hta i_Reader hown hK hP 13 rfl rfl 2 (by decide) (hta _ fl_Reader_19) (fun _ h9 => h9) rfl d_Reader_takeCharacters_8 ?_
  refine lv_isub hx hb d_Reader_takeCharacters_11 ?_
  refine lv_istore_n (lv' := [(2, .int (((pTp σ).1) - (pPs σ))), (0, .ref (wA w 13)), (1, .int x0)]) hx hb d_Reader_takeCharacters_12 rfl hl (by decide) rfl (fun ls hl => ?_)
  obtain ⟨n13, hE⟩ := hE
  exact L13 x0 n13 (((pTp σ).1) - (pPs σ)) σ _ _ hP hD hS hI _ (lv_sub hl [1, 2, 0] rfl) hE
theorem ok_Reader_149 : okV "PlainPages$Reader" 149 R_Book y_Book_endLatestValue b_Book_endLatestValue 2 none 0 := ⟨aW_in 581 (by decide +kernel) rfl, aW_in 582 (by decide +kernel) rfl, aW_in 583 (by decide +kernel) rfl, aW_in 87 (by decide +kernel) rfl, cd_Book_endLatestValue, rfl, by decide +kernel, by decide +kernel, by decide +kernel⟩
theorem d_Reader_endAttribute_0 : decode b_Reader_endAttribute 0 = .ok (.aload_n 0, 1) := by decide +kernel
theorem d_Reader_endAttribute_1 : decode b_Reader_endAttribute 1 = .ok (.getfield 15, 3) := by decide +kernel
theorem d_Reader_endAttribute_4 : decode b_Reader_endAttribute 4 = .ok (.invokevirtual 149, 3) := by decide +kernel
theorem d_Reader_endAttribute_7 : decode b_Reader_endAttribute 7 = .ok (.aload_n 0, 1) := by decide +kernel
theorem d_Reader_endAttribute_8 : decode b_Reader_endAttribute 8 = .ok (.bipush 34, 2) := by decide +kernel
theorem d_Reader_endAttribute_10 : decode b_Reader_endAttribute 10 = .ok (.invokevirtual 98, 3) := by decide +kernel
theorem d_Reader_endAttribute_13 : decode b_Reader_endAttribute 13 = .ok (.ireturn, 1) := by decide +kernel
def w_Reader_endAttribute  (σ : PPS)  (post : Int32 → PPS → Prop) : Prop := w_Book_endLatestValue σ  (fun σ4 => w_Reader_take σ4 34 (fun r10 σ10 => (narrow .boolean (.int r10) = .int r10 ∧ post r10 σ10)))
set_option maxHeartbeats 4000000 in
set_option maxRecDepth 100000 in
theorem c_Reader_endAttribute (l : Launch) (w : WD) (sz : Nat) (σ : PPS)   (post : Int32 → PPS → Prop) (hI : inv σ) (hE : w_Reader_endAttribute σ post) : Met l y_Reader_endAttribute ws_Reader_endAttribute { frames := 2, cells := 0, slots := 0, locals := 45 } (va_Pc [.ref (wA w 13)] (gW w σ sz)) (va_Qi (fun r u => post r u ∧ inv u) (mB (wG w) (WW w) (wI w) (va_A (WW w σ) sz)) (va_A (WW w σ) sz)) 0 0 (va_A (WW w σ) sz) := by
  refine Met.ofW (cc := b_Reader_endAttribute) (maxL := 1) (ret := (some .boolean)) (by decide) rfl ?_
  intro p e s m args below meth c s₁ B hml hv
  obtain ⟨rfl, hsz, hP, hK, hD0, hC⟩ := hv
  have hx := B.exec
  have hb := B.bytes
  have hr := B.returns
  have hta : ∀ w ∈ aW, w.before _ s = true := fun w h => atoms_spec (ws := ws_Reader_endAttribute) B.pre w (List.mem_cons_of_mem _ h)
  have hown : s.vm.findClass R_Reader = some m.cls := findClass_of_methodNamed B.named
  have hlocks := B.notSynchronized
  subst hsz
  have hD := hD0.self (sz := s.heap.size)
  generalize hAe : va_A (WW w σ) s.heap.size = A at hD hC ⊢
  have hA : ∀ q : Nat, s.heap.size ≤ q → A q := fun q h => by rw [← hAe]; exact Or.inr h
  have hS : va_S A s.heap s.heap [] := va_S.rf
  have hP : va_P (wG w) classes (WW w σ) s.heap := hP
  have hl := lv_entry ([.ref (wA w 13)]) (n := 1) (Nat.le_of_ble_eq_true rfl)
  rw [lg_entry_eq]
  generalize (lg_sl ([.ref (wA w 13)]) ++ List.replicate (1 - (lg_sl ([.ref (wA w 13)])).length) Slot.unset).toArray = ls at hl ⊢
  have hl : lv_has ls 1 [(0, .ref (wA w 13))] := hl
  unfold w_Reader_endAttribute at hE
  refine lv_aload_n hx hb d_Reader_endAttribute_0 rfl (lv_at hl 0 rfl) ?_
  refine va_get (D := (wG w)) (ci := 4) (v := .ref (wA w 6)) (C := R_Reader) (T := F_Reader) (N := 6) hx hb hta i_Reader hown hK hP 13 rfl rfl 1 (by decide) (hta _ fl_Reader_15) (fun _ h9 => h9) rfl d_Reader_endAttribute_1 ?_
  refine mc_v (b0 := (wA w 6)) (As := []) (rest := []) ⟨hx, hb, hml, hown, hta⟩ (c_Book_endLatestValue l w _ σ  _ hI hE) ok_Reader_149 ⟨Nat.le_of_ble_eq_true rfl, Nat.le_of_ble_eq_true rfl⟩ (va_recv hK hP (ci := 3) (q0 := 6) rfl rfl) hP hK hD hS hA hC rfl hl.1 rfl (Nat.le_of_ble_eq_true rfl) d_Reader_endAttribute_4 ⟨Nat.zero_le _, Nat.zero_le _⟩ (fun σ4 H locs hE hP hD hS => ?_)
  obtain ⟨hE, hI⟩ := hE
  refine lv_aload_n hx hb d_Reader_endAttribute_7 rfl (lv_at hl 0 rfl) ?_
  refine lv_bipush (v := 34) hx hb d_Reader_endAttribute_8 (by decide) ?_
  refine mc_i (b0 := (wA w 13)) (As := [.int 34]) (rest := []) ⟨hx, hb, hml, hown, hta⟩ (c_Reader_take l w _ σ4 34 _ hI hE) ok_Reader_98 ⟨Nat.le_of_ble_eq_true rfl, Nat.le_of_ble_eq_true rfl⟩ (va_recv hK hP (ci := 4) (q0 := 13) rfl rfl) hP hK hD hS hA hC rfl hl.1 rfl (Nat.le_of_ble_eq_true rfl) d_Reader_endAttribute_10 ⟨Nat.zero_le _, Nat.zero_le _⟩ (fun r10 σ10 H locs hE hP hD hS => ?_)
  obtain ⟨hE, hI⟩ := hE
  obtain ⟨hN, hE⟩ := hE
  exact W.zret (v := r10) hx hb hr hN (fun t ht hW => ⟨⟨_, σ10, rfl, ⟨hE, hI⟩, by rw [ht]; exact hP, va_K.moved hW.alike hK, hD⟩, hS.F ht⟩) hS.2.2 d_Reader_endAttribute_13
theorem ok_Reader_129 : okV "PlainPages$Reader" 129 R_Book y_Book_addAttribute b_Book_addAttribute 4 (some .int) 2 := ⟨aW_in 519 (by decide +kernel) rfl, aW_in 520 (by decide +kernel) rfl, aW_in 521 (by decide +kernel) rfl, aW_in 87 (by decide +kernel) rfl, cd_Book_addAttribute, rfl, by decide +kernel, by decide +kernel, by decide +kernel⟩
theorem ok_Reader_133 : okV "PlainPages$Reader" 133 R_Book y_Book_endName b_Book_endName 2 none 1 := ⟨aW_in 523 (by decide +kernel) rfl, aW_in 524 (by decide +kernel) rfl, aW_in 525 (by decide +kernel) rfl, aW_in 87 (by decide +kernel) rfl, cd_Book_endName, rfl, by decide +kernel, by decide +kernel, by decide +kernel⟩
theorem ok_Reader_136 : okV "PlainPages$Reader" 136 R_Book y_Book_isNamedAgain b_Book_isNamedAgain 6 (some .boolean) 2 := ⟨aW_in 527 (by decide +kernel) rfl, aW_in 528 (by decide +kernel) rfl, aW_in 529 (by decide +kernel) rfl, aW_in 87 (by decide +kernel) rfl, cd_Book_isNamedAgain, rfl, by decide +kernel, by decide +kernel, by decide +kernel⟩
theorem ok_Reader_142 : okV "PlainPages$Reader" 142 R_Book y_Book_isNamed b_Book_isNamed 3 (some .boolean) 2 := ⟨aW_in 536 (by decide +kernel) rfl, aW_in 537 (by decide +kernel) rfl, aW_in 538 (by decide +kernel) rfl, aW_in 87 (by decide +kernel) rfl, cd_Book_isNamed, rfl, by decide +kernel, by decide +kernel, by decide +kernel⟩
theorem ok_Reader_145 : okV "PlainPages$Reader" 145 R_Book y_Book_keepId b_Book_keepId 3 none 2 := ⟨aW_in 540 (by decide +kernel) rfl, aW_in 541 (by decide +kernel) rfl, aW_in 542 (by decide +kernel) rfl, aW_in 87 (by decide +kernel) rfl, cd_Book_keepId, rfl, by decide +kernel, by decide +kernel, by decide +kernel⟩
theorem d_Reader_beginAttribute_0 : decode b_Reader_beginAttribute 0 = .ok (.aload_n 0, 1) := by decide +kernel
theorem d_Reader_beginAttribute_1 : decode b_Reader_beginAttribute 1 = .ok (.getfield 19, 3) := by decide +kernel
theorem d_Reader_beginAttribute_4 : decode b_Reader_beginAttribute 4 = .ok (.istore_n 1, 1) := by decide +kernel
theorem d_Reader_beginAttribute_5 : decode b_Reader_beginAttribute 5 = .ok (.aload_n 0, 1) := by decide +kernel
theorem d_Reader_beginAttribute_6 : decode b_Reader_beginAttribute 6 = .ok (.invokevirtual 101, 3) := by decide +kernel
theorem d_Reader_beginAttribute_9 : decode b_Reader_beginAttribute 9 = .ok (.ifCond .ne 5, 3) := by decide +kernel
theorem d_Reader_beginAttribute_12 : decode b_Reader_beginAttribute 12 = .ok (.iconst 0, 1) := by decide +kernel
theorem d_Reader_beginAttribute_13 : decode b_Reader_beginAttribute 13 = .ok (.ireturn, 1) := by decide +kernel
theorem d_Reader_beginAttribute_14 : decode b_Reader_beginAttribute 14 = .ok (.aload_n 0, 1) := by decide +kernel
theorem d_Reader_beginAttribute_15 : decode b_Reader_beginAttribute 15 = .ok (.getfield 15, 3) := by decide +kernel
theorem d_Reader_beginAttribute_18 : decode b_Reader_beginAttribute 18 = .ok (.aload_n 0, 1) := by decide +kernel
theorem d_Reader_beginAttribute_19 : decode b_Reader_beginAttribute 19 = .ok (.getfield 23, 3) := by decide +kernel
theorem d_Reader_beginAttribute_22 : decode b_Reader_beginAttribute 22 = .ok (.iload_n 1, 1) := by decide +kernel
theorem d_Reader_beginAttribute_23 : decode b_Reader_beginAttribute 23 = .ok (.invokevirtual 129, 3) := by decide +kernel
theorem d_Reader_beginAttribute_26 : decode b_Reader_beginAttribute 26 = .ok (.istore_n 2, 1) := by decide +kernel
theorem d_Reader_beginAttribute_27 : decode b_Reader_beginAttribute 27 = .ok (.aload_n 0, 1) := by decide +kernel
theorem d_Reader_beginAttribute_28 : decode b_Reader_beginAttribute 28 = .ok (.iload_n 1, 1) := by decide +kernel
theorem d_Reader_beginAttribute_29 : decode b_Reader_beginAttribute 29 = .ok (.invokevirtual 108, 3) := by decide +kernel
theorem d_Reader_beginAttribute_32 : decode b_Reader_beginAttribute 32 = .ok (.aload_n 0, 1) := by decide +kernel
theorem d_Reader_beginAttribute_33 : decode b_Reader_beginAttribute 33 = .ok (.getfield 15, 3) := by decide +kernel
theorem d_Reader_beginAttribute_36 : decode b_Reader_beginAttribute 36 = .ok (.iload_n 2, 1) := by decide +kernel
theorem d_Reader_beginAttribute_37 : decode b_Reader_beginAttribute 37 = .ok (.invokevirtual 133, 3) := by decide +kernel
theorem d_Reader_beginAttribute_40 : decode b_Reader_beginAttribute 40 = .ok (.aload_n 0, 1) := by decide +kernel
theorem d_Reader_beginAttribute_41 : decode b_Reader_beginAttribute 41 = .ok (.getfield 15, 3) := by decide +kernel
theorem d_Reader_beginAttribute_44 : decode b_Reader_beginAttribute 44 = .ok (.aload_n 0, 1) := by decide +kernel
theorem d_Reader_beginAttribute_45 : decode b_Reader_beginAttribute 45 = .ok (.getfield 23, 3) := by decide +kernel
theorem d_Reader_beginAttribute_48 : decode b_Reader_beginAttribute 48 = .ok (.iload_n 2, 1) := by decide +kernel
theorem d_Reader_beginAttribute_49 : decode b_Reader_beginAttribute 49 = .ok (.invokevirtual 136, 3) := by decide +kernel
theorem d_Reader_beginAttribute_52 : decode b_Reader_beginAttribute 52 = .ok (.ifCond .eq 9, 3) := by decide +kernel
theorem d_Reader_beginAttribute_55 : decode b_Reader_beginAttribute 55 = .ok (.aload_n 0, 1) := by decide +kernel
theorem d_Reader_beginAttribute_56 : decode b_Reader_beginAttribute 56 = .ok (.iload_n 1, 1) := by decide +kernel
theorem d_Reader_beginAttribute_57 : decode b_Reader_beginAttribute 57 = .ok (.invokevirtual 75, 3) := by decide +kernel
theorem d_Reader_beginAttribute_60 : decode b_Reader_beginAttribute 60 = .ok (.ireturn, 1) := by decide +kernel
theorem d_Reader_beginAttribute_61 : decode b_Reader_beginAttribute 61 = .ok (.aload_n 0, 1) := by decide +kernel
theorem d_Reader_beginAttribute_62 : decode b_Reader_beginAttribute 62 = .ok (.getfield 15, 3) := by decide +kernel
theorem d_Reader_beginAttribute_65 : decode b_Reader_beginAttribute 65 = .ok (.iload_n 2, 1) := by decide +kernel
theorem d_Reader_beginAttribute_66 : decode b_Reader_beginAttribute 66 = .ok (.ldc 140, 2) := by decide +kernel
theorem d_Reader_beginAttribute_68 : decode b_Reader_beginAttribute 68 = .ok (.invokevirtual 142, 3) := by decide +kernel
theorem d_Reader_beginAttribute_71 : decode b_Reader_beginAttribute 71 = .ok (.ifCond .eq 15, 3) := by decide +kernel
theorem d_Reader_beginAttribute_74 : decode b_Reader_beginAttribute 74 = .ok (.aload_n 0, 1) := by decide +kernel
theorem d_Reader_beginAttribute_75 : decode b_Reader_beginAttribute 75 = .ok (.getfield 15, 3) := by decide +kernel
theorem d_Reader_beginAttribute_78 : decode b_Reader_beginAttribute 78 = .ok (.aload_n 0, 1) := by decide +kernel
theorem d_Reader_beginAttribute_79 : decode b_Reader_beginAttribute 79 = .ok (.getfield 23, 3) := by decide +kernel
theorem d_Reader_beginAttribute_82 : decode b_Reader_beginAttribute 82 = .ok (.iload_n 2, 1) := by decide +kernel
theorem d_Reader_beginAttribute_83 : decode b_Reader_beginAttribute 83 = .ok (.invokevirtual 145, 3) := by decide +kernel
theorem d_Reader_beginAttribute_86 : decode b_Reader_beginAttribute 86 = .ok (.aload_n 0, 1) := by decide +kernel
theorem d_Reader_beginAttribute_87 : decode b_Reader_beginAttribute 87 = .ok (.bipush 61, 2) := by decide +kernel
theorem d_Reader_beginAttribute_89 : decode b_Reader_beginAttribute 89 = .ok (.invokevirtual 98, 3) := by decide +kernel
theorem d_Reader_beginAttribute_92 : decode b_Reader_beginAttribute 92 = .ok (.ifCond .eq 16, 3) := by decide +kernel
theorem d_Reader_beginAttribute_95 : decode b_Reader_beginAttribute 95 = .ok (.aload_n 0, 1) := by decide +kernel
theorem d_Reader_beginAttribute_96 : decode b_Reader_beginAttribute 96 = .ok (.bipush 34, 2) := by decide +kernel
theorem d_Reader_beginAttribute_98 : decode b_Reader_beginAttribute 98 = .ok (.invokevirtual 98, 3) := by decide +kernel
theorem d_Reader_beginAttribute_101 : decode b_Reader_beginAttribute 101 = .ok (.ifCond .eq 7, 3) := by decide +kernel
theorem d_Reader_beginAttribute_104 : decode b_Reader_beginAttribute 104 = .ok (.iconst 1, 1) := by decide +kernel
theorem d_Reader_beginAttribute_105 : decode b_Reader_beginAttribute 105 = .ok (.goto 4, 3) := by decide +kernel
theorem d_Reader_beginAttribute_108 : decode b_Reader_beginAttribute 108 = .ok (.iconst 0, 1) := by decide +kernel
theorem d_Reader_beginAttribute_109 : decode b_Reader_beginAttribute 109 = .ok (.ireturn, 1) := by decide +kernel
def w_Reader_beginAttribute_J86   (post : Int32 → PPS → Prop) (σ : PPS) : Prop := w_Reader_take σ 61 (fun r89 σ89 => ((r89 = 0 → post 0 σ89) ∧ (¬ r89 = 0 → w_Reader_take σ89 34 (fun r98 σ98 => ((r98 = 0 → post 0 σ98) ∧ (¬ r98 = 0 → post 1 σ98))))))
def w_Reader_beginAttribute  (σ : PPS)  (post : Int32 → PPS → Prop) : Prop := w_Reader_passName σ  (fun r6 σ6 => ((r6 = 0 → post 0 σ6) ∧ (¬ r6 = 0 → w_Book_addAttribute σ6 (pOp σ6) (pPs σ) (fun r23 σ23 => w_Reader_keepLetters σ23 (pPs σ) (fun σ29 => w_Book_endName σ29 r23 (fun σ37 => w_Book_isNamedAgain σ37 (pOp σ37) r23 (fun r49 => ((r49 = 0 → w_Book_isNamed σ37 r23 1 (fun r68 => ((r68 = 0 → w_Reader_beginAttribute_J86 post σ37) ∧ (¬ r68 = 0 → w_Book_keepId σ37 (pOp σ37) r23 (fun σ83 => w_Reader_beginAttribute_J86 post σ83))))) ∧ (¬ r49 = 0 → w_Reader_refuse σ37 (pPs σ) (fun r57 σ57 => (narrow .boolean (.int r57) = .int r57 ∧ post r57 σ57)))))))))))
set_option maxHeartbeats 4000000 in
set_option maxRecDepth 100000 in
theorem c_Reader_beginAttribute (l : Launch) (w : WD) (sz : Nat) (σ : PPS)   (post : Int32 → PPS → Prop) (hI : inv σ) (hE : w_Reader_beginAttribute σ post) : Met l y_Reader_beginAttribute ws_Reader_beginAttribute { frames := 6, cells := 0, slots := 0, locals := 131 } (va_Pc [.ref (wA w 13)] (gW w σ sz)) (va_Qi (fun r u => post r u ∧ inv u) (mB (wG w) (WW w) (wI w) (va_A (WW w σ) sz)) (va_A (WW w σ) sz)) 0 0 (va_A (WW w σ) sz) := by
  refine Met.ofW (cc := b_Reader_beginAttribute) (maxL := 3) (ret := (some .boolean)) (by decide) rfl ?_
  intro p e s m args below meth c s₁ B hml hv
  obtain ⟨rfl, hsz, hP, hK, hD0, hC⟩ := hv
  have hx := B.exec
  have hb := B.bytes
  have hr := B.returns
  have hta : ∀ w ∈ aW, w.before _ s = true := fun w h => atoms_spec (ws := ws_Reader_beginAttribute) B.pre w (List.mem_cons_of_mem _ h)
  have hown : s.vm.findClass R_Reader = some m.cls := findClass_of_methodNamed B.named
  have hlocks := B.notSynchronized
  subst hsz
  have hD := hD0.self (sz := s.heap.size)
  generalize hAe : va_A (WW w σ) s.heap.size = A at hD hC ⊢
  have hA : ∀ q : Nat, s.heap.size ≤ q → A q := fun q h => by rw [← hAe]; exact Or.inr h
  have hS : va_S A s.heap s.heap [] := va_S.rf
  have hP : va_P (wG w) classes (WW w σ) s.heap := hP
  have hl := lv_entry ([.ref (wA w 13)]) (n := 3) (Nat.le_of_ble_eq_true rfl)
  rw [lg_entry_eq]
  generalize (lg_sl ([.ref (wA w 13)]) ++ List.replicate (3 - (lg_sl ([.ref (wA w 13)])).length) Slot.unset).toArray = ls at hl ⊢
  have hl : lv_has ls 3 [(0, .ref (wA w 13))] := hl
  have J86 : ∀ (σ : PPS) (H : Heap) (locs : List Loc) (hP : va_P (wG w) classes (WW w σ) H) (hD : va_D A (WW w σ)) (hS : va_S A s.heap H locs) (hI : inv σ) (ls : Array Slot) (hl : lv_has ls 3 [(0, .ref (wA w 13))]) (hE : w_Reader_beginAttribute_J86 post σ), W p l e (headSpec ws_Reader_beginAttribute { frames := 6, cells := 0, slots := 0, locals := 131 }).room s m ([.ref (wA w 13)] : List Value).toArray below meth c H locs 0 0 (MQ below (va_Qi (fun r u => post r u ∧ inv u) (mB (wG w) (WW w) (wI w) A) A) ([.ref (wA w 13)] : List Value).toArray s 0 0 A) (F0 m 86 ls []) := by
    intro  σ H locs hP hD hS hI ls hl hE
    unfold w_Reader_beginAttribute_J86 at hE
    refine lv_aload_n hx hb d_Reader_beginAttribute_86 rfl (lv_at hl 0 rfl) ?_
    refine lv_bipush (v := 61) hx hb d_Reader_beginAttribute_87 (by decide) ?_
    refine mc_i (b0 := (wA w 13)) (As := [.int 61]) (rest := []) ⟨hx, hb, hml, hown, hta⟩ (c_Reader_take l w _ σ 61 _ hI hE) ok_Reader_98 ⟨Nat.le_of_ble_eq_true rfl, Nat.le_of_ble_eq_true rfl⟩ (va_recv hK hP (ci := 4) (q0 := 13) rfl rfl) hP hK hD hS hA hC rfl hl.1 rfl (Nat.le_of_ble_eq_true rfl) d_Reader_beginAttribute_89 ⟨Nat.zero_le _, Nat.zero_le _⟩ (fun r89 σ89 H locs hE hP hD hS => ?_)
    obtain ⟨hE, hI⟩ := hE
    refine lv_if_eq (tgt := 108) hx hb d_Reader_beginAttribute_92 (by decide) (fun cc92 => ?_) (fun cc92 => ?_)
    · have hE := hE.1 cc92
      refine lv_iconst (v := 0) hx hb d_Reader_beginAttribute_108 (by decide) ?_
      exact W.zret (v := 0) hx hb hr rfl (fun t ht hW => ⟨⟨_, σ89, rfl, ⟨hE, hI⟩, by rw [ht]; exact hP, va_K.moved hW.alike hK, hD⟩, hS.F ht⟩) hS.2.2 d_Reader_beginAttribute_109
    · have hE := hE.2 cc92
      refine lv_aload_n hx hb d_Reader_beginAttribute_95 rfl (lv_at hl 0 rfl) ?_
      refine lv_bipush (v := 34) hx hb d_Reader_beginAttribute_96 (by decide) ?_
      refine mc_i (b0 := (wA w 13)) (As := [.int 34]) (rest := []) ⟨hx, hb, hml, hown, hta⟩ (c_Reader_take l w _ σ89 34 _ hI hE) ok_Reader_98 ⟨Nat.le_of_ble_eq_true rfl, Nat.le_of_ble_eq_true rfl⟩ (va_recv hK hP (ci := 4) (q0 := 13) rfl rfl) hP hK hD hS hA hC rfl hl.1 rfl (Nat.le_of_ble_eq_true rfl) d_Reader_beginAttribute_98 ⟨Nat.zero_le _, Nat.zero_le _⟩ (fun r98 σ98 H locs hE hP hD hS => ?_)
      obtain ⟨hE, hI⟩ := hE
      refine lv_if_eq (tgt := 108) hx hb d_Reader_beginAttribute_101 (by decide) (fun cc101 => ?_) (fun cc101 => ?_)
      · have hE := hE.1 cc101
        refine lv_iconst (v := 0) hx hb d_Reader_beginAttribute_108 (by decide) ?_
        exact W.zret (v := 0) hx hb hr rfl (fun t ht hW => ⟨⟨_, σ98, rfl, ⟨hE, hI⟩, by rw [ht]; exact hP, va_K.moved hW.alike hK, hD⟩, hS.F ht⟩) hS.2.2 d_Reader_beginAttribute_109
      · have hE := hE.2 cc101
        refine lv_iconst (v := 1) hx hb d_Reader_beginAttribute_104 (by decide) ?_
        refine lv_goto (tgt := 109) hx hb d_Reader_beginAttribute_105 (by decide) ?_
        exact W.zret (v := 1) hx hb hr rfl (fun t ht hW => ⟨⟨_, σ98, rfl, ⟨hE, hI⟩, by rw [ht]; exact hP, va_K.moved hW.alike hK, hD⟩, hS.F ht⟩) hS.2.2 d_Reader_beginAttribute_109
  unfold w_Reader_beginAttribute at hE
  refine lv_aload_n hx hb d_Reader_beginAttribute_0 rfl (lv_at hl 0 rfl) ?_
  refine va_get (D := (wG w)) (ci := 4) (v := .int (pPs σ)) (C := R_Reader) (T := F_Reader) (N := 6) hx hb hta i_Reader hown hK hP 13 rfl rfl 2 (by decide) (hta _ fl_Reader_19) (fun _ h9 => h9) rfl d_Reader_beginAttribute_1 ?_
  refine lv_istore_n (lv' := [(1, .int (pPs σ)), (0, .ref (wA w 13))]) hx hb d_Reader_beginAttribute_4 rfl hl (by decide) rfl (fun ls hl => ?_)
  refine lv_aload_n hx hb d_Reader_beginAttribute_5 rfl (lv_at hl 1 rfl) ?_
  refine mc_i (b0 := (wA w 13)) (As := []) (rest := []) ⟨hx, hb, hml, hown, hta⟩ (c_Reader_passName l w _ σ  _ hI hE) ok_Reader_101 ⟨Nat.le_of_ble_eq_true rfl, Nat.le_of_ble_eq_true rfl⟩ (va_recv hK hP (ci := 4) (q0 := 13) rfl rfl) hP hK hD hS hA hC rfl hl.1 rfl (Nat.le_of_ble_eq_true rfl) d_Reader_beginAttribute_6 ⟨Nat.zero_le _, Nat.zero_le _⟩ (fun r6 σ6 H locs hE hP hD hS => ?_)
  obtain ⟨hE, hI⟩ := hE
  refine lv_if_ne (tgt := 14) hx hb d_Reader_beginAttribute_9 (by decide) (fun cc9 => ?_) (fun cc9 => ?_)
  · have hE := hE.2 cc9
    refine lv_aload_n hx hb d_Reader_beginAttribute_14 rfl (lv_at hl 1 rfl) ?_
    refine va_get (D := (wG w)) (ci := 4) (v := .ref (wA w 6)) (C := R_Reader) (T := F_Reader) (N := 6) hx hb hta i_Reader hown hK hP 13 rfl rfl 1 (by decide) (hta _ fl_Reader_15) (fun _ h9 => h9) rfl d_Reader_beginAttribute_15 ?_
    refine lv_aload_n hx hb d_Reader_beginAttribute_18 rfl (lv_at hl 1 rfl) ?_
    refine va_get (D := (wG w)) (ci := 4) (v := .int (pOp σ6)) (C := R_Reader) (T := F_Reader) (N := 6) hx hb hta i_Reader hown hK hP 13 rfl rfl 3 (by decide) (hta _ fl_Reader_23) (fun _ h9 => h9) rfl d_Reader_beginAttribute_19 ?_
    refine lv_iload_n hx hb d_Reader_beginAttribute_22 rfl (lv_at hl 0 rfl) ?_
    refine mc_i (b0 := (wA w 6)) (As := [.int (pOp σ6), .int (pPs σ)]) (rest := []) ⟨hx, hb, hml, hown, hta⟩ (c_Book_addAttribute l w _ σ6 (pOp σ6) (pPs σ) _ hI hE) ok_Reader_129 ⟨Nat.le_of_ble_eq_true rfl, Nat.le_of_ble_eq_true rfl⟩ (va_recv hK hP (ci := 3) (q0 := 6) rfl rfl) hP hK hD hS hA hC rfl hl.1 rfl (Nat.le_of_ble_eq_true rfl) d_Reader_beginAttribute_23 ⟨Nat.zero_le _, Nat.zero_le _⟩ (fun r23 σ23 H locs hE hP hD hS => ?_)
    obtain ⟨hE, hI⟩ := hE
    refine lv_istore_n (lv' := [(2, .int r23), (1, .int (pPs σ)), (0, .ref (wA w 13))]) hx hb d_Reader_beginAttribute_26 rfl hl (by decide) rfl (fun ls hl => ?_)
    refine lv_aload_n hx hb d_Reader_beginAttribute_27 rfl (lv_at hl 2 rfl) ?_
    refine lv_iload_n hx hb d_Reader_beginAttribute_28 rfl (lv_at hl 1 rfl) ?_
    refine mc_v (b0 := (wA w 13)) (As := [.int (pPs σ)]) (rest := []) ⟨hx, hb, hml, hown, hta⟩ (c_Reader_keepLetters l w _ σ23 (pPs σ) _ hI hE) ok_Reader_108 ⟨Nat.le_of_ble_eq_true rfl, Nat.le_of_ble_eq_true rfl⟩ (va_recv hK hP (ci := 4) (q0 := 13) rfl rfl) hP hK hD hS hA hC rfl hl.1 rfl (Nat.le_of_ble_eq_true rfl) d_Reader_beginAttribute_29 ⟨Nat.zero_le _, Nat.zero_le _⟩ (fun σ29 H locs hE hP hD hS => ?_)
    obtain ⟨hE, hI⟩ := hE
    refine lv_aload_n hx hb d_Reader_beginAttribute_32 rfl (lv_at hl 2 rfl) ?_
    refine va_get (D := (wG w)) (ci := 4) (v := .ref (wA w 6)) (C := R_Reader) (T := F_Reader) (N := 6) hx hb hta i_Reader hown hK hP 13 rfl rfl 1 (by decide) (hta _ fl_Reader_15) (fun _ h9 => h9) rfl d_Reader_beginAttribute_33 ?_
    refine lv_iload_n hx hb d_Reader_beginAttribute_36 rfl (lv_at hl 0 rfl) ?_
    refine mc_v (b0 := (wA w 6)) (As := [.int r23]) (rest := []) ⟨hx, hb, hml, hown, hta⟩ (c_Book_endName l w _ σ29 r23 _ hI hE) ok_Reader_133 ⟨Nat.le_of_ble_eq_true rfl, Nat.le_of_ble_eq_true rfl⟩ (va_recv hK hP (ci := 3) (q0 := 6) rfl rfl) hP hK hD hS hA hC rfl hl.1 rfl (Nat.le_of_ble_eq_true rfl) d_Reader_beginAttribute_37 ⟨Nat.zero_le _, Nat.zero_le _⟩ (fun σ37 H locs hE hP hD hS => ?_)
    obtain ⟨hE, hI⟩ := hE
    refine lv_aload_n hx hb d_Reader_beginAttribute_40 rfl (lv_at hl 2 rfl) ?_
    refine va_get (D := (wG w)) (ci := 4) (v := .ref (wA w 6)) (C := R_Reader) (T := F_Reader) (N := 6) hx hb hta i_Reader hown hK hP 13 rfl rfl 1 (by decide) (hta _ fl_Reader_15) (fun _ h9 => h9) rfl d_Reader_beginAttribute_41 ?_
    refine lv_aload_n hx hb d_Reader_beginAttribute_44 rfl (lv_at hl 2 rfl) ?_
    refine va_get (D := (wG w)) (ci := 4) (v := .int (pOp σ37)) (C := R_Reader) (T := F_Reader) (N := 6) hx hb hta i_Reader hown hK hP 13 rfl rfl 3 (by decide) (hta _ fl_Reader_23) (fun _ h9 => h9) rfl d_Reader_beginAttribute_45 ?_
    refine lv_iload_n hx hb d_Reader_beginAttribute_48 rfl (lv_at hl 0 rfl) ?_
    refine ro_V (b0 := (wA w 6)) (As := [.int (pOp σ37), .int r23]) (rest := []) ⟨hx, hb, hml, hown, hta⟩ (c_Book_isNamedAgain l w σ37 (pOp σ37) r23  _ hI hE) ok_Reader_136 ⟨Nat.le_of_ble_eq_true rfl, Nat.le_of_ble_eq_true rfl⟩ blind_fW (va_recv hK hP (ci := 3) (q0 := 6) rfl rfl) (fW_of hP hK hC hS) rfl hl.1 rfl (Nat.le_of_ble_eq_true rfl) d_Reader_beginAttribute_49 ⟨Nat.zero_le _, Nat.zero_le _⟩ (fun r49 hE => ?_)
    refine lv_if_eq (tgt := 61) hx hb d_Reader_beginAttribute_52 (by decide) (fun cc52 => ?_) (fun cc52 => ?_)
    · have hE := hE.1 cc52
      refine lv_aload_n hx hb d_Reader_beginAttribute_61 rfl (lv_at hl 2 rfl) ?_
      refine va_get (D := (wG w)) (ci := 4) (v := .ref (wA w 6)) (C := R_Reader) (T := F_Reader) (N := 6) hx hb hta i_Reader hown hK hP 13 rfl rfl 1 (by decide) (hta _ fl_Reader_15) (fun _ h9 => h9) rfl d_Reader_beginAttribute_62 ?_
      refine lv_iload_n hx hb d_Reader_beginAttribute_65 rfl (lv_at hl 0 rfl) ?_
      refine t_ldc (i := 1) hx hb hC (by decide) rfl hown d_Reader_beginAttribute_66 ?_
      refine ro_V (b0 := (wA w 6)) (As := [.int r23, .ref (wK w 1)]) (rest := []) ⟨hx, hb, hml, hown, hta⟩ (c_Book_isNamed l w σ37 r23 1  _ hI hE) ok_Reader_142 ⟨Nat.le_of_ble_eq_true rfl, Nat.le_of_ble_eq_true rfl⟩ blind_fW (va_recv hK hP (ci := 3) (q0 := 6) rfl rfl) (fW_of hP hK hC hS) rfl hl.1 rfl (Nat.le_of_ble_eq_true rfl) d_Reader_beginAttribute_68 ⟨Nat.zero_le _, Nat.zero_le _⟩ (fun r68 hE => ?_)
      refine lv_if_eq (tgt := 86) hx hb d_Reader_beginAttribute_71 (by decide) (fun cc71 => ?_) (fun cc71 => ?_)
      · have hE := hE.1 cc71
        exact J86  σ37 _ _ hP hD hS hI _ (lv_sub hl [2] rfl) hE
      · have hE := hE.2 cc71
        refine lv_aload_n hx hb d_Reader_beginAttribute_74 rfl (lv_at hl 2 rfl) ?_
        refine va_get (D := (wG w)) (ci := 4) (v := .ref (wA w 6)) (C := R_Reader) (T := F_Reader) (N := 6) hx hb hta i_Reader hown hK hP 13 rfl rfl 1 (by decide) (hta _ fl_Reader_15) (fun _ h9 => h9) rfl d_Reader_beginAttribute_75 ?_
        refine lv_aload_n hx hb d_Reader_beginAttribute_78 rfl (lv_at hl 2 rfl) ?_
        refine va_get (D := (wG w)) (ci := 4) (v := .int (pOp σ37)) (C := R_Reader) (T := F_Reader) (N := 6) hx hb hta i_Reader hown hK hP 13 rfl rfl 3 (by decide) (hta _ fl_Reader_23) (fun _ h9 => h9) rfl d_Reader_beginAttribute_79 ?_
        refine lv_iload_n hx hb d_Reader_beginAttribute_82 rfl (lv_at hl 0 rfl) ?_
        refine mc_v (b0 := (wA w 6)) (As := [.int (pOp σ37), .int r23]) (rest := []) ⟨hx, hb, hml, hown, hta⟩ (c_Book_keepId l w _ σ37 (pOp σ37) r23 _ hI hE) ok_Reader_145 ⟨Nat.le_of_ble_eq_true rfl, Nat.le_of_ble_eq_true rfl⟩ (va_recv hK hP (ci := 3) (q0 := 6) rfl rfl) hP hK hD hS hA hC rfl hl.1 rfl (Nat.le_of_ble_eq_true rfl) d_Reader_beginAttribute_83 ⟨Nat.zero_le _, Nat.zero_le _⟩ (fun σ83 H locs hE hP hD hS => ?_)
        obtain ⟨hE, hI⟩ := hE
        exact J86  σ83 _ _ hP hD hS hI _ (lv_sub hl [2] rfl) hE
    · have hE := hE.2 cc52
      refine lv_aload_n hx hb d_Reader_beginAttribute_55 rfl (lv_at hl 2 rfl) ?_
      refine lv_iload_n hx hb d_Reader_beginAttribute_56 rfl (lv_at hl 1 rfl) ?_
      refine mc_i (b0 := (wA w 13)) (As := [.int (pPs σ)]) (rest := []) ⟨hx, hb, hml, hown, hta⟩ (c_Reader_refuse l w _ σ37 (pPs σ) _ hI hE) ok_Reader_75 ⟨Nat.le_of_ble_eq_true rfl, Nat.le_of_ble_eq_true rfl⟩ (va_recv hK hP (ci := 4) (q0 := 13) rfl rfl) hP hK hD hS hA hC rfl hl.1 rfl (Nat.le_of_ble_eq_true rfl) d_Reader_beginAttribute_57 ⟨Nat.zero_le _, Nat.zero_le _⟩ (fun r57 σ57 H locs hE hP hD hS => ?_)
      obtain ⟨hE, hI⟩ := hE
      obtain ⟨hN, hE⟩ := hE
      exact W.zret (v := r57) hx hb hr hN (fun t ht hW => ⟨⟨_, σ57, rfl, ⟨hE, hI⟩, by rw [ht]; exact hP, va_K.moved hW.alike hK, hD⟩, hS.F ht⟩) hS.2.2 d_Reader_beginAttribute_60
  · have hE := hE.1 cc9
    refine lv_iconst (v := 0) hx hb d_Reader_beginAttribute_12 (by decide) ?_
    exact W.zret (v := 0) hx hb hr rfl (fun t ht hW => ⟨⟨_, σ6, rfl, ⟨hE, hI⟩, by rw [ht]; exact hP, va_K.moved hW.alike hK, hD⟩, hS.F ht⟩) hS.2.2 d_Reader_beginAttribute_13
theorem ok_Reader_161 : okV "PlainPages$Reader" 161 R_Book y_Book_shut b_Book_shut 2 none 1 := ⟨aW_in 589 (by decide +kernel) rfl, aW_in 590 (by decide +kernel) rfl, aW_in 591 (by decide +kernel) rfl, aW_in 87 (by decide +kernel) rfl, cd_Book_shut, rfl, by decide +kernel, by decide +kernel, by decide +kernel⟩
theorem d_Reader_shutElement_0 : decode b_Reader_shutElement 0 = .ok (.aload_n 0, 1) := by decide +kernel
theorem d_Reader_shutElement_1 : decode b_Reader_shutElement 1 = .ok (.getfield 15, 3) := by decide +kernel
theorem d_Reader_shutElement_4 : decode b_Reader_shutElement 4 = .ok (.aload_n 0, 1) := by decide +kernel
theorem d_Reader_shutElement_5 : decode b_Reader_shutElement 5 = .ok (.getfield 23, 3) := by decide +kernel
theorem d_Reader_shutElement_8 : decode b_Reader_shutElement 8 = .ok (.invokevirtual 161, 3) := by decide +kernel
theorem d_Reader_shutElement_11 : decode b_Reader_shutElement 11 = .ok (.aload_n 0, 1) := by decide +kernel
theorem d_Reader_shutElement_12 : decode b_Reader_shutElement 12 = .ok (.aload_n 0, 1) := by decide +kernel
theorem d_Reader_shutElement_13 : decode b_Reader_shutElement 13 = .ok (.getfield 15, 3) := by decide +kernel
theorem d_Reader_shutElement_16 : decode b_Reader_shutElement 16 = .ok (.aload_n 0, 1) := by decide +kernel
theorem d_Reader_shutElement_17 : decode b_Reader_shutElement 17 = .ok (.getfield 23, 3) := by decide +kernel
theorem d_Reader_shutElement_20 : decode b_Reader_shutElement 20 = .ok (.iconst 1, 1) := by decide +kernel
theorem d_Reader_shutElement_21 : decode b_Reader_shutElement 21 = .ok (.invokevirtual 158, 3) := by decide +kernel
theorem d_Reader_shutElement_24 : decode b_Reader_shutElement 24 = .ok (.putfield 23, 3) := by decide +kernel
theorem d_Reader_shutElement_27 : decode b_Reader_shutElement 27 = .ok (.return_, 1) := by decide +kernel
def w_Reader_shutElement  (σ : PPS)  (post : PPS → Prop) : Prop := w_Book_shut σ (pOp σ) (fun σ8 => (∀ σ24 : PPS, σ24 = sOp σ8 (tGet 14 (pNd σ8) (pOp σ8) 1) → post σ24))
set_option maxHeartbeats 4000000 in
set_option maxRecDepth 100000 in
theorem c_Reader_shutElement (l : Launch) (w : WD) (sz : Nat) (σ : PPS)   (post : PPS → Prop) (hI : inv σ) (hE : w_Reader_shutElement σ post) : Met l y_Reader_shutElement ws_Reader_shutElement { frames := 2, cells := 0, slots := 0, locals := 45 } (va_Pc [.ref (wA w 13)] (gW w σ sz)) (va_Qv (fun u => post u ∧ inv u) (mB (wG w) (WW w) (wI w) (va_A (WW w σ) sz)) (va_A (WW w σ) sz)) 0 0 (va_A (WW w σ) sz) := by
  refine Met.ofW (cc := b_Reader_shutElement) (maxL := 1) (ret := none) (by decide) rfl ?_
  intro p e s m args below meth c s₁ B hml hv
  obtain ⟨rfl, hsz, hP, hK, hD0, hC⟩ := hv
  have hx := B.exec
  have hb := B.bytes
  have hr := B.returns
  have hta : ∀ w ∈ aW, w.before _ s = true := fun w h => atoms_spec (ws := ws_Reader_shutElement) B.pre w (List.mem_cons_of_mem _ h)
  have hown : s.vm.findClass R_Reader = some m.cls := findClass_of_methodNamed B.named
  have hlocks := B.notSynchronized
  subst hsz
  have hD := hD0.self (sz := s.heap.size)
  generalize hAe : va_A (WW w σ) s.heap.size = A at hD hC ⊢
  have hA : ∀ q : Nat, s.heap.size ≤ q → A q := fun q h => by rw [← hAe]; exact Or.inr h
  have hS : va_S A s.heap s.heap [] := va_S.rf
  have hP : va_P (wG w) classes (WW w σ) s.heap := hP
  have hl := lv_entry ([.ref (wA w 13)]) (n := 1) (Nat.le_of_ble_eq_true rfl)
  rw [lg_entry_eq]
  generalize (lg_sl ([.ref (wA w 13)]) ++ List.replicate (1 - (lg_sl ([.ref (wA w 13)])).length) Slot.unset).toArray = ls at hl ⊢
  have hl : lv_has ls 1 [(0, .ref (wA w 13))] := hl
  unfold w_Reader_shutElement at hE
  refine lv_aload_n hx hb d_Reader_shutElement_0 rfl (lv_at hl 0 rfl) ?_
  refine va_get (D := (wG w)) (ci := 4) (v := .ref (wA w 6)) (C := R_Reader) (T := F_Reader) (N := 6) hx hb hta i_Reader hown hK hP 13 rfl rfl 1 (by decide) (hta _ fl_Reader_15) (fun _ h9 => h9) rfl d_Reader_shutElement_1 ?_
  refine lv_aload_n hx hb d_Reader_shutElement_4 rfl (lv_at hl 0 rfl) ?_
  refine va_get (D := (wG w)) (ci := 4) (v := .int (pOp σ)) (C := R_Reader) (T := F_Reader) (N := 6) hx hb hta i_Reader hown hK hP 13 rfl rfl 3 (by decide) (hta _ fl_Reader_23) (fun _ h9 => h9) rfl d_Reader_shutElement_5 ?_
  refine mc_v (b0 := (wA w 6)) (As := [.int (pOp σ)]) (rest := []) ⟨hx, hb, hml, hown, hta⟩ (c_Book_shut l w _ σ (pOp σ) _ hI hE) ok_Reader_161 ⟨Nat.le_of_ble_eq_true rfl, Nat.le_of_ble_eq_true rfl⟩ (va_recv hK hP (ci := 3) (q0 := 6) rfl rfl) hP hK hD hS hA hC rfl hl.1 rfl (Nat.le_of_ble_eq_true rfl) d_Reader_shutElement_8 ⟨Nat.zero_le _, Nat.zero_le _⟩ (fun σ8 H locs hE hP hD hS => ?_)
  obtain ⟨hE, hI⟩ := hE
  refine lv_aload_n hx hb d_Reader_shutElement_11 rfl (lv_at hl 0 rfl) ?_
  refine lv_aload_n hx hb d_Reader_shutElement_12 rfl (lv_at hl 0 rfl) ?_
  refine va_get (D := (wG w)) (ci := 4) (v := .ref (wA w 6)) (C := R_Reader) (T := F_Reader) (N := 6) hx hb hta i_Reader hown hK hP 13 rfl rfl 1 (by decide) (hta _ fl_Reader_15) (fun _ h9 => h9) rfl d_Reader_shutElement_13 ?_
  refine lv_aload_n hx hb d_Reader_shutElement_16 rfl (lv_at hl 0 rfl) ?_
  refine va_get (D := (wG w)) (ci := 4) (v := .int (pOp σ8)) (C := R_Reader) (T := F_Reader) (N := 6) hx hb hta i_Reader hown hK hP 13 rfl rfl 3 (by decide) (hta _ fl_Reader_23) (fun _ h9 => h9) rfl d_Reader_shutElement_17 ?_
  refine lv_iconst (v := 1) hx hb d_Reader_shutElement_20 (by decide) ?_
  refine ro_V (b0 := (wA w 6)) (As := [.int (pOp σ8), .int 1]) (rest := [.ref (wA w 13)]) ⟨hx, hb, hml, hown, hta⟩ (f_Book_ofNode l w σ8 (pOp σ8) 1 hI) ok_Reader_158 ⟨Nat.le_of_ble_eq_true rfl, Nat.le_of_ble_eq_true rfl⟩ blind_fW (va_recv hK hP (ci := 3) (q0 := 6) rfl rfl) (fW_of hP hK hC hS) rfl hl.1 rfl (Nat.le_of_ble_eq_true rfl) d_Reader_shutElement_21 ⟨Nat.zero_le _, Nat.zero_le _⟩ (fun r21 hrr => ?_)
  subst hrr
  refine va_put (D := (wG w)) (ci := 4) (v := .int (tGet 14 (pNd σ8) (pOp σ8) 1)) (ty := .int) (C := R_Reader) (T := F_Reader) (N := 6) hx hb hta i_Reader t_Reader t_Reader_ok n_Reader hown hK hP hD hS 13 rfl rfl 3 (by decide) (hta _ fl_Reader_23) (fun _ h9 => h9) rfl (by decide +kernel) rfl rfl (Nat.le_of_ble_eq_true rfl) d_Reader_shutElement_24 (fun H locs hP hD hS => ?_)
  have hP : va_P (wG w) classes (WW w (sOp σ8 (tGet 14 (pNd σ8) (pOp σ8) 1))) H := hP
  have hD : va_D A (WW w (sOp σ8 (tGet 14 (pNd σ8) (pOp σ8) 1))) := hD
  have hI : inv (sOp σ8 (tGet 14 (pNd σ8) (pOp σ8) 1)) := hI
  have hE := hE _ rfl
  generalize (sOp σ8 (tGet 14 (pNd σ8) (pOp σ8) 1) : PPS) = σ24 at hP hD hI hE
  exact W.vret hx hb hr (fun t ht hW => ⟨⟨σ24, rfl, ⟨hE, hI⟩, by rw [ht]; exact hP, va_K.moved hW.alike hK, hD⟩, hS.F ht⟩) hS.2.2 d_Reader_shutElement_27
theorem ok_Reader_50 : okV "PlainPages$Reader" 50 R_Reader y_Reader_skipWhite b_Reader_skipWhite 1 none 0 := ⟨aW_in 440 (by decide +kernel) rfl, aW_in 442 (by decide +kernel) rfl, aW_in 2 (by decide +kernel) rfl, aW_in 89 (by decide +kernel) rfl, cd_Reader_skipWhite, rfl, by decide +kernel, by decide +kernel, by decide +kernel⟩
theorem ok_Reader_117 : okV "PlainPages$Reader" 117 R_Reader y_Reader_beginAttribute b_Reader_beginAttribute 3 (some .boolean) 0 := ⟨aW_in 515 (by decide +kernel) rfl, aW_in 517 (by decide +kernel) rfl, aW_in 10 (by decide +kernel) rfl, aW_in 89 (by decide +kernel) rfl, cd_Reader_beginAttribute, rfl, by decide +kernel, by decide +kernel, by decide +kernel⟩
theorem ok_Reader_120 : okV "PlainPages$Reader" 120 R_Reader y_Reader_takeCharacters b_Reader_takeCharacters 6 (some .boolean) 1 := ⟨aW_in 544 (by decide +kernel) rfl, aW_in 546 (by decide +kernel) rfl, aW_in 12 (by decide +kernel) rfl, aW_in 89 (by decide +kernel) rfl, cd_Reader_takeCharacters, rfl, by decide +kernel, by decide +kernel, by decide +kernel⟩
theorem ok_Reader_123 : okV "PlainPages$Reader" 123 R_Reader y_Reader_endAttribute b_Reader_endAttribute 1 (some .boolean) 0 := ⟨aW_in 577 (by decide +kernel) rfl, aW_in 579 (by decide +kernel) rfl, aW_in 16 (by decide +kernel) rfl, aW_in 89 (by decide +kernel) rfl, cd_Reader_endAttribute, rfl, by decide +kernel, by decide +kernel, by decide +kernel⟩
theorem ok_Reader_126 : okV "PlainPages$Reader" 126 R_Reader y_Reader_shutElement b_Reader_shutElement 1 none 0 := ⟨aW_in 585 (by decide +kernel) rfl, aW_in 587 (by decide +kernel) rfl, aW_in 17 (by decide +kernel) rfl, aW_in 89 (by decide +kernel) rfl, cd_Reader_shutElement, rfl, by decide +kernel, by decide +kernel, by decide +kernel⟩
theorem d_Reader_readInTag_0 : decode b_Reader_readInTag 0 = .ok (.aload_n 0, 1) := by decide +kernel
theorem d_Reader_readInTag_1 : decode b_Reader_readInTag 1 = .ok (.getfield 19, 3) := by decide +kernel
theorem d_Reader_readInTag_4 : decode b_Reader_readInTag 4 = .ok (.istore_n 1, 1) := by decide +kernel
theorem d_Reader_readInTag_5 : decode b_Reader_readInTag 5 = .ok (.aload_n 0, 1) := by decide +kernel
theorem d_Reader_readInTag_6 : decode b_Reader_readInTag 6 = .ok (.invokevirtual 50, 3) := by decide +kernel
theorem d_Reader_readInTag_9 : decode b_Reader_readInTag 9 = .ok (.aload_n 0, 1) := by decide +kernel
theorem d_Reader_readInTag_10 : decode b_Reader_readInTag 10 = .ok (.getfield 9, 3) := by decide +kernel
theorem d_Reader_readInTag_13 : decode b_Reader_readInTag 13 = .ok (.aload_n 0, 1) := by decide +kernel
theorem d_Reader_readInTag_14 : decode b_Reader_readInTag 14 = .ok (.getfield 19, 3) := by decide +kernel
theorem d_Reader_readInTag_17 : decode b_Reader_readInTag 17 = .ok (.invokevirtual 65, 3) := by decide +kernel
theorem d_Reader_readInTag_20 : decode b_Reader_readInTag 20 = .ok (.invokestatic 88, 3) := by decide +kernel
theorem d_Reader_readInTag_23 : decode b_Reader_readInTag 23 = .ok (.ifCond .eq 51, 3) := by decide +kernel
theorem d_Reader_readInTag_26 : decode b_Reader_readInTag 26 = .ok (.aload_n 0, 1) := by decide +kernel
theorem d_Reader_readInTag_27 : decode b_Reader_readInTag 27 = .ok (.getfield 19, 3) := by decide +kernel
theorem d_Reader_readInTag_30 : decode b_Reader_readInTag 30 = .ok (.iload_n 1, 1) := by decide +kernel
theorem d_Reader_readInTag_31 : decode b_Reader_readInTag 31 = .ok (.if_icmp .le 34, 3) := by decide +kernel
theorem d_Reader_readInTag_34 : decode b_Reader_readInTag 34 = .ok (.aload_n 0, 1) := by decide +kernel
theorem d_Reader_readInTag_35 : decode b_Reader_readInTag 35 = .ok (.invokevirtual 117, 3) := by decide +kernel
theorem d_Reader_readInTag_38 : decode b_Reader_readInTag 38 = .ok (.ifCond .eq 23, 3) := by decide +kernel
theorem d_Reader_readInTag_41 : decode b_Reader_readInTag 41 = .ok (.aload_n 0, 1) := by decide +kernel
theorem d_Reader_readInTag_42 : decode b_Reader_readInTag 42 = .ok (.bipush 34, 2) := by decide +kernel
theorem d_Reader_readInTag_44 : decode b_Reader_readInTag 44 = .ok (.invokevirtual 120, 3) := by decide +kernel
theorem d_Reader_readInTag_47 : decode b_Reader_readInTag 47 = .ok (.ifCond .eq 14, 3) := by decide +kernel
theorem d_Reader_readInTag_50 : decode b_Reader_readInTag 50 = .ok (.aload_n 0, 1) := by decide +kernel
theorem d_Reader_readInTag_51 : decode b_Reader_readInTag 51 = .ok (.invokevirtual 123, 3) := by decide +kernel
theorem d_Reader_readInTag_54 : decode b_Reader_readInTag 54 = .ok (.ifCond .eq 7, 3) := by decide +kernel
theorem d_Reader_readInTag_57 : decode b_Reader_readInTag 57 = .ok (.iconst 1, 1) := by decide +kernel
theorem d_Reader_readInTag_58 : decode b_Reader_readInTag 58 = .ok (.goto 15, 3) := by decide +kernel
theorem d_Reader_readInTag_61 : decode b_Reader_readInTag 61 = .ok (.iconst 0, 1) := by decide +kernel
theorem d_Reader_readInTag_62 : decode b_Reader_readInTag 62 = .ok (.goto 11, 3) := by decide +kernel
theorem d_Reader_readInTag_65 : decode b_Reader_readInTag 65 = .ok (.aload_n 0, 1) := by decide +kernel
theorem d_Reader_readInTag_66 : decode b_Reader_readInTag 66 = .ok (.aload_n 0, 1) := by decide +kernel
theorem d_Reader_readInTag_67 : decode b_Reader_readInTag 67 = .ok (.getfield 19, 3) := by decide +kernel
theorem d_Reader_readInTag_70 : decode b_Reader_readInTag 70 = .ok (.invokevirtual 75, 3) := by decide +kernel
theorem d_Reader_readInTag_73 : decode b_Reader_readInTag 73 = .ok (.ireturn, 1) := by decide +kernel
theorem d_Reader_readInTag_74 : decode b_Reader_readInTag 74 = .ok (.aload_n 0, 1) := by decide +kernel
theorem d_Reader_readInTag_75 : decode b_Reader_readInTag 75 = .ok (.getfield 9, 3) := by decide +kernel
theorem d_Reader_readInTag_78 : decode b_Reader_readInTag 78 = .ok (.aload_n 0, 1) := by decide +kernel
theorem d_Reader_readInTag_79 : decode b_Reader_readInTag 79 = .ok (.getfield 19, 3) := by decide +kernel
theorem d_Reader_readInTag_82 : decode b_Reader_readInTag 82 = .ok (.invokevirtual 65, 3) := by decide +kernel
theorem d_Reader_readInTag_85 : decode b_Reader_readInTag 85 = .ok (.bipush 47, 2) := by decide +kernel
theorem d_Reader_readInTag_87 : decode b_Reader_readInTag 87 = .ok (.if_icmp .ne 7, 3) := by decide +kernel
theorem d_Reader_readInTag_90 : decode b_Reader_readInTag 90 = .ok (.iconst 1, 1) := by decide +kernel
theorem d_Reader_readInTag_91 : decode b_Reader_readInTag 91 = .ok (.goto 4, 3) := by decide +kernel
theorem d_Reader_readInTag_94 : decode b_Reader_readInTag 94 = .ok (.iconst 0, 1) := by decide +kernel
theorem d_Reader_readInTag_95 : decode b_Reader_readInTag 95 = .ok (.istore_n 2, 1) := by decide +kernel
theorem d_Reader_readInTag_96 : decode b_Reader_readInTag 96 = .ok (.iload_n 2, 1) := by decide +kernel
theorem d_Reader_readInTag_97 : decode b_Reader_readInTag 97 = .ok (.ifCond .eq 13, 3) := by decide +kernel
theorem d_Reader_readInTag_100 : decode b_Reader_readInTag 100 = .ok (.aload_n 0, 1) := by decide +kernel
theorem d_Reader_readInTag_101 : decode b_Reader_readInTag 101 = .ok (.dup, 1) := by decide +kernel
theorem d_Reader_readInTag_102 : decode b_Reader_readInTag 102 = .ok (.getfield 19, 3) := by decide +kernel
theorem d_Reader_readInTag_105 : decode b_Reader_readInTag 105 = .ok (.iconst 1, 1) := by decide +kernel
theorem d_Reader_readInTag_106 : decode b_Reader_readInTag 106 = .ok (.iadd, 1) := by decide +kernel
theorem d_Reader_readInTag_107 : decode b_Reader_readInTag 107 = .ok (.putfield 19, 3) := by decide +kernel
theorem d_Reader_readInTag_110 : decode b_Reader_readInTag 110 = .ok (.aload_n 0, 1) := by decide +kernel
theorem d_Reader_readInTag_111 : decode b_Reader_readInTag 111 = .ok (.bipush 62, 2) := by decide +kernel
theorem d_Reader_readInTag_113 : decode b_Reader_readInTag 113 = .ok (.invokevirtual 98, 3) := by decide +kernel
theorem d_Reader_readInTag_116 : decode b_Reader_readInTag 116 = .ok (.ifCond .ne 5, 3) := by decide +kernel
theorem d_Reader_readInTag_119 : decode b_Reader_readInTag 119 = .ok (.iconst 0, 1) := by decide +kernel
theorem d_Reader_readInTag_120 : decode b_Reader_readInTag 120 = .ok (.ireturn, 1) := by decide +kernel
theorem d_Reader_readInTag_121 : decode b_Reader_readInTag 121 = .ok (.aload_n 0, 1) := by decide +kernel
theorem d_Reader_readInTag_122 : decode b_Reader_readInTag 122 = .ok (.iconst 0, 1) := by decide +kernel
theorem d_Reader_readInTag_123 : decode b_Reader_readInTag 123 = .ok (.putfield 26, 3) := by decide +kernel
theorem d_Reader_readInTag_126 : decode b_Reader_readInTag 126 = .ok (.iload_n 2, 1) := by decide +kernel
theorem d_Reader_readInTag_127 : decode b_Reader_readInTag 127 = .ok (.ifCond .eq 7, 3) := by decide +kernel
theorem d_Reader_readInTag_130 : decode b_Reader_readInTag 130 = .ok (.aload_n 0, 1) := by decide +kernel
theorem d_Reader_readInTag_131 : decode b_Reader_readInTag 131 = .ok (.invokevirtual 126, 3) := by decide +kernel
theorem d_Reader_readInTag_134 : decode b_Reader_readInTag 134 = .ok (.iconst 1, 1) := by decide +kernel
theorem d_Reader_readInTag_135 : decode b_Reader_readInTag 135 = .ok (.ireturn, 1) := by decide +kernel
def w_Reader_readInTag_J110   (post : Int32 → PPS → Prop) (v2 : Int32) (σ : PPS) : Prop := w_Reader_take σ 62 (fun r113 σ113 => ((r113 = 0 → post 0 σ113) ∧ (¬ r113 = 0 → (∀ σ123 : PPS, σ123 = sIn σ113 0 → ((v2 = 0 → post 1 σ123) ∧ (¬ v2 = 0 → w_Reader_shutElement σ123  (fun σ131 => post 1 σ131)))))))
def w_Reader_readInTag_J95   (post : Int32 → PPS → Prop) (t0 : Int32) (σ : PPS) : Prop := ((t0 = 0 → w_Reader_readInTag_J110 post t0 σ) ∧ (¬ t0 = 0 → (∀ σ107 : PPS, σ107 = sPs σ ((pPs σ) + 1) → w_Reader_readInTag_J110 post t0 σ107)))
def w_Reader_readInTag_J61   (post : Int32 → PPS → Prop) (σ : PPS) : Prop := post 0 σ
def w_Reader_readInTag  (σ : PPS)  (post : Int32 → PPS → Prop) : Prop := w_Reader_skipWhite σ  (fun σ6 => (((b2i (cBn (sGet (pTp σ6) (pPs σ6)))) = 0 → (((sGet (pTp σ6) (pPs σ6)) = 47 → w_Reader_readInTag_J95 post 1 σ6) ∧ (¬ (sGet (pTp σ6) (pPs σ6)) = 47 → w_Reader_readInTag_J95 post 0 σ6))) ∧ (¬ (b2i (cBn (sGet (pTp σ6) (pPs σ6)))) = 0 → (((pPs σ6) ≤ (pPs σ) → w_Reader_refuse σ6 (pPs σ6) (fun r70 σ70 => (narrow .boolean (.int r70) = .int r70 ∧ post r70 σ70))) ∧ (¬ (pPs σ6) ≤ (pPs σ) → w_Reader_beginAttribute σ6  (fun r35 σ35 => ((r35 = 0 → w_Reader_readInTag_J61 post σ35) ∧ (¬ r35 = 0 → w_Reader_takeCharacters σ35 34 (fun r44 σ44 => ((r44 = 0 → w_Reader_readInTag_J61 post σ44) ∧ (¬ r44 = 0 → w_Reader_endAttribute σ44  (fun r51 σ51 => ((r51 = 0 → w_Reader_readInTag_J61 post σ51) ∧ (¬ r51 = 0 → post 1 σ51))))))))))))))
set_option maxHeartbeats 4000000 in
set_option maxRecDepth 100000 in
theorem c_Reader_readInTag (l : Launch) (w : WD) (sz : Nat) (σ : PPS)   (post : Int32 → PPS → Prop) (hI : inv σ) (hE : w_Reader_readInTag σ post) : Met l y_Reader_readInTag ws_Reader_readInTag { frames := 7, cells := 0, slots := 0, locals := 154 } (va_Pc [.ref (wA w 13)] (gW w σ sz)) (va_Qi (fun r u => post r u ∧ inv u) (mB (wG w) (WW w) (wI w) (va_A (WW w σ) sz)) (va_A (WW w σ) sz)) 0 0 (va_A (WW w σ) sz) := by
  refine Met.ofW (cc := b_Reader_readInTag) (maxL := 3) (ret := (some .boolean)) (by decide) rfl ?_
  intro p e s m args below meth c s₁ B hml hv
  obtain ⟨rfl, hsz, hP, hK, hD0, hC⟩ := hv
  have hx := B.exec
  have hb := B.bytes
  have hr := B.returns
  have hta : ∀ w ∈ aW, w.before _ s = true := fun w h => atoms_spec (ws := ws_Reader_readInTag) B.pre w (List.mem_cons_of_mem _ h)
  have hown : s.vm.findClass R_Reader = some m.cls := findClass_of_methodNamed B.named
  have hlocks := B.notSynchronized
  subst hsz
  have hD := hD0.self (sz := s.heap.size)
  generalize hAe : va_A (WW w σ) s.heap.size = A at hD hC ⊢
  have hA : ∀ q : Nat, s.heap.size ≤ q → A q := fun q h => by rw [← hAe]; exact Or.inr h
  have hS : va_S A s.heap s.heap [] := va_S.rf
  have hP : va_P (wG w) classes (WW w σ) s.heap := hP
  have hl := lv_entry ([.ref (wA w 13)]) (n := 3) (Nat.le_of_ble_eq_true rfl)
  rw [lg_entry_eq]
  generalize (lg_sl ([.ref (wA w 13)]) ++ List.replicate (3 - (lg_sl ([.ref (wA w 13)])).length) Slot.unset).toArray = ls at hl ⊢
  have hl : lv_has ls 3 [(0, .ref (wA w 13))] := hl
  have J110 : ∀ (v2 : Int32) (σ : PPS) (H : Heap) (locs : List Loc) (hP : va_P (wG w) classes (WW w σ) H) (hD : va_D A (WW w σ)) (hS : va_S A s.heap H locs) (hI : inv σ) (ls : Array Slot) (hl : lv_has ls 3 [(0, .ref (wA w 13)), (2, .int v2)]) (hE : w_Reader_readInTag_J110 post v2 σ), W p l e (headSpec ws_Reader_readInTag { frames := 7, cells := 0, slots := 0, locals := 154 }).room s m ([.ref (wA w 13)] : List Value).toArray below meth c H locs 0 0 (MQ below (va_Qi (fun r u => post r u ∧ inv u) (mB (wG w) (WW w) (wI w) A) A) ([.ref (wA w 13)] : List Value).toArray s 0 0 A) (F0 m 110 ls []) := by
    intro  v2 σ H locs hP hD hS hI ls hl hE
    unfold w_Reader_readInTag_J110 at hE
    refine lv_aload_n hx hb d_Reader_readInTag_110 rfl (lv_at hl 0 rfl) ?_
    refine lv_bipush (v := 62) hx hb d_Reader_readInTag_111 (by decide) ?_
    refine mc_i (b0 := (wA w 13)) (As := [.int 62]) (rest := []) ⟨hx, hb, hml, hown, hta⟩ (c_Reader_take l w _ σ 62 _ hI hE) ok_Reader_98 ⟨Nat.le_of_ble_eq_true rfl, Nat.le_of_ble_eq_true rfl⟩ (va_recv hK hP (ci := 4) (q0 := 13) rfl rfl) hP hK hD hS hA hC rfl hl.1 rfl (Nat.le_of_ble_eq_true rfl) d_Reader_readInTag_113 ⟨Nat.zero_le _, Nat.zero_le _⟩ (fun r113 σ113 H locs hE hP hD hS => ?_)
    obtain ⟨hE, hI⟩ := hE
    refine lv_if_ne (tgt := 121) hx hb d_Reader_readInTag_116 (by decide) (fun cc116 => ?_) (fun cc116 => ?_)
    · have hE := hE.2 cc116
      refine lv_aload_n hx hb d_Reader_readInTag_121 rfl (lv_at hl 0 rfl) ?_
      refine lv_iconst (v := 0) hx hb d_Reader_readInTag_122 (by decide) ?_
      refine va_put (D := (wG w)) (ci := 4) (v := .int 0) (ty := .boolean) (C := R_Reader) (T := F_Reader) (N := 6) hx hb hta i_Reader t_Reader t_Reader_ok n_Reader hown hK hP hD hS 13 rfl rfl 4 (by decide) (hta _ fl_Reader_26) (fun _ h9 => h9) rfl (by decide +kernel) rfl rfl (Nat.le_of_ble_eq_true rfl) d_Reader_readInTag_123 (fun H locs hP hD hS => ?_)
      have hP : va_P (wG w) classes (WW w (sIn σ113 0)) H := hP
      have hD : va_D A (WW w (sIn σ113 0)) := hD
      have hI : inv (sIn σ113 0) := hI
      have hE := hE _ rfl
      generalize (sIn σ113 0 : PPS) = σ123 at hP hD hI hE
      refine lv_iload_n hx hb d_Reader_readInTag_126 rfl (lv_at hl 1 rfl) ?_
      refine lv_if_eq (tgt := 134) hx hb d_Reader_readInTag_127 (by decide) (fun cc127 => ?_) (fun cc127 => ?_)
      · have hE := hE.1 cc127
        refine lv_iconst (v := 1) hx hb d_Reader_readInTag_134 (by decide) ?_
        exact W.zret (v := 1) hx hb hr rfl (fun t ht hW => ⟨⟨_, σ123, rfl, ⟨hE, hI⟩, by rw [ht]; exact hP, va_K.moved hW.alike hK, hD⟩, hS.F ht⟩) hS.2.2 d_Reader_readInTag_135
      · have hE := hE.2 cc127
        refine lv_aload_n hx hb d_Reader_readInTag_130 rfl (lv_at hl 0 rfl) ?_
        refine mc_v (b0 := (wA w 13)) (As := []) (rest := []) ⟨hx, hb, hml, hown, hta⟩ (c_Reader_shutElement l w _ σ123  _ hI hE) ok_Reader_126 ⟨Nat.le_of_ble_eq_true rfl, Nat.le_of_ble_eq_true rfl⟩ (va_recv hK hP (ci := 4) (q0 := 13) rfl rfl) hP hK hD hS hA hC rfl hl.1 rfl (Nat.le_of_ble_eq_true rfl) d_Reader_readInTag_131 ⟨Nat.zero_le _, Nat.zero_le _⟩ (fun σ131 H locs hE hP hD hS => ?_)
        obtain ⟨hE, hI⟩ := hE
        refine lv_iconst (v := 1) hx hb d_Reader_readInTag_134 (by decide) ?_
        exact W.zret (v := 1) hx hb hr rfl (fun t ht hW => ⟨⟨_, σ131, rfl, ⟨hE, hI⟩, by rw [ht]; exact hP, va_K.moved hW.alike hK, hD⟩, hS.F ht⟩) hS.2.2 d_Reader_readInTag_135
    · have hE := hE.1 cc116
      refine lv_iconst (v := 0) hx hb d_Reader_readInTag_119 (by decide) ?_
      exact W.zret (v := 0) hx hb hr rfl (fun t ht hW => ⟨⟨_, σ113, rfl, ⟨hE, hI⟩, by rw [ht]; exact hP, va_K.moved hW.alike hK, hD⟩, hS.F ht⟩) hS.2.2 d_Reader_readInTag_120
  have J95 : ∀ (t0 : Int32) (σ : PPS) (H : Heap) (locs : List Loc) (hP : va_P (wG w) classes (WW w σ) H) (hD : va_D A (WW w σ)) (hS : va_S A s.heap H locs) (hI : inv σ) (ls : Array Slot) (hl : lv_has ls 3 [(0, .ref (wA w 13))]) (hE : w_Reader_readInTag_J95 post t0 σ), W p l e (headSpec ws_Reader_readInTag { frames := 7, cells := 0, slots := 0, locals := 154 }).room s m ([.ref (wA w 13)] : List Value).toArray below meth c H locs 0 0 (MQ below (va_Qi (fun r u => post r u ∧ inv u) (mB (wG w) (WW w) (wI w) A) A) ([.ref (wA w 13)] : List Value).toArray s 0 0 A) (F0 m 95 ls [.int t0]) := by
    intro  t0 σ H locs hP hD hS hI ls hl hE
    unfold w_Reader_readInTag_J95 at hE
    refine lv_istore_n (lv' := [(2, .int t0), (0, .ref (wA w 13))]) hx hb d_Reader_readInTag_95 rfl hl (by decide) rfl (fun ls hl => ?_)
    refine lv_iload_n hx hb d_Reader_readInTag_96 rfl (lv_at hl 0 rfl) ?_
    refine lv_if_eq (tgt := 110) hx hb d_Reader_readInTag_97 (by decide) (fun cc97 => ?_) (fun cc97 => ?_)
    · have hE := hE.1 cc97
      exact J110  t0 σ _ _ hP hD hS hI _ (lv_sub hl [1, 0] rfl) hE
    · have hE := hE.2 cc97
      refine lv_aload_n hx hb d_Reader_readInTag_100 rfl (lv_at hl 1 rfl) ?_
      refine lv_dup hx hb d_Reader_readInTag_101 rfl ?_
      refine va_get (D := (wG w)) (ci := 4) (v := .int (pPs σ)) (C := R_Reader) (T := F_Reader) (N := 6) hx hb hta i_Reader hown hK hP 13 rfl rfl 2 (by decide) (hta _ fl_Reader_19) (fun _ h9 => h9) rfl d_Reader_readInTag_102 ?_
      refine lv_iconst (v := 1) hx hb d_Reader_readInTag_105 (by decide) ?_
      refine lv_iadd hx hb d_Reader_readInTag_106 ?_
      refine va_put (D := (wG w)) (ci := 4) (v := .int ((pPs σ) + 1)) (ty := .int) (C := R_Reader) (T := F_Reader) (N := 6) hx hb hta i_Reader t_Reader t_Reader_ok n_Reader hown hK hP hD hS 13 rfl rfl 2 (by decide) (hta _ fl_Reader_19) (fun _ h9 => h9) rfl (by decide +kernel) rfl rfl (Nat.le_of_ble_eq_true rfl) d_Reader_readInTag_107 (fun H locs hP hD hS => ?_)
      have hP : va_P (wG w) classes (WW w (sPs σ ((pPs σ) + 1))) H := hP
      have hD : va_D A (WW w (sPs σ ((pPs σ) + 1))) := hD
      have hI : inv (sPs σ ((pPs σ) + 1)) := hI
      have hE := hE _ rfl
      generalize (sPs σ ((pPs σ) + 1) : PPS) = σ107 at hP hD hI hE
      exact J110  t0 σ107 _ _ hP hD hS hI _ (lv_sub hl [1, 0] rfl) hE
  have J61 : ∀ (σ : PPS) (H : Heap) (locs : List Loc) (hP : va_P (wG w) classes (WW w σ) H) (hD : va_D A (WW w σ)) (hS : va_S A s.heap H locs) (hI : inv σ) (ls : Array Slot) (hl : lv_has ls 3 []) (hE : w_Reader_readInTag_J61 post σ), W p l e (headSpec ws_Reader_readInTag { frames := 7, cells := 0, slots := 0, locals := 154 }).room s m ([.ref (wA w 13)] : List Value).toArray below meth c H locs 0 0 (MQ below (va_Qi (fun r u => post r u ∧ inv u) (mB (wG w) (WW w) (wI w) A) A) ([.ref (wA w 13)] : List Value).toArray s 0 0 A) (F0 m 61 ls []) := by
    intro  σ H locs hP hD hS hI ls hl hE
    unfold w_Reader_readInTag_J61 at hE
    refine lv_iconst (v := 0) hx hb d_Reader_readInTag_61 (by decide) ?_
    refine lv_goto (tgt := 73) hx hb d_Reader_readInTag_62 (by decide) ?_
    exact W.zret (v := 0) hx hb hr rfl (fun t ht hW => ⟨⟨_, σ, rfl, ⟨hE, hI⟩, by rw [ht]; exact hP, va_K.moved hW.alike hK, hD⟩, hS.F ht⟩) hS.2.2 d_Reader_readInTag_73
  unfold w_Reader_readInTag at hE
  refine lv_aload_n hx hb d_Reader_readInTag_0 rfl (lv_at hl 0 rfl) ?_
  refine va_get (D := (wG w)) (ci := 4) (v := .int (pPs σ)) (C := R_Reader) (T := F_Reader) (N := 6) hx hb hta i_Reader hown hK hP 13 rfl rfl 2 (by decide) (hta _ fl_Reader_19) (fun _ h9 => h9) rfl d_Reader_readInTag_1 ?_
  refine lv_istore_n (lv' := [(1, .int (pPs σ)), (0, .ref (wA w 13))]) hx hb d_Reader_readInTag_4 rfl hl (by decide) rfl (fun ls hl => ?_)
  refine lv_aload_n hx hb d_Reader_readInTag_5 rfl (lv_at hl 1 rfl) ?_
  refine mc_v (b0 := (wA w 13)) (As := []) (rest := []) ⟨hx, hb, hml, hown, hta⟩ (c_Reader_skipWhite l w _ σ  _ hI hE) ok_Reader_50 ⟨Nat.le_of_ble_eq_true rfl, Nat.le_of_ble_eq_true rfl⟩ (va_recv hK hP (ci := 4) (q0 := 13) rfl rfl) hP hK hD hS hA hC rfl hl.1 rfl (Nat.le_of_ble_eq_true rfl) d_Reader_readInTag_6 ⟨Nat.zero_le _, Nat.zero_le _⟩ (fun σ6 H locs hE hP hD hS => ?_)
  obtain ⟨hE, hI⟩ := hE
  refine lv_aload_n hx hb d_Reader_readInTag_9 rfl (lv_at hl 1 rfl) ?_
  refine va_get (D := (wG w)) (ci := 4) (v := .ref (wA w 2)) (C := R_Reader) (T := F_Reader) (N := 6) hx hb hta i_Reader hown hK hP 13 rfl rfl 0 (by decide) (hta _ fl_Reader_9) (fun _ h9 => h9) rfl d_Reader_readInTag_10 ?_
  refine lv_aload_n hx hb d_Reader_readInTag_13 rfl (lv_at hl 1 rfl) ?_
  refine va_get (D := (wG w)) (ci := 4) (v := .int (pPs σ6)) (C := R_Reader) (T := F_Reader) (N := 6) hx hb hta i_Reader hown hK hP 13 rfl rfl 2 (by decide) (hta _ fl_Reader_19) (fun _ h9 => h9) rfl d_Reader_readInTag_14 ?_
  refine ro_V (b0 := (wA w 2)) (As := [.int (pPs σ6)]) (rest := []) ⟨hx, hb, hml, hown, hta⟩ (c_Strip_get l (wG w) (wA w 2) (wA w 3) (wI w) 4000 (pTp σ6) (pPs σ6) (fun r => r = sGet (pTp σ6) (pPs σ6)) (l_Strip_get (by decide) (inv.Tp hI) (pPs σ6))) ok_Reader_65 ⟨Nat.le_of_ble_eq_true rfl, Nat.le_of_ble_eq_true rfl⟩ blind_rW (va_recv hK hP (ci := 1) (q0 := 2) rfl rfl) (fun U h1 h2 => ⟨by rw [h1]; exact hP.sub [2, 3] rfl, va_K.moved h2.alike hK⟩) rfl hl.1 rfl (Nat.le_of_ble_eq_true rfl) d_Reader_readInTag_17 ⟨Nat.zero_le _, Nat.zero_le _⟩ (fun r17 hrr => ?_)
  subst hrr
  refine ro_S  (As := [.int (sGet (pTp σ6) (pPs σ6))]) (rest := []) ⟨hx, hb, hml, hown, hta⟩ (f_Signs_beginsName l (sGet (pTp σ6) (pPs σ6))) ok_Reader_88 ⟨Nat.le_of_ble_eq_true rfl, Nat.le_of_ble_eq_true rfl⟩ blind_true  (fun _ _ _ => trivial) rfl hl.1 rfl (Nat.le_of_ble_eq_true rfl) d_Reader_readInTag_20 ⟨Nat.zero_le _, Nat.zero_le _⟩ (fun r20 hrr => ?_)
  subst hrr
  refine lv_if_eq (tgt := 74) hx hb d_Reader_readInTag_23 (by decide) (fun cc23 => ?_) (fun cc23 => ?_)
  · have hE := hE.1 cc23
    refine lv_aload_n hx hb d_Reader_readInTag_74 rfl (lv_at hl 1 rfl) ?_
    refine va_get (D := (wG w)) (ci := 4) (v := .ref (wA w 2)) (C := R_Reader) (T := F_Reader) (N := 6) hx hb hta i_Reader hown hK hP 13 rfl rfl 0 (by decide) (hta _ fl_Reader_9) (fun _ h9 => h9) rfl d_Reader_readInTag_75 ?_
    refine lv_aload_n hx hb d_Reader_readInTag_78 rfl (lv_at hl 1 rfl) ?_
    refine va_get (D := (wG w)) (ci := 4) (v := .int (pPs σ6)) (C := R_Reader) (T := F_Reader) (N := 6) hx hb hta i_Reader hown hK hP 13 rfl rfl 2 (by decide) (hta _ fl_Reader_19) (fun _ h9 => h9) rfl d_Reader_readInTag_79 ?_
    refine ro_V (b0 := (wA w 2)) (As := [.int (pPs σ6)]) (rest := []) ⟨hx, hb, hml, hown, hta⟩ (c_Strip_get l (wG w) (wA w 2) (wA w 3) (wI w) 4000 (pTp σ6) (pPs σ6) (fun r => r = sGet (pTp σ6) (pPs σ6)) (l_Strip_get (by decide) (inv.Tp hI) (pPs σ6))) ok_Reader_65 ⟨Nat.le_of_ble_eq_true rfl, Nat.le_of_ble_eq_true rfl⟩ blind_rW (va_recv hK hP (ci := 1) (q0 := 2) rfl rfl) (fun U h1 h2 => ⟨by rw [h1]; exact hP.sub [2, 3] rfl, va_K.moved h2.alike hK⟩) rfl hl.1 rfl (Nat.le_of_ble_eq_true rfl) d_Reader_readInTag_82 ⟨Nat.zero_le _, Nat.zero_le _⟩ (fun r82 hrr => ?_)
    subst hrr
    refine lv_bipush (v := 47) hx hb d_Reader_readInTag_85 (by decide) ?_
    refine lv_icmp_ne (tgt := 94) hx hb d_Reader_readInTag_87 (by decide) (fun cc87 => ?_) (fun cc87 => ?_)
    · have hE := hE.2 cc87
      refine lv_iconst (v := 0) hx hb d_Reader_readInTag_94 (by decide) ?_
      exact J95  0 σ6 _ _ hP hD hS hI _ (lv_sub hl [1] rfl) hE
    · have hE := hE.1 cc87
      refine lv_iconst (v := 1) hx hb d_Reader_readInTag_90 (by decide) ?_
      refine lv_goto (tgt := 95) hx hb d_Reader_readInTag_91 (by decide) ?_
      exact J95  1 σ6 _ _ hP hD hS hI _ (lv_sub hl [1] rfl) hE
  · have hE := hE.2 cc23
    refine lv_aload_n hx hb d_Reader_readInTag_26 rfl (lv_at hl 1 rfl) ?_
    refine va_get (D := (wG w)) (ci := 4) (v := .int (pPs σ6)) (C := R_Reader) (T := F_Reader) (N := 6) hx hb hta i_Reader hown hK hP 13 rfl rfl 2 (by decide) (hta _ fl_Reader_19) (fun _ h9 => h9) rfl d_Reader_readInTag_27 ?_
    refine lv_iload_n hx hb d_Reader_readInTag_30 rfl (lv_at hl 0 rfl) ?_
    refine lv_icmp_le (tgt := 65) hx hb d_Reader_readInTag_31 (by decide) (fun cc31 => ?_) (fun cc31 => ?_)
    · have hE := hE.1 cc31
      refine lv_aload_n hx hb d_Reader_readInTag_65 rfl (lv_at hl 1 rfl) ?_
      refine lv_aload_n hx hb d_Reader_readInTag_66 rfl (lv_at hl 1 rfl) ?_
      refine va_get (D := (wG w)) (ci := 4) (v := .int (pPs σ6)) (C := R_Reader) (T := F_Reader) (N := 6) hx hb hta i_Reader hown hK hP 13 rfl rfl 2 (by decide) (hta _ fl_Reader_19) (fun _ h9 => h9) rfl d_Reader_readInTag_67 ?_
      refine mc_i (b0 := (wA w 13)) (As := [.int (pPs σ6)]) (rest := []) ⟨hx, hb, hml, hown, hta⟩ (c_Reader_refuse l w _ σ6 (pPs σ6) _ hI hE) ok_Reader_75 ⟨Nat.le_of_ble_eq_true rfl, Nat.le_of_ble_eq_true rfl⟩ (va_recv hK hP (ci := 4) (q0 := 13) rfl rfl) hP hK hD hS hA hC rfl hl.1 rfl (Nat.le_of_ble_eq_true rfl) d_Reader_readInTag_70 ⟨Nat.zero_le _, Nat.zero_le _⟩ (fun r70 σ70 H locs hE hP hD hS => ?_)
      obtain ⟨hE, hI⟩ := hE
      obtain ⟨hN, hE⟩ := hE
      exact W.zret (v := r70) hx hb hr hN (fun t ht hW => ⟨⟨_, σ70, rfl, ⟨hE, hI⟩, by rw [ht]; exact hP, va_K.moved hW.alike hK, hD⟩, hS.F ht⟩) hS.2.2 d_Reader_readInTag_73
    · have hE := hE.2 cc31
      refine lv_aload_n hx hb d_Reader_readInTag_34 rfl (lv_at hl 1 rfl) ?_
      refine mc_i (b0 := (wA w 13)) (As := []) (rest := []) ⟨hx, hb, hml, hown, hta⟩ (c_Reader_beginAttribute l w _ σ6  _ hI hE) ok_Reader_117 ⟨Nat.le_of_ble_eq_true rfl, Nat.le_of_ble_eq_true rfl⟩ (va_recv hK hP (ci := 4) (q0 := 13) rfl rfl) hP hK hD hS hA hC rfl hl.1 rfl (Nat.le_of_ble_eq_true rfl) d_Reader_readInTag_35 ⟨Nat.zero_le _, Nat.zero_le _⟩ (fun r35 σ35 H locs hE hP hD hS => ?_)
      obtain ⟨hE, hI⟩ := hE
      refine lv_if_eq (tgt := 61) hx hb d_Reader_readInTag_38 (by decide) (fun cc38 => ?_) (fun cc38 => ?_)
      · have hE := hE.1 cc38
        exact J61  σ35 _ _ hP hD hS hI _ (lv_sub hl [] rfl) hE
      · have hE := hE.2 cc38
        refine lv_aload_n hx hb d_Reader_readInTag_41 rfl (lv_at hl 1 rfl) ?_
        refine lv_bipush (v := 34) hx hb d_Reader_readInTag_42 (by decide) ?_
        refine mc_i (b0 := (wA w 13)) (As := [.int 34]) (rest := []) ⟨hx, hb, hml, hown, hta⟩ (c_Reader_takeCharacters l w _ σ35 34 _ hI hE) ok_Reader_120 ⟨Nat.le_of_ble_eq_true rfl, Nat.le_of_ble_eq_true rfl⟩ (va_recv hK hP (ci := 4) (q0 := 13) rfl rfl) hP hK hD hS hA hC rfl hl.1 rfl (Nat.le_of_ble_eq_true rfl) d_Reader_readInTag_44 ⟨Nat.zero_le _, Nat.zero_le _⟩ (fun r44 σ44 H locs hE hP hD hS => ?_)
        obtain ⟨hE, hI⟩ := hE
        refine lv_if_eq (tgt := 61) hx hb d_Reader_readInTag_47 (by decide) (fun cc47 => ?_) (fun cc47 => ?_)
        · have hE := hE.1 cc47
          exact J61  σ44 _ _ hP hD hS hI _ (lv_sub hl [] rfl) hE
        · have hE := hE.2 cc47
          refine lv_aload_n hx hb d_Reader_readInTag_50 rfl (lv_at hl 1 rfl) ?_
          refine mc_i (b0 := (wA w 13)) (As := []) (rest := []) ⟨hx, hb, hml, hown, hta⟩ (c_Reader_endAttribute l w _ σ44  _ hI hE) ok_Reader_123 ⟨Nat.le_of_ble_eq_true rfl, Nat.le_of_ble_eq_true rfl⟩ (va_recv hK hP (ci := 4) (q0 := 13) rfl rfl) hP hK hD hS hA hC rfl hl.1 rfl (Nat.le_of_ble_eq_true rfl) d_Reader_readInTag_51 ⟨Nat.zero_le _, Nat.zero_le _⟩ (fun r51 σ51 H locs hE hP hD hS => ?_)
          obtain ⟨hE, hI⟩ := hE
          refine lv_if_eq (tgt := 61) hx hb d_Reader_readInTag_54 (by decide) (fun cc54 => ?_) (fun cc54 => ?_)
          · have hE := hE.1 cc54
            exact J61  σ51 _ _ hP hD hS hI _ (lv_sub hl [] rfl) hE
          · have hE := hE.2 cc54
            refine lv_iconst (v := 1) hx hb d_Reader_readInTag_57 (by decide) ?_
            refine lv_goto (tgt := 73) hx hb d_Reader_readInTag_58 (by decide) ?_
            exact W.zret (v := 1) hx hb hr rfl (fun t ht hW => ⟨⟨_, σ51, rfl, ⟨hE, hI⟩, by rw [ht]; exact hP, va_K.moved hW.alike hK, hD⟩, hS.F ht⟩) hS.2.2 d_Reader_readInTag_73
theorem ok_Reader_164 : okV "PlainPages$Reader" 164 R_Reader y_Reader_isOpenName b_Reader_isOpenName 5 (some .boolean) 1 := ⟨aW_in 602 (by decide +kernel) rfl, aW_in 604 (by decide +kernel) rfl, aW_in 20 (by decide +kernel) rfl, aW_in 89 (by decide +kernel) rfl, cd_Reader_isOpenName, rfl, by decide +kernel, by decide +kernel, by decide +kernel⟩
theorem d_Reader_endElement_0 : decode b_Reader_endElement 0 = .ok (.aload_n 0, 1) := by decide +kernel
theorem d_Reader_endElement_1 : decode b_Reader_endElement 1 = .ok (.dup, 1) := by decide +kernel
theorem d_Reader_endElement_2 : decode b_Reader_endElement 2 = .ok (.getfield 19, 3) := by decide +kernel
theorem d_Reader_endElement_5 : decode b_Reader_endElement 5 = .ok (.iconst 2, 1) := by decide +kernel
theorem d_Reader_endElement_6 : decode b_Reader_endElement 6 = .ok (.iadd, 1) := by decide +kernel
theorem d_Reader_endElement_7 : decode b_Reader_endElement 7 = .ok (.putfield 19, 3) := by decide +kernel
theorem d_Reader_endElement_10 : decode b_Reader_endElement 10 = .ok (.aload_n 0, 1) := by decide +kernel
theorem d_Reader_endElement_11 : decode b_Reader_endElement 11 = .ok (.getfield 19, 3) := by decide +kernel
theorem d_Reader_endElement_14 : decode b_Reader_endElement 14 = .ok (.istore_n 1, 1) := by decide +kernel
theorem d_Reader_endElement_15 : decode b_Reader_endElement 15 = .ok (.aload_n 0, 1) := by decide +kernel
theorem d_Reader_endElement_16 : decode b_Reader_endElement 16 = .ok (.invokevirtual 101, 3) := by decide +kernel
theorem d_Reader_endElement_19 : decode b_Reader_endElement 19 = .ok (.ifCond .ne 5, 3) := by decide +kernel
theorem d_Reader_endElement_22 : decode b_Reader_endElement 22 = .ok (.iconst 0, 1) := by decide +kernel
theorem d_Reader_endElement_23 : decode b_Reader_endElement 23 = .ok (.ireturn, 1) := by decide +kernel
theorem d_Reader_endElement_24 : decode b_Reader_endElement 24 = .ok (.aload_n 0, 1) := by decide +kernel
theorem d_Reader_endElement_25 : decode b_Reader_endElement 25 = .ok (.iload_n 1, 1) := by decide +kernel
theorem d_Reader_endElement_26 : decode b_Reader_endElement 26 = .ok (.invokevirtual 164, 3) := by decide +kernel
theorem d_Reader_endElement_29 : decode b_Reader_endElement 29 = .ok (.ifCond .ne 9, 3) := by decide +kernel
theorem d_Reader_endElement_32 : decode b_Reader_endElement 32 = .ok (.aload_n 0, 1) := by decide +kernel
theorem d_Reader_endElement_33 : decode b_Reader_endElement 33 = .ok (.iload_n 1, 1) := by decide +kernel
theorem d_Reader_endElement_34 : decode b_Reader_endElement 34 = .ok (.invokevirtual 75, 3) := by decide +kernel
theorem d_Reader_endElement_37 : decode b_Reader_endElement 37 = .ok (.ireturn, 1) := by decide +kernel
theorem d_Reader_endElement_38 : decode b_Reader_endElement 38 = .ok (.aload_n 0, 1) := by decide +kernel
theorem d_Reader_endElement_39 : decode b_Reader_endElement 39 = .ok (.invokevirtual 50, 3) := by decide +kernel
theorem d_Reader_endElement_42 : decode b_Reader_endElement 42 = .ok (.aload_n 0, 1) := by decide +kernel
theorem d_Reader_endElement_43 : decode b_Reader_endElement 43 = .ok (.bipush 62, 2) := by decide +kernel
theorem d_Reader_endElement_45 : decode b_Reader_endElement 45 = .ok (.invokevirtual 98, 3) := by decide +kernel
theorem d_Reader_endElement_48 : decode b_Reader_endElement 48 = .ok (.ifCond .ne 5, 3) := by decide +kernel
theorem d_Reader_endElement_51 : decode b_Reader_endElement 51 = .ok (.iconst 0, 1) := by decide +kernel
theorem d_Reader_endElement_52 : decode b_Reader_endElement 52 = .ok (.ireturn, 1) := by decide +kernel
theorem d_Reader_endElement_53 : decode b_Reader_endElement 53 = .ok (.aload_n 0, 1) := by decide +kernel
theorem d_Reader_endElement_54 : decode b_Reader_endElement 54 = .ok (.invokevirtual 126, 3) := by decide +kernel
theorem d_Reader_endElement_57 : decode b_Reader_endElement 57 = .ok (.iconst 1, 1) := by decide +kernel
theorem d_Reader_endElement_58 : decode b_Reader_endElement 58 = .ok (.ireturn, 1) := by decide +kernel
def w_Reader_endElement  (σ : PPS)  (post : Int32 → PPS → Prop) : Prop := (∀ σ7 : PPS, σ7 = sPs σ ((pPs σ) + 2) → w_Reader_passName σ7  (fun r16 σ16 => ((r16 = 0 → post 0 σ16) ∧ (¬ r16 = 0 → w_Reader_isOpenName σ16 (pPs σ7) (fun r26 => ((r26 = 0 → w_Reader_refuse σ16 (pPs σ7) (fun r34 σ34 => (narrow .boolean (.int r34) = .int r34 ∧ post r34 σ34))) ∧ (¬ r26 = 0 → w_Reader_skipWhite σ16  (fun σ39 => w_Reader_take σ39 62 (fun r45 σ45 => ((r45 = 0 → post 0 σ45) ∧ (¬ r45 = 0 → w_Reader_shutElement σ45  (fun σ54 => post 1 σ54))))))))))))
set_option maxHeartbeats 4000000 in
set_option maxRecDepth 100000 in
theorem c_Reader_endElement (l : Launch) (w : WD) (sz : Nat) (σ : PPS)   (post : Int32 → PPS → Prop) (hI : inv σ) (hE : w_Reader_endElement σ post) : Met l y_Reader_endElement ws_Reader_endElement { frames := 3, cells := 0, slots := 0, locals := 69 } (va_Pc [.ref (wA w 13)] (gW w σ sz)) (va_Qi (fun r u => post r u ∧ inv u) (mB (wG w) (WW w) (wI w) (va_A (WW w σ) sz)) (va_A (WW w σ) sz)) 0 0 (va_A (WW w σ) sz) := by
  refine Met.ofW (cc := b_Reader_endElement) (maxL := 2) (ret := (some .boolean)) (by decide) rfl ?_
  intro p e s m args below meth c s₁ B hml hv
  obtain ⟨rfl, hsz, hP, hK, hD0, hC⟩ := hv
  have hx := B.exec
  have hb := B.bytes
  have hr := B.returns
  have hta : ∀ w ∈ aW, w.before _ s = true := fun w h => atoms_spec (ws := ws_Reader_endElement) B.pre w (List.mem_cons_of_mem _ h)
  have hown : s.vm.findClass R_Reader = some m.cls := findClass_of_methodNamed B.named
  have hlocks := B.notSynchronized
  subst hsz
  have hD := hD0.self (sz := s.heap.size)
  generalize hAe : va_A (WW w σ) s.heap.size = A at hD hC ⊢
  have hA : ∀ q : Nat, s.heap.size ≤ q → A q := fun q h => by rw [← hAe]; exact Or.inr h
  have hS : va_S A s.heap s.heap [] := va_S.rf
  have hP : va_P (wG w) classes (WW w σ) s.heap := hP
  have hl := lv_entry ([.ref (wA w 13)]) (n := 2) (Nat.le_of_ble_eq_true rfl)
  rw [lg_entry_eq]
  generalize (lg_sl ([.ref (wA w 13)]) ++ List.replicate (2 - (lg_sl ([.ref (wA w 13)])).length) Slot.unset).toArray = ls at hl ⊢
  have hl : lv_has ls 2 [(0, .ref (wA w 13))] := hl
  unfold w_Reader_endElement at hE
  refine lv_aload_n hx hb d_Reader_endElement_0 rfl (lv_at hl 0 rfl) ?_
  refine lv_dup hx hb d_Reader_endElement_1 rfl ?_
  refine va_get (D := (wG w)) (ci := 4) (v := .int (pPs σ)) (C := R_Reader) (T := F_Reader) (N := 6) hx hb hta i_Reader hown hK hP 13 rfl rfl 2 (by decide) (hta _ fl_Reader_19) (fun _ h9 => h9) rfl d_Reader_endElement_2 ?_
  refine lv_iconst (v := 2) hx hb d_Reader_endElement_5 (by decide) ?_
  refine lv_iadd hx hb d_Reader_endElement_6 ?_
  refine va_put (D := (wG w)) (ci := 4) (v := .int ((pPs σ) + 2)) (ty := .int) (C := R_Reader) (T := F_Reader) (N := 6) hx hb hta i_Reader t_Reader t_Reader_ok n_Reader hown hK hP hD hS 13 rfl rfl 2 (by decide) (hta _ fl_Reader_19) (fun _ h9 => h9) rfl (by decide +kernel) rfl rfl (Nat.le_of_ble_eq_true rfl) d_Reader_endElement_7 (fun H locs hP hD hS => ?_)
  have hP : va_P (wG w) classes (WW w (sPs σ ((pPs σ) + 2))) H := hP
  have hD : va_D A (WW w (sPs σ ((pPs σ) + 2))) := hD
  have hI : inv (sPs σ ((pPs σ) + 2)) := hI
  have hE := hE _ rfl
  generalize (sPs σ ((pPs σ) + 2) : PPS) = σ7 at hP hD hI hE
  refine lv_aload_n hx hb d_Reader_endElement_10 rfl (lv_at hl 0 rfl) ?_
  refine va_get (D := (wG w)) (ci := 4) (v := .int (pPs σ7)) (C := R_Reader) (T := F_Reader) (N := 6) hx hb hta i_Reader hown hK hP 13 rfl rfl 2 (by decide) (hta _ fl_Reader_19) (fun _ h9 => h9) rfl d_Reader_endElement_11 ?_
  refine lv_istore_n (lv' := [(1, .int (pPs σ7)), (0, .ref (wA w 13))]) hx hb d_Reader_endElement_14 rfl hl (by decide) rfl (fun ls hl => ?_)
  refine lv_aload_n hx hb d_Reader_endElement_15 rfl (lv_at hl 1 rfl) ?_
  refine mc_i (b0 := (wA w 13)) (As := []) (rest := []) ⟨hx, hb, hml, hown, hta⟩ (c_Reader_passName l w _ σ7  _ hI hE) ok_Reader_101 ⟨Nat.le_of_ble_eq_true rfl, Nat.le_of_ble_eq_true rfl⟩ (va_recv hK hP (ci := 4) (q0 := 13) rfl rfl) hP hK hD hS hA hC rfl hl.1 rfl (Nat.le_of_ble_eq_true rfl) d_Reader_endElement_16 ⟨Nat.zero_le _, Nat.zero_le _⟩ (fun r16 σ16 H locs hE hP hD hS => ?_)
  obtain ⟨hE, hI⟩ := hE
  refine lv_if_ne (tgt := 24) hx hb d_Reader_endElement_19 (by decide) (fun cc19 => ?_) (fun cc19 => ?_)
  · have hE := hE.2 cc19
    refine lv_aload_n hx hb d_Reader_endElement_24 rfl (lv_at hl 1 rfl) ?_
    refine lv_iload_n hx hb d_Reader_endElement_25 rfl (lv_at hl 0 rfl) ?_
    refine ro_V (b0 := (wA w 13)) (As := [.int (pPs σ7)]) (rest := []) ⟨hx, hb, hml, hown, hta⟩ (c_Reader_isOpenName l w σ16 (pPs σ7)  _ hI hE) ok_Reader_164 ⟨Nat.le_of_ble_eq_true rfl, Nat.le_of_ble_eq_true rfl⟩ blind_fW (va_recv hK hP (ci := 4) (q0 := 13) rfl rfl) (fW_of hP hK hC hS) rfl hl.1 rfl (Nat.le_of_ble_eq_true rfl) d_Reader_endElement_26 ⟨Nat.zero_le _, Nat.zero_le _⟩ (fun r26 hE => ?_)
    refine lv_if_ne (tgt := 38) hx hb d_Reader_endElement_29 (by decide) (fun cc29 => ?_) (fun cc29 => ?_)
    · have hE := hE.2 cc29
      refine lv_aload_n hx hb d_Reader_endElement_38 rfl (lv_at hl 1 rfl) ?_
      refine mc_v (b0 := (wA w 13)) (As := []) (rest := []) ⟨hx, hb, hml, hown, hta⟩ (c_Reader_skipWhite l w _ σ16  _ hI hE) ok_Reader_50 ⟨Nat.le_of_ble_eq_true rfl, Nat.le_of_ble_eq_true rfl⟩ (va_recv hK hP (ci := 4) (q0 := 13) rfl rfl) hP hK hD hS hA hC rfl hl.1 rfl (Nat.le_of_ble_eq_true rfl) d_Reader_endElement_39 ⟨Nat.zero_le _, Nat.zero_le _⟩ (fun σ39 H locs hE hP hD hS => ?_)
      obtain ⟨hE, hI⟩ := hE
      refine lv_aload_n hx hb d_Reader_endElement_42 rfl (lv_at hl 1 rfl) ?_
      refine lv_bipush (v := 62) hx hb d_Reader_endElement_43 (by decide) ?_
      refine mc_i (b0 := (wA w 13)) (As := [.int 62]) (rest := []) ⟨hx, hb, hml, hown, hta⟩ (c_Reader_take l w _ σ39 62 _ hI hE) ok_Reader_98 ⟨Nat.le_of_ble_eq_true rfl, Nat.le_of_ble_eq_true rfl⟩ (va_recv hK hP (ci := 4) (q0 := 13) rfl rfl) hP hK hD hS hA hC rfl hl.1 rfl (Nat.le_of_ble_eq_true rfl) d_Reader_endElement_45 ⟨Nat.zero_le _, Nat.zero_le _⟩ (fun r45 σ45 H locs hE hP hD hS => ?_)
      obtain ⟨hE, hI⟩ := hE
      refine lv_if_ne (tgt := 53) hx hb d_Reader_endElement_48 (by decide) (fun cc48 => ?_) (fun cc48 => ?_)
      · have hE := hE.2 cc48
        refine lv_aload_n hx hb d_Reader_endElement_53 rfl (lv_at hl 1 rfl) ?_
        refine mc_v (b0 := (wA w 13)) (As := []) (rest := []) ⟨hx, hb, hml, hown, hta⟩ (c_Reader_shutElement l w _ σ45  _ hI hE) ok_Reader_126 ⟨Nat.le_of_ble_eq_true rfl, Nat.le_of_ble_eq_true rfl⟩ (va_recv hK hP (ci := 4) (q0 := 13) rfl rfl) hP hK hD hS hA hC rfl hl.1 rfl (Nat.le_of_ble_eq_true rfl) d_Reader_endElement_54 ⟨Nat.zero_le _, Nat.zero_le _⟩ (fun σ54 H locs hE hP hD hS => ?_)
        obtain ⟨hE, hI⟩ := hE
        refine lv_iconst (v := 1) hx hb d_Reader_endElement_57 (by decide) ?_
        exact W.zret (v := 1) hx hb hr rfl (fun t ht hW => ⟨⟨_, σ54, rfl, ⟨hE, hI⟩, by rw [ht]; exact hP, va_K.moved hW.alike hK, hD⟩, hS.F ht⟩) hS.2.2 d_Reader_endElement_58
      · have hE := hE.1 cc48
        refine lv_iconst (v := 0) hx hb d_Reader_endElement_51 (by decide) ?_
        exact W.zret (v := 0) hx hb hr rfl (fun t ht hW => ⟨⟨_, σ45, rfl, ⟨hE, hI⟩, by rw [ht]; exact hP, va_K.moved hW.alike hK, hD⟩, hS.F ht⟩) hS.2.2 d_Reader_endElement_52
    · have hE := hE.1 cc29
      refine lv_aload_n hx hb d_Reader_endElement_32 rfl (lv_at hl 1 rfl) ?_
      refine lv_iload_n hx hb d_Reader_endElement_33 rfl (lv_at hl 0 rfl) ?_
      refine mc_i (b0 := (wA w 13)) (As := [.int (pPs σ7)]) (rest := []) ⟨hx, hb, hml, hown, hta⟩ (c_Reader_refuse l w _ σ16 (pPs σ7) _ hI hE) ok_Reader_75 ⟨Nat.le_of_ble_eq_true rfl, Nat.le_of_ble_eq_true rfl⟩ (va_recv hK hP (ci := 4) (q0 := 13) rfl rfl) hP hK hD hS hA hC rfl hl.1 rfl (Nat.le_of_ble_eq_true rfl) d_Reader_endElement_34 ⟨Nat.zero_le _, Nat.zero_le _⟩ (fun r34 σ34 H locs hE hP hD hS => ?_)
      obtain ⟨hE, hI⟩ := hE
      obtain ⟨hN, hE⟩ := hE
      exact W.zret (v := r34) hx hb hr hN (fun t ht hW => ⟨⟨_, σ34, rfl, ⟨hE, hI⟩, by rw [ht]; exact hP, va_K.moved hW.alike hK, hD⟩, hS.F ht⟩) hS.2.2 d_Reader_endElement_37
  · have hE := hE.1 cc19
    refine lv_iconst (v := 0) hx hb d_Reader_endElement_22 (by decide) ?_
    exact W.zret (v := 0) hx hb hr rfl (fun t ht hW => ⟨⟨_, σ16, rfl, ⟨hE, hI⟩, by rw [ht]; exact hP, va_K.moved hW.alike hK, hD⟩, hS.F ht⟩) hS.2.2 d_Reader_endElement_23
theorem ok_Reader_155 : okV "PlainPages$Reader" 155 R_Book y_Book_elementCount b_Book_elementCount 1 (some .int) 0 := ⟨aW_in 607 (by decide +kernel) rfl, aW_in 362 (by decide +kernel) rfl, aW_in 363 (by decide +kernel) rfl, aW_in 87 (by decide +kernel) rfl, cd_Book_elementCount, rfl, by decide +kernel, by decide +kernel, by decide +kernel⟩
theorem ok_Reader_152 : okV "PlainPages$Reader" 152 R_Reader y_Reader_endElement b_Reader_endElement 2 (some .boolean) 0 := ⟨aW_in 598 (by decide +kernel) rfl, aW_in 600 (by decide +kernel) rfl, aW_in 19 (by decide +kernel) rfl, aW_in 89 (by decide +kernel) rfl, cd_Reader_endElement, rfl, by decide +kernel, by decide +kernel, by decide +kernel⟩
theorem ok_Reader_53 : okV "PlainPages$Reader" 53 R_Reader y_Reader_beginElement b_Reader_beginElement 2 (some .boolean) 0 := ⟨aW_in 448 (by decide +kernel) rfl, aW_in 450 (by decide +kernel) rfl, aW_in 3 (by decide +kernel) rfl, aW_in 89 (by decide +kernel) rfl, cd_Reader_beginElement, rfl, by decide +kernel, by decide +kernel, by decide +kernel⟩
theorem d_Reader_readTag_0 : decode b_Reader_readTag 0 = .ok (.aload_n 0, 1) := by decide +kernel
theorem d_Reader_readTag_1 : decode b_Reader_readTag 1 = .ok (.getfield 9, 3) := by decide +kernel
theorem d_Reader_readTag_4 : decode b_Reader_readTag 4 = .ok (.aload_n 0, 1) := by decide +kernel
theorem d_Reader_readTag_5 : decode b_Reader_readTag 5 = .ok (.getfield 19, 3) := by decide +kernel
theorem d_Reader_readTag_8 : decode b_Reader_readTag 8 = .ok (.iconst 1, 1) := by decide +kernel
theorem d_Reader_readTag_9 : decode b_Reader_readTag 9 = .ok (.iadd, 1) := by decide +kernel
theorem d_Reader_readTag_10 : decode b_Reader_readTag 10 = .ok (.invokevirtual 65, 3) := by decide +kernel
theorem d_Reader_readTag_13 : decode b_Reader_readTag 13 = .ok (.bipush 47, 2) := by decide +kernel
theorem d_Reader_readTag_15 : decode b_Reader_readTag 15 = .ok (.if_icmp .ne 8, 3) := by decide +kernel
theorem d_Reader_readTag_18 : decode b_Reader_readTag 18 = .ok (.aload_n 0, 1) := by decide +kernel
theorem d_Reader_readTag_19 : decode b_Reader_readTag 19 = .ok (.invokevirtual 152, 3) := by decide +kernel
theorem d_Reader_readTag_22 : decode b_Reader_readTag 22 = .ok (.ireturn, 1) := by decide +kernel
theorem d_Reader_readTag_23 : decode b_Reader_readTag 23 = .ok (.aload_n 0, 1) := by decide +kernel
theorem d_Reader_readTag_24 : decode b_Reader_readTag 24 = .ok (.getfield 15, 3) := by decide +kernel
theorem d_Reader_readTag_27 : decode b_Reader_readTag 27 = .ok (.invokevirtual 155, 3) := by decide +kernel
theorem d_Reader_readTag_30 : decode b_Reader_readTag 30 = .ok (.sipush 300, 3) := by decide +kernel
theorem d_Reader_readTag_33 : decode b_Reader_readTag 33 = .ok (.if_icmp .ge 21, 3) := by decide +kernel
theorem d_Reader_readTag_36 : decode b_Reader_readTag 36 = .ok (.aload_n 0, 1) := by decide +kernel
theorem d_Reader_readTag_37 : decode b_Reader_readTag 37 = .ok (.getfield 15, 3) := by decide +kernel
theorem d_Reader_readTag_40 : decode b_Reader_readTag 40 = .ok (.aload_n 0, 1) := by decide +kernel
theorem d_Reader_readTag_41 : decode b_Reader_readTag 41 = .ok (.getfield 23, 3) := by decide +kernel
theorem d_Reader_readTag_44 : decode b_Reader_readTag 44 = .ok (.bipush 7, 2) := by decide +kernel
theorem d_Reader_readTag_46 : decode b_Reader_readTag 46 = .ok (.invokevirtual 158, 3) := by decide +kernel
theorem d_Reader_readTag_49 : decode b_Reader_readTag 49 = .ok (.bipush 40, 2) := by decide +kernel
theorem d_Reader_readTag_51 : decode b_Reader_readTag 51 = .ok (.if_icmp .lt 7, 3) := by decide +kernel
theorem d_Reader_readTag_54 : decode b_Reader_readTag 54 = .ok (.iconst 1, 1) := by decide +kernel
theorem d_Reader_readTag_55 : decode b_Reader_readTag 55 = .ok (.goto 4, 3) := by decide +kernel
theorem d_Reader_readTag_58 : decode b_Reader_readTag 58 = .ok (.iconst 0, 1) := by decide +kernel
theorem d_Reader_readTag_59 : decode b_Reader_readTag 59 = .ok (.istore_n 1, 1) := by decide +kernel
theorem d_Reader_readTag_60 : decode b_Reader_readTag 60 = .ok (.iload_n 1, 1) := by decide +kernel
theorem d_Reader_readTag_61 : decode b_Reader_readTag 61 = .ok (.ifCond .eq 14, 3) := by decide +kernel
theorem d_Reader_readTag_64 : decode b_Reader_readTag 64 = .ok (.aload_n 0, 1) := by decide +kernel
theorem d_Reader_readTag_65 : decode b_Reader_readTag 65 = .ok (.aload_n 0, 1) := by decide +kernel
theorem d_Reader_readTag_66 : decode b_Reader_readTag 66 = .ok (.getfield 19, 3) := by decide +kernel
theorem d_Reader_readTag_69 : decode b_Reader_readTag 69 = .ok (.invokevirtual 75, 3) := by decide +kernel
theorem d_Reader_readTag_72 : decode b_Reader_readTag 72 = .ok (.goto 7, 3) := by decide +kernel
theorem d_Reader_readTag_75 : decode b_Reader_readTag 75 = .ok (.aload_n 0, 1) := by decide +kernel
theorem d_Reader_readTag_76 : decode b_Reader_readTag 76 = .ok (.invokevirtual 53, 3) := by decide +kernel
theorem d_Reader_readTag_79 : decode b_Reader_readTag 79 = .ok (.ireturn, 1) := by decide +kernel
def w_Reader_readTag_J59   (post : Int32 → PPS → Prop) (t0 : Int32) (σ : PPS) : Prop := ((t0 = 0 → w_Reader_beginElement σ  (fun r76 σ76 => (narrow .boolean (.int r76) = .int r76 ∧ post r76 σ76))) ∧ (¬ t0 = 0 → w_Reader_refuse σ (pPs σ) (fun r69 σ69 => (narrow .boolean (.int r69) = .int r69 ∧ post r69 σ69))))
def w_Reader_readTag_J54   (post : Int32 → PPS → Prop) (σ : PPS) : Prop := w_Reader_readTag_J59 post 1 σ
def w_Reader_readTag  (σ : PPS)  (post : Int32 → PPS → Prop) : Prop := (((sGet (pTp σ) ((pPs σ) + 1)) = 47 → w_Reader_endElement σ  (fun r19 σ19 => (narrow .boolean (.int r19) = .int r19 ∧ post r19 σ19))) ∧ (¬ (sGet (pTp σ) ((pPs σ) + 1)) = 47 → ((300 ≤ (pEl σ) → w_Reader_readTag_J54 post σ) ∧ (¬ 300 ≤ (pEl σ) → (((tGet 14 (pNd σ) (pOp σ) 7) < 40 → w_Reader_readTag_J59 post 0 σ) ∧ (¬ (tGet 14 (pNd σ) (pOp σ) 7) < 40 → w_Reader_readTag_J54 post σ))))))
set_option maxHeartbeats 4000000 in
set_option maxRecDepth 100000 in
theorem c_Reader_readTag (l : Launch) (w : WD) (sz : Nat) (σ : PPS)   (post : Int32 → PPS → Prop) (hI : inv σ) (hE : w_Reader_readTag σ post) : Met l y_Reader_readTag ws_Reader_readTag { frames := 7, cells := 0, slots := 0, locals := 154 } (va_Pc [.ref (wA w 13)] (gW w σ sz)) (va_Qi (fun r u => post r u ∧ inv u) (mB (wG w) (WW w) (wI w) (va_A (WW w σ) sz)) (va_A (WW w σ) sz)) 0 0 (va_A (WW w σ) sz) := by
  refine Met.ofW (cc := b_Reader_readTag) (maxL := 2) (ret := (some .boolean)) (by decide) rfl ?_
  intro p e s m args below meth c s₁ B hml hv
  obtain ⟨rfl, hsz, hP, hK, hD0, hC⟩ := hv
  have hx := B.exec
  have hb := B.bytes
  have hr := B.returns
  have hta : ∀ w ∈ aW, w.before _ s = true := fun w h => atoms_spec (ws := ws_Reader_readTag) B.pre w (List.mem_cons_of_mem _ h)
  have hown : s.vm.findClass R_Reader = some m.cls := findClass_of_methodNamed B.named
  have hlocks := B.notSynchronized
  subst hsz
  have hD := hD0.self (sz := s.heap.size)
  generalize hAe : va_A (WW w σ) s.heap.size = A at hD hC ⊢
  have hA : ∀ q : Nat, s.heap.size ≤ q → A q := fun q h => by rw [← hAe]; exact Or.inr h
  have hS : va_S A s.heap s.heap [] := va_S.rf
  have hP : va_P (wG w) classes (WW w σ) s.heap := hP
  have hl := lv_entry ([.ref (wA w 13)]) (n := 2) (Nat.le_of_ble_eq_true rfl)
  rw [lg_entry_eq]
  generalize (lg_sl ([.ref (wA w 13)]) ++ List.replicate (2 - (lg_sl ([.ref (wA w 13)])).length) Slot.unset).toArray = ls at hl ⊢
  have hl : lv_has ls 2 [(0, .ref (wA w 13))] := hl
  have J59 : ∀ (t0 : Int32) (σ : PPS) (H : Heap) (locs : List Loc) (hP : va_P (wG w) classes (WW w σ) H) (hD : va_D A (WW w σ)) (hS : va_S A s.heap H locs) (hI : inv σ) (ls : Array Slot) (hl : lv_has ls 2 [(0, .ref (wA w 13))]) (hE : w_Reader_readTag_J59 post t0 σ), W p l e (headSpec ws_Reader_readTag { frames := 7, cells := 0, slots := 0, locals := 154 }).room s m ([.ref (wA w 13)] : List Value).toArray below meth c H locs 0 0 (MQ below (va_Qi (fun r u => post r u ∧ inv u) (mB (wG w) (WW w) (wI w) A) A) ([.ref (wA w 13)] : List Value).toArray s 0 0 A) (F0 m 59 ls [.int t0]) := by
    intro  t0 σ H locs hP hD hS hI ls hl hE
    unfold w_Reader_readTag_J59 at hE
    refine lv_istore_n (lv' := [(1, .int t0), (0, .ref (wA w 13))]) hx hb d_Reader_readTag_59 rfl hl (by decide) rfl (fun ls hl => ?_)
    refine lv_iload_n hx hb d_Reader_readTag_60 rfl (lv_at hl 0 rfl) ?_
    refine lv_if_eq (tgt := 75) hx hb d_Reader_readTag_61 (by decide) (fun cc61 => ?_) (fun cc61 => ?_)
    · have hE := hE.1 cc61
      refine lv_aload_n hx hb d_Reader_readTag_75 rfl (lv_at hl 1 rfl) ?_
      refine mc_i (b0 := (wA w 13)) (As := []) (rest := []) ⟨hx, hb, hml, hown, hta⟩ (c_Reader_beginElement l w _ σ  _ hI hE) ok_Reader_53 ⟨Nat.le_of_ble_eq_true rfl, Nat.le_of_ble_eq_true rfl⟩ (va_recv hK hP (ci := 4) (q0 := 13) rfl rfl) hP hK hD hS hA hC rfl hl.1 rfl (Nat.le_of_ble_eq_true rfl) d_Reader_readTag_76 ⟨Nat.zero_le _, Nat.zero_le _⟩ (fun r76 σ76 H locs hE hP hD hS => ?_)
      obtain ⟨hE, hI⟩ := hE
      obtain ⟨hN, hE⟩ := hE
      exact W.zret (v := r76) hx hb hr hN (fun t ht hW => ⟨⟨_, σ76, rfl, ⟨hE, hI⟩, by rw [ht]; exact hP, va_K.moved hW.alike hK, hD⟩, hS.F ht⟩) hS.2.2 d_Reader_readTag_79
    · have hE := hE.2 cc61
      refine lv_aload_n hx hb d_Reader_readTag_64 rfl (lv_at hl 1 rfl) ?_
      refine lv_aload_n hx hb d_Reader_readTag_65 rfl (lv_at hl 1 rfl) ?_
      refine va_get (D := (wG w)) (ci := 4) (v := .int (pPs σ)) (C := R_Reader) (T := F_Reader) (N := 6) hx hb hta i_Reader hown hK hP 13 rfl rfl 2 (by decide) (hta _ fl_Reader_19) (fun _ h9 => h9) rfl d_Reader_readTag_66 ?_
      refine mc_i (b0 := (wA w 13)) (As := [.int (pPs σ)]) (rest := []) ⟨hx, hb, hml, hown, hta⟩ (c_Reader_refuse l w _ σ (pPs σ) _ hI hE) ok_Reader_75 ⟨Nat.le_of_ble_eq_true rfl, Nat.le_of_ble_eq_true rfl⟩ (va_recv hK hP (ci := 4) (q0 := 13) rfl rfl) hP hK hD hS hA hC rfl hl.1 rfl (Nat.le_of_ble_eq_true rfl) d_Reader_readTag_69 ⟨Nat.zero_le _, Nat.zero_le _⟩ (fun r69 σ69 H locs hE hP hD hS => ?_)
      obtain ⟨hE, hI⟩ := hE
      refine lv_goto (tgt := 79) hx hb d_Reader_readTag_72 (by decide) ?_
      obtain ⟨hN, hE⟩ := hE
      exact W.zret (v := r69) hx hb hr hN (fun t ht hW => ⟨⟨_, σ69, rfl, ⟨hE, hI⟩, by rw [ht]; exact hP, va_K.moved hW.alike hK, hD⟩, hS.F ht⟩) hS.2.2 d_Reader_readTag_79
  have J54 : ∀ (σ : PPS) (H : Heap) (locs : List Loc) (hP : va_P (wG w) classes (WW w σ) H) (hD : va_D A (WW w σ)) (hS : va_S A s.heap H locs) (hI : inv σ) (ls : Array Slot) (hl : lv_has ls 2 [(0, .ref (wA w 13))]) (hE : w_Reader_readTag_J54 post σ), W p l e (headSpec ws_Reader_readTag { frames := 7, cells := 0, slots := 0, locals := 154 }).room s m ([.ref (wA w 13)] : List Value).toArray below meth c H locs 0 0 (MQ below (va_Qi (fun r u => post r u ∧ inv u) (mB (wG w) (WW w) (wI w) A) A) ([.ref (wA w 13)] : List Value).toArray s 0 0 A) (F0 m 54 ls []) := by
    intro  σ H locs hP hD hS hI ls hl hE
    unfold w_Reader_readTag_J54 at hE
    refine lv_iconst (v := 1) hx hb d_Reader_readTag_54 (by decide) ?_
    refine lv_goto (tgt := 59) hx hb d_Reader_readTag_55 (by decide) ?_
    exact J59  1 σ _ _ hP hD hS hI _ (lv_sub hl [0] rfl) hE
  unfold w_Reader_readTag at hE
  refine lv_aload_n hx hb d_Reader_readTag_0 rfl (lv_at hl 0 rfl) ?_
  refine va_get (D := (wG w)) (ci := 4) (v := .ref (wA w 2)) (C := R_Reader) (T := F_Reader) (N := 6) hx hb hta i_Reader hown hK hP 13 rfl rfl 0 (by decide) (hta _ fl_Reader_9) (fun _ h9 => h9) rfl d_Reader_readTag_1 ?_
  refine lv_aload_n hx hb d_Reader_readTag_4 rfl (lv_at hl 0 rfl) ?_
  refine va_get (D := (wG w)) (ci := 4) (v := .int (pPs σ)) (C := R_Reader) (T := F_Reader) (N := 6) hx hb hta i_Reader hown hK hP 13 rfl rfl 2 (by decide) (hta _ fl_Reader_19) (fun _ h9 => h9) rfl d_Reader_readTag_5 ?_
  refine lv_iconst (v := 1) hx hb d_Reader_readTag_8 (by decide) ?_
  refine lv_iadd hx hb d_Reader_readTag_9 ?_
  refine ro_V (b0 := (wA w 2)) (As := [.int ((pPs σ) + 1)]) (rest := []) ⟨hx, hb, hml, hown, hta⟩ (c_Strip_get l (wG w) (wA w 2) (wA w 3) (wI w) 4000 (pTp σ) ((pPs σ) + 1) (fun r => r = sGet (pTp σ) ((pPs σ) + 1)) (l_Strip_get (by decide) (inv.Tp hI) ((pPs σ) + 1))) ok_Reader_65 ⟨Nat.le_of_ble_eq_true rfl, Nat.le_of_ble_eq_true rfl⟩ blind_rW (va_recv hK hP (ci := 1) (q0 := 2) rfl rfl) (fun U h1 h2 => ⟨by rw [h1]; exact hP.sub [2, 3] rfl, va_K.moved h2.alike hK⟩) rfl hl.1 rfl (Nat.le_of_ble_eq_true rfl) d_Reader_readTag_10 ⟨Nat.zero_le _, Nat.zero_le _⟩ (fun r10 hrr => ?_)
  subst hrr
  refine lv_bipush (v := 47) hx hb d_Reader_readTag_13 (by decide) ?_
  refine lv_icmp_ne (tgt := 23) hx hb d_Reader_readTag_15 (by decide) (fun cc15 => ?_) (fun cc15 => ?_)
  · have hE := hE.2 cc15
    refine lv_aload_n hx hb d_Reader_readTag_23 rfl (lv_at hl 0 rfl) ?_
    refine va_get (D := (wG w)) (ci := 4) (v := .ref (wA w 6)) (C := R_Reader) (T := F_Reader) (N := 6) hx hb hta i_Reader hown hK hP 13 rfl rfl 1 (by decide) (hta _ fl_Reader_15) (fun _ h9 => h9) rfl d_Reader_readTag_24 ?_
    refine ro_V (b0 := (wA w 6)) (As := []) (rest := []) ⟨hx, hb, hml, hown, hta⟩ (f_Book_elementCount l w σ  hI) ok_Reader_155 ⟨Nat.le_of_ble_eq_true rfl, Nat.le_of_ble_eq_true rfl⟩ blind_fW (va_recv hK hP (ci := 3) (q0 := 6) rfl rfl) (fW_of hP hK hC hS) rfl hl.1 rfl (Nat.le_of_ble_eq_true rfl) d_Reader_readTag_27 ⟨Nat.zero_le _, Nat.zero_le _⟩ (fun r27 hrr => ?_)
    subst hrr
    refine lv_sipush (v := 300) hx hb d_Reader_readTag_30 (by decide) ?_
    refine lv_icmp_ge (tgt := 54) hx hb d_Reader_readTag_33 (by decide) (fun cc33 => ?_) (fun cc33 => ?_)
    · have hE := hE.1 cc33
      exact J54  σ _ _ hP hD hS hI _ (lv_sub hl [0] rfl) hE
    · have hE := hE.2 cc33
      refine lv_aload_n hx hb d_Reader_readTag_36 rfl (lv_at hl 0 rfl) ?_
      refine va_get (D := (wG w)) (ci := 4) (v := .ref (wA w 6)) (C := R_Reader) (T := F_Reader) (N := 6) hx hb hta i_Reader hown hK hP 13 rfl rfl 1 (by decide) (hta _ fl_Reader_15) (fun _ h9 => h9) rfl d_Reader_readTag_37 ?_
      refine lv_aload_n hx hb d_Reader_readTag_40 rfl (lv_at hl 0 rfl) ?_
      refine va_get (D := (wG w)) (ci := 4) (v := .int (pOp σ)) (C := R_Reader) (T := F_Reader) (N := 6) hx hb hta i_Reader hown hK hP 13 rfl rfl 3 (by decide) (hta _ fl_Reader_23) (fun _ h9 => h9) rfl d_Reader_readTag_41 ?_
      refine lv_bipush (v := 7) hx hb d_Reader_readTag_44 (by decide) ?_
      refine ro_V (b0 := (wA w 6)) (As := [.int (pOp σ), .int 7]) (rest := []) ⟨hx, hb, hml, hown, hta⟩ (f_Book_ofNode l w σ (pOp σ) 7 hI) ok_Reader_158 ⟨Nat.le_of_ble_eq_true rfl, Nat.le_of_ble_eq_true rfl⟩ blind_fW (va_recv hK hP (ci := 3) (q0 := 6) rfl rfl) (fW_of hP hK hC hS) rfl hl.1 rfl (Nat.le_of_ble_eq_true rfl) d_Reader_readTag_46 ⟨Nat.zero_le _, Nat.zero_le _⟩ (fun r46 hrr => ?_)
      subst hrr
      refine lv_bipush (v := 40) hx hb d_Reader_readTag_49 (by decide) ?_
      refine lv_icmp_lt (tgt := 58) hx hb d_Reader_readTag_51 (by decide) (fun cc51 => ?_) (fun cc51 => ?_)
      · have hE := hE.1 cc51
        refine lv_iconst (v := 0) hx hb d_Reader_readTag_58 (by decide) ?_
        exact J59  0 σ _ _ hP hD hS hI _ (lv_sub hl [0] rfl) hE
      · have hE := hE.2 cc51
        exact J54  σ _ _ hP hD hS hI _ (lv_sub hl [0] rfl) hE
  · have hE := hE.1 cc15
    refine lv_aload_n hx hb d_Reader_readTag_18 rfl (lv_at hl 0 rfl) ?_
    refine mc_i (b0 := (wA w 13)) (As := []) (rest := []) ⟨hx, hb, hml, hown, hta⟩ (c_Reader_endElement l w _ σ  _ hI hE) ok_Reader_152 ⟨Nat.le_of_ble_eq_true rfl, Nat.le_of_ble_eq_true rfl⟩ (va_recv hK hP (ci := 4) (q0 := 13) rfl rfl) hP hK hD hS hA hC rfl hl.1 rfl (Nat.le_of_ble_eq_true rfl) d_Reader_readTag_19 ⟨Nat.zero_le _, Nat.zero_le _⟩ (fun r19 σ19 H locs hE hP hD hS => ?_)
    obtain ⟨hE, hI⟩ := hE
    obtain ⟨hN, hE⟩ := hE
    exact W.zret (v := r19) hx hb hr hN (fun t ht hW => ⟨⟨_, σ19, rfl, ⟨hE, hI⟩, by rw [ht]; exact hP, va_K.moved hW.alike hK, hD⟩, hS.F ht⟩) hS.2.2 d_Reader_readTag_22

theorem d_Reader_readText_0 : decode b_Reader_readText 0 = .ok (.aload_n 0, 1) := by decide +kernel
theorem d_Reader_readText_1 : decode b_Reader_readText 1 = .ok (.getfield 9, 3) := by decide +kernel
theorem d_Reader_readText_4 : decode b_Reader_readText 4 = .ok (.aload_n 0, 1) := by decide +kernel
theorem d_Reader_readText_5 : decode b_Reader_readText 5 = .ok (.getfield 19, 3) := by decide +kernel
theorem d_Reader_readText_8 : decode b_Reader_readText 8 = .ok (.invokevirtual 65, 3) := by decide +kernel
theorem d_Reader_readText_11 : decode b_Reader_readText 11 = .ok (.iconst (-1), 1) := by decide +kernel
theorem d_Reader_readText_12 : decode b_Reader_readText 12 = .ok (.if_icmp .ne 12, 3) := by decide +kernel
theorem d_Reader_readText_15 : decode b_Reader_readText 15 = .ok (.aload_n 0, 1) := by decide +kernel
theorem d_Reader_readText_16 : decode b_Reader_readText 16 = .ok (.aload_n 0, 1) := by decide +kernel
theorem d_Reader_readText_17 : decode b_Reader_readText 17 = .ok (.getfield 19, 3) := by decide +kernel
theorem d_Reader_readText_20 : decode b_Reader_readText 20 = .ok (.invokevirtual 75, 3) := by decide +kernel
theorem d_Reader_readText_23 : decode b_Reader_readText 23 = .ok (.ireturn, 1) := by decide +kernel
theorem d_Reader_readText_24 : decode b_Reader_readText 24 = .ok (.aload_n 0, 1) := by decide +kernel
theorem d_Reader_readText_25 : decode b_Reader_readText 25 = .ok (.getfield 15, 3) := by decide +kernel
theorem d_Reader_readText_28 : decode b_Reader_readText 28 = .ok (.iconst 0, 1) := by decide +kernel
theorem d_Reader_readText_29 : decode b_Reader_readText 29 = .ok (.aload_n 0, 1) := by decide +kernel
theorem d_Reader_readText_30 : decode b_Reader_readText 30 = .ok (.getfield 23, 3) := by decide +kernel
theorem d_Reader_readText_33 : decode b_Reader_readText 33 = .ok (.aload_n 0, 1) := by decide +kernel
theorem d_Reader_readText_34 : decode b_Reader_readText 34 = .ok (.getfield 19, 3) := by decide +kernel
theorem d_Reader_readText_37 : decode b_Reader_readText 37 = .ok (.invokevirtual 104, 3) := by decide +kernel
theorem d_Reader_readText_40 : decode b_Reader_readText 40 = .ok (.istore_n 1, 1) := by decide +kernel
theorem d_Reader_readText_41 : decode b_Reader_readText 41 = .ok (.aload_n 0, 1) := by decide +kernel
theorem d_Reader_readText_42 : decode b_Reader_readText 42 = .ok (.bipush 60, 2) := by decide +kernel
theorem d_Reader_readText_44 : decode b_Reader_readText 44 = .ok (.invokevirtual 120, 3) := by decide +kernel
theorem d_Reader_readText_47 : decode b_Reader_readText 47 = .ok (.ifCond .ne 5, 3) := by decide +kernel
theorem d_Reader_readText_50 : decode b_Reader_readText 50 = .ok (.iconst 0, 1) := by decide +kernel
theorem d_Reader_readText_51 : decode b_Reader_readText 51 = .ok (.ireturn, 1) := by decide +kernel
theorem d_Reader_readText_52 : decode b_Reader_readText 52 = .ok (.aload_n 0, 1) := by decide +kernel
theorem d_Reader_readText_53 : decode b_Reader_readText 53 = .ok (.getfield 15, 3) := by decide +kernel
theorem d_Reader_readText_56 : decode b_Reader_readText 56 = .ok (.iload_n 1, 1) := by decide +kernel
theorem d_Reader_readText_57 : decode b_Reader_readText 57 = .ok (.invokevirtual 111, 3) := by decide +kernel
theorem d_Reader_readText_60 : decode b_Reader_readText 60 = .ok (.aload_n 0, 1) := by decide +kernel
theorem d_Reader_readText_61 : decode b_Reader_readText 61 = .ok (.getfield 15, 3) := by decide +kernel
theorem d_Reader_readText_64 : decode b_Reader_readText 64 = .ok (.iload_n 1, 1) := by decide +kernel
theorem d_Reader_readText_65 : decode b_Reader_readText 65 = .ok (.invokevirtual 161, 3) := by decide +kernel
theorem d_Reader_readText_68 : decode b_Reader_readText 68 = .ok (.iconst 1, 1) := by decide +kernel
theorem d_Reader_readText_69 : decode b_Reader_readText 69 = .ok (.ireturn, 1) := by decide +kernel
def w_Reader_readText  (σ : PPS)  (post : Int32 → PPS → Prop) : Prop := (((sGet (pTp σ) (pPs σ)) = (-1) → w_Reader_refuse σ (pPs σ) (fun r20 σ20 => (narrow .boolean (.int r20) = .int r20 ∧ post r20 σ20))) ∧ (¬ (sGet (pTp σ) (pPs σ)) = (-1) → w_Book_addNode σ 0 (pOp σ) (pPs σ) (fun r37 σ37 => w_Reader_takeCharacters σ37 60 (fun r44 σ44 => ((r44 = 0 → post 0 σ44) ∧ (¬ r44 = 0 → w_Book_endLetters σ44 r37 (fun σ57 => w_Book_shut σ57 r37 (fun σ65 => post 1 σ65))))))))
set_option maxHeartbeats 4000000 in
set_option maxRecDepth 100000 in
theorem c_Reader_readText (l : Launch) (w : WD) (sz : Nat) (σ : PPS)   (post : Int32 → PPS → Prop) (hI : inv σ) (hE : w_Reader_readText σ post) : Met l y_Reader_readText ws_Reader_readText { frames := 7, cells := 0, slots := 0, locals := 154 } (va_Pc [.ref (wA w 13)] (gW w σ sz)) (va_Qi (fun r u => post r u ∧ inv u) (mB (wG w) (WW w) (wI w) (va_A (WW w σ) sz)) (va_A (WW w σ) sz)) 0 0 (va_A (WW w σ) sz) := by
  refine Met.ofW (cc := b_Reader_readText) (maxL := 2) (ret := (some .boolean)) (by decide) rfl ?_
  intro p e s m args below meth c s₁ B hml hv
  obtain ⟨rfl, hsz, hP, hK, hD0, hC⟩ := hv
  have hx := B.exec
  have hb := B.bytes
  have hr := B.returns
  have hta : ∀ w ∈ aW, w.before _ s = true := fun w h => atoms_spec (ws := ws_Reader_readText) B.pre w (List.mem_cons_of_mem _ h)
  have hown : s.vm.findClass R_Reader = some m.cls := findClass_of_methodNamed B.named
  have hlocks := B.notSynchronized
  subst hsz
  have hD := hD0.self (sz := s.heap.size)
  generalize hAe : va_A (WW w σ) s.heap.size = A at hD hC ⊢
  have hA : ∀ q : Nat, s.heap.size ≤ q → A q := fun q h => by rw [← hAe]; exact Or.inr h
  have hS : va_S A s.heap s.heap [] := va_S.rf
  have hP : va_P (wG w) classes (WW w σ) s.heap := hP
  have hl := lv_entry ([.ref (wA w 13)]) (n := 2) (Nat.le_of_ble_eq_true rfl)
  rw [lg_entry_eq]
  generalize (lg_sl ([.ref (wA w 13)]) ++ List.replicate (2 - (lg_sl ([.ref (wA w 13)])).length) Slot.unset).toArray = ls at hl ⊢
  have hl : lv_has ls 2 [(0, .ref (wA w 13))] := hl
  unfold w_Reader_readText at hE
  refine lv_aload_n hx hb d_Reader_readText_0 rfl (lv_at hl 0 rfl) ?_
  refine va_get (D := (wG w)) (ci := 4) (v := .ref (wA w 2)) (C := R_Reader) (T := F_Reader) (N := 6) hx hb hta i_Reader hown hK hP 13 rfl rfl 0 (by decide) (hta _ fl_Reader_9) (fun _ h9 => h9) rfl d_Reader_readText_1 ?_
  refine lv_aload_n hx hb d_Reader_readText_4 rfl (lv_at hl 0 rfl) ?_
  refine va_get (D := (wG w)) (ci := 4) (v := .int (pPs σ)) (C := R_Reader) (T := F_Reader) (N := 6) hx hb hta i_Reader hown hK hP 13 rfl rfl 2 (by decide) (hta _ fl_Reader_19) (fun _ h9 => h9) rfl d_Reader_readText_5 ?_
  refine ro_V (b0 := (wA w 2)) (As := [.int (pPs σ)]) (rest := []) ⟨hx, hb, hml, hown, hta⟩ (c_Strip_get l (wG w) (wA w 2) (wA w 3) (wI w) 4000 (pTp σ) (pPs σ) (fun r => r = sGet (pTp σ) (pPs σ)) (l_Strip_get (by decide) (inv.Tp hI) (pPs σ))) ok_Reader_65 ⟨Nat.le_of_ble_eq_true rfl, Nat.le_of_ble_eq_true rfl⟩ blind_rW (va_recv hK hP (ci := 1) (q0 := 2) rfl rfl) (fun U h1 h2 => ⟨by rw [h1]; exact hP.sub [2, 3] rfl, va_K.moved h2.alike hK⟩) rfl hl.1 rfl (Nat.le_of_ble_eq_true rfl) d_Reader_readText_8 ⟨Nat.zero_le _, Nat.zero_le _⟩ (fun r8 hrr => ?_)
  subst hrr
  refine lv_iconst (v := -1) hx hb d_Reader_readText_11 (by decide) ?_
  refine lv_icmp_ne (tgt := 24) hx hb d_Reader_readText_12 (by decide) (fun cc12 => ?_) (fun cc12 => ?_)
  · have hE := hE.2 cc12
    refine lv_aload_n hx hb d_Reader_readText_24 rfl (lv_at hl 0 rfl) ?_
    refine va_get (D := (wG w)) (ci := 4) (v := .ref (wA w 6)) (C := R_Reader) (T := F_Reader) (N := 6) hx hb hta i_Reader hown hK hP 13 rfl rfl 1 (by decide) (hta _ fl_Reader_15) (fun _ h9 => h9) rfl d_Reader_readText_25 ?_
    refine lv_iconst (v := 0) hx hb d_Reader_readText_28 (by decide) ?_
    refine lv_aload_n hx hb d_Reader_readText_29 rfl (lv_at hl 0 rfl) ?_
    refine va_get (D := (wG w)) (ci := 4) (v := .int (pOp σ)) (C := R_Reader) (T := F_Reader) (N := 6) hx hb hta i_Reader hown hK hP 13 rfl rfl 3 (by decide) (hta _ fl_Reader_23) (fun _ h9 => h9) rfl d_Reader_readText_30 ?_
    refine lv_aload_n hx hb d_Reader_readText_33 rfl (lv_at hl 0 rfl) ?_
    refine va_get (D := (wG w)) (ci := 4) (v := .int (pPs σ)) (C := R_Reader) (T := F_Reader) (N := 6) hx hb hta i_Reader hown hK hP 13 rfl rfl 2 (by decide) (hta _ fl_Reader_19) (fun _ h9 => h9) rfl d_Reader_readText_34 ?_
    refine mc_i (b0 := (wA w 6)) (As := [.int 0, .int (pOp σ), .int (pPs σ)]) (rest := []) ⟨hx, hb, hml, hown, hta⟩ (c_Book_addNode l w _ σ 0 (pOp σ) (pPs σ) _ hI hE) ok_Reader_104 ⟨Nat.le_of_ble_eq_true rfl, Nat.le_of_ble_eq_true rfl⟩ (va_recv hK hP (ci := 3) (q0 := 6) rfl rfl) hP hK hD hS hA hC rfl hl.1 rfl (Nat.le_of_ble_eq_true rfl) d_Reader_readText_37 ⟨Nat.zero_le _, Nat.zero_le _⟩ (fun r37 σ37 H locs hE hP hD hS => ?_)
    obtain ⟨hE, hI⟩ := hE
    refine lv_istore_n (lv' := [(1, .int r37), (0, .ref (wA w 13))]) hx hb d_Reader_readText_40 rfl hl (by decide) rfl (fun ls hl => ?_)
    refine lv_aload_n hx hb d_Reader_readText_41 rfl (lv_at hl 1 rfl) ?_
    refine lv_bipush (v := 60) hx hb d_Reader_readText_42 (by decide) ?_
    refine mc_i (b0 := (wA w 13)) (As := [.int 60]) (rest := []) ⟨hx, hb, hml, hown, hta⟩ (c_Reader_takeCharacters l w _ σ37 60 _ hI hE) ok_Reader_120 ⟨Nat.le_of_ble_eq_true rfl, Nat.le_of_ble_eq_true rfl⟩ (va_recv hK hP (ci := 4) (q0 := 13) rfl rfl) hP hK hD hS hA hC rfl hl.1 rfl (Nat.le_of_ble_eq_true rfl) d_Reader_readText_44 ⟨Nat.zero_le _, Nat.zero_le _⟩ (fun r44 σ44 H locs hE hP hD hS => ?_)
    obtain ⟨hE, hI⟩ := hE
    refine lv_if_ne (tgt := 52) hx hb d_Reader_readText_47 (by decide) (fun cc47 => ?_) (fun cc47 => ?_)
    · have hE := hE.2 cc47
      refine lv_aload_n hx hb d_Reader_readText_52 rfl (lv_at hl 1 rfl) ?_
      refine va_get (D := (wG w)) (ci := 4) (v := .ref (wA w 6)) (C := R_Reader) (T := F_Reader) (N := 6) hx hb hta i_Reader hown hK hP 13 rfl rfl 1 (by decide) (hta _ fl_Reader_15) (fun _ h9 => h9) rfl d_Reader_readText_53 ?_
      refine lv_iload_n hx hb d_Reader_readText_56 rfl (lv_at hl 0 rfl) ?_
      refine mc_v (b0 := (wA w 6)) (As := [.int r37]) (rest := []) ⟨hx, hb, hml, hown, hta⟩ (c_Book_endLetters l w _ σ44 r37 _ hI hE) ok_Reader_111 ⟨Nat.le_of_ble_eq_true rfl, Nat.le_of_ble_eq_true rfl⟩ (va_recv hK hP (ci := 3) (q0 := 6) rfl rfl) hP hK hD hS hA hC rfl hl.1 rfl (Nat.le_of_ble_eq_true rfl) d_Reader_readText_57 ⟨Nat.zero_le _, Nat.zero_le _⟩ (fun σ57 H locs hE hP hD hS => ?_)
      obtain ⟨hE, hI⟩ := hE
      refine lv_aload_n hx hb d_Reader_readText_60 rfl (lv_at hl 1 rfl) ?_
      refine va_get (D := (wG w)) (ci := 4) (v := .ref (wA w 6)) (C := R_Reader) (T := F_Reader) (N := 6) hx hb hta i_Reader hown hK hP 13 rfl rfl 1 (by decide) (hta _ fl_Reader_15) (fun _ h9 => h9) rfl d_Reader_readText_61 ?_
      refine lv_iload_n hx hb d_Reader_readText_64 rfl (lv_at hl 0 rfl) ?_
      refine mc_v (b0 := (wA w 6)) (As := [.int r37]) (rest := []) ⟨hx, hb, hml, hown, hta⟩ (c_Book_shut l w _ σ57 r37 _ hI hE) ok_Reader_161 ⟨Nat.le_of_ble_eq_true rfl, Nat.le_of_ble_eq_true rfl⟩ (va_recv hK hP (ci := 3) (q0 := 6) rfl rfl) hP hK hD hS hA hC rfl hl.1 rfl (Nat.le_of_ble_eq_true rfl) d_Reader_readText_65 ⟨Nat.zero_le _, Nat.zero_le _⟩ (fun σ65 H locs hE hP hD hS => ?_)
      obtain ⟨hE, hI⟩ := hE
      refine lv_iconst (v := 1) hx hb d_Reader_readText_68 (by decide) ?_
      exact W.zret (v := 1) hx hb hr rfl (fun t ht hW => ⟨⟨_, σ65, rfl, ⟨hE, hI⟩, by rw [ht]; exact hP, va_K.moved hW.alike hK, hD⟩, hS.F ht⟩) hS.2.2 d_Reader_readText_69
    · have hE := hE.1 cc47
      refine lv_iconst (v := 0) hx hb d_Reader_readText_50 (by decide) ?_
      exact W.zret (v := 0) hx hb hr rfl (fun t ht hW => ⟨⟨_, σ44, rfl, ⟨hE, hI⟩, by rw [ht]; exact hP, va_K.moved hW.alike hK, hD⟩, hS.F ht⟩) hS.2.2 d_Reader_readText_51
  · have hE := hE.1 cc12
    refine lv_aload_n hx hb d_Reader_readText_15 rfl (lv_at hl 0 rfl) ?_
    refine lv_aload_n hx hb d_Reader_readText_16 rfl (lv_at hl 0 rfl) ?_
    refine va_get (D := (wG w)) (ci := 4) (v := .int (pPs σ)) (C := R_Reader) (T := F_Reader) (N := 6) hx hb hta i_Reader hown hK hP 13 rfl rfl 2 (by decide) (hta _ fl_Reader_19) (fun _ h9 => h9) rfl d_Reader_readText_17 ?_
    refine mc_i (b0 := (wA w 13)) (As := [.int (pPs σ)]) (rest := []) ⟨hx, hb, hml, hown, hta⟩ (c_Reader_refuse l w _ σ (pPs σ) _ hI hE) ok_Reader_75 ⟨Nat.le_of_ble_eq_true rfl, Nat.le_of_ble_eq_true rfl⟩ (va_recv hK hP (ci := 4) (q0 := 13) rfl rfl) hP hK hD hS hA hC rfl hl.1 rfl (Nat.le_of_ble_eq_true rfl) d_Reader_readText_20 ⟨Nat.zero_le _, Nat.zero_le _⟩ (fun r20 σ20 H locs hE hP hD hS => ?_)
    obtain ⟨hE, hI⟩ := hE
    obtain ⟨hN, hE⟩ := hE
    exact W.zret (v := r20) hx hb hr hN (fun t ht hW => ⟨⟨_, σ20, rfl, ⟨hE, hI⟩, by rw [ht]; exact hP, va_K.moved hW.alike hK, hD⟩, hS.F ht⟩) hS.2.2 d_Reader_readText_23
theorem ok_Reader_33 : okV "PlainPages$Reader" 33 R_Book y_Book_clear b_Book_clear 1 none 0 := ⟨aW_in 377 (by decide +kernel) rfl, aW_in 378 (by decide +kernel) rfl, aW_in 379 (by decide +kernel) rfl, aW_in 87 (by decide +kernel) rfl, cd_Book_clear, rfl, by decide +kernel, by decide +kernel, by decide +kernel⟩
theorem ok_Reader_72 : okV "PlainPages$Reader" 72 R_Reader y_Reader_readText b_Reader_readText 2 (some .boolean) 0 := ⟨aW_in 608 (by decide +kernel) rfl, aW_in 610 (by decide +kernel) rfl, aW_in 21 (by decide +kernel) rfl, aW_in 89 (by decide +kernel) rfl, cd_Reader_readText, rfl, by decide +kernel, by decide +kernel, by decide +kernel⟩
theorem ok_Reader_69 : okV "PlainPages$Reader" 69 R_Reader y_Reader_readTag b_Reader_readTag 2 (some .boolean) 0 := ⟨aW_in 594 (by decide +kernel) rfl, aW_in 596 (by decide +kernel) rfl, aW_in 18 (by decide +kernel) rfl, aW_in 89 (by decide +kernel) rfl, cd_Reader_readTag, rfl, by decide +kernel, by decide +kernel, by decide +kernel⟩
theorem ok_Reader_62 : okV "PlainPages$Reader" 62 R_Reader y_Reader_readInTag b_Reader_readInTag 3 (some .boolean) 0 := ⟨aW_in 511 (by decide +kernel) rfl, aW_in 513 (by decide +kernel) rfl, aW_in 9 (by decide +kernel) rfl, aW_in 89 (by decide +kernel) rfl, cd_Reader_readInTag, rfl, by decide +kernel, by decide +kernel, by decide +kernel⟩
theorem d_Reader_firstFault_0 : decode b_Reader_firstFault 0 = .ok (.aload_n 0, 1) := by decide +kernel
theorem d_Reader_firstFault_1 : decode b_Reader_firstFault 1 = .ok (.getfield 15, 3) := by decide +kernel
theorem d_Reader_firstFault_4 : decode b_Reader_firstFault 4 = .ok (.invokevirtual 33, 3) := by decide +kernel
theorem d_Reader_firstFault_7 : decode b_Reader_firstFault 7 = .ok (.aload_n 0, 1) := by decide +kernel
theorem d_Reader_firstFault_8 : decode b_Reader_firstFault 8 = .ok (.iconst (-1), 1) := by decide +kernel
theorem d_Reader_firstFault_9 : decode b_Reader_firstFault 9 = .ok (.putfield 30, 3) := by decide +kernel
theorem d_Reader_firstFault_12 : decode b_Reader_firstFault 12 = .ok (.aload_n 0, 1) := by decide +kernel
theorem d_Reader_firstFault_13 : decode b_Reader_firstFault 13 = .ok (.iconst (-1), 1) := by decide +kernel
theorem d_Reader_firstFault_14 : decode b_Reader_firstFault 14 = .ok (.putfield 23, 3) := by decide +kernel
theorem d_Reader_firstFault_17 : decode b_Reader_firstFault 17 = .ok (.aload_n 0, 1) := by decide +kernel
theorem d_Reader_firstFault_18 : decode b_Reader_firstFault 18 = .ok (.aload_n 0, 1) := by decide +kernel
theorem d_Reader_firstFault_19 : decode b_Reader_firstFault 19 = .ok (.iconst 0, 1) := by decide +kernel
theorem d_Reader_firstFault_20 : decode b_Reader_firstFault 20 = .ok (.ldc 38, 2) := by decide +kernel
theorem d_Reader_firstFault_22 : decode b_Reader_firstFault 22 = .ok (.invokevirtual 40, 3) := by decide +kernel
theorem d_Reader_firstFault_25 : decode b_Reader_firstFault 25 = .ok (.ifCond .eq 11, 3) := by decide +kernel
theorem d_Reader_firstFault_28 : decode b_Reader_firstFault 28 = .ok (.ldc 38, 2) := by decide +kernel
theorem d_Reader_firstFault_30 : decode b_Reader_firstFault 30 = .ok (.invokevirtual 44, 3) := by decide +kernel
theorem d_Reader_firstFault_33 : decode b_Reader_firstFault 33 = .ok (.goto 4, 3) := by decide +kernel
theorem d_Reader_firstFault_36 : decode b_Reader_firstFault 36 = .ok (.iconst 0, 1) := by decide +kernel
theorem d_Reader_firstFault_37 : decode b_Reader_firstFault 37 = .ok (.putfield 19, 3) := by decide +kernel
theorem d_Reader_firstFault_40 : decode b_Reader_firstFault 40 = .ok (.aload_n 0, 1) := by decide +kernel
theorem d_Reader_firstFault_41 : decode b_Reader_firstFault 41 = .ok (.invokevirtual 50, 3) := by decide +kernel
theorem d_Reader_firstFault_44 : decode b_Reader_firstFault 44 = .ok (.aload_n 0, 1) := by decide +kernel
theorem d_Reader_firstFault_45 : decode b_Reader_firstFault 45 = .ok (.invokevirtual 53, 3) := by decide +kernel
theorem d_Reader_firstFault_48 : decode b_Reader_firstFault 48 = .ok (.istore_n 1, 1) := by decide +kernel
theorem d_Reader_firstFault_49 : decode b_Reader_firstFault 49 = .ok (.aload_n 0, 1) := by decide +kernel
theorem d_Reader_firstFault_50 : decode b_Reader_firstFault 50 = .ok (.getfield 9, 3) := by decide +kernel
theorem d_Reader_firstFault_53 : decode b_Reader_firstFault 53 = .ok (.invokevirtual 57, 3) := by decide +kernel
theorem d_Reader_firstFault_56 : decode b_Reader_firstFault 56 = .ok (.istore_n 2, 1) := by decide +kernel
theorem d_Reader_firstFault_57 : decode b_Reader_firstFault 57 = .ok (.iload_n 2, 1) := by decide +kernel
theorem d_Reader_firstFault_58 : decode b_Reader_firstFault 58 = .ok (.ifCond .le 65, 3) := by decide +kernel
theorem d_Reader_firstFault_61 : decode b_Reader_firstFault 61 = .ok (.iload_n 1, 1) := by decide +kernel
theorem d_Reader_firstFault_62 : decode b_Reader_firstFault 62 = .ok (.ifCond .eq 61, 3) := by decide +kernel
theorem d_Reader_firstFault_65 : decode b_Reader_firstFault 65 = .ok (.aload_n 0, 1) := by decide +kernel
theorem d_Reader_firstFault_66 : decode b_Reader_firstFault 66 = .ok (.getfield 23, 3) := by decide +kernel
theorem d_Reader_firstFault_69 : decode b_Reader_firstFault 69 = .ok (.iconst (-1), 1) := by decide +kernel
theorem d_Reader_firstFault_70 : decode b_Reader_firstFault 70 = .ok (.if_icmp .eq 53, 3) := by decide +kernel
theorem d_Reader_firstFault_73 : decode b_Reader_firstFault 73 = .ok (.aload_n 0, 1) := by decide +kernel
theorem d_Reader_firstFault_74 : decode b_Reader_firstFault 74 = .ok (.getfield 26, 3) := by decide +kernel
theorem d_Reader_firstFault_77 : decode b_Reader_firstFault 77 = .ok (.ifCond .eq 11, 3) := by decide +kernel
theorem d_Reader_firstFault_80 : decode b_Reader_firstFault 80 = .ok (.aload_n 0, 1) := by decide +kernel
theorem d_Reader_firstFault_81 : decode b_Reader_firstFault 81 = .ok (.invokevirtual 62, 3) := by decide +kernel
theorem d_Reader_firstFault_84 : decode b_Reader_firstFault 84 = .ok (.istore_n 1, 1) := by decide +kernel
theorem d_Reader_firstFault_85 : decode b_Reader_firstFault 85 = .ok (.goto 32, 3) := by decide +kernel
theorem d_Reader_firstFault_88 : decode b_Reader_firstFault 88 = .ok (.aload_n 0, 1) := by decide +kernel
theorem d_Reader_firstFault_89 : decode b_Reader_firstFault 89 = .ok (.getfield 9, 3) := by decide +kernel
theorem d_Reader_firstFault_92 : decode b_Reader_firstFault 92 = .ok (.aload_n 0, 1) := by decide +kernel
theorem d_Reader_firstFault_93 : decode b_Reader_firstFault 93 = .ok (.getfield 19, 3) := by decide +kernel
theorem d_Reader_firstFault_96 : decode b_Reader_firstFault 96 = .ok (.invokevirtual 65, 3) := by decide +kernel
theorem d_Reader_firstFault_99 : decode b_Reader_firstFault 99 = .ok (.bipush 60, 2) := by decide +kernel
theorem d_Reader_firstFault_101 : decode b_Reader_firstFault 101 = .ok (.if_icmp .ne 11, 3) := by decide +kernel
theorem d_Reader_firstFault_104 : decode b_Reader_firstFault 104 = .ok (.aload_n 0, 1) := by decide +kernel
theorem d_Reader_firstFault_105 : decode b_Reader_firstFault 105 = .ok (.invokevirtual 69, 3) := by decide +kernel
theorem d_Reader_firstFault_108 : decode b_Reader_firstFault 108 = .ok (.istore_n 1, 1) := by decide +kernel
theorem d_Reader_firstFault_109 : decode b_Reader_firstFault 109 = .ok (.goto 8, 3) := by decide +kernel
theorem d_Reader_firstFault_112 : decode b_Reader_firstFault 112 = .ok (.aload_n 0, 1) := by decide +kernel
theorem d_Reader_firstFault_113 : decode b_Reader_firstFault 113 = .ok (.invokevirtual 72, 3) := by decide +kernel
theorem d_Reader_firstFault_116 : decode b_Reader_firstFault 116 = .ok (.istore_n 1, 1) := by decide +kernel
theorem d_Reader_firstFault_117 : decode b_Reader_firstFault 117 = .ok (.iinc 2 (-1), 3) := by decide +kernel
theorem d_Reader_firstFault_120 : decode b_Reader_firstFault 120 = .ok (.goto (-63), 3) := by decide +kernel
theorem d_Reader_firstFault_123 : decode b_Reader_firstFault 123 = .ok (.aload_n 0, 1) := by decide +kernel
theorem d_Reader_firstFault_124 : decode b_Reader_firstFault 124 = .ok (.invokevirtual 50, 3) := by decide +kernel
theorem d_Reader_firstFault_127 : decode b_Reader_firstFault 127 = .ok (.iload_n 1, 1) := by decide +kernel
theorem d_Reader_firstFault_128 : decode b_Reader_firstFault 128 = .ok (.ifCond .eq 34, 3) := by decide +kernel
theorem d_Reader_firstFault_131 : decode b_Reader_firstFault 131 = .ok (.aload_n 0, 1) := by decide +kernel
theorem d_Reader_firstFault_132 : decode b_Reader_firstFault 132 = .ok (.getfield 23, 3) := by decide +kernel
theorem d_Reader_firstFault_135 : decode b_Reader_firstFault 135 = .ok (.iconst (-1), 1) := by decide +kernel
theorem d_Reader_firstFault_136 : decode b_Reader_firstFault 136 = .ok (.if_icmp .ne 17, 3) := by decide +kernel
theorem d_Reader_firstFault_139 : decode b_Reader_firstFault 139 = .ok (.aload_n 0, 1) := by decide +kernel
theorem d_Reader_firstFault_140 : decode b_Reader_firstFault 140 = .ok (.getfield 19, 3) := by decide +kernel
theorem d_Reader_firstFault_143 : decode b_Reader_firstFault 143 = .ok (.aload_n 0, 1) := by decide +kernel
theorem d_Reader_firstFault_144 : decode b_Reader_firstFault 144 = .ok (.getfield 9, 3) := by decide +kernel
theorem d_Reader_firstFault_147 : decode b_Reader_firstFault 147 = .ok (.invokevirtual 57, 3) := by decide +kernel
theorem d_Reader_firstFault_150 : decode b_Reader_firstFault 150 = .ok (.if_icmp .eq 12, 3) := by decide +kernel
theorem d_Reader_firstFault_153 : decode b_Reader_firstFault 153 = .ok (.aload_n 0, 1) := by decide +kernel
theorem d_Reader_firstFault_154 : decode b_Reader_firstFault 154 = .ok (.aload_n 0, 1) := by decide +kernel
theorem d_Reader_firstFault_155 : decode b_Reader_firstFault 155 = .ok (.getfield 19, 3) := by decide +kernel
theorem d_Reader_firstFault_158 : decode b_Reader_firstFault 158 = .ok (.invokevirtual 75, 3) := by decide +kernel
theorem d_Reader_firstFault_161 : decode b_Reader_firstFault 161 = .ok (.pop, 1) := by decide +kernel
theorem d_Reader_firstFault_162 : decode b_Reader_firstFault 162 = .ok (.aload_n 0, 1) := by decide +kernel
theorem d_Reader_firstFault_163 : decode b_Reader_firstFault 163 = .ok (.getfield 30, 3) := by decide +kernel
theorem d_Reader_firstFault_166 : decode b_Reader_firstFault 166 = .ok (.iconst (-1), 1) := by decide +kernel
theorem d_Reader_firstFault_167 : decode b_Reader_firstFault 167 = .ok (.if_icmp .eq 10, 3) := by decide +kernel
theorem d_Reader_firstFault_170 : decode b_Reader_firstFault 170 = .ok (.aload_n 0, 1) := by decide +kernel
theorem d_Reader_firstFault_171 : decode b_Reader_firstFault 171 = .ok (.getfield 15, 3) := by decide +kernel
theorem d_Reader_firstFault_174 : decode b_Reader_firstFault 174 = .ok (.invokevirtual 33, 3) := by decide +kernel
theorem d_Reader_firstFault_177 : decode b_Reader_firstFault 177 = .ok (.aload_n 0, 1) := by decide +kernel
theorem d_Reader_firstFault_178 : decode b_Reader_firstFault 178 = .ok (.getfield 30, 3) := by decide +kernel
theorem d_Reader_firstFault_181 : decode b_Reader_firstFault 181 = .ok (.ireturn, 1) := by decide +kernel
def w_Reader_firstFault_J162   (post : Int32 → PPS → Prop) (σ : PPS) : Prop := (((pWr σ) = (-1) → post (pWr σ) σ) ∧ (¬ (pWr σ) = (-1) → w_Book_clear σ  (fun σ174 => post (pWr σ174) σ174)))
def w_Reader_firstFault_J153   (post : Int32 → PPS → Prop) (σ : PPS) : Prop := w_Reader_refuse σ (pPs σ) (fun r158 σ158 => w_Reader_firstFault_J162 post σ158)
def w_Reader_firstFault_J123   (post : Int32 → PPS → Prop) (v1 : Int32) (σ : PPS) : Prop := w_Reader_skipWhite σ  (fun σ124 => ((v1 = 0 → w_Reader_firstFault_J162 post σ124) ∧ (¬ v1 = 0 → (((pOp σ124) = (-1) → (((pPs σ124) = ((pTp σ124).1) → w_Reader_firstFault_J162 post σ124) ∧ (¬ (pPs σ124) = ((pTp σ124).1) → w_Reader_firstFault_J153 post σ124))) ∧ (¬ (pOp σ124) = (-1) → w_Reader_firstFault_J153 post σ124)))))
def w_Reader_firstFault_J117   (K57 : Int32 → Int32 → PPS → Prop) (post : Int32 → PPS → Prop) (v1 : Int32) (v2 : Int32) (σ : PPS) : Prop := K57 v1 (v2 + (-1)) σ
def w_Reader_firstFault_L57   (post : Int32 → PPS → Prop) : Nat → Int32 → Int32 → PPS → Prop
  | 0, _, _, _ => False
  | n57 + 1, v1, v2, σ => ((v2 ≤ 0 → w_Reader_firstFault_J123 post v1 σ) ∧ (¬ v2 ≤ 0 → ((v1 = 0 → w_Reader_firstFault_J123 post v1 σ) ∧ (¬ v1 = 0 → (((pOp σ) = (-1) → w_Reader_firstFault_J123 post v1 σ) ∧ (¬ (pOp σ) = (-1) → (((pIn σ) = 0 → (((sGet (pTp σ) (pPs σ)) = 60 → w_Reader_readTag σ  (fun r105 σ105 => w_Reader_firstFault_J117 (w_Reader_firstFault_L57 post n57) post r105 v2 σ105)) ∧ (¬ (sGet (pTp σ) (pPs σ)) = 60 → w_Reader_readText σ  (fun r113 σ113 => w_Reader_firstFault_J117 (w_Reader_firstFault_L57 post n57) post r113 v2 σ113)))) ∧ (¬ (pIn σ) = 0 → w_Reader_readInTag σ  (fun r81 σ81 => w_Reader_firstFault_J117 (w_Reader_firstFault_L57 post n57) post r81 v2 σ81)))))))))
def w_Reader_firstFault_J37   (post : Int32 → PPS → Prop) (t0 : Int32) (σ : PPS) : Prop := (∀ σ37 : PPS, σ37 = sPs σ t0 → w_Reader_skipWhite σ37  (fun σ41 => w_Reader_beginElement σ41  (fun r45 σ45 => (∃ n57, w_Reader_firstFault_L57 post n57 r45 ((pTp σ45).1) σ45))))
def w_Reader_firstFault  (σ : PPS)  (post : Int32 → PPS → Prop) : Prop := w_Book_clear σ  (fun σ4 => (∀ σ9 : PPS, σ9 = sWr σ4 (-1) → (∀ σ14 : PPS, σ14 = sOp σ9 (-1) → w_Reader_standsAt σ14 0 0 (fun r22 => ((r22 = 0 → w_Reader_firstFault_J37 post 0 σ14) ∧ (¬ r22 = 0 → (0 < 49 ∧ w_Reader_firstFault_J37 post (nI (tLn.getD 0 0)) σ14)))))))
set_option maxHeartbeats 4000000 in
set_option maxRecDepth 100000 in
theorem c_Reader_firstFault (l : Launch) (w : WD) (sz : Nat) (σ : PPS)   (post : Int32 → PPS → Prop) (hI : inv σ) (hE : w_Reader_firstFault σ post) : Met l y_Reader_firstFault ws_Reader_firstFault { frames := 8, cells := 0, slots := 0, locals := 176 } (va_Pc [.ref (wA w 13)] (gW w σ sz)) (va_Qi (fun r u => post r u ∧ inv u) (mB (wG w) (WW w) (wI w) (va_A (WW w σ) sz)) (va_A (WW w σ) sz)) 0 0 (va_A (WW w σ) sz) := by
  refine Met.ofW (cc := b_Reader_firstFault) (maxL := 3) (ret := (some .int)) (by decide) rfl ?_
  intro p e s m args below meth c s₁ B hml hv
  obtain ⟨rfl, hsz, hP, hK, hD0, hC⟩ := hv
  have hx := B.exec
  have hb := B.bytes
  have hr := B.returns
  have hta : ∀ w ∈ aW, w.before _ s = true := fun w h => atoms_spec (ws := ws_Reader_firstFault) B.pre w (List.mem_cons_of_mem _ h)
  have hown : s.vm.findClass R_Reader = some m.cls := findClass_of_methodNamed B.named
  have hlocks := B.notSynchronized
  subst hsz
  have hD := hD0.self (sz := s.heap.size)
  generalize hAe : va_A (WW w σ) s.heap.size = A at hD hC ⊢
  have hA : ∀ q : Nat, s.heap.size ≤ q → A q := fun q h => by rw [← hAe]; exact Or.inr h
  have hS : va_S A s.heap s.heap [] := va_S.rf
  have hP : va_P (wG w) classes (WW w σ) s.heap := hP
  have hl := lv_entry ([.ref (wA w 13)]) (n := 3) (Nat.le_of_ble_eq_true rfl)
  rw [lg_entry_eq]
  generalize (lg_sl ([.ref (wA w 13)]) ++ List.replicate (3 - (lg_sl ([.ref (wA w 13)])).length) Slot.unset).toArray = ls at hl ⊢
  have hl : lv_has ls 3 [(0, .ref (wA w 13))] := hl
  have J162 : ∀ (σ : PPS) (H : Heap) (locs : List Loc) (hP : va_P (wG w) classes (WW w σ) H) (hD : va_D A (WW w σ)) (hS : va_S A s.heap H locs) (hI : inv σ) (ls : Array Slot) (hl : lv_has ls 3 [(0, .ref (wA w 13))]) (hE : w_Reader_firstFault_J162 post σ), W p l e (headSpec ws_Reader_firstFault { frames := 8, cells := 0, slots := 0, locals := 176 }).room s m ([.ref (wA w 13)] : List Value).toArray below meth c H locs 0 0 (MQ below (va_Qi (fun r u => post r u ∧ inv u) (mB (wG w) (WW w) (wI w) A) A) ([.ref (wA w 13)] : List Value).toArray s 0 0 A) (F0 m 162 ls []) := by
    intro  σ H locs hP hD hS hI ls hl hE
    unfold w_Reader_firstFault_J162 at hE
    refine lv_aload_n hx hb d_Reader_firstFault_162 rfl (lv_at hl 0 rfl) ?_
    refine va_get (D := (wG w)) (ci := 4) (v := .int (pWr σ)) (C := R_Reader) (T := F_Reader) (N := 6) hx hb hta i_Reader hown hK hP 13 rfl rfl 5 (by decide) (hta _ fl_Reader_30) (fun _ h9 => h9) rfl d_Reader_firstFault_163 ?_
    refine lv_iconst (v := -1) hx hb d_Reader_firstFault_166 (by decide) ?_
    refine lv_icmp_eq (tgt := 177) hx hb d_Reader_firstFault_167 (by decide) (fun cc167 => ?_) (fun cc167 => ?_)
    · have hE := hE.1 cc167
      refine lv_aload_n hx hb d_Reader_firstFault_177 rfl (lv_at hl 0 rfl) ?_
      refine va_get (D := (wG w)) (ci := 4) (v := .int (pWr σ)) (C := R_Reader) (T := F_Reader) (N := 6) hx hb hta i_Reader hown hK hP 13 rfl rfl 5 (by decide) (hta _ fl_Reader_30) (fun _ h9 => h9) rfl d_Reader_firstFault_178 ?_
      exact W.iret (v := pWr σ) hx hb hr (fun t ht hW => ⟨⟨_, σ, rfl, ⟨hE, hI⟩, by rw [ht]; exact hP, va_K.moved hW.alike hK, hD⟩, hS.F ht⟩) hS.2.2 d_Reader_firstFault_181
    · have hE := hE.2 cc167
      refine lv_aload_n hx hb d_Reader_firstFault_170 rfl (lv_at hl 0 rfl) ?_
      refine va_get (D := (wG w)) (ci := 4) (v := .ref (wA w 6)) (C := R_Reader) (T := F_Reader) (N := 6) hx hb hta i_Reader hown hK hP 13 rfl rfl 1 (by decide) (hta _ fl_Reader_15) (fun _ h9 => h9) rfl d_Reader_firstFault_171 ?_
      refine mc_v (b0 := (wA w 6)) (As := []) (rest := []) ⟨hx, hb, hml, hown, hta⟩ (c_Book_clear l w _ σ  _ hI hE) ok_Reader_33 ⟨Nat.le_of_ble_eq_true rfl, Nat.le_of_ble_eq_true rfl⟩ (va_recv hK hP (ci := 3) (q0 := 6) rfl rfl) hP hK hD hS hA hC rfl hl.1 rfl (Nat.le_of_ble_eq_true rfl) d_Reader_firstFault_174 ⟨Nat.zero_le _, Nat.zero_le _⟩ (fun σ174 H locs hE hP hD hS => ?_)
      obtain ⟨hE, hI⟩ := hE
      refine lv_aload_n hx hb d_Reader_firstFault_177 rfl (lv_at hl 0 rfl) ?_
      refine va_get (D := (wG w)) (ci := 4) (v := .int (pWr σ174)) (C := R_Reader) (T := F_Reader) (N := 6) hx hb hta i_Reader hown hK hP 13 rfl rfl 5 (by decide) (hta _ fl_Reader_30) (fun _ h9 => h9) rfl d_Reader_firstFault_178 ?_
      exact W.iret (v := pWr σ174) hx hb hr (fun t ht hW => ⟨⟨_, σ174, rfl, ⟨hE, hI⟩, by rw [ht]; exact hP, va_K.moved hW.alike hK, hD⟩, hS.F ht⟩) hS.2.2 d_Reader_firstFault_181
  have J153 : ∀ (σ : PPS) (H : Heap) (locs : List Loc) (hP : va_P (wG w) classes (WW w σ) H) (hD : va_D A (WW w σ)) (hS : va_S A s.heap H locs) (hI : inv σ) (ls : Array Slot) (hl : lv_has ls 3 [(0, .ref (wA w 13))]) (hE : w_Reader_firstFault_J153 post σ), W p l e (headSpec ws_Reader_firstFault { frames := 8, cells := 0, slots := 0, locals := 176 }).room s m ([.ref (wA w 13)] : List Value).toArray below meth c H locs 0 0 (MQ below (va_Qi (fun r u => post r u ∧ inv u) (mB (wG w) (WW w) (wI w) A) A) ([.ref (wA w 13)] : List Value).toArray s 0 0 A) (F0 m 153 ls []) := by
    intro  σ H locs hP hD hS hI ls hl hE
    unfold w_Reader_firstFault_J153 at hE
    refine lv_aload_n hx hb d_Reader_firstFault_153 rfl (lv_at hl 0 rfl) ?_
    refine lv_aload_n hx hb d_Reader_firstFault_154 rfl (lv_at hl 0 rfl) ?_
    refine va_get (D := (wG w)) (ci := 4) (v := .int (pPs σ)) (C := R_Reader) (T := F_Reader) (N := 6) hx hb hta i_Reader hown hK hP 13 rfl rfl 2 (by decide) (hta _ fl_Reader_19) (fun _ h9 => h9) rfl d_Reader_firstFault_155 ?_
    refine mc_i (b0 := (wA w 13)) (As := [.int (pPs σ)]) (rest := []) ⟨hx, hb, hml, hown, hta⟩ (c_Reader_refuse l w _ σ (pPs σ) _ hI hE) ok_Reader_75 ⟨Nat.le_of_ble_eq_true rfl, Nat.le_of_ble_eq_true rfl⟩ (va_recv hK hP (ci := 4) (q0 := 13) rfl rfl) hP hK hD hS hA hC rfl hl.1 rfl (Nat.le_of_ble_eq_true rfl) d_Reader_firstFault_158 ⟨Nat.zero_le _, Nat.zero_le _⟩ (fun r158 σ158 H locs hE hP hD hS => ?_)
    obtain ⟨hE, hI⟩ := hE
    refine lv_pop hx hb d_Reader_firstFault_161 rfl ?_
    exact J162  σ158 _ _ hP hD hS hI _ (lv_sub hl [0] rfl) hE
  have J123 : ∀ (v1 : Int32) (σ : PPS) (H : Heap) (locs : List Loc) (hP : va_P (wG w) classes (WW w σ) H) (hD : va_D A (WW w σ)) (hS : va_S A s.heap H locs) (hI : inv σ) (ls : Array Slot) (hl : lv_has ls 3 [(0, .ref (wA w 13)), (1, .int v1)]) (hE : w_Reader_firstFault_J123 post v1 σ), W p l e (headSpec ws_Reader_firstFault { frames := 8, cells := 0, slots := 0, locals := 176 }).room s m ([.ref (wA w 13)] : List Value).toArray below meth c H locs 0 0 (MQ below (va_Qi (fun r u => post r u ∧ inv u) (mB (wG w) (WW w) (wI w) A) A) ([.ref (wA w 13)] : List Value).toArray s 0 0 A) (F0 m 123 ls []) := by
    intro  v1 σ H locs hP hD hS hI ls hl hE
    unfold w_Reader_firstFault_J123 at hE
    refine lv_aload_n hx hb d_Reader_firstFault_123 rfl (lv_at hl 0 rfl) ?_
    refine mc_v (b0 := (wA w 13)) (As := []) (rest := []) ⟨hx, hb, hml, hown, hta⟩ (c_Reader_skipWhite l w _ σ  _ hI hE) ok_Reader_50 ⟨Nat.le_of_ble_eq_true rfl, Nat.le_of_ble_eq_true rfl⟩ (va_recv hK hP (ci := 4) (q0 := 13) rfl rfl) hP hK hD hS hA hC rfl hl.1 rfl (Nat.le_of_ble_eq_true rfl) d_Reader_firstFault_124 ⟨Nat.zero_le _, Nat.zero_le _⟩ (fun σ124 H locs hE hP hD hS => ?_)
    obtain ⟨hE, hI⟩ := hE
    refine lv_iload_n hx hb d_Reader_firstFault_127 rfl (lv_at hl 1 rfl) ?_
    refine lv_if_eq (tgt := 162) hx hb d_Reader_firstFault_128 (by decide) (fun cc128 => ?_) (fun cc128 => ?_)
    · have hE := hE.1 cc128
      exact J162  σ124 _ _ hP hD hS hI _ (lv_sub hl [0] rfl) hE
    · have hE := hE.2 cc128
      refine lv_aload_n hx hb d_Reader_firstFault_131 rfl (lv_at hl 0 rfl) ?_
      refine va_get (D := (wG w)) (ci := 4) (v := .int (pOp σ124)) (C := R_Reader) (T := F_Reader) (N := 6) hx hb hta i_Reader hown hK hP 13 rfl rfl 3 (by decide) (hta _ fl_Reader_23) (fun _ h9 => h9) rfl d_Reader_firstFault_132 ?_
      refine lv_iconst (v := -1) hx hb d_Reader_firstFault_135 (by decide) ?_
      refine lv_icmp_ne (tgt := 153) hx hb d_Reader_firstFault_136 (by decide) (fun cc136 => ?_) (fun cc136 => ?_)
      · have hE := hE.2 cc136
        exact J153  σ124 _ _ hP hD hS hI _ (lv_sub hl [0] rfl) hE
      · have hE := hE.1 cc136
        refine lv_aload_n hx hb d_Reader_firstFault_139 rfl (lv_at hl 0 rfl) ?_
        refine va_get (D := (wG w)) (ci := 4) (v := .int (pPs σ124)) (C := R_Reader) (T := F_Reader) (N := 6) hx hb hta i_Reader hown hK hP 13 rfl rfl 2 (by decide) (hta _ fl_Reader_19) (fun _ h9 => h9) rfl d_Reader_firstFault_140 ?_
        refine lv_aload_n hx hb d_Reader_firstFault_143 rfl (lv_at hl 0 rfl) ?_
        refine va_get (D := (wG w)) (ci := 4) (v := .ref (wA w 2)) (C := R_Reader) (T := F_Reader) (N := 6) hx hb hta i_Reader hown hK hP 13 rfl rfl 0 (by decide) (hta _ fl_Reader_9) (fun _ h9 => h9) rfl d_Reader_firstFault_144 ?_
        refine ro_V (b0 := (wA w 2)) (As := []) (rest := [.int (pPs σ124)]) ⟨hx, hb, hml, hown, hta⟩ (c_Strip_size l (wG w) (wA w 2) (wA w 3) (wI w) 4000 (pTp σ124)  (fun r => r = (pTp σ124).1) rfl) ok_Reader_57 ⟨Nat.le_of_ble_eq_true rfl, Nat.le_of_ble_eq_true rfl⟩ blind_rW (va_recv hK hP (ci := 1) (q0 := 2) rfl rfl) (fun U h1 h2 => ⟨by rw [h1]; exact hP.sub [2, 3] rfl, va_K.moved h2.alike hK⟩) rfl hl.1 rfl (Nat.le_of_ble_eq_true rfl) d_Reader_firstFault_147 ⟨Nat.zero_le _, Nat.zero_le _⟩ (fun r147 hrr => ?_)
        subst hrr
        refine lv_icmp_eq (tgt := 162) hx hb d_Reader_firstFault_150 (by decide) (fun cc150 => ?_) (fun cc150 => ?_)
        · have hE := hE.1 cc150
          exact J162  σ124 _ _ hP hD hS hI _ (lv_sub hl [0] rfl) hE
        · have hE := hE.2 cc150
          exact J153  σ124 _ _ hP hD hS hI _ (lv_sub hl [0] rfl) hE
  have L57 : ∀ (n57 : Nat) (v1 : Int32) (v2 : Int32) (σ : PPS) (H : Heap) (locs : List Loc) (hP : va_P (wG w) classes (WW w σ) H) (hD : va_D A (WW w σ)) (hS : va_S A s.heap H locs) (hI : inv σ) (ls : Array Slot) (hl : lv_has ls 3 [(0, .ref (wA w 13)), (1, .int v1), (2, .int v2)]) (hE : w_Reader_firstFault_L57 post n57 v1 v2 σ), W p l e (headSpec ws_Reader_firstFault { frames := 8, cells := 0, slots := 0, locals := 176 }).room s m ([.ref (wA w 13)] : List Value).toArray below meth c H locs 0 0 (MQ below (va_Qi (fun r u => post r u ∧ inv u) (mB (wG w) (WW w) (wI w) A) A) ([.ref (wA w 13)] : List Value).toArray s 0 0 A) (F0 m 57 ls []) := by
    intro n57
    induction n57 with
    | zero => intro v1 v2 σ H locs hP hD hS hI ls hl hE; exact hE.elim
    | succ n57 ih57 =>
      have J117 : ∀ (v1 : Int32) (v2 : Int32) (σ : PPS) (H : Heap) (locs : List Loc) (hP : va_P (wG w) classes (WW w σ) H) (hD : va_D A (WW w σ)) (hS : va_S A s.heap H locs) (hI : inv σ) (ls : Array Slot) (hl : lv_has ls 3 [(0, .ref (wA w 13)), (1, .int v1), (2, .int v2)]) (hE : w_Reader_firstFault_J117 (w_Reader_firstFault_L57 post n57) post v1 v2 σ), W p l e (headSpec ws_Reader_firstFault { frames := 8, cells := 0, slots := 0, locals := 176 }).room s m ([.ref (wA w 13)] : List Value).toArray below meth c H locs 0 0 (MQ below (va_Qi (fun r u => post r u ∧ inv u) (mB (wG w) (WW w) (wI w) A) A) ([.ref (wA w 13)] : List Value).toArray s 0 0 A) (F0 m 117 ls []) := by
        intro  v1 v2 σ H locs hP hD hS hI ls hl hE
        unfold w_Reader_firstFault_J117 at hE
        refine lv_iinc (v := v2 + (-1)) (lv' := [(2, .int (v2 + (-1))), (0, .ref (wA w 13)), (1, .int v1)]) hx hb d_Reader_firstFault_117 hl (k := 2) rfl rfl (by decide) rfl (fun ls hl => ?_)
        refine lv_goto (tgt := 57) hx hb d_Reader_firstFault_120 (by decide) ?_
        exact ih57 v1 (v2 + (-1)) σ _ _ hP hD hS hI _ (lv_sub hl [1, 2, 0] rfl) hE
      intro v1 v2 σ H locs hP hD hS hI ls hl hE
      unfold w_Reader_firstFault_L57 at hE
      refine lv_iload_n hx hb d_Reader_firstFault_57 rfl (lv_at hl 2 rfl) ?_
      refine lv_if_le (tgt := 123) hx hb d_Reader_firstFault_58 (by decide) (fun cc58 => ?_) (fun cc58 => ?_)
      · have hE := hE.1 cc58
        exact J123  v1 σ _ _ hP hD hS hI _ (lv_sub hl [0, 1] rfl) hE
      · have hE := hE.2 cc58
        refine lv_iload_n hx hb d_Reader_firstFault_61 rfl (lv_at hl 1 rfl) ?_
        refine lv_if_eq (tgt := 123) hx hb d_Reader_firstFault_62 (by decide) (fun cc62 => ?_) (fun cc62 => ?_)
        · have hE := hE.1 cc62
          exact J123  v1 σ _ _ hP hD hS hI _ (lv_sub hl [0, 1] rfl) hE
        · have hE := hE.2 cc62
          refine lv_aload_n hx hb d_Reader_firstFault_65 rfl (lv_at hl 0 rfl) ?_
          refine va_get (D := (wG w)) (ci := 4) (v := .int (pOp σ)) (C := R_Reader) (T := F_Reader) (N := 6) hx hb hta i_Reader hown hK hP 13 rfl rfl 3 (by decide) (hta _ fl_Reader_23) (fun _ h9 => h9) rfl d_Reader_firstFault_66 ?_
          refine lv_iconst (v := -1) hx hb d_Reader_firstFault_69 (by decide) ?_
          refine lv_icmp_eq (tgt := 123) hx hb d_Reader_firstFault_70 (by decide) (fun cc70 => ?_) (fun cc70 => ?_)
          · have hE := hE.1 cc70
            exact J123  v1 σ _ _ hP hD hS hI _ (lv_sub hl [0, 1] rfl) hE
          · have hE := hE.2 cc70
            refine lv_aload_n hx hb d_Reader_firstFault_73 rfl (lv_at hl 0 rfl) ?_
            refine va_get (D := (wG w)) (ci := 4) (v := .int (pIn σ)) (C := R_Reader) (T := F_Reader) (N := 6) hx hb hta i_Reader hown hK hP 13 rfl rfl 4 (by decide) (hta _ fl_Reader_26) (fun _ h9 => h9) rfl d_Reader_firstFault_74 ?_
            refine lv_if_eq (tgt := 88) hx hb d_Reader_firstFault_77 (by decide) (fun cc77 => ?_) (fun cc77 => ?_)
            · have hE := hE.1 cc77
              refine lv_aload_n hx hb d_Reader_firstFault_88 rfl (lv_at hl 0 rfl) ?_
              refine va_get (D := (wG w)) (ci := 4) (v := .ref (wA w 2)) (C := R_Reader) (T := F_Reader) (N := 6) hx hb hta i_Reader hown hK hP 13 rfl rfl 0 (by decide) (hta _ fl_Reader_9) (fun _ h9 => h9) rfl d_Reader_firstFault_89 ?_
              refine lv_aload_n hx hb d_Reader_firstFault_92 rfl (lv_at hl 0 rfl) ?_
              refine va_get (D := (wG w)) (ci := 4) (v := .int (pPs σ)) (C := R_Reader) (T := F_Reader) (N := 6) hx hb hta i_Reader hown hK hP 13 rfl rfl 2 (by decide) (hta _ fl_Reader_19) (fun _ h9 => h9) rfl d_Reader_firstFault_93 ?_
              refine ro_V (b0 := (wA w 2)) (As := [.int (pPs σ)]) (rest := []) ⟨hx, hb, hml, hown, hta⟩ (c_Strip_get l (wG w) (wA w 2) (wA w 3) (wI w) 4000 (pTp σ) (pPs σ) (fun r => r = sGet (pTp σ) (pPs σ)) (l_Strip_get (by decide) (inv.Tp hI) (pPs σ))) ok_Reader_65 ⟨Nat.le_of_ble_eq_true rfl, Nat.le_of_ble_eq_true rfl⟩ blind_rW (va_recv hK hP (ci := 1) (q0 := 2) rfl rfl) (fun U h1 h2 => ⟨by rw [h1]; exact hP.sub [2, 3] rfl, va_K.moved h2.alike hK⟩) rfl hl.1 rfl (Nat.le_of_ble_eq_true rfl) d_Reader_firstFault_96 ⟨Nat.zero_le _, Nat.zero_le _⟩ (fun r96 hrr => ?_)
              subst hrr
              refine lv_bipush (v := 60) hx hb d_Reader_firstFault_99 (by decide) ?_
              refine lv_icmp_ne (tgt := 112) hx hb d_Reader_firstFault_101 (by decide) (fun cc101 => ?_) (fun cc101 => ?_)
              · have hE := hE.2 cc101
                refine lv_aload_n hx hb d_Reader_firstFault_112 rfl (lv_at hl 0 rfl) ?_
                refine mc_i (b0 := (wA w 13)) (As := []) (rest := []) ⟨hx, hb, hml, hown, hta⟩ (c_Reader_readText l w _ σ  _ hI hE) ok_Reader_72 ⟨Nat.le_of_ble_eq_true rfl, Nat.le_of_ble_eq_true rfl⟩ (va_recv hK hP (ci := 4) (q0 := 13) rfl rfl) hP hK hD hS hA hC rfl hl.1 rfl (Nat.le_of_ble_eq_true rfl) d_Reader_firstFault_113 ⟨Nat.zero_le _, Nat.zero_le _⟩ (fun r113 σ113 H locs hE hP hD hS => ?_)
                obtain ⟨hE, hI⟩ := hE
                refine lv_istore_n (lv' := [(1, .int r113), (0, .ref (wA w 13)), (2, .int v2)]) hx hb d_Reader_firstFault_116 rfl hl (by decide) rfl (fun ls hl => ?_)
                exact J117  r113 v2 σ113 _ _ hP hD hS hI _ (lv_sub hl [1, 0, 2] rfl) hE
              · have hE := hE.1 cc101
                refine lv_aload_n hx hb d_Reader_firstFault_104 rfl (lv_at hl 0 rfl) ?_
                refine mc_i (b0 := (wA w 13)) (As := []) (rest := []) ⟨hx, hb, hml, hown, hta⟩ (c_Reader_readTag l w _ σ  _ hI hE) ok_Reader_69 ⟨Nat.le_of_ble_eq_true rfl, Nat.le_of_ble_eq_true rfl⟩ (va_recv hK hP (ci := 4) (q0 := 13) rfl rfl) hP hK hD hS hA hC rfl hl.1 rfl (Nat.le_of_ble_eq_true rfl) d_Reader_firstFault_105 ⟨Nat.zero_le _, Nat.zero_le _⟩ (fun r105 σ105 H locs hE hP hD hS => ?_)
                obtain ⟨hE, hI⟩ := hE
                refine lv_istore_n (lv' := [(1, .int r105), (0, .ref (wA w 13)), (2, .int v2)]) hx hb d_Reader_firstFault_108 rfl hl (by decide) rfl (fun ls hl => ?_)
                refine lv_goto (tgt := 117) hx hb d_Reader_firstFault_109 (by decide) ?_
                exact J117  r105 v2 σ105 _ _ hP hD hS hI _ (lv_sub hl [1, 0, 2] rfl) hE
            · have hE := hE.2 cc77
              refine lv_aload_n hx hb d_Reader_firstFault_80 rfl (lv_at hl 0 rfl) ?_
              refine mc_i (b0 := (wA w 13)) (As := []) (rest := []) ⟨hx, hb, hml, hown, hta⟩ (c_Reader_readInTag l w _ σ  _ hI hE) ok_Reader_62 ⟨Nat.le_of_ble_eq_true rfl, Nat.le_of_ble_eq_true rfl⟩ (va_recv hK hP (ci := 4) (q0 := 13) rfl rfl) hP hK hD hS hA hC rfl hl.1 rfl (Nat.le_of_ble_eq_true rfl) d_Reader_firstFault_81 ⟨Nat.zero_le _, Nat.zero_le _⟩ (fun r81 σ81 H locs hE hP hD hS => ?_)
              obtain ⟨hE, hI⟩ := hE
              refine lv_istore_n (lv' := [(1, .int r81), (0, .ref (wA w 13)), (2, .int v2)]) hx hb d_Reader_firstFault_84 rfl hl (by decide) rfl (fun ls hl => ?_)
              refine lv_goto (tgt := 117) hx hb d_Reader_firstFault_85 (by decide) ?_
              exact J117  r81 v2 σ81 _ _ hP hD hS hI _ (lv_sub hl [1, 0, 2] rfl) hE
  have J37 : ∀ (t0 : Int32) (σ : PPS) (H : Heap) (locs : List Loc) (hP : va_P (wG w) classes (WW w σ) H) (hD : va_D A (WW w σ)) (hS : va_S A s.heap H locs) (hI : inv σ) (ls : Array Slot) (hl : lv_has ls 3 [(0, .ref (wA w 13))]) (hE : w_Reader_firstFault_J37 post t0 σ), W p l e (headSpec ws_Reader_firstFault { frames := 8, cells := 0, slots := 0, locals := 176 }).room s m ([.ref (wA w 13)] : List Value).toArray below meth c H locs 0 0 (MQ below (va_Qi (fun r u => post r u ∧ inv u) (mB (wG w) (WW w) (wI w) A) A) ([.ref (wA w 13)] : List Value).toArray s 0 0 A) (F0 m 37 ls [.int t0, .ref (wA w 13)]) := by
    intro  t0 σ H locs hP hD hS hI ls hl hE
    unfold w_Reader_firstFault_J37 at hE
    refine va_put (D := (wG w)) (ci := 4) (v := .int t0) (ty := .int) (C := R_Reader) (T := F_Reader) (N := 6) hx hb hta i_Reader t_Reader t_Reader_ok n_Reader hown hK hP hD hS 13 rfl rfl 2 (by decide) (hta _ fl_Reader_19) (fun _ h9 => h9) rfl (by decide +kernel) rfl rfl (Nat.le_of_ble_eq_true rfl) d_Reader_firstFault_37 (fun H locs hP hD hS => ?_)
    have hP : va_P (wG w) classes (WW w (sPs σ t0)) H := hP
    have hD : va_D A (WW w (sPs σ t0)) := hD
    have hI : inv (sPs σ t0) := hI
    have hE := hE _ rfl
    generalize (sPs σ t0 : PPS) = σ37 at hP hD hI hE
    refine lv_aload_n hx hb d_Reader_firstFault_40 rfl (lv_at hl 0 rfl) ?_
    refine mc_v (b0 := (wA w 13)) (As := []) (rest := []) ⟨hx, hb, hml, hown, hta⟩ (c_Reader_skipWhite l w _ σ37  _ hI hE) ok_Reader_50 ⟨Nat.le_of_ble_eq_true rfl, Nat.le_of_ble_eq_true rfl⟩ (va_recv hK hP (ci := 4) (q0 := 13) rfl rfl) hP hK hD hS hA hC rfl hl.1 rfl (Nat.le_of_ble_eq_true rfl) d_Reader_firstFault_41 ⟨Nat.zero_le _, Nat.zero_le _⟩ (fun σ41 H locs hE hP hD hS => ?_)
    obtain ⟨hE, hI⟩ := hE
    refine lv_aload_n hx hb d_Reader_firstFault_44 rfl (lv_at hl 0 rfl) ?_
    refine mc_i (b0 := (wA w 13)) (As := []) (rest := []) ⟨hx, hb, hml, hown, hta⟩ (c_Reader_beginElement l w _ σ41  _ hI hE) ok_Reader_53 ⟨Nat.le_of_ble_eq_true rfl, Nat.le_of_ble_eq_true rfl⟩ (va_recv hK hP (ci := 4) (q0 := 13) rfl rfl) hP hK hD hS hA hC rfl hl.1 rfl (Nat.le_of_ble_eq_true rfl) d_Reader_firstFault_45 ⟨Nat.zero_le _, Nat.zero_le _⟩ (fun r45 σ45 H locs hE hP hD hS => ?_)
    obtain ⟨hE, hI⟩ := hE
    refine lv_istore_n (lv' := [(1, .int r45), (0, .ref (wA w 13))]) hx hb d_Reader_firstFault_48 rfl hl (by decide) rfl (fun ls hl => ?_)
    refine lv_aload_n hx hb d_Reader_firstFault_49 rfl (lv_at hl 1 rfl) ?_
    refine va_get (D := (wG w)) (ci := 4) (v := .ref (wA w 2)) (C := R_Reader) (T := F_Reader) (N := 6) hx hb hta i_Reader hown hK hP 13 rfl rfl 0 (by decide) (hta _ fl_Reader_9) (fun _ h9 => h9) rfl d_Reader_firstFault_50 ?_
    refine ro_V (b0 := (wA w 2)) (As := []) (rest := []) ⟨hx, hb, hml, hown, hta⟩ (c_Strip_size l (wG w) (wA w 2) (wA w 3) (wI w) 4000 (pTp σ45)  (fun r => r = (pTp σ45).1) rfl) ok_Reader_57 ⟨Nat.le_of_ble_eq_true rfl, Nat.le_of_ble_eq_true rfl⟩ blind_rW (va_recv hK hP (ci := 1) (q0 := 2) rfl rfl) (fun U h1 h2 => ⟨by rw [h1]; exact hP.sub [2, 3] rfl, va_K.moved h2.alike hK⟩) rfl hl.1 rfl (Nat.le_of_ble_eq_true rfl) d_Reader_firstFault_53 ⟨Nat.zero_le _, Nat.zero_le _⟩ (fun r53 hrr => ?_)
    subst hrr
    refine lv_istore_n (lv' := [(2, .int ((pTp σ45).1)), (1, .int r45), (0, .ref (wA w 13))]) hx hb d_Reader_firstFault_56 rfl hl (by decide) rfl (fun ls hl => ?_)
    obtain ⟨n57, hE⟩ := hE
    exact L57  n57 r45 ((pTp σ45).1) σ45 _ _ hP hD hS hI _ (lv_sub hl [2, 1, 0] rfl) hE
  unfold w_Reader_firstFault at hE
  refine lv_aload_n hx hb d_Reader_firstFault_0 rfl (lv_at hl 0 rfl) ?_
  refine va_get (D := (wG w)) (ci := 4) (v := .ref (wA w 6)) (C := R_Reader) (T := F_Reader) (N := 6) hx hb hta i_Reader hown hK hP 13 rfl rfl 1 (by decide) (hta _ fl_Reader_15) (fun _ h9 => h9) rfl d_Reader_firstFault_1 ?_
  refine mc_v (b0 := (wA w 6)) (As := []) (rest := []) ⟨hx, hb, hml, hown, hta⟩ (c_Book_clear l w _ σ  _ hI hE) ok_Reader_33 ⟨Nat.le_of_ble_eq_true rfl, Nat.le_of_ble_eq_true rfl⟩ (va_recv hK hP (ci := 3) (q0 := 6) rfl rfl) hP hK hD hS hA hC rfl hl.1 rfl (Nat.le_of_ble_eq_true rfl) d_Reader_firstFault_4 ⟨Nat.zero_le _, Nat.zero_le _⟩ (fun σ4 H locs hE hP hD hS => ?_)
  obtain ⟨hE, hI⟩ := hE
  refine lv_aload_n hx hb d_Reader_firstFault_7 rfl (lv_at hl 0 rfl) ?_
  refine lv_iconst (v := -1) hx hb d_Reader_firstFault_8 (by decide) ?_
  refine va_put (D := (wG w)) (ci := 4) (v := .int (-1)) (ty := .int) (C := R_Reader) (T := F_Reader) (N := 6) hx hb hta i_Reader t_Reader t_Reader_ok n_Reader hown hK hP hD hS 13 rfl rfl 5 (by decide) (hta _ fl_Reader_30) (fun _ h9 => h9) rfl (by decide +kernel) rfl rfl (Nat.le_of_ble_eq_true rfl) d_Reader_firstFault_9 (fun H locs hP hD hS => ?_)
  have hP : va_P (wG w) classes (WW w (sWr σ4 (-1))) H := hP
  have hD : va_D A (WW w (sWr σ4 (-1))) := hD
  have hI : inv (sWr σ4 (-1)) := hI
  have hE := hE _ rfl
  generalize (sWr σ4 (-1) : PPS) = σ9 at hP hD hI hE
  refine lv_aload_n hx hb d_Reader_firstFault_12 rfl (lv_at hl 0 rfl) ?_
  refine lv_iconst (v := -1) hx hb d_Reader_firstFault_13 (by decide) ?_
  refine va_put (D := (wG w)) (ci := 4) (v := .int (-1)) (ty := .int) (C := R_Reader) (T := F_Reader) (N := 6) hx hb hta i_Reader t_Reader t_Reader_ok n_Reader hown hK hP hD hS 13 rfl rfl 3 (by decide) (hta _ fl_Reader_23) (fun _ h9 => h9) rfl (by decide +kernel) rfl rfl (Nat.le_of_ble_eq_true rfl) d_Reader_firstFault_14 (fun H locs hP hD hS => ?_)
  have hP : va_P (wG w) classes (WW w (sOp σ9 (-1))) H := hP
  have hD : va_D A (WW w (sOp σ9 (-1))) := hD
  have hI : inv (sOp σ9 (-1)) := hI
  have hE := hE _ rfl
  generalize (sOp σ9 (-1) : PPS) = σ14 at hP hD hI hE
  refine lv_aload_n hx hb d_Reader_firstFault_17 rfl (lv_at hl 0 rfl) ?_
  refine lv_aload_n hx hb d_Reader_firstFault_18 rfl (lv_at hl 0 rfl) ?_
  refine lv_iconst (v := 0) hx hb d_Reader_firstFault_19 (by decide) ?_
  refine t_ldc (i := 0) hx hb hC (by decide) rfl hown d_Reader_firstFault_20 ?_
  refine ro_V (b0 := (wA w 13)) (As := [.int 0, .ref (wK w 0)]) (rest := [.ref (wA w 13)]) ⟨hx, hb, hml, hown, hta⟩ (c_Reader_standsAt l w σ14 0 0  _ hI hE) ok_Reader_40 ⟨Nat.le_of_ble_eq_true rfl, Nat.le_of_ble_eq_true rfl⟩ blind_fW (va_recv hK hP (ci := 4) (q0 := 13) rfl rfl) (fW_of hP hK hC hS) rfl hl.1 rfl (Nat.le_of_ble_eq_true rfl) d_Reader_firstFault_22 ⟨Nat.zero_le _, Nat.zero_le _⟩ (fun r22 hE => ?_)
  refine lv_if_eq (tgt := 36) hx hb d_Reader_firstFault_25 (by decide) (fun cc25 => ?_) (fun cc25 => ?_)
  · have hE := hE.1 cc25
    refine lv_iconst (v := 0) hx hb d_Reader_firstFault_36 (by decide) ?_
    exact J37  0 σ14 _ _ hP hD hS hI _ (lv_sub hl [0] rfl) hE
  · have hE := hE.2 cc25
    refine t_ldc (i := 0) hx hb hC (by decide) rfl hown d_Reader_firstFault_28 ?_
    obtain ⟨hi30, hE⟩ := hE
    refine ro_V (b0 := wK w 0) (As := []) (rest := [.ref (wA w 13)]) ⟨hx, hb, hml, hown, hta⟩ (f_Str_length l w 0 hi30) ok_Reader_44 ⟨Nat.le_of_ble_eq_true rfl, Nat.le_of_ble_eq_true rfl⟩ blind_cW (t_recv hC hS hi30) (cW_of hC hS) rfl hl.1 rfl (Nat.le_of_ble_eq_true rfl) d_Reader_firstFault_30 ⟨Nat.zero_le _, Nat.zero_le _⟩ (fun r30 hrr => ?_)
    subst hrr
    refine lv_goto (tgt := 37) hx hb d_Reader_firstFault_33 (by decide) ?_
    exact J37  (nI (tLn.getD 0 0)) σ14 _ _ hP hD hS hI _ (lv_sub hl [0] rfl) hE
