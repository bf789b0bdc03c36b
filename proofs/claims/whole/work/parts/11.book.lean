-- printed by wip/gen

theorem d_Book_lettersAgree_0 : decode b_Book_lettersAgree 0 = .ok (.iconst 0, 1) := by decide +kernel
theorem d_Book_lettersAgree_1 : decode b_Book_lettersAgree 1 = .ok (.istore 4, 2) := by decide +kernel
theorem d_Book_lettersAgree_3 : decode b_Book_lettersAgree 3 = .ok (.iload 4, 2) := by decide +kernel
theorem d_Book_lettersAgree_5 : decode b_Book_lettersAgree 5 = .ok (.iload_n 3, 1) := by decide +kernel
theorem d_Book_lettersAgree_6 : decode b_Book_lettersAgree 6 = .ok (.if_icmp .ge 36, 3) := by decide +kernel
theorem d_Book_lettersAgree_9 : decode b_Book_lettersAgree 9 = .ok (.aload_n 0, 1) := by decide +kernel
theorem d_Book_lettersAgree_10 : decode b_Book_lettersAgree 10 = .ok (.getfield 28, 3) := by decide +kernel
theorem d_Book_lettersAgree_13 : decode b_Book_lettersAgree 13 = .ok (.iload_n 1, 1) := by decide +kernel
theorem d_Book_lettersAgree_14 : decode b_Book_lettersAgree 14 = .ok (.iload 4, 2) := by decide +kernel
theorem d_Book_lettersAgree_16 : decode b_Book_lettersAgree 16 = .ok (.iadd, 1) := by decide +kernel
theorem d_Book_lettersAgree_17 : decode b_Book_lettersAgree 17 = .ok (.invokevirtual 48, 3) := by decide +kernel
theorem d_Book_lettersAgree_20 : decode b_Book_lettersAgree 20 = .ok (.aload_n 0, 1) := by decide +kernel
theorem d_Book_lettersAgree_21 : decode b_Book_lettersAgree 21 = .ok (.getfield 28, 3) := by decide +kernel
theorem d_Book_lettersAgree_24 : decode b_Book_lettersAgree 24 = .ok (.iload_n 2, 1) := by decide +kernel
theorem d_Book_lettersAgree_25 : decode b_Book_lettersAgree 25 = .ok (.iload 4, 2) := by decide +kernel
theorem d_Book_lettersAgree_27 : decode b_Book_lettersAgree 27 = .ok (.iadd, 1) := by decide +kernel
theorem d_Book_lettersAgree_28 : decode b_Book_lettersAgree 28 = .ok (.invokevirtual 48, 3) := by decide +kernel
theorem d_Book_lettersAgree_31 : decode b_Book_lettersAgree 31 = .ok (.if_icmp .eq 5, 3) := by decide +kernel
theorem d_Book_lettersAgree_34 : decode b_Book_lettersAgree 34 = .ok (.iconst 0, 1) := by decide +kernel
theorem d_Book_lettersAgree_35 : decode b_Book_lettersAgree 35 = .ok (.ireturn, 1) := by decide +kernel
theorem d_Book_lettersAgree_36 : decode b_Book_lettersAgree 36 = .ok (.iinc 4 1, 3) := by decide +kernel
theorem d_Book_lettersAgree_39 : decode b_Book_lettersAgree 39 = .ok (.goto (-36), 3) := by decide +kernel
theorem d_Book_lettersAgree_42 : decode b_Book_lettersAgree 42 = .ok (.iconst 1, 1) := by decide +kernel
theorem d_Book_lettersAgree_43 : decode b_Book_lettersAgree 43 = .ok (.ireturn, 1) := by decide +kernel
def w_Book_lettersAgree_L3  (σ : PPS) (v1 : Int32) (v2 : Int32) (v3 : Int32) (post : Int32 → Prop) : Nat → Int32 → Prop
  | 0, _ => False
  | n3 + 1, v4 => ((v3 ≤ v4 → post 1) ∧ (¬ v3 ≤ v4 → (((sGet (pLe σ) (v1 + v4)) = (sGet (pLe σ) (v2 + v4)) → w_Book_lettersAgree_L3 σ v1 v2 v3 post n3 (v4 + 1)) ∧ (¬ (sGet (pLe σ) (v1 + v4)) = (sGet (pLe σ) (v2 + v4)) → post 0))))
def w_Book_lettersAgree  (σ : PPS) (x0 : Int32) (x1 : Int32) (x2 : Int32) (post : Int32 → Prop) : Prop := (∃ n3, w_Book_lettersAgree_L3 σ x0 x1 x2 post n3 0)
set_option maxHeartbeats 4000000 in
set_option maxRecDepth 100000 in
theorem c_Book_lettersAgree (l : Launch) (w : WD) (σ : PPS) (x0 : Int32) (x1 : Int32) (x2 : Int32)  (post : Int32 → Prop) (hI : inv σ) (hE : w_Book_lettersAgree σ x0 x1 x2 post) : Met l y_Book_lettersAgree ws_Book_lettersAgree { frames := 1, cells := 0, slots := 0, locals := 21 } (va_Pc [.ref (wA w 6), .int x0, .int x1, .int x2] (fW w σ)) (vp_Si post) 0 0 (fun _ => False) := by
  refine Met.ofW (cc := b_Book_lettersAgree) (maxL := 5) (ret := (some .boolean)) (by decide) rfl ?_
  intro p e s m args below meth c s₁ B hml hv
  obtain ⟨rfl, hP, hK, hC⟩ := hv
  have hS : va_S (fun _ : Nat => False) s.heap s.heap [] := va_S.rf
  have hx := B.exec
  have hb := B.bytes
  have hr := B.returns
  have hta : ∀ w ∈ aW, w.before _ s = true := fun w h => atoms_spec (ws := ws_Book_lettersAgree) B.pre w (List.mem_cons_of_mem _ h)
  have hown : s.vm.findClass R_Book = some m.cls := findClass_of_methodNamed B.named
  have hlocks := B.notSynchronized
  have hl := lv_entry ([.ref (wA w 6), .int x0, .int x1, .int x2]) (n := 5) (Nat.le_of_ble_eq_true rfl)
  rw [lg_entry_eq]
  generalize (lg_sl ([.ref (wA w 6), .int x0, .int x1, .int x2]) ++ List.replicate (5 - (lg_sl ([.ref (wA w 6), .int x0, .int x1, .int x2])).length) Slot.unset).toArray = ls at hl ⊢
  have hl : lv_has ls 5 [(0, .ref (wA w 6)), (1, .int x0), (2, .int x1), (3, .int x2)] := hl
  have L3 : ∀ (v1 : Int32) (v2 : Int32) (v3 : Int32) (n3 : Nat) (v4 : Int32) (ls : Array Slot) (hl : lv_has ls 5 [(0, .ref (wA w 6)), (1, .int v1), (2, .int v2), (3, .int v3), (4, .int v4)]) (hE : w_Book_lettersAgree_L3 σ v1 v2 v3 post n3 v4), W p l e (headSpec ws_Book_lettersAgree { frames := 1, cells := 0, slots := 0, locals := 21 }).room s m ([.ref (wA w 6), .int x0, .int x1, .int x2] : List Value).toArray below meth c s.heap [] 0 0 (MQ below (vp_Si post) ([.ref (wA w 6), .int x0, .int x1, .int x2] : List Value).toArray s 0 0 (fun _ => False)) (F0 m 3 ls []) := by
    intro v1 v2 v3 n3
    induction n3 with
    | zero => intro v4 ls hl hE; exact hE.elim
    | succ n3 ih3 =>
      intro v4 ls hl hE
      unfold w_Book_lettersAgree_L3 at hE
      refine lv_iload hx hb d_Book_lettersAgree_3 (lv_at hl 4 rfl) ?_
      refine lv_iload_n hx hb d_Book_lettersAgree_5 rfl (lv_at hl 3 rfl) ?_
      refine lv_icmp_ge (tgt := 42) hx hb d_Book_lettersAgree_6 (by decide) (fun cc6 => ?_) (fun cc6 => ?_)
      · have hE := hE.1 cc6
        refine lv_iconst (v := 1) hx hb d_Book_lettersAgree_42 (by decide) ?_
        exact W.zret (v := 1) hx hb hr rfl (fun t ht hW => ⟨_, rfl, hE, ht⟩) (fun q h => by cases h) d_Book_lettersAgree_43
      · have hE := hE.2 cc6
        refine lv_aload_n hx hb d_Book_lettersAgree_9 rfl (lv_at hl 0 rfl) ?_
        refine va_get (D := (wG w)) (ci := 3) (v := .ref (wA w 11)) (C := R_Book) (T := F_Book) (N := 4) hx hb hta i_Book hown hK hP 6 rfl rfl 2 (by decide) (hta _ fl_Book_28) (fun _ h9 => h9) rfl d_Book_lettersAgree_10 ?_
        refine lv_iload_n hx hb d_Book_lettersAgree_13 rfl (lv_at hl 1 rfl) ?_
        refine lv_iload hx hb d_Book_lettersAgree_14 (lv_at hl 4 rfl) ?_
        refine lv_iadd hx hb d_Book_lettersAgree_16 ?_
        refine ro_V (b0 := (wA w 11)) (As := [.int (v1 + v4)]) (rest := []) ⟨hx, hb, hml, hown, hta⟩ (c_Strip_get l (wG w) (wA w 11) (wA w 12) (wI w) 4000 (pLe σ) (v1 + v4) (fun r => r = sGet (pLe σ) (v1 + v4)) (l_Strip_get (by decide) (inv.Le hI) (v1 + v4))) ok_Book_48 ⟨Nat.le_of_ble_eq_true rfl, Nat.le_of_ble_eq_true rfl⟩ blind_rW (va_recv hK hP (ci := 1) (q0 := 11) rfl rfl) (fun U h1 h2 => ⟨by rw [h1]; exact hP.sub [11, 12] rfl, va_K.moved h2.alike hK⟩) rfl hl.1 rfl (Nat.le_of_ble_eq_true rfl) d_Book_lettersAgree_17 ⟨Nat.zero_le _, Nat.zero_le _⟩ (fun r17 hrr => ?_)
        subst hrr
        refine lv_aload_n hx hb d_Book_lettersAgree_20 rfl (lv_at hl 0 rfl) ?_
        refine va_get (D := (wG w)) (ci := 3) (v := .ref (wA w 11)) (C := R_Book) (T := F_Book) (N := 4) hx hb hta i_Book hown hK hP 6 rfl rfl 2 (by decide) (hta _ fl_Book_28) (fun _ h9 => h9) rfl d_Book_lettersAgree_21 ?_
        refine lv_iload_n hx hb d_Book_lettersAgree_24 rfl (lv_at hl 2 rfl) ?_
        refine lv_iload hx hb d_Book_lettersAgree_25 (lv_at hl 4 rfl) ?_
        refine lv_iadd hx hb d_Book_lettersAgree_27 ?_
        refine ro_V (b0 := (wA w 11)) (As := [.int (v2 + v4)]) (rest := [.int (sGet (pLe σ) (v1 + v4))]) ⟨hx, hb, hml, hown, hta⟩ (c_Strip_get l (wG w) (wA w 11) (wA w 12) (wI w) 4000 (pLe σ) (v2 + v4) (fun r => r = sGet (pLe σ) (v2 + v4)) (l_Strip_get (by decide) (inv.Le hI) (v2 + v4))) ok_Book_48 ⟨Nat.le_of_ble_eq_true rfl, Nat.le_of_ble_eq_true rfl⟩ blind_rW (va_recv hK hP (ci := 1) (q0 := 11) rfl rfl) (fun U h1 h2 => ⟨by rw [h1]; exact hP.sub [11, 12] rfl, va_K.moved h2.alike hK⟩) rfl hl.1 rfl (Nat.le_of_ble_eq_true rfl) d_Book_lettersAgree_28 ⟨Nat.zero_le _, Nat.zero_le _⟩ (fun r28 hrr => ?_)
        subst hrr
        refine lv_icmp_eq (tgt := 36) hx hb d_Book_lettersAgree_31 (by decide) (fun cc31 => ?_) (fun cc31 => ?_)
        · have hE := hE.1 cc31
          refine lv_iinc (v := v4 + 1) (lv' := [(4, .int (v4 + 1)), (0, .ref (wA w 6)), (1, .int v1), (2, .int v2), (3, .int v3)]) hx hb d_Book_lettersAgree_36 hl (k := 4) rfl rfl (by decide) rfl (fun ls hl => ?_)
          refine lv_goto (tgt := 3) hx hb d_Book_lettersAgree_39 (by decide) ?_
          exact ih3 (v4 + 1) _ (lv_sub hl [1, 2, 3, 4, 0] rfl) hE
        · have hE := hE.2 cc31
          refine lv_iconst (v := 0) hx hb d_Book_lettersAgree_34 (by decide) ?_
          exact W.zret (v := 0) hx hb hr rfl (fun t ht hW => ⟨_, rfl, hE, ht⟩) (fun q h => by cases h) d_Book_lettersAgree_35
  unfold w_Book_lettersAgree at hE
  refine lv_iconst (v := 0) hx hb d_Book_lettersAgree_0 (by decide) ?_
  refine lv_istore (lv' := [(4, .int 0), (0, .ref (wA w 6)), (1, .int x0), (2, .int x1), (3, .int x2)]) hx hb d_Book_lettersAgree_1 hl (by decide) rfl (fun ls hl => ?_)
  obtain ⟨n3, hE⟩ := hE
  exact L3 x0 x1 x2 n3 0 _ (lv_sub hl [1, 2, 3, 4, 0] rfl) hE
theorem ok_Book_96 : okV "PlainPages$Book" 96 R_Str y_Str_length b_Str_length 1 (some .int) 0 := ⟨aW_in 509 (by decide +kernel) rfl, aW_in 392 (by decide +kernel) rfl, aW_in 393 (by decide +kernel) rfl, aW_in 93 (by decide +kernel) rfl, cd_Str_length, rfl, by decide +kernel, by decide +kernel, by decide +kernel⟩
theorem ok_Book_101 : okV "PlainPages$Book" 101 R_Str y_Str_charAt b_Str_charAt 2 (some .char) 1 := ⟨aW_in 510 (by decide +kernel) rfl, aW_in 403 (by decide +kernel) rfl, aW_in 404 (by decide +kernel) rfl, aW_in 93 (by decide +kernel) rfl, cd_Str_charAt, rfl, by decide +kernel, by decide +kernel, by decide +kernel⟩
theorem d_Book_lettersAre_0 : decode b_Book_lettersAre 0 = .ok (.iload_n 2, 1) := by decide +kernel
theorem d_Book_lettersAre_1 : decode b_Book_lettersAre 1 = .ok (.aload_n 3, 1) := by decide +kernel
theorem d_Book_lettersAre_2 : decode b_Book_lettersAre 2 = .ok (.invokevirtual 96, 3) := by decide +kernel
theorem d_Book_lettersAre_5 : decode b_Book_lettersAre 5 = .ok (.if_icmp .eq 5, 3) := by decide +kernel
theorem d_Book_lettersAre_8 : decode b_Book_lettersAre 8 = .ok (.iconst 0, 1) := by decide +kernel
theorem d_Book_lettersAre_9 : decode b_Book_lettersAre 9 = .ok (.ireturn, 1) := by decide +kernel
theorem d_Book_lettersAre_10 : decode b_Book_lettersAre 10 = .ok (.iconst 0, 1) := by decide +kernel
theorem d_Book_lettersAre_11 : decode b_Book_lettersAre 11 = .ok (.istore 4, 2) := by decide +kernel
theorem d_Book_lettersAre_13 : decode b_Book_lettersAre 13 = .ok (.iload 4, 2) := by decide +kernel
theorem d_Book_lettersAre_15 : decode b_Book_lettersAre 15 = .ok (.aload_n 3, 1) := by decide +kernel
theorem d_Book_lettersAre_16 : decode b_Book_lettersAre 16 = .ok (.invokevirtual 96, 3) := by decide +kernel
theorem d_Book_lettersAre_19 : decode b_Book_lettersAre 19 = .ok (.if_icmp .ge 31, 3) := by decide +kernel
theorem d_Book_lettersAre_22 : decode b_Book_lettersAre 22 = .ok (.aload_n 0, 1) := by decide +kernel
theorem d_Book_lettersAre_23 : decode b_Book_lettersAre 23 = .ok (.getfield 28, 3) := by decide +kernel
theorem d_Book_lettersAre_26 : decode b_Book_lettersAre 26 = .ok (.iload_n 1, 1) := by decide +kernel
theorem d_Book_lettersAre_27 : decode b_Book_lettersAre 27 = .ok (.iload 4, 2) := by decide +kernel
theorem d_Book_lettersAre_29 : decode b_Book_lettersAre 29 = .ok (.iadd, 1) := by decide +kernel
theorem d_Book_lettersAre_30 : decode b_Book_lettersAre 30 = .ok (.invokevirtual 48, 3) := by decide +kernel
theorem d_Book_lettersAre_33 : decode b_Book_lettersAre 33 = .ok (.aload_n 3, 1) := by decide +kernel
theorem d_Book_lettersAre_34 : decode b_Book_lettersAre 34 = .ok (.iload 4, 2) := by decide +kernel
theorem d_Book_lettersAre_36 : decode b_Book_lettersAre 36 = .ok (.invokevirtual 101, 3) := by decide +kernel
theorem d_Book_lettersAre_39 : decode b_Book_lettersAre 39 = .ok (.if_icmp .eq 5, 3) := by decide +kernel
theorem d_Book_lettersAre_42 : decode b_Book_lettersAre 42 = .ok (.iconst 0, 1) := by decide +kernel
theorem d_Book_lettersAre_43 : decode b_Book_lettersAre 43 = .ok (.ireturn, 1) := by decide +kernel
theorem d_Book_lettersAre_44 : decode b_Book_lettersAre 44 = .ok (.iinc 4 1, 3) := by decide +kernel
theorem d_Book_lettersAre_47 : decode b_Book_lettersAre 47 = .ok (.goto (-34), 3) := by decide +kernel
theorem d_Book_lettersAre_50 : decode b_Book_lettersAre 50 = .ok (.iconst 1, 1) := by decide +kernel
theorem d_Book_lettersAre_51 : decode b_Book_lettersAre 51 = .ok (.ireturn, 1) := by decide +kernel
def w_Book_lettersAre_L13  (σ : PPS) (v1 : Int32) (v3 : Nat) (post : Int32 → Prop) : Nat → Int32 → Prop
  | 0, _ => False
  | n13 + 1, v4 => (v3 < 49 ∧ (((nI (tLn.getD v3 0)) ≤ v4 → post 1) ∧ (¬ (nI (tLn.getD v3 0)) ≤ v4 → (v3 < 49 ∧ (vp_in v4 (tLn.getD v3 0) ∧ (((sGet (pLe σ) (v1 + v4)) = (tCh v3 v4) → w_Book_lettersAre_L13 σ v1 v3 post n13 (v4 + 1)) ∧ (¬ (sGet (pLe σ) (v1 + v4)) = (tCh v3 v4) → post 0)))))))
def w_Book_lettersAre  (σ : PPS) (x0 : Int32) (x1 : Int32) (x2 : Nat) (post : Int32 → Prop) : Prop := (x2 < 49 ∧ ((x1 = (nI (tLn.getD x2 0)) → (∃ n13, w_Book_lettersAre_L13 σ x0 x2 post n13 0)) ∧ (¬ x1 = (nI (tLn.getD x2 0)) → post 0)))
set_option maxHeartbeats 4000000 in
set_option maxRecDepth 100000 in
theorem c_Book_lettersAre (l : Launch) (w : WD) (σ : PPS) (x0 : Int32) (x1 : Int32) (x2 : Nat)  (post : Int32 → Prop) (hI : inv σ) (hE : w_Book_lettersAre σ x0 x1 x2 post) : Met l y_Book_lettersAre ws_Book_lettersAre { frames := 4, cells := 0, slots := 0, locals := 85 } (va_Pc [.ref (wA w 6), .int x0, .int x1, .ref (wK w x2)] (fW w σ)) (vp_Si post) 0 0 (fun _ => False) := by
  refine Met.ofW (cc := b_Book_lettersAre) (maxL := 5) (ret := (some .boolean)) (by decide) rfl ?_
  intro p e s m args below meth c s₁ B hml hv
  obtain ⟨rfl, hP, hK, hC⟩ := hv
  have hS : va_S (fun _ : Nat => False) s.heap s.heap [] := va_S.rf
  have hx := B.exec
  have hb := B.bytes
  have hr := B.returns
  have hta : ∀ w ∈ aW, w.before _ s = true := fun w h => atoms_spec (ws := ws_Book_lettersAre) B.pre w (List.mem_cons_of_mem _ h)
  have hown : s.vm.findClass R_Book = some m.cls := findClass_of_methodNamed B.named
  have hlocks := B.notSynchronized
  have hl := lv_entry ([.ref (wA w 6), .int x0, .int x1, .ref (wK w x2)]) (n := 5) (Nat.le_of_ble_eq_true rfl)
  rw [lg_entry_eq]
  generalize (lg_sl ([.ref (wA w 6), .int x0, .int x1, .ref (wK w x2)]) ++ List.replicate (5 - (lg_sl ([.ref (wA w 6), .int x0, .int x1, .ref (wK w x2)])).length) Slot.unset).toArray = ls at hl ⊢
  have hl : lv_has ls 5 [(0, .ref (wA w 6)), (1, .int x0), (2, .int x1), (3, .ref (wK w x2))] := hl
  have L13 : ∀ (v1 : Int32) (v3 : Nat) (n13 : Nat) (v4 : Int32) (ls : Array Slot) (hl : lv_has ls 5 [(0, .ref (wA w 6)), (1, .int v1), (3, .ref (wK w v3)), (4, .int v4)]) (hE : w_Book_lettersAre_L13 σ v1 v3 post n13 v4), W p l e (headSpec ws_Book_lettersAre { frames := 4, cells := 0, slots := 0, locals := 85 }).room s m ([.ref (wA w 6), .int x0, .int x1, .ref (wK w x2)] : List Value).toArray below meth c s.heap [] 0 0 (MQ below (vp_Si post) ([.ref (wA w 6), .int x0, .int x1, .ref (wK w x2)] : List Value).toArray s 0 0 (fun _ => False)) (F0 m 13 ls []) := by
    intro v1 v3 n13
    induction n13 with
    | zero => intro v4 ls hl hE; exact hE.elim
    | succ n13 ih13 =>
      intro v4 ls hl hE
      unfold w_Book_lettersAre_L13 at hE
      refine lv_iload hx hb d_Book_lettersAre_13 (lv_at hl 3 rfl) ?_
      refine lv_aload_n hx hb d_Book_lettersAre_15 rfl (lv_at hl 2 rfl) ?_
      obtain ⟨hi16, hE⟩ := hE
      refine ro_V (b0 := wK w v3) (As := []) (rest := [.int v4]) ⟨hx, hb, hml, hown, hta⟩ (f_Str_length l w v3 hi16) ok_Book_96 ⟨Nat.le_of_ble_eq_true rfl, Nat.le_of_ble_eq_true rfl⟩ blind_cW (t_recv hC hS hi16) (cW_of hC hS) rfl hl.1 rfl (Nat.le_of_ble_eq_true rfl) d_Book_lettersAre_16 ⟨Nat.zero_le _, Nat.zero_le _⟩ (fun r16 hrr => ?_)
      subst hrr
      refine lv_icmp_ge (tgt := 50) hx hb d_Book_lettersAre_19 (by decide) (fun cc19 => ?_) (fun cc19 => ?_)
      · have hE := hE.1 cc19
        refine lv_iconst (v := 1) hx hb d_Book_lettersAre_50 (by decide) ?_
        exact W.zret (v := 1) hx hb hr rfl (fun t ht hW => ⟨_, rfl, hE, ht⟩) (fun q h => by cases h) d_Book_lettersAre_51
      · have hE := hE.2 cc19
        refine lv_aload_n hx hb d_Book_lettersAre_22 rfl (lv_at hl 0 rfl) ?_
        refine va_get (D := (wG w)) (ci := 3) (v := .ref (wA w 11)) (C := R_Book) (T := F_Book) (N := 4) hx hb hta i_Book hown hK hP 6 rfl rfl 2 (by decide) (hta _ fl_Book_28) (fun _ h9 => h9) rfl d_Book_lettersAre_23 ?_
        refine lv_iload_n hx hb d_Book_lettersAre_26 rfl (lv_at hl 1 rfl) ?_
        refine lv_iload hx hb d_Book_lettersAre_27 (lv_at hl 3 rfl) ?_
        refine lv_iadd hx hb d_Book_lettersAre_29 ?_
        refine ro_V (b0 := (wA w 11)) (As := [.int (v1 + v4)]) (rest := []) ⟨hx, hb, hml, hown, hta⟩ (c_Strip_get l (wG w) (wA w 11) (wA w 12) (wI w) 4000 (pLe σ) (v1 + v4) (fun r => r = sGet (pLe σ) (v1 + v4)) (l_Strip_get (by decide) (inv.Le hI) (v1 + v4))) ok_Book_48 ⟨Nat.le_of_ble_eq_true rfl, Nat.le_of_ble_eq_true rfl⟩ blind_rW (va_recv hK hP (ci := 1) (q0 := 11) rfl rfl) (fun U h1 h2 => ⟨by rw [h1]; exact hP.sub [11, 12] rfl, va_K.moved h2.alike hK⟩) rfl hl.1 rfl (Nat.le_of_ble_eq_true rfl) d_Book_lettersAre_30 ⟨Nat.zero_le _, Nat.zero_le _⟩ (fun r30 hrr => ?_)
        subst hrr
        refine lv_aload_n hx hb d_Book_lettersAre_33 rfl (lv_at hl 2 rfl) ?_
        refine lv_iload hx hb d_Book_lettersAre_34 (lv_at hl 3 rfl) ?_
        obtain ⟨hi36, hE⟩ := hE
        obtain ⟨hc36_0, hE⟩ := hE
        refine ro_V (b0 := wK w v3) (As := [.int v4]) (rest := [.int (sGet (pLe σ) (v1 + v4))]) ⟨hx, hb, hml, hown, hta⟩ (f_Str_charAt l w v3 v4 hi36 hc36_0) ok_Book_101 ⟨Nat.le_of_ble_eq_true rfl, Nat.le_of_ble_eq_true rfl⟩ blind_cW (t_recv hC hS hi36) (cW_of hC hS) rfl hl.1 rfl (Nat.le_of_ble_eq_true rfl) d_Book_lettersAre_36 ⟨Nat.zero_le _, Nat.zero_le _⟩ (fun r36 hrr => ?_)
        subst hrr
        refine lv_icmp_eq (tgt := 44) hx hb d_Book_lettersAre_39 (by decide) (fun cc39 => ?_) (fun cc39 => ?_)
        · have hE := hE.1 cc39
          refine lv_iinc (v := v4 + 1) (lv' := [(4, .int (v4 + 1)), (0, .ref (wA w 6)), (1, .int v1), (3, .ref (wK w v3))]) hx hb d_Book_lettersAre_44 hl (k := 3) rfl rfl (by decide) rfl (fun ls hl => ?_)
          refine lv_goto (tgt := 13) hx hb d_Book_lettersAre_47 (by decide) ?_
          exact ih13 (v4 + 1) _ (lv_sub hl [1, 2, 3, 0] rfl) hE
        · have hE := hE.2 cc39
          refine lv_iconst (v := 0) hx hb d_Book_lettersAre_42 (by decide) ?_
          exact W.zret (v := 0) hx hb hr rfl (fun t ht hW => ⟨_, rfl, hE, ht⟩) (fun q h => by cases h) d_Book_lettersAre_43
  unfold w_Book_lettersAre at hE
  refine lv_iload_n hx hb d_Book_lettersAre_0 rfl (lv_at hl 2 rfl) ?_
  refine lv_aload_n hx hb d_Book_lettersAre_1 rfl (lv_at hl 3 rfl) ?_
  obtain ⟨hi2, hE⟩ := hE
  refine ro_V (b0 := wK w x2) (As := []) (rest := [.int x1]) ⟨hx, hb, hml, hown, hta⟩ (f_Str_length l w x2 hi2) ok_Book_96 ⟨Nat.le_of_ble_eq_true rfl, Nat.le_of_ble_eq_true rfl⟩ blind_cW (t_recv hC hS hi2) (cW_of hC hS) rfl hl.1 rfl (Nat.le_of_ble_eq_true rfl) d_Book_lettersAre_2 ⟨Nat.zero_le _, Nat.zero_le _⟩ (fun r2 hrr => ?_)
  subst hrr
  refine lv_icmp_eq (tgt := 10) hx hb d_Book_lettersAre_5 (by decide) (fun cc5 => ?_) (fun cc5 => ?_)
  · have hE := hE.1 cc5
    refine lv_iconst (v := 0) hx hb d_Book_lettersAre_10 (by decide) ?_
    refine lv_istore (lv' := [(4, .int 0), (0, .ref (wA w 6)), (1, .int x0), (2, .int x1), (3, .ref (wK w x2))]) hx hb d_Book_lettersAre_11 hl (by decide) rfl (fun ls hl => ?_)
    obtain ⟨n13, hE⟩ := hE
    exact L13 x0 x2 n13 0 _ (lv_sub hl [1, 2, 4, 0] rfl) hE
  · have hE := hE.2 cc5
    refine lv_iconst (v := 0) hx hb d_Book_lettersAre_8 (by decide) ?_
    exact W.zret (v := 0) hx hb hr rfl (fun t ht hW => ⟨_, rfl, hE, ht⟩) (fun q h => by cases h) d_Book_lettersAre_9
theorem ok_Book_62 : okV "PlainPages$Book" 62 R_Book y_Book_lettersAre b_Book_lettersAre 5 (some .boolean) 3 := ⟨aW_in 505 (by decide +kernel) rfl, aW_in 507 (by decide +kernel) rfl, aW_in 8 (by decide +kernel) rfl, aW_in 87 (by decide +kernel) rfl, cd_Book_lettersAre, rfl, by decide +kernel, by decide +kernel, by decide +kernel⟩
theorem d_Book_isNamed_0 : decode b_Book_isNamed 0 = .ok (.aload_n 0, 1) := by decide +kernel
theorem d_Book_isNamed_1 : decode b_Book_isNamed 1 = .ok (.aload_n 0, 1) := by decide +kernel
theorem d_Book_isNamed_2 : decode b_Book_isNamed 2 = .ok (.getfield 20, 3) := by decide +kernel
theorem d_Book_isNamed_5 : decode b_Book_isNamed 5 = .ok (.iload_n 1, 1) := by decide +kernel
theorem d_Book_isNamed_6 : decode b_Book_isNamed 6 = .ok (.iconst 3, 1) := by decide +kernel
theorem d_Book_isNamed_7 : decode b_Book_isNamed 7 = .ok (.invokevirtual 44, 3) := by decide +kernel
theorem d_Book_isNamed_10 : decode b_Book_isNamed 10 = .ok (.aload_n 0, 1) := by decide +kernel
theorem d_Book_isNamed_11 : decode b_Book_isNamed 11 = .ok (.getfield 20, 3) := by decide +kernel
theorem d_Book_isNamed_14 : decode b_Book_isNamed 14 = .ok (.iload_n 1, 1) := by decide +kernel
theorem d_Book_isNamed_15 : decode b_Book_isNamed 15 = .ok (.iconst 0, 1) := by decide +kernel
theorem d_Book_isNamed_16 : decode b_Book_isNamed 16 = .ok (.invokevirtual 44, 3) := by decide +kernel
theorem d_Book_isNamed_19 : decode b_Book_isNamed 19 = .ok (.aload_n 2, 1) := by decide +kernel
theorem d_Book_isNamed_20 : decode b_Book_isNamed 20 = .ok (.invokevirtual 62, 3) := by decide +kernel
theorem d_Book_isNamed_23 : decode b_Book_isNamed 23 = .ok (.ireturn, 1) := by decide +kernel
def w_Book_isNamed  (σ : PPS) (x0 : Int32) (x1 : Nat) (post : Int32 → Prop) : Prop := w_Book_lettersAre σ (tGet 5 (pAt σ) x0 3) (tGet 5 (pAt σ) x0 0) x1 (fun r20 => (narrow .boolean (.int r20) = .int r20 ∧ post r20))
set_option maxHeartbeats 4000000 in
set_option maxRecDepth 100000 in
theorem c_Book_isNamed (l : Launch) (w : WD) (σ : PPS) (x0 : Int32) (x1 : Nat)  (post : Int32 → Prop) (hI : inv σ) (hE : w_Book_isNamed σ x0 x1 post) : Met l y_Book_isNamed ws_Book_isNamed { frames := 5, cells := 0, slots := 0, locals := 109 } (va_Pc [.ref (wA w 6), .int x0, .ref (wK w x1)] (fW w σ)) (vp_Si post) 0 0 (fun _ => False) := by
  refine Met.ofW (cc := b_Book_isNamed) (maxL := 3) (ret := (some .boolean)) (by decide) rfl ?_
  intro p e s m args below meth c s₁ B hml hv
  obtain ⟨rfl, hP, hK, hC⟩ := hv
  have hS : va_S (fun _ : Nat => False) s.heap s.heap [] := va_S.rf
  have hx := B.exec
  have hb := B.bytes
  have hr := B.returns
  have hta : ∀ w ∈ aW, w.before _ s = true := fun w h => atoms_spec (ws := ws_Book_isNamed) B.pre w (List.mem_cons_of_mem _ h)
  have hown : s.vm.findClass R_Book = some m.cls := findClass_of_methodNamed B.named
  have hlocks := B.notSynchronized
  have hl := lv_entry ([.ref (wA w 6), .int x0, .ref (wK w x1)]) (n := 3) (Nat.le_of_ble_eq_true rfl)
  rw [lg_entry_eq]
  generalize (lg_sl ([.ref (wA w 6), .int x0, .ref (wK w x1)]) ++ List.replicate (3 - (lg_sl ([.ref (wA w 6), .int x0, .ref (wK w x1)])).length) Slot.unset).toArray = ls at hl ⊢
  have hl : lv_has ls 3 [(0, .ref (wA w 6)), (1, .int x0), (2, .ref (wK w x1))] := hl
  unfold w_Book_isNamed at hE
  refine lv_aload_n hx hb d_Book_isNamed_0 rfl (lv_at hl 0 rfl) ?_
  refine lv_aload_n hx hb d_Book_isNamed_1 rfl (lv_at hl 0 rfl) ?_
  refine va_get (D := (wG w)) (ci := 3) (v := .ref (wA w 9)) (C := R_Book) (T := F_Book) (N := 4) hx hb hta i_Book hown hK hP 6 rfl rfl 1 (by decide) (hta _ fl_Book_20) (fun _ h9 => h9) rfl d_Book_isNamed_2 ?_
  refine lv_iload_n hx hb d_Book_isNamed_5 rfl (lv_at hl 1 rfl) ?_
  refine lv_iconst (v := 3) hx hb d_Book_isNamed_6 (by decide) ?_
  refine ro_V (b0 := (wA w 9)) (As := [.int x0, .int 3]) (rest := [.ref (wA w 6)]) ⟨hx, hb, hml, hown, hta⟩ (c_Table_get l (wG w) (wA w 9) (wA w 10) (wI w) 800 5 4000 (pAt σ) x0 3 (fun r => r = tGet 5 (pAt σ) x0 3) (lAt_get hI x0 3)) ok_Book_44 ⟨Nat.le_of_ble_eq_true rfl, Nat.le_of_ble_eq_true rfl⟩ blind_rW (va_recv hK hP (ci := 2) (q0 := 9) rfl rfl) (fun U h1 h2 => ⟨by rw [h1]; exact hP.sub [9, 10] rfl, va_K.moved h2.alike hK⟩) rfl hl.1 rfl (Nat.le_of_ble_eq_true rfl) d_Book_isNamed_7 ⟨Nat.zero_le _, Nat.zero_le _⟩ (fun r7 hrr => ?_)
  subst hrr
  refine lv_aload_n hx hb d_Book_isNamed_10 rfl (lv_at hl 0 rfl) ?_
  refine va_get (D := (wG w)) (ci := 3) (v := .ref (wA w 9)) (C := R_Book) (T := F_Book) (N := 4) hx hb hta i_Book hown hK hP 6 rfl rfl 1 (by decide) (hta _ fl_Book_20) (fun _ h9 => h9) rfl d_Book_isNamed_11 ?_
  refine lv_iload_n hx hb d_Book_isNamed_14 rfl (lv_at hl 1 rfl) ?_
  refine lv_iconst (v := 0) hx hb d_Book_isNamed_15 (by decide) ?_
  refine ro_V (b0 := (wA w 9)) (As := [.int x0, .int 0]) (rest := [.int (tGet 5 (pAt σ) x0 3), .ref (wA w 6)]) ⟨hx, hb, hml, hown, hta⟩ (c_Table_get l (wG w) (wA w 9) (wA w 10) (wI w) 800 5 4000 (pAt σ) x0 0 (fun r => r = tGet 5 (pAt σ) x0 0) (lAt_get hI x0 0)) ok_Book_44 ⟨Nat.le_of_ble_eq_true rfl, Nat.le_of_ble_eq_true rfl⟩ blind_rW (va_recv hK hP (ci := 2) (q0 := 9) rfl rfl) (fun U h1 h2 => ⟨by rw [h1]; exact hP.sub [9, 10] rfl, va_K.moved h2.alike hK⟩) rfl hl.1 rfl (Nat.le_of_ble_eq_true rfl) d_Book_isNamed_16 ⟨Nat.zero_le _, Nat.zero_le _⟩ (fun r16 hrr => ?_)
  subst hrr
  refine lv_aload_n hx hb d_Book_isNamed_19 rfl (lv_at hl 2 rfl) ?_
  refine ro_V (b0 := (wA w 6)) (As := [.int (tGet 5 (pAt σ) x0 3), .int (tGet 5 (pAt σ) x0 0), .ref (wK w x1)]) (rest := []) ⟨hx, hb, hml, hown, hta⟩ (c_Book_lettersAre l w σ (tGet 5 (pAt σ) x0 3) (tGet 5 (pAt σ) x0 0) x1  _ hI hE) ok_Book_62 ⟨Nat.le_of_ble_eq_true rfl, Nat.le_of_ble_eq_true rfl⟩ blind_fW (va_recv hK hP (ci := 3) (q0 := 6) rfl rfl) (fW_of hP hK hC hS) rfl hl.1 rfl (Nat.le_of_ble_eq_true rfl) d_Book_isNamed_20 ⟨Nat.zero_le _, Nat.zero_le _⟩ (fun r20 hE => ?_)
  obtain ⟨hN, hE⟩ := hE
  exact W.zret (v := r20) hx hb hr hN (fun t ht hW => ⟨_, rfl, hE, ht⟩) (fun q h => by cases h) d_Book_isNamed_23
theorem ok_Book_55 : okV "PlainPages$Book" 55 R_Book y_Book_attributeOf b_Book_attributeOf 4 (some .int) 2 := ⟨aW_in 804 (by decide +kernel) rfl, aW_in 309 (by decide +kernel) rfl, aW_in 310 (by decide +kernel) rfl, aW_in 87 (by decide +kernel) rfl, cd_Book_attributeOf, rfl, by decide +kernel, by decide +kernel, by decide +kernel⟩
theorem ok_Book_58 : okV "PlainPages$Book" 58 R_Book y_Book_isNamed b_Book_isNamed 3 (some .boolean) 2 := ⟨aW_in 805 (by decide +kernel) rfl, aW_in 537 (by decide +kernel) rfl, aW_in 538 (by decide +kernel) rfl, aW_in 87 (by decide +kernel) rfl, cd_Book_isNamed, rfl, by decide +kernel, by decide +kernel, by decide +kernel⟩
theorem d_Book_attributeNamed_0 : decode b_Book_attributeNamed 0 = .ok (.aload_n 0, 1) := by decide +kernel
theorem d_Book_attributeNamed_1 : decode b_Book_attributeNamed 1 = .ok (.getfield 14, 3) := by decide +kernel
theorem d_Book_attributeNamed_4 : decode b_Book_attributeNamed 4 = .ok (.iload_n 1, 1) := by decide +kernel
theorem d_Book_attributeNamed_5 : decode b_Book_attributeNamed 5 = .ok (.iconst 4, 1) := by decide +kernel
theorem d_Book_attributeNamed_6 : decode b_Book_attributeNamed 6 = .ok (.invokevirtual 44, 3) := by decide +kernel
theorem d_Book_attributeNamed_9 : decode b_Book_attributeNamed 9 = .ok (.istore_n 3, 1) := by decide +kernel
theorem d_Book_attributeNamed_10 : decode b_Book_attributeNamed 10 = .ok (.iconst 0, 1) := by decide +kernel
theorem d_Book_attributeNamed_11 : decode b_Book_attributeNamed 11 = .ok (.istore 4, 2) := by decide +kernel
theorem d_Book_attributeNamed_13 : decode b_Book_attributeNamed 13 = .ok (.iload 4, 2) := by decide +kernel
theorem d_Book_attributeNamed_15 : decode b_Book_attributeNamed 15 = .ok (.iload_n 3, 1) := by decide +kernel
theorem d_Book_attributeNamed_16 : decode b_Book_attributeNamed 16 = .ok (.if_icmp .ge 31, 3) := by decide +kernel
theorem d_Book_attributeNamed_19 : decode b_Book_attributeNamed 19 = .ok (.aload_n 0, 1) := by decide +kernel
theorem d_Book_attributeNamed_20 : decode b_Book_attributeNamed 20 = .ok (.iload_n 1, 1) := by decide +kernel
theorem d_Book_attributeNamed_21 : decode b_Book_attributeNamed 21 = .ok (.iload 4, 2) := by decide +kernel
theorem d_Book_attributeNamed_23 : decode b_Book_attributeNamed 23 = .ok (.invokevirtual 55, 3) := by decide +kernel
theorem d_Book_attributeNamed_26 : decode b_Book_attributeNamed 26 = .ok (.istore 5, 2) := by decide +kernel
theorem d_Book_attributeNamed_28 : decode b_Book_attributeNamed 28 = .ok (.aload_n 0, 1) := by decide +kernel
theorem d_Book_attributeNamed_29 : decode b_Book_attributeNamed 29 = .ok (.iload 5, 2) := by decide +kernel
theorem d_Book_attributeNamed_31 : decode b_Book_attributeNamed 31 = .ok (.aload_n 2, 1) := by decide +kernel
theorem d_Book_attributeNamed_32 : decode b_Book_attributeNamed 32 = .ok (.invokevirtual 58, 3) := by decide +kernel
theorem d_Book_attributeNamed_35 : decode b_Book_attributeNamed 35 = .ok (.ifCond .eq 6, 3) := by decide +kernel
theorem d_Book_attributeNamed_38 : decode b_Book_attributeNamed 38 = .ok (.iload 5, 2) := by decide +kernel
theorem d_Book_attributeNamed_40 : decode b_Book_attributeNamed 40 = .ok (.ireturn, 1) := by decide +kernel
theorem d_Book_attributeNamed_41 : decode b_Book_attributeNamed 41 = .ok (.iinc 4 1, 3) := by decide +kernel
theorem d_Book_attributeNamed_44 : decode b_Book_attributeNamed 44 = .ok (.goto (-31), 3) := by decide +kernel
theorem d_Book_attributeNamed_47 : decode b_Book_attributeNamed 47 = .ok (.iconst (-1), 1) := by decide +kernel
theorem d_Book_attributeNamed_48 : decode b_Book_attributeNamed 48 = .ok (.ireturn, 1) := by decide +kernel
def w_Book_attributeNamed_L13  (σ : PPS) (v1 : Int32) (v2 : Nat) (v3 : Int32) (post : Int32 → Prop) : Nat → Int32 → Prop
  | 0, _ => False
  | n13 + 1, v4 => ((v3 ≤ v4 → post (-1)) ∧ (¬ v3 ≤ v4 → w_Book_isNamed σ (bAtt σ v1 v4) v2 (fun r32 => ((r32 = 0 → w_Book_attributeNamed_L13 σ v1 v2 v3 post n13 (v4 + 1)) ∧ (¬ r32 = 0 → post (bAtt σ v1 v4))))))
def w_Book_attributeNamed  (σ : PPS) (x0 : Int32) (x1 : Nat) (post : Int32 → Prop) : Prop := (∃ n13, w_Book_attributeNamed_L13 σ x0 x1 (tGet 14 (pNd σ) x0 4) post n13 0)
set_option maxHeartbeats 4000000 in
set_option maxRecDepth 100000 in
theorem c_Book_attributeNamed (l : Launch) (w : WD) (σ : PPS) (x0 : Int32) (x1 : Nat)  (post : Int32 → Prop) (hI : inv σ) (hE : w_Book_attributeNamed σ x0 x1 post) : Met l y_Book_attributeNamed ws_Book_attributeNamed { frames := 6, cells := 0, slots := 0, locals := 131 } (va_Pc [.ref (wA w 6), .int x0, .ref (wK w x1)] (fW w σ)) (vp_Si post) 0 0 (fun _ => False) := by
  refine Met.ofW (cc := b_Book_attributeNamed) (maxL := 6) (ret := (some .int)) (by decide) rfl ?_
  intro p e s m args below meth c s₁ B hml hv
  obtain ⟨rfl, hP, hK, hC⟩ := hv
  have hS : va_S (fun _ : Nat => False) s.heap s.heap [] := va_S.rf
  have hx := B.exec
  have hb := B.bytes
  have hr := B.returns
  have hta : ∀ w ∈ aW, w.before _ s = true := fun w h => atoms_spec (ws := ws_Book_attributeNamed) B.pre w (List.mem_cons_of_mem _ h)
  have hown : s.vm.findClass R_Book = some m.cls := findClass_of_methodNamed B.named
  have hlocks := B.notSynchronized
  have hl := lv_entry ([.ref (wA w 6), .int x0, .ref (wK w x1)]) (n := 6) (Nat.le_of_ble_eq_true rfl)
  rw [lg_entry_eq]
  generalize (lg_sl ([.ref (wA w 6), .int x0, .ref (wK w x1)]) ++ List.replicate (6 - (lg_sl ([.ref (wA w 6), .int x0, .ref (wK w x1)])).length) Slot.unset).toArray = ls at hl ⊢
  have hl : lv_has ls 6 [(0, .ref (wA w 6)), (1, .int x0), (2, .ref (wK w x1))] := hl
  have L13 : ∀ (v1 : Int32) (v2 : Nat) (v3 : Int32) (n13 : Nat) (v4 : Int32) (ls : Array Slot) (hl : lv_has ls 6 [(0, .ref (wA w 6)), (1, .int v1), (2, .ref (wK w v2)), (3, .int v3), (4, .int v4)]) (hE : w_Book_attributeNamed_L13 σ v1 v2 v3 post n13 v4), W p l e (headSpec ws_Book_attributeNamed { frames := 6, cells := 0, slots := 0, locals := 131 }).room s m ([.ref (wA w 6), .int x0, .ref (wK w x1)] : List Value).toArray below meth c s.heap [] 0 0 (MQ below (vp_Si post) ([.ref (wA w 6), .int x0, .ref (wK w x1)] : List Value).toArray s 0 0 (fun _ => False)) (F0 m 13 ls []) := by
    intro v1 v2 v3 n13
    induction n13 with
    | zero => intro v4 ls hl hE; exact hE.elim
    | succ n13 ih13 =>
      intro v4 ls hl hE
      unfold w_Book_attributeNamed_L13 at hE
      refine lv_iload hx hb d_Book_attributeNamed_13 (lv_at hl 4 rfl) ?_
      refine lv_iload_n hx hb d_Book_attributeNamed_15 rfl (lv_at hl 3 rfl) ?_
      refine lv_icmp_ge (tgt := 47) hx hb d_Book_attributeNamed_16 (by decide) (fun cc16 => ?_) (fun cc16 => ?_)
      · have hE := hE.1 cc16
        refine lv_iconst (v := -1) hx hb d_Book_attributeNamed_47 (by decide) ?_
        exact W.iret (v := (-1)) hx hb hr (fun t ht hW => ⟨_, rfl, hE, ht⟩) (fun q h => by cases h) d_Book_attributeNamed_48
      · have hE := hE.2 cc16
        refine lv_aload_n hx hb d_Book_attributeNamed_19 rfl (lv_at hl 0 rfl) ?_
        refine lv_iload_n hx hb d_Book_attributeNamed_20 rfl (lv_at hl 1 rfl) ?_
        refine lv_iload hx hb d_Book_attributeNamed_21 (lv_at hl 4 rfl) ?_
        refine ro_V (b0 := (wA w 6)) (As := [.int v1, .int v4]) (rest := []) ⟨hx, hb, hml, hown, hta⟩ (f_Book_attributeOf l w σ v1 v4 hI) ok_Book_55 ⟨Nat.le_of_ble_eq_true rfl, Nat.le_of_ble_eq_true rfl⟩ blind_fW (va_recv hK hP (ci := 3) (q0 := 6) rfl rfl) (fW_of hP hK hC hS) rfl hl.1 rfl (Nat.le_of_ble_eq_true rfl) d_Book_attributeNamed_23 ⟨Nat.zero_le _, Nat.zero_le _⟩ (fun r23 hrr => ?_)
        subst hrr
        refine lv_istore (lv' := [(5, .int (bAtt σ v1 v4)), (0, .ref (wA w 6)), (1, .int v1), (2, .ref (wK w v2)), (3, .int v3), (4, .int v4)]) hx hb d_Book_attributeNamed_26 hl (by decide) rfl (fun ls hl => ?_)
        refine lv_aload_n hx hb d_Book_attributeNamed_28 rfl (lv_at hl 1 rfl) ?_
        refine lv_iload hx hb d_Book_attributeNamed_29 (lv_at hl 0 rfl) ?_
        refine lv_aload_n hx hb d_Book_attributeNamed_31 rfl (lv_at hl 3 rfl) ?_
        refine ro_V (b0 := (wA w 6)) (As := [.int (bAtt σ v1 v4), .ref (wK w v2)]) (rest := []) ⟨hx, hb, hml, hown, hta⟩ (c_Book_isNamed l w σ (bAtt σ v1 v4) v2  _ hI hE) ok_Book_58 ⟨Nat.le_of_ble_eq_true rfl, Nat.le_of_ble_eq_true rfl⟩ blind_fW (va_recv hK hP (ci := 3) (q0 := 6) rfl rfl) (fW_of hP hK hC hS) rfl hl.1 rfl (Nat.le_of_ble_eq_true rfl) d_Book_attributeNamed_32 ⟨Nat.zero_le _, Nat.zero_le _⟩ (fun r32 hE => ?_)
        refine lv_if_eq (tgt := 41) hx hb d_Book_attributeNamed_35 (by decide) (fun cc35 => ?_) (fun cc35 => ?_)
        · have hE := hE.1 cc35
          refine lv_iinc (v := v4 + 1) (lv' := [(4, .int (v4 + 1)), (5, .int (bAtt σ v1 v4)), (0, .ref (wA w 6)), (1, .int v1), (2, .ref (wK w v2)), (3, .int v3)]) hx hb d_Book_attributeNamed_41 hl (k := 5) rfl rfl (by decide) rfl (fun ls hl => ?_)
          refine lv_goto (tgt := 13) hx hb d_Book_attributeNamed_44 (by decide) ?_
          exact ih13 (v4 + 1) _ (lv_sub hl [2, 3, 4, 5, 0] rfl) hE
        · have hE := hE.2 cc35
          refine lv_iload hx hb d_Book_attributeNamed_38 (lv_at hl 0 rfl) ?_
          exact W.iret (v := bAtt σ v1 v4) hx hb hr (fun t ht hW => ⟨_, rfl, hE, ht⟩) (fun q h => by cases h) d_Book_attributeNamed_40
  unfold w_Book_attributeNamed at hE
  refine lv_aload_n hx hb d_Book_attributeNamed_0 rfl (lv_at hl 0 rfl) ?_
  refine va_get (D := (wG w)) (ci := 3) (v := .ref (wA w 7)) (C := R_Book) (T := F_Book) (N := 4) hx hb hta i_Book hown hK hP 6 rfl rfl 0 (by decide) (hta _ fl_Book_14) (fun _ h9 => h9) rfl d_Book_attributeNamed_1 ?_
  refine lv_iload_n hx hb d_Book_attributeNamed_4 rfl (lv_at hl 1 rfl) ?_
  refine lv_iconst (v := 4) hx hb d_Book_attributeNamed_5 (by decide) ?_
  refine ro_V (b0 := (wA w 7)) (As := [.int x0, .int 4]) (rest := []) ⟨hx, hb, hml, hown, hta⟩ (c_Table_get l (wG w) (wA w 7) (wA w 8) (wI w) 900 14 12600 (pNd σ) x0 4 (fun r => r = tGet 14 (pNd σ) x0 4) (lNd_get hI x0 4)) ok_Book_44 ⟨Nat.le_of_ble_eq_true rfl, Nat.le_of_ble_eq_true rfl⟩ blind_rW (va_recv hK hP (ci := 2) (q0 := 7) rfl rfl) (fun U h1 h2 => ⟨by rw [h1]; exact hP.sub [7, 8] rfl, va_K.moved h2.alike hK⟩) rfl hl.1 rfl (Nat.le_of_ble_eq_true rfl) d_Book_attributeNamed_6 ⟨Nat.zero_le _, Nat.zero_le _⟩ (fun r6 hrr => ?_)
  subst hrr
  refine lv_istore_n (lv' := [(3, .int (tGet 14 (pNd σ) x0 4)), (0, .ref (wA w 6)), (1, .int x0), (2, .ref (wK w x1))]) hx hb d_Book_attributeNamed_9 rfl hl (by decide) rfl (fun ls hl => ?_)
  refine lv_iconst (v := 0) hx hb d_Book_attributeNamed_10 (by decide) ?_
  refine lv_istore (lv' := [(4, .int 0), (3, .int (tGet 14 (pNd σ) x0 4)), (0, .ref (wA w 6)), (1, .int x0), (2, .ref (wK w x1))]) hx hb d_Book_attributeNamed_11 hl (by decide) rfl (fun ls hl => ?_)
  obtain ⟨n13, hE⟩ := hE
  exact L13 x0 x1 (tGet 14 (pNd σ) x0 4) n13 0 _ (lv_sub hl [2, 3, 4, 1, 0] rfl) hE
theorem ok_Book_75 : okV "PlainPages$Book" 75 R_Strip y_Strip_size b_Strip_size 1 (some .int) 0 := ⟨aW_in 351 (by decide +kernel) rfl, aW_in 261 (by decide +kernel) rfl, aW_in 262 (by decide +kernel) rfl, aW_in 85 (by decide +kernel) rfl, cd_Strip_size, rfl, by decide +kernel, by decide +kernel, by decide +kernel⟩
theorem ok_Book_66 : okS "PlainPages$Book" 66 y_Signs_characterAt b_Signs_characterAt 7 (some .int) 2 := ⟨aW_in 336 (by decide +kernel) rfl, aW_in 337 (by decide +kernel) rfl, aW_in 97 (by decide +kernel) rfl, cd_Signs_characterAt, by decide +kernel, by decide +kernel, by decide +kernel⟩
theorem ok_Book_72 : okS "PlainPages$Book" 72 y_Signs_bytesOf b_Signs_bytesOf 1 (some .int) 1 := ⟨aW_in 350 (by decide +kernel) rfl, aW_in 347 (by decide +kernel) rfl, aW_in 97 (by decide +kernel) rfl, cd_Signs_bytesOf, by decide +kernel, by decide +kernel, by decide +kernel⟩
theorem d_Book_valueIs_0 : decode b_Book_valueIs 0 = .ok (.aload_n 0, 1) := by decide +kernel
theorem d_Book_valueIs_1 : decode b_Book_valueIs 1 = .ok (.getfield 20, 3) := by decide +kernel
theorem d_Book_valueIs_4 : decode b_Book_valueIs 4 = .ok (.iload_n 1, 1) := by decide +kernel
theorem d_Book_valueIs_5 : decode b_Book_valueIs 5 = .ok (.iconst 4, 1) := by decide +kernel
theorem d_Book_valueIs_6 : decode b_Book_valueIs 6 = .ok (.invokevirtual 44, 3) := by decide +kernel
theorem d_Book_valueIs_9 : decode b_Book_valueIs 9 = .ok (.istore_n 3, 1) := by decide +kernel
theorem d_Book_valueIs_10 : decode b_Book_valueIs 10 = .ok (.aload_n 0, 1) := by decide +kernel
theorem d_Book_valueIs_11 : decode b_Book_valueIs 11 = .ok (.getfield 20, 3) := by decide +kernel
theorem d_Book_valueIs_14 : decode b_Book_valueIs 14 = .ok (.iload_n 1, 1) := by decide +kernel
theorem d_Book_valueIs_15 : decode b_Book_valueIs 15 = .ok (.iconst 1, 1) := by decide +kernel
theorem d_Book_valueIs_16 : decode b_Book_valueIs 16 = .ok (.invokevirtual 44, 3) := by decide +kernel
theorem d_Book_valueIs_19 : decode b_Book_valueIs 19 = .ok (.istore 4, 2) := by decide +kernel
theorem d_Book_valueIs_21 : decode b_Book_valueIs 21 = .ok (.iconst 0, 1) := by decide +kernel
theorem d_Book_valueIs_22 : decode b_Book_valueIs 22 = .ok (.istore 5, 2) := by decide +kernel
theorem d_Book_valueIs_24 : decode b_Book_valueIs 24 = .ok (.iconst 0, 1) := by decide +kernel
theorem d_Book_valueIs_25 : decode b_Book_valueIs 25 = .ok (.istore 6, 2) := by decide +kernel
theorem d_Book_valueIs_27 : decode b_Book_valueIs 27 = .ok (.iload 6, 2) := by decide +kernel
theorem d_Book_valueIs_29 : decode b_Book_valueIs 29 = .ok (.iload 4, 2) := by decide +kernel
theorem d_Book_valueIs_31 : decode b_Book_valueIs 31 = .ok (.if_icmp .ge 45, 3) := by decide +kernel
theorem d_Book_valueIs_34 : decode b_Book_valueIs 34 = .ok (.aload_n 0, 1) := by decide +kernel
theorem d_Book_valueIs_35 : decode b_Book_valueIs 35 = .ok (.getfield 28, 3) := by decide +kernel
theorem d_Book_valueIs_38 : decode b_Book_valueIs 38 = .ok (.iload_n 3, 1) := by decide +kernel
theorem d_Book_valueIs_39 : decode b_Book_valueIs 39 = .ok (.iload 6, 2) := by decide +kernel
theorem d_Book_valueIs_41 : decode b_Book_valueIs 41 = .ok (.iadd, 1) := by decide +kernel
theorem d_Book_valueIs_42 : decode b_Book_valueIs 42 = .ok (.invokevirtual 48, 3) := by decide +kernel
theorem d_Book_valueIs_45 : decode b_Book_valueIs 45 = .ok (.istore 7, 2) := by decide +kernel
theorem d_Book_valueIs_47 : decode b_Book_valueIs 47 = .ok (.aload_n 2, 1) := by decide +kernel
theorem d_Book_valueIs_48 : decode b_Book_valueIs 48 = .ok (.iload 5, 2) := by decide +kernel
theorem d_Book_valueIs_50 : decode b_Book_valueIs 50 = .ok (.invokestatic 66, 3) := by decide +kernel
theorem d_Book_valueIs_53 : decode b_Book_valueIs 53 = .ok (.iload 7, 2) := by decide +kernel
theorem d_Book_valueIs_55 : decode b_Book_valueIs 55 = .ok (.if_icmp .eq 5, 3) := by decide +kernel
theorem d_Book_valueIs_58 : decode b_Book_valueIs 58 = .ok (.iconst 0, 1) := by decide +kernel
theorem d_Book_valueIs_59 : decode b_Book_valueIs 59 = .ok (.ireturn, 1) := by decide +kernel
theorem d_Book_valueIs_60 : decode b_Book_valueIs 60 = .ok (.iload 5, 2) := by decide +kernel
theorem d_Book_valueIs_62 : decode b_Book_valueIs 62 = .ok (.iload 7, 2) := by decide +kernel
theorem d_Book_valueIs_64 : decode b_Book_valueIs 64 = .ok (.invokestatic 72, 3) := by decide +kernel
theorem d_Book_valueIs_67 : decode b_Book_valueIs 67 = .ok (.iadd, 1) := by decide +kernel
theorem d_Book_valueIs_68 : decode b_Book_valueIs 68 = .ok (.istore 5, 2) := by decide +kernel
theorem d_Book_valueIs_70 : decode b_Book_valueIs 70 = .ok (.iinc 6 1, 3) := by decide +kernel
theorem d_Book_valueIs_73 : decode b_Book_valueIs 73 = .ok (.goto (-46), 3) := by decide +kernel
theorem d_Book_valueIs_76 : decode b_Book_valueIs 76 = .ok (.iload 5, 2) := by decide +kernel
theorem d_Book_valueIs_78 : decode b_Book_valueIs 78 = .ok (.aload_n 2, 1) := by decide +kernel
theorem d_Book_valueIs_79 : decode b_Book_valueIs 79 = .ok (.invokevirtual 75, 3) := by decide +kernel
theorem d_Book_valueIs_82 : decode b_Book_valueIs 82 = .ok (.if_icmp .ne 7, 3) := by decide +kernel
theorem d_Book_valueIs_85 : decode b_Book_valueIs 85 = .ok (.iconst 1, 1) := by decide +kernel
theorem d_Book_valueIs_86 : decode b_Book_valueIs 86 = .ok (.goto 4, 3) := by decide +kernel
theorem d_Book_valueIs_89 : decode b_Book_valueIs 89 = .ok (.iconst 0, 1) := by decide +kernel
theorem d_Book_valueIs_90 : decode b_Book_valueIs 90 = .ok (.ireturn, 1) := by decide +kernel
def w_Book_valueIs_L27  (σ : PPS) (v3 : Int32) (v4 : Int32) (post : Int32 → Prop) : Nat → Int32 → Int32 → Prop
  | 0, _, _ => False
  | n27 + 1, v5, v6 => ((v4 ≤ v6 → ((v5 = ((pTp σ).1) → post 1) ∧ (¬ v5 = ((pTp σ).1) → post 0))) ∧ (¬ v4 ≤ v6 → w_Signs_characterAt σ v5 (fun r50 => ((r50 = (sGet (pLe σ) (v3 + v6)) → w_Book_valueIs_L27 σ v3 v4 post n27 (v5 + (cBy (sGet (pLe σ) (v3 + v6)))) (v6 + 1)) ∧ (¬ r50 = (sGet (pLe σ) (v3 + v6)) → post 0)))))
def w_Book_valueIs  (σ : PPS) (x0 : Int32) (post : Int32 → Prop) : Prop := (∃ n27, w_Book_valueIs_L27 σ (tGet 5 (pAt σ) x0 4) (tGet 5 (pAt σ) x0 1) post n27 0 0)
set_option maxHeartbeats 4000000 in
set_option maxRecDepth 100000 in
theorem c_Book_valueIs (l : Launch) (w : WD) (σ : PPS) (x0 : Int32)  (post : Int32 → Prop) (hI : inv σ) (hE : w_Book_valueIs σ x0 post) : Met l y_Book_valueIs ws_Book_valueIs { frames := 2, cells := 0, slots := 0, locals := 47 } (va_Pc [.ref (wA w 6), .int x0, .ref (wA w 2)] (fW w σ)) (vp_Si post) 0 0 (fun _ => False) := by
  refine Met.ofW (cc := b_Book_valueIs) (maxL := 8) (ret := (some .boolean)) (by decide) rfl ?_
  intro p e s m args below meth c s₁ B hml hv
  obtain ⟨rfl, hP, hK, hC⟩ := hv
  have hS : va_S (fun _ : Nat => False) s.heap s.heap [] := va_S.rf
  have hx := B.exec
  have hb := B.bytes
  have hr := B.returns
  have hta : ∀ w ∈ aW, w.before _ s = true := fun w h => atoms_spec (ws := ws_Book_valueIs) B.pre w (List.mem_cons_of_mem _ h)
  have hown : s.vm.findClass R_Book = some m.cls := findClass_of_methodNamed B.named
  have hlocks := B.notSynchronized
  have hl := lv_entry ([.ref (wA w 6), .int x0, .ref (wA w 2)]) (n := 8) (Nat.le_of_ble_eq_true rfl)
  rw [lg_entry_eq]
  generalize (lg_sl ([.ref (wA w 6), .int x0, .ref (wA w 2)]) ++ List.replicate (8 - (lg_sl ([.ref (wA w 6), .int x0, .ref (wA w 2)])).length) Slot.unset).toArray = ls at hl ⊢
  have hl : lv_has ls 8 [(0, .ref (wA w 6)), (1, .int x0), (2, .ref (wA w 2))] := hl
  have L27 : ∀ (v3 : Int32) (v4 : Int32) (n27 : Nat) (v5 : Int32) (v6 : Int32) (ls : Array Slot) (hl : lv_has ls 8 [(0, .ref (wA w 6)), (2, .ref (wA w 2)), (3, .int v3), (4, .int v4), (5, .int v5), (6, .int v6)]) (hE : w_Book_valueIs_L27 σ v3 v4 post n27 v5 v6), W p l e (headSpec ws_Book_valueIs { frames := 2, cells := 0, slots := 0, locals := 47 }).room s m ([.ref (wA w 6), .int x0, .ref (wA w 2)] : List Value).toArray below meth c s.heap [] 0 0 (MQ below (vp_Si post) ([.ref (wA w 6), .int x0, .ref (wA w 2)] : List Value).toArray s 0 0 (fun _ => False)) (F0 m 27 ls []) := by
    intro v3 v4 n27
    induction n27 with
    | zero => intro v5 v6 ls hl hE; exact hE.elim
    | succ n27 ih27 =>
      intro v5 v6 ls hl hE
      unfold w_Book_valueIs_L27 at hE
      refine lv_iload hx hb d_Book_valueIs_27 (lv_at hl 5 rfl) ?_
      refine lv_iload hx hb d_Book_valueIs_29 (lv_at hl 3 rfl) ?_
      refine lv_icmp_ge (tgt := 76) hx hb d_Book_valueIs_31 (by decide) (fun cc31 => ?_) (fun cc31 => ?_)
      · have hE := hE.1 cc31
        refine lv_iload hx hb d_Book_valueIs_76 (lv_at hl 4 rfl) ?_
        refine lv_aload_n hx hb d_Book_valueIs_78 rfl (lv_at hl 1 rfl) ?_
        refine ro_V (b0 := (wA w 2)) (As := []) (rest := [.int v5]) ⟨hx, hb, hml, hown, hta⟩ (c_Strip_size l (wG w) (wA w 2) (wA w 3) (wI w) 4000 (pTp σ)  (fun r => r = (pTp σ).1) rfl) ok_Book_75 ⟨Nat.le_of_ble_eq_true rfl, Nat.le_of_ble_eq_true rfl⟩ blind_rW (va_recv hK hP (ci := 1) (q0 := 2) rfl rfl) (fun U h1 h2 => ⟨by rw [h1]; exact hP.sub [2, 3] rfl, va_K.moved h2.alike hK⟩) rfl hl.1 rfl (Nat.le_of_ble_eq_true rfl) d_Book_valueIs_79 ⟨Nat.zero_le _, Nat.zero_le _⟩ (fun r79 hrr => ?_)
        subst hrr
        refine lv_icmp_ne (tgt := 89) hx hb d_Book_valueIs_82 (by decide) (fun cc82 => ?_) (fun cc82 => ?_)
        · have hE := hE.2 cc82
          refine lv_iconst (v := 0) hx hb d_Book_valueIs_89 (by decide) ?_
          exact W.zret (v := 0) hx hb hr rfl (fun t ht hW => ⟨_, rfl, hE, ht⟩) (fun q h => by cases h) d_Book_valueIs_90
        · have hE := hE.1 cc82
          refine lv_iconst (v := 1) hx hb d_Book_valueIs_85 (by decide) ?_
          refine lv_goto (tgt := 90) hx hb d_Book_valueIs_86 (by decide) ?_
          exact W.zret (v := 1) hx hb hr rfl (fun t ht hW => ⟨_, rfl, hE, ht⟩) (fun q h => by cases h) d_Book_valueIs_90
      · have hE := hE.2 cc31
        refine lv_aload_n hx hb d_Book_valueIs_34 rfl (lv_at hl 0 rfl) ?_
        refine va_get (D := (wG w)) (ci := 3) (v := .ref (wA w 11)) (C := R_Book) (T := F_Book) (N := 4) hx hb hta i_Book hown hK hP 6 rfl rfl 2 (by decide) (hta _ fl_Book_28) (fun _ h9 => h9) rfl d_Book_valueIs_35 ?_
        refine lv_iload_n hx hb d_Book_valueIs_38 rfl (lv_at hl 2 rfl) ?_
        refine lv_iload hx hb d_Book_valueIs_39 (lv_at hl 5 rfl) ?_
        refine lv_iadd hx hb d_Book_valueIs_41 ?_
        refine ro_V (b0 := (wA w 11)) (As := [.int (v3 + v6)]) (rest := []) ⟨hx, hb, hml, hown, hta⟩ (c_Strip_get l (wG w) (wA w 11) (wA w 12) (wI w) 4000 (pLe σ) (v3 + v6) (fun r => r = sGet (pLe σ) (v3 + v6)) (l_Strip_get (by decide) (inv.Le hI) (v3 + v6))) ok_Book_48 ⟨Nat.le_of_ble_eq_true rfl, Nat.le_of_ble_eq_true rfl⟩ blind_rW (va_recv hK hP (ci := 1) (q0 := 11) rfl rfl) (fun U h1 h2 => ⟨by rw [h1]; exact hP.sub [11, 12] rfl, va_K.moved h2.alike hK⟩) rfl hl.1 rfl (Nat.le_of_ble_eq_true rfl) d_Book_valueIs_42 ⟨Nat.zero_le _, Nat.zero_le _⟩ (fun r42 hrr => ?_)
        subst hrr
        refine lv_istore (lv' := [(7, .int (sGet (pLe σ) (v3 + v6))), (0, .ref (wA w 6)), (2, .ref (wA w 2)), (3, .int v3), (4, .int v4), (5, .int v5), (6, .int v6)]) hx hb d_Book_valueIs_45 hl (by decide) rfl (fun ls hl => ?_)
        refine lv_aload_n hx hb d_Book_valueIs_47 rfl (lv_at hl 2 rfl) ?_
        refine lv_iload hx hb d_Book_valueIs_48 (lv_at hl 5 rfl) ?_
        refine ro_S  (As := [.ref (wA w 2), .int v5]) (rest := []) ⟨hx, hb, hml, hown, hta⟩ (c_Signs_characterAt l w σ v5  _ hI hE) ok_Book_66 ⟨Nat.le_of_ble_eq_true rfl, Nat.le_of_ble_eq_true rfl⟩ blind_fW  (fW_of hP hK hC hS) rfl hl.1 rfl (Nat.le_of_ble_eq_true rfl) d_Book_valueIs_50 ⟨Nat.zero_le _, Nat.zero_le _⟩ (fun r50 hE => ?_)
        refine lv_iload hx hb d_Book_valueIs_53 (lv_at hl 0 rfl) ?_
        refine lv_icmp_eq (tgt := 60) hx hb d_Book_valueIs_55 (by decide) (fun cc55 => ?_) (fun cc55 => ?_)
        · have hE := hE.1 cc55
          refine lv_iload hx hb d_Book_valueIs_60 (lv_at hl 5 rfl) ?_
          refine lv_iload hx hb d_Book_valueIs_62 (lv_at hl 0 rfl) ?_
          refine ro_S  (As := [.int (sGet (pLe σ) (v3 + v6))]) (rest := [.int v5]) ⟨hx, hb, hml, hown, hta⟩ (f_Signs_bytesOf l (sGet (pLe σ) (v3 + v6))) ok_Book_72 ⟨Nat.le_of_ble_eq_true rfl, Nat.le_of_ble_eq_true rfl⟩ blind_true  (fun _ _ _ => trivial) rfl hl.1 rfl (Nat.le_of_ble_eq_true rfl) d_Book_valueIs_64 ⟨Nat.zero_le _, Nat.zero_le _⟩ (fun r64 hrr => ?_)
          subst hrr
          refine lv_iadd hx hb d_Book_valueIs_67 ?_
          refine lv_istore (lv' := [(5, .int (v5 + (cBy (sGet (pLe σ) (v3 + v6))))), (7, .int (sGet (pLe σ) (v3 + v6))), (0, .ref (wA w 6)), (2, .ref (wA w 2)), (3, .int v3), (4, .int v4), (6, .int v6)]) hx hb d_Book_valueIs_68 hl (by decide) rfl (fun ls hl => ?_)
          refine lv_iinc (v := v6 + 1) (lv' := [(6, .int (v6 + 1)), (5, .int (v5 + (cBy (sGet (pLe σ) (v3 + v6))))), (7, .int (sGet (pLe σ) (v3 + v6))), (0, .ref (wA w 6)), (2, .ref (wA w 2)), (3, .int v3), (4, .int v4)]) hx hb d_Book_valueIs_70 hl (k := 6) rfl rfl (by decide) rfl (fun ls hl => ?_)
          refine lv_goto (tgt := 27) hx hb d_Book_valueIs_73 (by decide) ?_
          exact ih27 (v5 + (cBy (sGet (pLe σ) (v3 + v6)))) (v6 + 1) _ (lv_sub hl [3, 4, 5, 6, 1, 0] rfl) hE
        · have hE := hE.2 cc55
          refine lv_iconst (v := 0) hx hb d_Book_valueIs_58 (by decide) ?_
          exact W.zret (v := 0) hx hb hr rfl (fun t ht hW => ⟨_, rfl, hE, ht⟩) (fun q h => by cases h) d_Book_valueIs_59
  unfold w_Book_valueIs at hE
  refine lv_aload_n hx hb d_Book_valueIs_0 rfl (lv_at hl 0 rfl) ?_
  refine va_get (D := (wG w)) (ci := 3) (v := .ref (wA w 9)) (C := R_Book) (T := F_Book) (N := 4) hx hb hta i_Book hown hK hP 6 rfl rfl 1 (by decide) (hta _ fl_Book_20) (fun _ h9 => h9) rfl d_Book_valueIs_1 ?_
  refine lv_iload_n hx hb d_Book_valueIs_4 rfl (lv_at hl 1 rfl) ?_
  refine lv_iconst (v := 4) hx hb d_Book_valueIs_5 (by decide) ?_
  refine ro_V (b0 := (wA w 9)) (As := [.int x0, .int 4]) (rest := []) ⟨hx, hb, hml, hown, hta⟩ (c_Table_get l (wG w) (wA w 9) (wA w 10) (wI w) 800 5 4000 (pAt σ) x0 4 (fun r => r = tGet 5 (pAt σ) x0 4) (lAt_get hI x0 4)) ok_Book_44 ⟨Nat.le_of_ble_eq_true rfl, Nat.le_of_ble_eq_true rfl⟩ blind_rW (va_recv hK hP (ci := 2) (q0 := 9) rfl rfl) (fun U h1 h2 => ⟨by rw [h1]; exact hP.sub [9, 10] rfl, va_K.moved h2.alike hK⟩) rfl hl.1 rfl (Nat.le_of_ble_eq_true rfl) d_Book_valueIs_6 ⟨Nat.zero_le _, Nat.zero_le _⟩ (fun r6 hrr => ?_)
  subst hrr
  refine lv_istore_n (lv' := [(3, .int (tGet 5 (pAt σ) x0 4)), (0, .ref (wA w 6)), (1, .int x0), (2, .ref (wA w 2))]) hx hb d_Book_valueIs_9 rfl hl (by decide) rfl (fun ls hl => ?_)
  refine lv_aload_n hx hb d_Book_valueIs_10 rfl (lv_at hl 1 rfl) ?_
  refine va_get (D := (wG w)) (ci := 3) (v := .ref (wA w 9)) (C := R_Book) (T := F_Book) (N := 4) hx hb hta i_Book hown hK hP 6 rfl rfl 1 (by decide) (hta _ fl_Book_20) (fun _ h9 => h9) rfl d_Book_valueIs_11 ?_
  refine lv_iload_n hx hb d_Book_valueIs_14 rfl (lv_at hl 2 rfl) ?_
  refine lv_iconst (v := 1) hx hb d_Book_valueIs_15 (by decide) ?_
  refine ro_V (b0 := (wA w 9)) (As := [.int x0, .int 1]) (rest := []) ⟨hx, hb, hml, hown, hta⟩ (c_Table_get l (wG w) (wA w 9) (wA w 10) (wI w) 800 5 4000 (pAt σ) x0 1 (fun r => r = tGet 5 (pAt σ) x0 1) (lAt_get hI x0 1)) ok_Book_44 ⟨Nat.le_of_ble_eq_true rfl, Nat.le_of_ble_eq_true rfl⟩ blind_rW (va_recv hK hP (ci := 2) (q0 := 9) rfl rfl) (fun U h1 h2 => ⟨by rw [h1]; exact hP.sub [9, 10] rfl, va_K.moved h2.alike hK⟩) rfl hl.1 rfl (Nat.le_of_ble_eq_true rfl) d_Book_valueIs_16 ⟨Nat.zero_le _, Nat.zero_le _⟩ (fun r16 hrr => ?_)
  subst hrr
  refine lv_istore (lv' := [(4, .int (tGet 5 (pAt σ) x0 1)), (3, .int (tGet 5 (pAt σ) x0 4)), (0, .ref (wA w 6)), (1, .int x0), (2, .ref (wA w 2))]) hx hb d_Book_valueIs_19 hl (by decide) rfl (fun ls hl => ?_)
  refine lv_iconst (v := 0) hx hb d_Book_valueIs_21 (by decide) ?_
  refine lv_istore (lv' := [(5, .int 0), (4, .int (tGet 5 (pAt σ) x0 1)), (3, .int (tGet 5 (pAt σ) x0 4)), (0, .ref (wA w 6)), (1, .int x0), (2, .ref (wA w 2))]) hx hb d_Book_valueIs_22 hl (by decide) rfl (fun ls hl => ?_)
  refine lv_iconst (v := 0) hx hb d_Book_valueIs_24 (by decide) ?_
  refine lv_istore (lv' := [(6, .int 0), (5, .int 0), (4, .int (tGet 5 (pAt σ) x0 1)), (3, .int (tGet 5 (pAt σ) x0 4)), (0, .ref (wA w 6)), (1, .int x0), (2, .ref (wA w 2))]) hx hb d_Book_valueIs_25 hl (by decide) rfl (fun ls hl => ?_)
  obtain ⟨n27, hE⟩ := hE
  exact L27 (tGet 5 (pAt σ) x0 4) (tGet 5 (pAt σ) x0 1) n27 0 0 _ (lv_sub hl [4, 6, 3, 2, 1, 0] rfl) hE
theorem ok_Book_76 : okV "PlainPages$Book" 76 R_Book y_Book_lettersAgree b_Book_lettersAgree 5 (some .boolean) 3 := ⟨aW_in 531 (by decide +kernel) rfl, aW_in 533 (by decide +kernel) rfl, aW_in 11 (by decide +kernel) rfl, aW_in 87 (by decide +kernel) rfl, cd_Book_lettersAgree, rfl, by decide +kernel, by decide +kernel, by decide +kernel⟩
theorem d_Book_valueBehindIs_0 : decode b_Book_valueBehindIs 0 = .ok (.aload_n 0, 1) := by decide +kernel
theorem d_Book_valueBehindIs_1 : decode b_Book_valueBehindIs 1 = .ok (.getfield 20, 3) := by decide +kernel
theorem d_Book_valueBehindIs_4 : decode b_Book_valueBehindIs 4 = .ok (.iload_n 3, 1) := by decide +kernel
theorem d_Book_valueBehindIs_5 : decode b_Book_valueBehindIs 5 = .ok (.iconst 1, 1) := by decide +kernel
theorem d_Book_valueBehindIs_6 : decode b_Book_valueBehindIs 6 = .ok (.invokevirtual 44, 3) := by decide +kernel
theorem d_Book_valueBehindIs_9 : decode b_Book_valueBehindIs 9 = .ok (.istore 4, 2) := by decide +kernel
theorem d_Book_valueBehindIs_11 : decode b_Book_valueBehindIs 11 = .ok (.aload_n 0, 1) := by decide +kernel
theorem d_Book_valueBehindIs_12 : decode b_Book_valueBehindIs 12 = .ok (.getfield 20, 3) := by decide +kernel
theorem d_Book_valueBehindIs_15 : decode b_Book_valueBehindIs 15 = .ok (.iload_n 1, 1) := by decide +kernel
theorem d_Book_valueBehindIs_16 : decode b_Book_valueBehindIs 16 = .ok (.iconst 1, 1) := by decide +kernel
theorem d_Book_valueBehindIs_17 : decode b_Book_valueBehindIs 17 = .ok (.invokevirtual 44, 3) := by decide +kernel
theorem d_Book_valueBehindIs_20 : decode b_Book_valueBehindIs 20 = .ok (.iload_n 2, 1) := by decide +kernel
theorem d_Book_valueBehindIs_21 : decode b_Book_valueBehindIs 21 = .ok (.isub, 1) := by decide +kernel
theorem d_Book_valueBehindIs_22 : decode b_Book_valueBehindIs 22 = .ok (.iload 4, 2) := by decide +kernel
theorem d_Book_valueBehindIs_24 : decode b_Book_valueBehindIs 24 = .ok (.if_icmp .ne 36, 3) := by decide +kernel
theorem d_Book_valueBehindIs_27 : decode b_Book_valueBehindIs 27 = .ok (.aload_n 0, 1) := by decide +kernel
theorem d_Book_valueBehindIs_28 : decode b_Book_valueBehindIs 28 = .ok (.aload_n 0, 1) := by decide +kernel
theorem d_Book_valueBehindIs_29 : decode b_Book_valueBehindIs 29 = .ok (.getfield 20, 3) := by decide +kernel
theorem d_Book_valueBehindIs_32 : decode b_Book_valueBehindIs 32 = .ok (.iload_n 1, 1) := by decide +kernel
theorem d_Book_valueBehindIs_33 : decode b_Book_valueBehindIs 33 = .ok (.iconst 4, 1) := by decide +kernel
theorem d_Book_valueBehindIs_34 : decode b_Book_valueBehindIs 34 = .ok (.invokevirtual 44, 3) := by decide +kernel
theorem d_Book_valueBehindIs_37 : decode b_Book_valueBehindIs 37 = .ok (.iload_n 2, 1) := by decide +kernel
theorem d_Book_valueBehindIs_38 : decode b_Book_valueBehindIs 38 = .ok (.iadd, 1) := by decide +kernel
theorem d_Book_valueBehindIs_39 : decode b_Book_valueBehindIs 39 = .ok (.aload_n 0, 1) := by decide +kernel
theorem d_Book_valueBehindIs_40 : decode b_Book_valueBehindIs 40 = .ok (.getfield 20, 3) := by decide +kernel
theorem d_Book_valueBehindIs_43 : decode b_Book_valueBehindIs 43 = .ok (.iload_n 3, 1) := by decide +kernel
theorem d_Book_valueBehindIs_44 : decode b_Book_valueBehindIs 44 = .ok (.iconst 4, 1) := by decide +kernel
theorem d_Book_valueBehindIs_45 : decode b_Book_valueBehindIs 45 = .ok (.invokevirtual 44, 3) := by decide +kernel
theorem d_Book_valueBehindIs_48 : decode b_Book_valueBehindIs 48 = .ok (.iload 4, 2) := by decide +kernel
theorem d_Book_valueBehindIs_50 : decode b_Book_valueBehindIs 50 = .ok (.invokevirtual 76, 3) := by decide +kernel
theorem d_Book_valueBehindIs_53 : decode b_Book_valueBehindIs 53 = .ok (.ifCond .eq 7, 3) := by decide +kernel
theorem d_Book_valueBehindIs_56 : decode b_Book_valueBehindIs 56 = .ok (.iconst 1, 1) := by decide +kernel
theorem d_Book_valueBehindIs_57 : decode b_Book_valueBehindIs 57 = .ok (.goto 4, 3) := by decide +kernel
theorem d_Book_valueBehindIs_60 : decode b_Book_valueBehindIs 60 = .ok (.iconst 0, 1) := by decide +kernel
theorem d_Book_valueBehindIs_61 : decode b_Book_valueBehindIs 61 = .ok (.ireturn, 1) := by decide +kernel
def w_Book_valueBehindIs  (σ : PPS) (x0 : Int32) (x1 : Int32) (x2 : Int32) (post : Int32 → Prop) : Prop := ((((tGet 5 (pAt σ) x0 1) - x1) = (tGet 5 (pAt σ) x2 1) → w_Book_lettersAgree σ ((tGet 5 (pAt σ) x0 4) + x1) (tGet 5 (pAt σ) x2 4) (tGet 5 (pAt σ) x2 1) (fun r50 => ((r50 = 0 → post 0) ∧ (¬ r50 = 0 → post 1)))) ∧ (¬ ((tGet 5 (pAt σ) x0 1) - x1) = (tGet 5 (pAt σ) x2 1) → post 0))
set_option maxHeartbeats 4000000 in
set_option maxRecDepth 100000 in
theorem c_Book_valueBehindIs (l : Launch) (w : WD) (σ : PPS) (x0 : Int32) (x1 : Int32) (x2 : Int32)  (post : Int32 → Prop) (hI : inv σ) (hE : w_Book_valueBehindIs σ x0 x1 x2 post) : Met l y_Book_valueBehindIs ws_Book_valueBehindIs { frames := 2, cells := 0, slots := 0, locals := 45 } (va_Pc [.ref (wA w 6), .int x0, .int x1, .int x2] (fW w σ)) (vp_Si post) 0 0 (fun _ => False) := by
  refine Met.ofW (cc := b_Book_valueBehindIs) (maxL := 5) (ret := (some .boolean)) (by decide) rfl ?_
  intro p e s m args below meth c s₁ B hml hv
  obtain ⟨rfl, hP, hK, hC⟩ := hv
  have hS : va_S (fun _ : Nat => False) s.heap s.heap [] := va_S.rf
  have hx := B.exec
  have hb := B.bytes
  have hr := B.returns
  have hta : ∀ w ∈ aW, w.before _ s = true := fun w h => atoms_spec (ws := ws_Book_valueBehindIs) B.pre w (List.mem_cons_of_mem _ h)
  have hown : s.vm.findClass R_Book = some m.cls := findClass_of_methodNamed B.named
  have hlocks := B.notSynchronized
  have hl := lv_entry ([.ref (wA w 6), .int x0, .int x1, .int x2]) (n := 5) (Nat.le_of_ble_eq_true rfl)
  rw [lg_entry_eq]
  generalize (lg_sl ([.ref (wA w 6), .int x0, .int x1, .int x2]) ++ List.replicate (5 - (lg_sl ([.ref (wA w 6), .int x0, .int x1, .int x2])).length) Slot.unset).toArray = ls at hl ⊢
  have hl : lv_has ls 5 [(0, .ref (wA w 6)), (1, .int x0), (2, .int x1), (3, .int x2)] := hl
  unfold w_Book_valueBehindIs at hE
  refine lv_aload_n hx hb d_Book_valueBehindIs_0 rfl (lv_at hl 0 rfl) ?_
  refine va_get (D := (wG w)) (ci := 3) (v := .ref (wA w 9)) (C := R_Book) (T := F_Book) (N := 4) hx hb hta i_Book hown hK hP 6 rfl rfl 1 (by decide) (hta _ fl_Book_20) (fun _ h9 => h9) rfl d_Book_valueBehindIs_1 ?_
  refine lv_iload_n hx hb d_Book_valueBehindIs_4 rfl (lv_at hl 3 rfl) ?_
  refine lv_iconst (v := 1) hx hb d_Book_valueBehindIs_5 (by decide) ?_
  refine ro_V (b0 := (wA w 9)) (As := [.int x2, .int 1]) (rest := []) ⟨hx, hb, hml, hown, hta⟩ (c_Table_get l (wG w) (wA w 9) (wA w 10) (wI w) 800 5 4000 (pAt σ) x2 1 (fun r => r = tGet 5 (pAt σ) x2 1) (lAt_get hI x2 1)) ok_Book_44 ⟨Nat.le_of_ble_eq_true rfl, Nat.le_of_ble_eq_true rfl⟩ blind_rW (va_recv hK hP (ci := 2) (q0 := 9) rfl rfl) (fun U h1 h2 => ⟨by rw [h1]; exact hP.sub [9, 10] rfl, va_K.moved h2.alike hK⟩) rfl hl.1 rfl (Nat.le_of_ble_eq_true rfl) d_Book_valueBehindIs_6 ⟨Nat.zero_le _, Nat.zero_le _⟩ (fun r6 hrr => ?_)
  subst hrr
  refine lv_istore (lv' := [(4, .int (tGet 5 (pAt σ) x2 1)), (0, .ref (wA w 6)), (1, .int x0), (2, .int x1), (3, .int x2)]) hx hb d_Book_valueBehindIs_9 hl (by decide) rfl (fun ls hl => ?_)
  refine lv_aload_n hx hb d_Book_valueBehindIs_11 rfl (lv_at hl 1 rfl) ?_
  refine va_get (D := (wG w)) (ci := 3) (v := .ref (wA w 9)) (C := R_Book) (T := F_Book) (N := 4) hx hb hta i_Book hown hK hP 6 rfl rfl 1 (by decide) (hta _ fl_Book_20) (fun _ h9 => h9) rfl d_Book_valueBehindIs_12 ?_
  refine lv_iload_n hx hb d_Book_valueBehindIs_15 rfl (lv_at hl 2 rfl) ?_
  refine lv_iconst (v := 1) hx hb d_Book_valueBehindIs_16 (by decide) ?_
  refine ro_V (b0 := (wA w 9)) (As := [.int x0, .int 1]) (rest := []) ⟨hx, hb, hml, hown, hta⟩ (c_Table_get l (wG w) (wA w 9) (wA w 10) (wI w) 800 5 4000 (pAt σ) x0 1 (fun r => r = tGet 5 (pAt σ) x0 1) (lAt_get hI x0 1)) ok_Book_44 ⟨Nat.le_of_ble_eq_true rfl, Nat.le_of_ble_eq_true rfl⟩ blind_rW (va_recv hK hP (ci := 2) (q0 := 9) rfl rfl) (fun U h1 h2 => ⟨by rw [h1]; exact hP.sub [9, 10] rfl, va_K.moved h2.alike hK⟩) rfl hl.1 rfl (Nat.le_of_ble_eq_true rfl) d_Book_valueBehindIs_17 ⟨Nat.zero_le _, Nat.zero_le _⟩ (fun r17 hrr => ?_)
  subst hrr
  refine lv_iload_n hx hb d_Book_valueBehindIs_20 rfl (lv_at hl 3 rfl) ?_
  refine lv_isub hx hb d_Book_valueBehindIs_21 ?_
  refine lv_iload hx hb d_Book_valueBehindIs_22 (lv_at hl 0 rfl) ?_
  refine lv_icmp_ne (tgt := 60) hx hb d_Book_valueBehindIs_24 (by decide) (fun cc24 => ?_) (fun cc24 => ?_)
  · have hE := hE.2 cc24
    refine lv_iconst (v := 0) hx hb d_Book_valueBehindIs_60 (by decide) ?_
    exact W.zret (v := 0) hx hb hr rfl (fun t ht hW => ⟨_, rfl, hE, ht⟩) (fun q h => by cases h) d_Book_valueBehindIs_61
  · have hE := hE.1 cc24
    refine lv_aload_n hx hb d_Book_valueBehindIs_27 rfl (lv_at hl 1 rfl) ?_
    refine lv_aload_n hx hb d_Book_valueBehindIs_28 rfl (lv_at hl 1 rfl) ?_
    refine va_get (D := (wG w)) (ci := 3) (v := .ref (wA w 9)) (C := R_Book) (T := F_Book) (N := 4) hx hb hta i_Book hown hK hP 6 rfl rfl 1 (by decide) (hta _ fl_Book_20) (fun _ h9 => h9) rfl d_Book_valueBehindIs_29 ?_
    refine lv_iload_n hx hb d_Book_valueBehindIs_32 rfl (lv_at hl 2 rfl) ?_
    refine lv_iconst (v := 4) hx hb d_Book_valueBehindIs_33 (by decide) ?_
    refine ro_V (b0 := (wA w 9)) (As := [.int x0, .int 4]) (rest := [.ref (wA w 6)]) ⟨hx, hb, hml, hown, hta⟩ (c_Table_get l (wG w) (wA w 9) (wA w 10) (wI w) 800 5 4000 (pAt σ) x0 4 (fun r => r = tGet 5 (pAt σ) x0 4) (lAt_get hI x0 4)) ok_Book_44 ⟨Nat.le_of_ble_eq_true rfl, Nat.le_of_ble_eq_true rfl⟩ blind_rW (va_recv hK hP (ci := 2) (q0 := 9) rfl rfl) (fun U h1 h2 => ⟨by rw [h1]; exact hP.sub [9, 10] rfl, va_K.moved h2.alike hK⟩) rfl hl.1 rfl (Nat.le_of_ble_eq_true rfl) d_Book_valueBehindIs_34 ⟨Nat.zero_le _, Nat.zero_le _⟩ (fun r34 hrr => ?_)
    subst hrr
    refine lv_iload_n hx hb d_Book_valueBehindIs_37 rfl (lv_at hl 3 rfl) ?_
    refine lv_iadd hx hb d_Book_valueBehindIs_38 ?_
    refine lv_aload_n hx hb d_Book_valueBehindIs_39 rfl (lv_at hl 1 rfl) ?_
    refine va_get (D := (wG w)) (ci := 3) (v := .ref (wA w 9)) (C := R_Book) (T := F_Book) (N := 4) hx hb hta i_Book hown hK hP 6 rfl rfl 1 (by decide) (hta _ fl_Book_20) (fun _ h9 => h9) rfl d_Book_valueBehindIs_40 ?_
    refine lv_iload_n hx hb d_Book_valueBehindIs_43 rfl (lv_at hl 4 rfl) ?_
    refine lv_iconst (v := 4) hx hb d_Book_valueBehindIs_44 (by decide) ?_
    refine ro_V (b0 := (wA w 9)) (As := [.int x2, .int 4]) (rest := [.int ((tGet 5 (pAt σ) x0 4) + x1), .ref (wA w 6)]) ⟨hx, hb, hml, hown, hta⟩ (c_Table_get l (wG w) (wA w 9) (wA w 10) (wI w) 800 5 4000 (pAt σ) x2 4 (fun r => r = tGet 5 (pAt σ) x2 4) (lAt_get hI x2 4)) ok_Book_44 ⟨Nat.le_of_ble_eq_true rfl, Nat.le_of_ble_eq_true rfl⟩ blind_rW (va_recv hK hP (ci := 2) (q0 := 9) rfl rfl) (fun U h1 h2 => ⟨by rw [h1]; exact hP.sub [9, 10] rfl, va_K.moved h2.alike hK⟩) rfl hl.1 rfl (Nat.le_of_ble_eq_true rfl) d_Book_valueBehindIs_45 ⟨Nat.zero_le _, Nat.zero_le _⟩ (fun r45 hrr => ?_)
    subst hrr
    refine lv_iload hx hb d_Book_valueBehindIs_48 (lv_at hl 0 rfl) ?_
    refine ro_V (b0 := (wA w 6)) (As := [.int ((tGet 5 (pAt σ) x0 4) + x1), .int (tGet 5 (pAt σ) x2 4), .int (tGet 5 (pAt σ) x2 1)]) (rest := []) ⟨hx, hb, hml, hown, hta⟩ (c_Book_lettersAgree l w σ ((tGet 5 (pAt σ) x0 4) + x1) (tGet 5 (pAt σ) x2 4) (tGet 5 (pAt σ) x2 1)  _ hI hE) ok_Book_76 ⟨Nat.le_of_ble_eq_true rfl, Nat.le_of_ble_eq_true rfl⟩ blind_fW (va_recv hK hP (ci := 3) (q0 := 6) rfl rfl) (fW_of hP hK hC hS) rfl hl.1 rfl (Nat.le_of_ble_eq_true rfl) d_Book_valueBehindIs_50 ⟨Nat.zero_le _, Nat.zero_le _⟩ (fun r50 hE => ?_)
    refine lv_if_eq (tgt := 60) hx hb d_Book_valueBehindIs_53 (by decide) (fun cc53 => ?_) (fun cc53 => ?_)
    · have hE := hE.1 cc53
      refine lv_iconst (v := 0) hx hb d_Book_valueBehindIs_60 (by decide) ?_
      exact W.zret (v := 0) hx hb hr rfl (fun t ht hW => ⟨_, rfl, hE, ht⟩) (fun q h => by cases h) d_Book_valueBehindIs_61
    · have hE := hE.2 cc53
      refine lv_iconst (v := 1) hx hb d_Book_valueBehindIs_56 (by decide) ?_
      refine lv_goto (tgt := 61) hx hb d_Book_valueBehindIs_57 (by decide) ?_
      exact W.zret (v := 1) hx hb hr rfl (fun t ht hW => ⟨_, rfl, hE, ht⟩) (fun q h => by cases h) d_Book_valueBehindIs_61

theorem d_Book_isNamedAgain_0 : decode b_Book_isNamedAgain 0 = .ok (.aload_n 0, 1) := by decide +kernel
theorem d_Book_isNamedAgain_1 : decode b_Book_isNamedAgain 1 = .ok (.getfield 20, 3) := by decide +kernel
theorem d_Book_isNamedAgain_4 : decode b_Book_isNamedAgain 4 = .ok (.iload_n 2, 1) := by decide +kernel
theorem d_Book_isNamedAgain_5 : decode b_Book_isNamedAgain 5 = .ok (.iconst 3, 1) := by decide +kernel
theorem d_Book_isNamedAgain_6 : decode b_Book_isNamedAgain 6 = .ok (.invokevirtual 44, 3) := by decide +kernel
theorem d_Book_isNamedAgain_9 : decode b_Book_isNamedAgain 9 = .ok (.istore_n 3, 1) := by decide +kernel
theorem d_Book_isNamedAgain_10 : decode b_Book_isNamedAgain 10 = .ok (.aload_n 0, 1) := by decide +kernel
theorem d_Book_isNamedAgain_11 : decode b_Book_isNamedAgain 11 = .ok (.getfield 20, 3) := by decide +kernel
theorem d_Book_isNamedAgain_14 : decode b_Book_isNamedAgain 14 = .ok (.iload_n 2, 1) := by decide +kernel
theorem d_Book_isNamedAgain_15 : decode b_Book_isNamedAgain 15 = .ok (.iconst 0, 1) := by decide +kernel
theorem d_Book_isNamedAgain_16 : decode b_Book_isNamedAgain 16 = .ok (.invokevirtual 44, 3) := by decide +kernel
theorem d_Book_isNamedAgain_19 : decode b_Book_isNamedAgain 19 = .ok (.istore 4, 2) := by decide +kernel
theorem d_Book_isNamedAgain_21 : decode b_Book_isNamedAgain 21 = .ok (.aload_n 0, 1) := by decide +kernel
theorem d_Book_isNamedAgain_22 : decode b_Book_isNamedAgain 22 = .ok (.getfield 14, 3) := by decide +kernel
theorem d_Book_isNamedAgain_25 : decode b_Book_isNamedAgain 25 = .ok (.iload_n 1, 1) := by decide +kernel
theorem d_Book_isNamedAgain_26 : decode b_Book_isNamedAgain 26 = .ok (.bipush 9, 2) := by decide +kernel
theorem d_Book_isNamedAgain_28 : decode b_Book_isNamedAgain 28 = .ok (.invokevirtual 44, 3) := by decide +kernel
theorem d_Book_isNamedAgain_31 : decode b_Book_isNamedAgain 31 = .ok (.istore 5, 2) := by decide +kernel
theorem d_Book_isNamedAgain_33 : decode b_Book_isNamedAgain 33 = .ok (.iload 5, 2) := by decide +kernel
theorem d_Book_isNamedAgain_35 : decode b_Book_isNamedAgain 35 = .ok (.iload_n 2, 1) := by decide +kernel
theorem d_Book_isNamedAgain_36 : decode b_Book_isNamedAgain 36 = .ok (.if_icmp .ge 46, 3) := by decide +kernel
theorem d_Book_isNamedAgain_39 : decode b_Book_isNamedAgain 39 = .ok (.aload_n 0, 1) := by decide +kernel
theorem d_Book_isNamedAgain_40 : decode b_Book_isNamedAgain 40 = .ok (.getfield 20, 3) := by decide +kernel
theorem d_Book_isNamedAgain_43 : decode b_Book_isNamedAgain 43 = .ok (.iload 5, 2) := by decide +kernel
theorem d_Book_isNamedAgain_45 : decode b_Book_isNamedAgain 45 = .ok (.iconst 0, 1) := by decide +kernel
theorem d_Book_isNamedAgain_46 : decode b_Book_isNamedAgain 46 = .ok (.invokevirtual 44, 3) := by decide +kernel
theorem d_Book_isNamedAgain_49 : decode b_Book_isNamedAgain 49 = .ok (.iload 4, 2) := by decide +kernel
theorem d_Book_isNamedAgain_51 : decode b_Book_isNamedAgain 51 = .ok (.if_icmp .ne 25, 3) := by decide +kernel
theorem d_Book_isNamedAgain_54 : decode b_Book_isNamedAgain 54 = .ok (.aload_n 0, 1) := by decide +kernel
theorem d_Book_isNamedAgain_55 : decode b_Book_isNamedAgain 55 = .ok (.aload_n 0, 1) := by decide +kernel
theorem d_Book_isNamedAgain_56 : decode b_Book_isNamedAgain 56 = .ok (.getfield 20, 3) := by decide +kernel
theorem d_Book_isNamedAgain_59 : decode b_Book_isNamedAgain 59 = .ok (.iload 5, 2) := by decide +kernel
theorem d_Book_isNamedAgain_61 : decode b_Book_isNamedAgain 61 = .ok (.iconst 3, 1) := by decide +kernel
theorem d_Book_isNamedAgain_62 : decode b_Book_isNamedAgain 62 = .ok (.invokevirtual 44, 3) := by decide +kernel
theorem d_Book_isNamedAgain_65 : decode b_Book_isNamedAgain 65 = .ok (.iload_n 3, 1) := by decide +kernel
theorem d_Book_isNamedAgain_66 : decode b_Book_isNamedAgain 66 = .ok (.iload 4, 2) := by decide +kernel
theorem d_Book_isNamedAgain_68 : decode b_Book_isNamedAgain 68 = .ok (.invokevirtual 76, 3) := by decide +kernel
theorem d_Book_isNamedAgain_71 : decode b_Book_isNamedAgain 71 = .ok (.ifCond .eq 5, 3) := by decide +kernel
theorem d_Book_isNamedAgain_74 : decode b_Book_isNamedAgain 74 = .ok (.iconst 1, 1) := by decide +kernel
theorem d_Book_isNamedAgain_75 : decode b_Book_isNamedAgain 75 = .ok (.ireturn, 1) := by decide +kernel
theorem d_Book_isNamedAgain_76 : decode b_Book_isNamedAgain 76 = .ok (.iinc 5 1, 3) := by decide +kernel
theorem d_Book_isNamedAgain_79 : decode b_Book_isNamedAgain 79 = .ok (.goto (-46), 3) := by decide +kernel
theorem d_Book_isNamedAgain_82 : decode b_Book_isNamedAgain 82 = .ok (.iconst 0, 1) := by decide +kernel
theorem d_Book_isNamedAgain_83 : decode b_Book_isNamedAgain 83 = .ok (.ireturn, 1) := by decide +kernel
def w_Book_isNamedAgain_J76  (σ : PPS) (v2 : Int32) (v3 : Int32) (v4 : Int32) (K33 : Int32 → Prop) (post : Int32 → Prop) (v5 : Int32) : Prop := K33 (v5 + 1)
def w_Book_isNamedAgain_L33  (σ : PPS) (v2 : Int32) (v3 : Int32) (v4 : Int32) (post : Int32 → Prop) : Nat → Int32 → Prop
  | 0, _ => False
  | n33 + 1, v5 => ((v2 ≤ v5 → post 0) ∧ (¬ v2 ≤ v5 → (((tGet 5 (pAt σ) v5 0) = v4 → w_Book_lettersAgree σ (tGet 5 (pAt σ) v5 3) v3 v4 (fun r68 => ((r68 = 0 → w_Book_isNamedAgain_J76 σ v2 v3 v4 (w_Book_isNamedAgain_L33 σ v2 v3 v4 post n33) post v5) ∧ (¬ r68 = 0 → post 1)))) ∧ (¬ (tGet 5 (pAt σ) v5 0) = v4 → w_Book_isNamedAgain_J76 σ v2 v3 v4 (w_Book_isNamedAgain_L33 σ v2 v3 v4 post n33) post v5))))
def w_Book_isNamedAgain  (σ : PPS) (x0 : Int32) (x1 : Int32) (post : Int32 → Prop) : Prop := (∃ n33, w_Book_isNamedAgain_L33 σ x1 (tGet 5 (pAt σ) x1 3) (tGet 5 (pAt σ) x1 0) post n33 (tGet 14 (pNd σ) x0 9))
set_option maxHeartbeats 4000000 in
set_option maxRecDepth 100000 in
theorem c_Book_isNamedAgain (l : Launch) (w : WD) (σ : PPS) (x0 : Int32) (x1 : Int32)  (post : Int32 → Prop) (hI : inv σ) (hE : w_Book_isNamedAgain σ x0 x1 post) : Met l y_Book_isNamedAgain ws_Book_isNamedAgain { frames := 2, cells := 0, slots := 0, locals := 45 } (va_Pc [.ref (wA w 6), .int x0, .int x1] (fW w σ)) (vp_Si post) 0 0 (fun _ => False) := by
  refine Met.ofW (cc := b_Book_isNamedAgain) (maxL := 6) (ret := (some .boolean)) (by decide) rfl ?_
  intro p e s m args below meth c s₁ B hml hv
  obtain ⟨rfl, hP, hK, hC⟩ := hv
  have hS : va_S (fun _ : Nat => False) s.heap s.heap [] := va_S.rf
  have hx := B.exec
  have hb := B.bytes
  have hr := B.returns
  have hta : ∀ w ∈ aW, w.before _ s = true := fun w h => atoms_spec (ws := ws_Book_isNamedAgain) B.pre w (List.mem_cons_of_mem _ h)
  have hown : s.vm.findClass R_Book = some m.cls := findClass_of_methodNamed B.named
  have hlocks := B.notSynchronized
  have hl := lv_entry ([.ref (wA w 6), .int x0, .int x1]) (n := 6) (Nat.le_of_ble_eq_true rfl)
  rw [lg_entry_eq]
  generalize (lg_sl ([.ref (wA w 6), .int x0, .int x1]) ++ List.replicate (6 - (lg_sl ([.ref (wA w 6), .int x0, .int x1])).length) Slot.unset).toArray = ls at hl ⊢
  have hl : lv_has ls 6 [(0, .ref (wA w 6)), (1, .int x0), (2, .int x1)] := hl
  have L33 : ∀ (v2 : Int32) (v3 : Int32) (v4 : Int32) (n33 : Nat) (v5 : Int32) (ls : Array Slot) (hl : lv_has ls 6 [(0, .ref (wA w 6)), (2, .int v2), (3, .int v3), (4, .int v4), (5, .int v5)]) (hE : w_Book_isNamedAgain_L33 σ v2 v3 v4 post n33 v5), W p l e (headSpec ws_Book_isNamedAgain { frames := 2, cells := 0, slots := 0, locals := 45 }).room s m ([.ref (wA w 6), .int x0, .int x1] : List Value).toArray below meth c s.heap [] 0 0 (MQ below (vp_Si post) ([.ref (wA w 6), .int x0, .int x1] : List Value).toArray s 0 0 (fun _ => False)) (F0 m 33 ls []) := by
    intro v2 v3 v4 n33
    induction n33 with
    | zero => intro v5 ls hl hE; exact hE.elim
    | succ n33 ih33 =>
      have J76 : ∀ (v5 : Int32) (ls : Array Slot) (hl : lv_has ls 6 [(0, .ref (wA w 6)), (2, .int v2), (3, .int v3), (4, .int v4), (5, .int v5)]) (hE : w_Book_isNamedAgain_J76 σ v2 v3 v4 (w_Book_isNamedAgain_L33 σ v2 v3 v4 post n33) post v5), W p l e (headSpec ws_Book_isNamedAgain { frames := 2, cells := 0, slots := 0, locals := 45 }).room s m ([.ref (wA w 6), .int x0, .int x1] : List Value).toArray below meth c s.heap [] 0 0 (MQ below (vp_Si post) ([.ref (wA w 6), .int x0, .int x1] : List Value).toArray s 0 0 (fun _ => False)) (F0 m 76 ls []) := by
        intro  v5 ls hl hE
        unfold w_Book_isNamedAgain_J76 at hE
        refine lv_iinc (v := v5 + 1) (lv' := [(5, .int (v5 + 1)), (0, .ref (wA w 6)), (2, .int v2), (3, .int v3), (4, .int v4)]) hx hb d_Book_isNamedAgain_76 hl (k := 4) rfl rfl (by decide) rfl (fun ls hl => ?_)
        refine lv_goto (tgt := 33) hx hb d_Book_isNamedAgain_79 (by decide) ?_
        exact ih33 (v5 + 1) _ (lv_sub hl [1, 2, 3, 4, 0] rfl) hE
      intro v5 ls hl hE
      unfold w_Book_isNamedAgain_L33 at hE
      refine lv_iload hx hb d_Book_isNamedAgain_33 (lv_at hl 4 rfl) ?_
      refine lv_iload_n hx hb d_Book_isNamedAgain_35 rfl (lv_at hl 1 rfl) ?_
      refine lv_icmp_ge (tgt := 82) hx hb d_Book_isNamedAgain_36 (by decide) (fun cc36 => ?_) (fun cc36 => ?_)
      · have hE := hE.1 cc36
        refine lv_iconst (v := 0) hx hb d_Book_isNamedAgain_82 (by decide) ?_
        exact W.zret (v := 0) hx hb hr rfl (fun t ht hW => ⟨_, rfl, hE, ht⟩) (fun q h => by cases h) d_Book_isNamedAgain_83
      · have hE := hE.2 cc36
        refine lv_aload_n hx hb d_Book_isNamedAgain_39 rfl (lv_at hl 0 rfl) ?_
        refine va_get (D := (wG w)) (ci := 3) (v := .ref (wA w 9)) (C := R_Book) (T := F_Book) (N := 4) hx hb hta i_Book hown hK hP 6 rfl rfl 1 (by decide) (hta _ fl_Book_20) (fun _ h9 => h9) rfl d_Book_isNamedAgain_40 ?_
        refine lv_iload hx hb d_Book_isNamedAgain_43 (lv_at hl 4 rfl) ?_
        refine lv_iconst (v := 0) hx hb d_Book_isNamedAgain_45 (by decide) ?_
        refine ro_V (b0 := (wA w 9)) (As := [.int v5, .int 0]) (rest := []) ⟨hx, hb, hml, hown, hta⟩ (c_Table_get l (wG w) (wA w 9) (wA w 10) (wI w) 800 5 4000 (pAt σ) v5 0 (fun r => r = tGet 5 (pAt σ) v5 0) (lAt_get hI v5 0)) ok_Book_44 ⟨Nat.le_of_ble_eq_true rfl, Nat.le_of_ble_eq_true rfl⟩ blind_rW (va_recv hK hP (ci := 2) (q0 := 9) rfl rfl) (fun U h1 h2 => ⟨by rw [h1]; exact hP.sub [9, 10] rfl, va_K.moved h2.alike hK⟩) rfl hl.1 rfl (Nat.le_of_ble_eq_true rfl) d_Book_isNamedAgain_46 ⟨Nat.zero_le _, Nat.zero_le _⟩ (fun r46 hrr => ?_)
        subst hrr
        refine lv_iload hx hb d_Book_isNamedAgain_49 (lv_at hl 3 rfl) ?_
        refine lv_icmp_ne (tgt := 76) hx hb d_Book_isNamedAgain_51 (by decide) (fun cc51 => ?_) (fun cc51 => ?_)
        · have hE := hE.2 cc51
          exact J76  v5 _ (lv_sub hl [0, 1, 2, 3, 4] rfl) hE
        · have hE := hE.1 cc51
          refine lv_aload_n hx hb d_Book_isNamedAgain_54 rfl (lv_at hl 0 rfl) ?_
          refine lv_aload_n hx hb d_Book_isNamedAgain_55 rfl (lv_at hl 0 rfl) ?_
          refine va_get (D := (wG w)) (ci := 3) (v := .ref (wA w 9)) (C := R_Book) (T := F_Book) (N := 4) hx hb hta i_Book hown hK hP 6 rfl rfl 1 (by decide) (hta _ fl_Book_20) (fun _ h9 => h9) rfl d_Book_isNamedAgain_56 ?_
          refine lv_iload hx hb d_Book_isNamedAgain_59 (lv_at hl 4 rfl) ?_
          refine lv_iconst (v := 3) hx hb d_Book_isNamedAgain_61 (by decide) ?_
          refine ro_V (b0 := (wA w 9)) (As := [.int v5, .int 3]) (rest := [.ref (wA w 6)]) ⟨hx, hb, hml, hown, hta⟩ (c_Table_get l (wG w) (wA w 9) (wA w 10) (wI w) 800 5 4000 (pAt σ) v5 3 (fun r => r = tGet 5 (pAt σ) v5 3) (lAt_get hI v5 3)) ok_Book_44 ⟨Nat.le_of_ble_eq_true rfl, Nat.le_of_ble_eq_true rfl⟩ blind_rW (va_recv hK hP (ci := 2) (q0 := 9) rfl rfl) (fun U h1 h2 => ⟨by rw [h1]; exact hP.sub [9, 10] rfl, va_K.moved h2.alike hK⟩) rfl hl.1 rfl (Nat.le_of_ble_eq_true rfl) d_Book_isNamedAgain_62 ⟨Nat.zero_le _, Nat.zero_le _⟩ (fun r62 hrr => ?_)
          subst hrr
          refine lv_iload_n hx hb d_Book_isNamedAgain_65 rfl (lv_at hl 2 rfl) ?_
          refine lv_iload hx hb d_Book_isNamedAgain_66 (lv_at hl 3 rfl) ?_
          refine ro_V (b0 := (wA w 6)) (As := [.int (tGet 5 (pAt σ) v5 3), .int v3, .int v4]) (rest := []) ⟨hx, hb, hml, hown, hta⟩ (c_Book_lettersAgree l w σ (tGet 5 (pAt σ) v5 3) v3 v4  _ hI hE) ok_Book_76 ⟨Nat.le_of_ble_eq_true rfl, Nat.le_of_ble_eq_true rfl⟩ blind_fW (va_recv hK hP (ci := 3) (q0 := 6) rfl rfl) (fW_of hP hK hC hS) rfl hl.1 rfl (Nat.le_of_ble_eq_true rfl) d_Book_isNamedAgain_68 ⟨Nat.zero_le _, Nat.zero_le _⟩ (fun r68 hE => ?_)
          refine lv_if_eq (tgt := 76) hx hb d_Book_isNamedAgain_71 (by decide) (fun cc71 => ?_) (fun cc71 => ?_)
          · have hE := hE.1 cc71
            exact J76  v5 _ (lv_sub hl [0, 1, 2, 3, 4] rfl) hE
          · have hE := hE.2 cc71
            refine lv_iconst (v := 1) hx hb d_Book_isNamedAgain_74 (by decide) ?_
            exact W.zret (v := 1) hx hb hr rfl (fun t ht hW => ⟨_, rfl, hE, ht⟩) (fun q h => by cases h) d_Book_isNamedAgain_75
  unfold w_Book_isNamedAgain at hE
  refine lv_aload_n hx hb d_Book_isNamedAgain_0 rfl (lv_at hl 0 rfl) ?_
  refine va_get (D := (wG w)) (ci := 3) (v := .ref (wA w 9)) (C := R_Book) (T := F_Book) (N := 4) hx hb hta i_Book hown hK hP 6 rfl rfl 1 (by decide) (hta _ fl_Book_20) (fun _ h9 => h9) rfl d_Book_isNamedAgain_1 ?_
  refine lv_iload_n hx hb d_Book_isNamedAgain_4 rfl (lv_at hl 2 rfl) ?_
  refine lv_iconst (v := 3) hx hb d_Book_isNamedAgain_5 (by decide) ?_
  refine ro_V (b0 := (wA w 9)) (As := [.int x1, .int 3]) (rest := []) ⟨hx, hb, hml, hown, hta⟩ (c_Table_get l (wG w) (wA w 9) (wA w 10) (wI w) 800 5 4000 (pAt σ) x1 3 (fun r => r = tGet 5 (pAt σ) x1 3) (lAt_get hI x1 3)) ok_Book_44 ⟨Nat.le_of_ble_eq_true rfl, Nat.le_of_ble_eq_true rfl⟩ blind_rW (va_recv hK hP (ci := 2) (q0 := 9) rfl rfl) (fun U h1 h2 => ⟨by rw [h1]; exact hP.sub [9, 10] rfl, va_K.moved h2.alike hK⟩) rfl hl.1 rfl (Nat.le_of_ble_eq_true rfl) d_Book_isNamedAgain_6 ⟨Nat.zero_le _, Nat.zero_le _⟩ (fun r6 hrr => ?_)
  subst hrr
  refine lv_istore_n (lv' := [(3, .int (tGet 5 (pAt σ) x1 3)), (0, .ref (wA w 6)), (1, .int x0), (2, .int x1)]) hx hb d_Book_isNamedAgain_9 rfl hl (by decide) rfl (fun ls hl => ?_)
  refine lv_aload_n hx hb d_Book_isNamedAgain_10 rfl (lv_at hl 1 rfl) ?_
  refine va_get (D := (wG w)) (ci := 3) (v := .ref (wA w 9)) (C := R_Book) (T := F_Book) (N := 4) hx hb hta i_Book hown hK hP 6 rfl rfl 1 (by decide) (hta _ fl_Book_20) (fun _ h9 => h9) rfl d_Book_isNamedAgain_11 ?_
  refine lv_iload_n hx hb d_Book_isNamedAgain_14 rfl (lv_at hl 3 rfl) ?_
  refine lv_iconst (v := 0) hx hb d_Book_isNamedAgain_15 (by decide) ?_
  refine ro_V (b0 := (wA w 9)) (As := [.int x1, .int 0]) (rest := []) ⟨hx, hb, hml, hown, hta⟩ (c_Table_get l (wG w) (wA w 9) (wA w 10) (wI w) 800 5 4000 (pAt σ) x1 0 (fun r => r = tGet 5 (pAt σ) x1 0) (lAt_get hI x1 0)) ok_Book_44 ⟨Nat.le_of_ble_eq_true rfl, Nat.le_of_ble_eq_true rfl⟩ blind_rW (va_recv hK hP (ci := 2) (q0 := 9) rfl rfl) (fun U h1 h2 => ⟨by rw [h1]; exact hP.sub [9, 10] rfl, va_K.moved h2.alike hK⟩) rfl hl.1 rfl (Nat.le_of_ble_eq_true rfl) d_Book_isNamedAgain_16 ⟨Nat.zero_le _, Nat.zero_le _⟩ (fun r16 hrr => ?_)
  subst hrr
  refine lv_istore (lv' := [(4, .int (tGet 5 (pAt σ) x1 0)), (3, .int (tGet 5 (pAt σ) x1 3)), (0, .ref (wA w 6)), (1, .int x0), (2, .int x1)]) hx hb d_Book_isNamedAgain_19 hl (by decide) rfl (fun ls hl => ?_)
  refine lv_aload_n hx hb d_Book_isNamedAgain_21 rfl (lv_at hl 2 rfl) ?_
  refine va_get (D := (wG w)) (ci := 3) (v := .ref (wA w 7)) (C := R_Book) (T := F_Book) (N := 4) hx hb hta i_Book hown hK hP 6 rfl rfl 0 (by decide) (hta _ fl_Book_14) (fun _ h9 => h9) rfl d_Book_isNamedAgain_22 ?_
  refine lv_iload_n hx hb d_Book_isNamedAgain_25 rfl (lv_at hl 3 rfl) ?_
  refine lv_bipush (v := 9) hx hb d_Book_isNamedAgain_26 (by decide) ?_
  refine ro_V (b0 := (wA w 7)) (As := [.int x0, .int 9]) (rest := []) ⟨hx, hb, hml, hown, hta⟩ (c_Table_get l (wG w) (wA w 7) (wA w 8) (wI w) 900 14 12600 (pNd σ) x0 9 (fun r => r = tGet 14 (pNd σ) x0 9) (lNd_get hI x0 9)) ok_Book_44 ⟨Nat.le_of_ble_eq_true rfl, Nat.le_of_ble_eq_true rfl⟩ blind_rW (va_recv hK hP (ci := 2) (q0 := 7) rfl rfl) (fun U h1 h2 => ⟨by rw [h1]; exact hP.sub [7, 8] rfl, va_K.moved h2.alike hK⟩) rfl hl.1 rfl (Nat.le_of_ble_eq_true rfl) d_Book_isNamedAgain_28 ⟨Nat.zero_le _, Nat.zero_le _⟩ (fun r28 hrr => ?_)
  subst hrr
  refine lv_istore (lv' := [(5, .int (tGet 14 (pNd σ) x0 9)), (4, .int (tGet 5 (pAt σ) x1 0)), (3, .int (tGet 5 (pAt σ) x1 3)), (0, .ref (wA w 6)), (1, .int x0), (2, .int x1)]) hx hb d_Book_isNamedAgain_31 hl (by decide) rfl (fun ls hl => ?_)
  obtain ⟨n33, hE⟩ := hE
  exact L33 x1 (tGet 5 (pAt σ) x1 3) (tGet 5 (pAt σ) x1 0) n33 (tGet 14 (pNd σ) x0 9) _ (lv_sub hl [3, 5, 2, 1, 0] rfl) hE
theorem ok_Book_36 : okV "PlainPages$Book" 36 R_Table y_Table_clear b_Table_clear 1 none 0 := ⟨aW_in 381 (by decide +kernel) rfl, aW_in 382 (by decide +kernel) rfl, aW_in 383 (by decide +kernel) rfl, aW_in 88 (by decide +kernel) rfl, cd_Table_clear, rfl, by decide +kernel, by decide +kernel, by decide +kernel⟩
theorem ok_Book_39 : okV "PlainPages$Book" 39 R_Strip y_Strip_clear b_Strip_clear 1 none 0 := ⟨aW_in 385 (by decide +kernel) rfl, aW_in 273 (by decide +kernel) rfl, aW_in 274 (by decide +kernel) rfl, aW_in 85 (by decide +kernel) rfl, cd_Strip_clear, rfl, by decide +kernel, by decide +kernel, by decide +kernel⟩
theorem d_Book_clear_0 : decode b_Book_clear 0 = .ok (.aload_n 0, 1) := by decide +kernel
theorem d_Book_clear_1 : decode b_Book_clear 1 = .ok (.getfield 14, 3) := by decide +kernel
theorem d_Book_clear_4 : decode b_Book_clear 4 = .ok (.invokevirtual 36, 3) := by decide +kernel
theorem d_Book_clear_7 : decode b_Book_clear 7 = .ok (.aload_n 0, 1) := by decide +kernel
theorem d_Book_clear_8 : decode b_Book_clear 8 = .ok (.getfield 20, 3) := by decide +kernel
theorem d_Book_clear_11 : decode b_Book_clear 11 = .ok (.invokevirtual 36, 3) := by decide +kernel
theorem d_Book_clear_14 : decode b_Book_clear 14 = .ok (.aload_n 0, 1) := by decide +kernel
theorem d_Book_clear_15 : decode b_Book_clear 15 = .ok (.getfield 28, 3) := by decide +kernel
theorem d_Book_clear_18 : decode b_Book_clear 18 = .ok (.invokevirtual 39, 3) := by decide +kernel
theorem d_Book_clear_21 : decode b_Book_clear 21 = .ok (.aload_n 0, 1) := by decide +kernel
theorem d_Book_clear_22 : decode b_Book_clear 22 = .ok (.iconst 0, 1) := by decide +kernel
theorem d_Book_clear_23 : decode b_Book_clear 23 = .ok (.putfield 32, 3) := by decide +kernel
theorem d_Book_clear_26 : decode b_Book_clear 26 = .ok (.return_, 1) := by decide +kernel
def w_Book_clear  (σ : PPS)  (post : PPS → Prop) : Prop := (∀ σ4 : PPS, σ4 = sNd σ (sClr (pNd σ)) → (∀ σ11 : PPS, σ11 = sAt σ4 (sClr (pAt σ4)) → (∀ σ18 : PPS, σ18 = sLe σ11 (sClr (pLe σ11)) → (∀ σ23 : PPS, σ23 = sEl σ18 0 → post σ23))))
set_option maxHeartbeats 4000000 in
set_option maxRecDepth 100000 in
theorem c_Book_clear (l : Launch) (w : WD) (sz : Nat) (σ : PPS)   (post : PPS → Prop) (hI : inv σ) (hE : w_Book_clear σ post) : Met l y_Book_clear ws_Book_clear { frames := 1, cells := 0, slots := 0, locals := 20 } (va_Pc [.ref (wA w 6)] (gW w σ sz)) (va_Qv (fun u => post u ∧ inv u) (mB (wG w) (WW w) (wI w) (va_A (WW w σ) sz)) (va_A (WW w σ) sz)) 0 0 (va_A (WW w σ) sz) := by
  refine Met.ofW (cc := b_Book_clear) (maxL := 1) (ret := none) (by decide) rfl ?_
  intro p e s m args below meth c s₁ B hml hv
  obtain ⟨rfl, hsz, hP, hK, hD0, hC⟩ := hv
  have hx := B.exec
  have hb := B.bytes
  have hr := B.returns
  have hta : ∀ w ∈ aW, w.before _ s = true := fun w h => atoms_spec (ws := ws_Book_clear) B.pre w (List.mem_cons_of_mem _ h)
  have hown : s.vm.findClass R_Book = some m.cls := findClass_of_methodNamed B.named
  have hlocks := B.notSynchronized
  subst hsz
  have hD := hD0.self (sz := s.heap.size)
  generalize hAe : va_A (WW w σ) s.heap.size = A at hD hC ⊢
  have hA : ∀ q : Nat, s.heap.size ≤ q → A q := fun q h => by rw [← hAe]; exact Or.inr h
  have hS : va_S A s.heap s.heap [] := va_S.rf
  have hP : va_P (wG w) classes (WW w σ) s.heap := hP
  have hl := lv_entry ([.ref (wA w 6)]) (n := 1) (Nat.le_of_ble_eq_true rfl)
  rw [lg_entry_eq]
  generalize (lg_sl ([.ref (wA w 6)]) ++ List.replicate (1 - (lg_sl ([.ref (wA w 6)])).length) Slot.unset).toArray = ls at hl ⊢
  have hl : lv_has ls 1 [(0, .ref (wA w 6))] := hl
  unfold w_Book_clear at hE
  refine lv_aload_n hx hb d_Book_clear_0 rfl (lv_at hl 0 rfl) ?_
  refine va_get (D := (wG w)) (ci := 3) (v := .ref (wA w 7)) (C := R_Book) (T := F_Book) (N := 4) hx hb hta i_Book hown hK hP 6 rfl rfl 0 (by decide) (hta _ fl_Book_14) (fun _ h9 => h9) rfl d_Book_clear_1 ?_
  refine cNd_v (As := []) (rest := []) ⟨hx, hb, hml, hown, hta⟩ (c_Table_clear l (wG w) (wA w 7) (wA w 8) (wI w) 900 14 12600 _ (pNd σ) (fun u => u = sClr (pNd σ)) (fun _ e => e)) ok_Book_36 ⟨Nat.le_of_ble_eq_true rfl, Nat.le_of_ble_eq_true rfl⟩ hP hK hD hS hA rfl hl.1 rfl (Nat.le_of_ble_eq_true rfl) d_Book_clear_4 ⟨Nat.zero_le _, Nat.zero_le _⟩ (fun u H locs hrr hP hD hS => ?_)
  subst hrr
  have hP : va_P (wG w) classes (WW w (sNd σ (sClr (pNd σ)))) H := hP
  have hD : va_D A (WW w (sNd σ (sClr (pNd σ)))) := hD
  have hI : inv (sNd σ (sClr (pNd σ))) := (inv.sNd hI (sOk_clr _))
  have hE := hE _ rfl
  generalize (sNd σ (sClr (pNd σ)) : PPS) = σ4 at hP hD hI hE
  refine lv_aload_n hx hb d_Book_clear_7 rfl (lv_at hl 0 rfl) ?_
  refine va_get (D := (wG w)) (ci := 3) (v := .ref (wA w 9)) (C := R_Book) (T := F_Book) (N := 4) hx hb hta i_Book hown hK hP 6 rfl rfl 1 (by decide) (hta _ fl_Book_20) (fun _ h9 => h9) rfl d_Book_clear_8 ?_
  refine cAt_v (As := []) (rest := []) ⟨hx, hb, hml, hown, hta⟩ (c_Table_clear l (wG w) (wA w 9) (wA w 10) (wI w) 800 5 4000 _ (pAt σ4) (fun u => u = sClr (pAt σ4)) (fun _ e => e)) ok_Book_36 ⟨Nat.le_of_ble_eq_true rfl, Nat.le_of_ble_eq_true rfl⟩ hP hK hD hS hA rfl hl.1 rfl (Nat.le_of_ble_eq_true rfl) d_Book_clear_11 ⟨Nat.zero_le _, Nat.zero_le _⟩ (fun u H locs hrr hP hD hS => ?_)
  subst hrr
  have hP : va_P (wG w) classes (WW w (sAt σ4 (sClr (pAt σ4)))) H := hP
  have hD : va_D A (WW w (sAt σ4 (sClr (pAt σ4)))) := hD
  have hI : inv (sAt σ4 (sClr (pAt σ4))) := (inv.sAt hI (sOk_clr _))
  have hE := hE _ rfl
  generalize (sAt σ4 (sClr (pAt σ4)) : PPS) = σ11 at hP hD hI hE
  refine lv_aload_n hx hb d_Book_clear_14 rfl (lv_at hl 0 rfl) ?_
  refine va_get (D := (wG w)) (ci := 3) (v := .ref (wA w 11)) (C := R_Book) (T := F_Book) (N := 4) hx hb hta i_Book hown hK hP 6 rfl rfl 2 (by decide) (hta _ fl_Book_28) (fun _ h9 => h9) rfl d_Book_clear_15 ?_
  refine cLe_v (As := []) (rest := []) ⟨hx, hb, hml, hown, hta⟩ (c_Strip_clear l (wG w) (wA w 11) (wA w 12) (wI w) 4000 _ (pLe σ11) (fun u => u = sClr (pLe σ11)) (fun _ e => e)) ok_Book_39 ⟨Nat.le_of_ble_eq_true rfl, Nat.le_of_ble_eq_true rfl⟩ hP hK hD hS hA rfl hl.1 rfl (Nat.le_of_ble_eq_true rfl) d_Book_clear_18 ⟨Nat.zero_le _, Nat.zero_le _⟩ (fun u H locs hrr hP hD hS => ?_)
  subst hrr
  have hP : va_P (wG w) classes (WW w (sLe σ11 (sClr (pLe σ11)))) H := hP
  have hD : va_D A (WW w (sLe σ11 (sClr (pLe σ11)))) := hD
  have hI : inv (sLe σ11 (sClr (pLe σ11))) := (inv.sLe hI (sOk_clr _))
  have hE := hE _ rfl
  generalize (sLe σ11 (sClr (pLe σ11)) : PPS) = σ18 at hP hD hI hE
  refine lv_aload_n hx hb d_Book_clear_21 rfl (lv_at hl 0 rfl) ?_
  refine lv_iconst (v := 0) hx hb d_Book_clear_22 (by decide) ?_
  refine va_put (D := (wG w)) (ci := 3) (v := .int 0) (ty := .int) (C := R_Book) (T := F_Book) (N := 4) hx hb hta i_Book t_Book t_Book_ok n_Book hown hK hP hD hS 6 rfl rfl 3 (by decide) (hta _ fl_Book_32) (fun _ h9 => h9) rfl (by decide +kernel) rfl rfl (Nat.le_of_ble_eq_true rfl) d_Book_clear_23 (fun H locs hP hD hS => ?_)
  have hP : va_P (wG w) classes (WW w (sEl σ18 0)) H := hP
  have hD : va_D A (WW w (sEl σ18 0)) := hD
  have hI : inv (sEl σ18 0) := hI
  have hE := hE _ rfl
  generalize (sEl σ18 0 : PPS) = σ23 at hP hD hI hE
  exact W.vret hx hb hr (fun t ht hW => ⟨⟨σ23, rfl, ⟨hE, hI⟩, by rw [ht]; exact hP, va_K.moved hW.alike hK, hD⟩, hS.F ht⟩) hS.2.2 d_Book_clear_26
theorem ok_Book_87 : okV "PlainPages$Book" 87 R_Strip y_Strip_add b_Strip_add 2 none 1 := ⟨aW_in 494 (by decide +kernel) rfl, aW_in 265 (by decide +kernel) rfl, aW_in 266 (by decide +kernel) rfl, aW_in 85 (by decide +kernel) rfl, cd_Strip_add, rfl, by decide +kernel, by decide +kernel, by decide +kernel⟩
theorem d_Book_addLetter_0 : decode b_Book_addLetter 0 = .ok (.aload_n 0, 1) := by decide +kernel
theorem d_Book_addLetter_1 : decode b_Book_addLetter 1 = .ok (.getfield 28, 3) := by decide +kernel
theorem d_Book_addLetter_4 : decode b_Book_addLetter 4 = .ok (.iload_n 1, 1) := by decide +kernel
theorem d_Book_addLetter_5 : decode b_Book_addLetter 5 = .ok (.invokevirtual 87, 3) := by decide +kernel
theorem d_Book_addLetter_8 : decode b_Book_addLetter 8 = .ok (.return_, 1) := by decide +kernel
def w_Book_addLetter  (σ : PPS) (x0 : Int32) (post : PPS → Prop) : Prop := (∀ σ5 : PPS, σ5 = sLe σ (sAdd 4000 (pLe σ) x0) → post σ5)
set_option maxHeartbeats 4000000 in
set_option maxRecDepth 100000 in
theorem c_Book_addLetter (l : Launch) (w : WD) (sz : Nat) (σ : PPS) (x0 : Int32)  (post : PPS → Prop) (hI : inv σ) (hE : w_Book_addLetter σ x0 post) : Met l y_Book_addLetter ws_Book_addLetter { frames := 1, cells := 0, slots := 0, locals := 21 } (va_Pc [.ref (wA w 6), .int x0] (gW w σ sz)) (va_Qv (fun u => post u ∧ inv u) (mB (wG w) (WW w) (wI w) (va_A (WW w σ) sz)) (va_A (WW w σ) sz)) 0 0 (va_A (WW w σ) sz) := by
  refine Met.ofW (cc := b_Book_addLetter) (maxL := 2) (ret := none) (by decide) rfl ?_
  intro p e s m args below meth c s₁ B hml hv
  obtain ⟨rfl, hsz, hP, hK, hD0, hC⟩ := hv
  have hx := B.exec
  have hb := B.bytes
  have hr := B.returns
  have hta : ∀ w ∈ aW, w.before _ s = true := fun w h => atoms_spec (ws := ws_Book_addLetter) B.pre w (List.mem_cons_of_mem _ h)
  have hown : s.vm.findClass R_Book = some m.cls := findClass_of_methodNamed B.named
  have hlocks := B.notSynchronized
  subst hsz
  have hD := hD0.self (sz := s.heap.size)
  generalize hAe : va_A (WW w σ) s.heap.size = A at hD hC ⊢
  have hA : ∀ q : Nat, s.heap.size ≤ q → A q := fun q h => by rw [← hAe]; exact Or.inr h
  have hS : va_S A s.heap s.heap [] := va_S.rf
  have hP : va_P (wG w) classes (WW w σ) s.heap := hP
  have hl := lv_entry ([.ref (wA w 6), .int x0]) (n := 2) (Nat.le_of_ble_eq_true rfl)
  rw [lg_entry_eq]
  generalize (lg_sl ([.ref (wA w 6), .int x0]) ++ List.replicate (2 - (lg_sl ([.ref (wA w 6), .int x0])).length) Slot.unset).toArray = ls at hl ⊢
  have hl : lv_has ls 2 [(0, .ref (wA w 6)), (1, .int x0)] := hl
  unfold w_Book_addLetter at hE
  refine lv_aload_n hx hb d_Book_addLetter_0 rfl (lv_at hl 0 rfl) ?_
  refine va_get (D := (wG w)) (ci := 3) (v := .ref (wA w 11)) (C := R_Book) (T := F_Book) (N := 4) hx hb hta i_Book hown hK hP 6 rfl rfl 2 (by decide) (hta _ fl_Book_28) (fun _ h9 => h9) rfl d_Book_addLetter_1 ?_
  refine lv_iload_n hx hb d_Book_addLetter_4 rfl (lv_at hl 1 rfl) ?_
  refine cLe_v (As := [.int x0]) (rest := []) ⟨hx, hb, hml, hown, hta⟩ (c_Strip_add l (wG w) (wA w 11) (wA w 12) (wI w) 4000 _ (pLe σ) x0 (fun u => u = sAdd 4000 (pLe σ) x0) (l_Strip_add (by decide) (inv.Le hI) x0)) ok_Book_87 ⟨Nat.le_of_ble_eq_true rfl, Nat.le_of_ble_eq_true rfl⟩ hP hK hD hS hA rfl hl.1 rfl (Nat.le_of_ble_eq_true rfl) d_Book_addLetter_5 ⟨Nat.zero_le _, Nat.zero_le _⟩ (fun u H locs hrr hP hD hS => ?_)
  subst hrr
  have hP : va_P (wG w) classes (WW w (sLe σ (sAdd 4000 (pLe σ) x0))) H := hP
  have hD : va_D A (WW w (sLe σ (sAdd 4000 (pLe σ) x0))) := hD
  have hI : inv (sLe σ (sAdd 4000 (pLe σ) x0)) := (inv.sLe hI (sOk_add (by decide) (inv.Le hI) _))
  have hE := hE _ rfl
  generalize (sLe σ (sAdd 4000 (pLe σ) x0) : PPS) = σ5 at hP hD hI hE
  exact W.vret hx hb hr (fun t ht hW => ⟨⟨σ5, rfl, ⟨hE, hI⟩, by rw [ht]; exact hP, va_K.moved hW.alike hK, hD⟩, hS.F ht⟩) hS.2.2 d_Book_addLetter_8
theorem ok_Book_83 : okV "PlainPages$Book" 83 R_Table y_Table_set b_Table_set 5 none 3 := ⟨aW_in 482 (by decide +kernel) rfl, aW_in 483 (by decide +kernel) rfl, aW_in 484 (by decide +kernel) rfl, aW_in 88 (by decide +kernel) rfl, cd_Table_set, rfl, by decide +kernel, by decide +kernel, by decide +kernel⟩
theorem d_Book_endLetters_0 : decode b_Book_endLetters 0 = .ok (.aload_n 0, 1) := by decide +kernel
theorem d_Book_endLetters_1 : decode b_Book_endLetters 1 = .ok (.getfield 14, 3) := by decide +kernel
theorem d_Book_endLetters_4 : decode b_Book_endLetters 4 = .ok (.iload_n 1, 1) := by decide +kernel
theorem d_Book_endLetters_5 : decode b_Book_endLetters 5 = .ok (.iconst 3, 1) := by decide +kernel
theorem d_Book_endLetters_6 : decode b_Book_endLetters 6 = .ok (.aload_n 0, 1) := by decide +kernel
theorem d_Book_endLetters_7 : decode b_Book_endLetters 7 = .ok (.getfield 28, 3) := by decide +kernel
theorem d_Book_endLetters_10 : decode b_Book_endLetters 10 = .ok (.invokevirtual 75, 3) := by decide +kernel
theorem d_Book_endLetters_13 : decode b_Book_endLetters 13 = .ok (.aload_n 0, 1) := by decide +kernel
theorem d_Book_endLetters_14 : decode b_Book_endLetters 14 = .ok (.getfield 14, 3) := by decide +kernel
theorem d_Book_endLetters_17 : decode b_Book_endLetters 17 = .ok (.iload_n 1, 1) := by decide +kernel
theorem d_Book_endLetters_18 : decode b_Book_endLetters 18 = .ok (.bipush 8, 2) := by decide +kernel
theorem d_Book_endLetters_20 : decode b_Book_endLetters 20 = .ok (.invokevirtual 44, 3) := by decide +kernel
theorem d_Book_endLetters_23 : decode b_Book_endLetters 23 = .ok (.isub, 1) := by decide +kernel
theorem d_Book_endLetters_24 : decode b_Book_endLetters 24 = .ok (.invokevirtual 83, 3) := by decide +kernel
theorem d_Book_endLetters_27 : decode b_Book_endLetters 27 = .ok (.return_, 1) := by decide +kernel
def w_Book_endLetters  (σ : PPS) (x0 : Int32) (post : PPS → Prop) : Prop := (∀ σ24 : PPS, σ24 = sNd σ (tSet 14 (pNd σ) x0 3 (((pLe σ).1) - (tGet 14 (pNd σ) x0 8))) → post σ24)
set_option maxHeartbeats 4000000 in
set_option maxRecDepth 100000 in
theorem c_Book_endLetters (l : Launch) (w : WD) (sz : Nat) (σ : PPS) (x0 : Int32)  (post : PPS → Prop) (hI : inv σ) (hE : w_Book_endLetters σ x0 post) : Met l y_Book_endLetters ws_Book_endLetters { frames := 1, cells := 0, slots := 0, locals := 24 } (va_Pc [.ref (wA w 6), .int x0] (gW w σ sz)) (va_Qv (fun u => post u ∧ inv u) (mB (wG w) (WW w) (wI w) (va_A (WW w σ) sz)) (va_A (WW w σ) sz)) 0 0 (va_A (WW w σ) sz) := by
  refine Met.ofW (cc := b_Book_endLetters) (maxL := 2) (ret := none) (by decide) rfl ?_
  intro p e s m args below meth c s₁ B hml hv
  obtain ⟨rfl, hsz, hP, hK, hD0, hC⟩ := hv
  have hx := B.exec
  have hb := B.bytes
  have hr := B.returns
  have hta : ∀ w ∈ aW, w.before _ s = true := fun w h => atoms_spec (ws := ws_Book_endLetters) B.pre w (List.mem_cons_of_mem _ h)
  have hown : s.vm.findClass R_Book = some m.cls := findClass_of_methodNamed B.named
  have hlocks := B.notSynchronized
  subst hsz
  have hD := hD0.self (sz := s.heap.size)
  generalize hAe : va_A (WW w σ) s.heap.size = A at hD hC ⊢
  have hA : ∀ q : Nat, s.heap.size ≤ q → A q := fun q h => by rw [← hAe]; exact Or.inr h
  have hS : va_S A s.heap s.heap [] := va_S.rf
  have hP : va_P (wG w) classes (WW w σ) s.heap := hP
  have hl := lv_entry ([.ref (wA w 6), .int x0]) (n := 2) (Nat.le_of_ble_eq_true rfl)
  rw [lg_entry_eq]
  generalize (lg_sl ([.ref (wA w 6), .int x0]) ++ List.replicate (2 - (lg_sl ([.ref (wA w 6), .int x0])).length) Slot.unset).toArray = ls at hl ⊢
  have hl : lv_has ls 2 [(0, .ref (wA w 6)), (1, .int x0)] := hl
  unfold w_Book_endLetters at hE
  refine lv_aload_n hx hb d_Book_endLetters_0 rfl (lv_at hl 0 rfl) ?_
  refine va_get (D := (wG w)) (ci := 3) (v := .ref (wA w 7)) (C := R_Book) (T := F_Book) (N := 4) hx hb hta i_Book hown hK hP 6 rfl rfl 0 (by decide) (hta _ fl_Book_14) (fun _ h9 => h9) rfl d_Book_endLetters_1 ?_
  refine lv_iload_n hx hb d_Book_endLetters_4 rfl (lv_at hl 1 rfl) ?_
  refine lv_iconst (v := 3) hx hb d_Book_endLetters_5 (by decide) ?_
  refine lv_aload_n hx hb d_Book_endLetters_6 rfl (lv_at hl 0 rfl) ?_
  refine va_get (D := (wG w)) (ci := 3) (v := .ref (wA w 11)) (C := R_Book) (T := F_Book) (N := 4) hx hb hta i_Book hown hK hP 6 rfl rfl 2 (by decide) (hta _ fl_Book_28) (fun _ h9 => h9) rfl d_Book_endLetters_7 ?_
  refine ro_V (b0 := (wA w 11)) (As := []) (rest := [.int 3, .int x0, .ref (wA w 7)]) ⟨hx, hb, hml, hown, hta⟩ (c_Strip_size l (wG w) (wA w 11) (wA w 12) (wI w) 4000 (pLe σ)  (fun r => r = (pLe σ).1) rfl) ok_Book_75 ⟨Nat.le_of_ble_eq_true rfl, Nat.le_of_ble_eq_true rfl⟩ blind_rW (va_recv hK hP (ci := 1) (q0 := 11) rfl rfl) (fun U h1 h2 => ⟨by rw [h1]; exact hP.sub [11, 12] rfl, va_K.moved h2.alike hK⟩) rfl hl.1 rfl (Nat.le_of_ble_eq_true rfl) d_Book_endLetters_10 ⟨Nat.zero_le _, Nat.zero_le _⟩ (fun r10 hrr => ?_)
  subst hrr
  refine lv_aload_n hx hb d_Book_endLetters_13 rfl (lv_at hl 0 rfl) ?_
  refine va_get (D := (wG w)) (ci := 3) (v := .ref (wA w 7)) (C := R_Book) (T := F_Book) (N := 4) hx hb hta i_Book hown hK hP 6 rfl rfl 0 (by decide) (hta _ fl_Book_14) (fun _ h9 => h9) rfl d_Book_endLetters_14 ?_
  refine lv_iload_n hx hb d_Book_endLetters_17 rfl (lv_at hl 1 rfl) ?_
  refine lv_bipush (v := 8) hx hb d_Book_endLetters_18 (by decide) ?_
  refine ro_V (b0 := (wA w 7)) (As := [.int x0, .int 8]) (rest := [.int ((pLe σ).1), .int 3, .int x0, .ref (wA w 7)]) ⟨hx, hb, hml, hown, hta⟩ (c_Table_get l (wG w) (wA w 7) (wA w 8) (wI w) 900 14 12600 (pNd σ) x0 8 (fun r => r = tGet 14 (pNd σ) x0 8) (lNd_get hI x0 8)) ok_Book_44 ⟨Nat.le_of_ble_eq_true rfl, Nat.le_of_ble_eq_true rfl⟩ blind_rW (va_recv hK hP (ci := 2) (q0 := 7) rfl rfl) (fun U h1 h2 => ⟨by rw [h1]; exact hP.sub [7, 8] rfl, va_K.moved h2.alike hK⟩) rfl hl.1 rfl (Nat.le_of_ble_eq_true rfl) d_Book_endLetters_20 ⟨Nat.zero_le _, Nat.zero_le _⟩ (fun r20 hrr => ?_)
  subst hrr
  refine lv_isub hx hb d_Book_endLetters_23 ?_
  refine cNd_v (As := [.int x0, .int 3, .int (((pLe σ).1) - (tGet 14 (pNd σ) x0 8))]) (rest := []) ⟨hx, hb, hml, hown, hta⟩ (c_Table_set l (wG w) (wA w 7) (wA w 8) (wI w) 900 14 12600 _ (pNd σ) x0 3 (((pLe σ).1) - (tGet 14 (pNd σ) x0 8)) (fun u => u = tSet 14 (pNd σ) x0 3 (((pLe σ).1) - (tGet 14 (pNd σ) x0 8))) (lNd_set hI x0 3 (((pLe σ).1) - (tGet 14 (pNd σ) x0 8)))) ok_Book_83 ⟨Nat.le_of_ble_eq_true rfl, Nat.le_of_ble_eq_true rfl⟩ hP hK hD hS hA rfl hl.1 rfl (Nat.le_of_ble_eq_true rfl) d_Book_endLetters_24 ⟨Nat.zero_le _, Nat.zero_le _⟩ (fun u H locs hrr hP hD hS => ?_)
  subst hrr
  have hP : va_P (wG w) classes (WW w (sNd σ (tSet 14 (pNd σ) x0 3 (((pLe σ).1) - (tGet 14 (pNd σ) x0 8))))) H := hP
  have hD : va_D A (WW w (sNd σ (tSet 14 (pNd σ) x0 3 (((pLe σ).1) - (tGet 14 (pNd σ) x0 8))))) := hD
  have hI : inv (sNd σ (tSet 14 (pNd σ) x0 3 (((pLe σ).1) - (tGet 14 (pNd σ) x0 8)))) := (inv.sNd hI (sOk_set (inv.Nd hI) _ _ _))
  have hE := hE _ rfl
  generalize (sNd σ (tSet 14 (pNd σ) x0 3 (((pLe σ).1) - (tGet 14 (pNd σ) x0 8))) : PPS) = σ24 at hP hD hI hE
  exact W.vret hx hb hr (fun t ht hW => ⟨⟨σ24, rfl, ⟨hE, hI⟩, by rw [ht]; exact hP, va_K.moved hW.alike hK, hD⟩, hS.F ht⟩) hS.2.2 d_Book_endLetters_27

theorem d_Book_shut_0 : decode b_Book_shut 0 = .ok (.aload_n 0, 1) := by decide +kernel
theorem d_Book_shut_1 : decode b_Book_shut 1 = .ok (.getfield 14, 3) := by decide +kernel
theorem d_Book_shut_4 : decode b_Book_shut 4 = .ok (.iload_n 1, 1) := by decide +kernel
theorem d_Book_shut_5 : decode b_Book_shut 5 = .ok (.bipush 10, 2) := by decide +kernel
theorem d_Book_shut_7 : decode b_Book_shut 7 = .ok (.aload_n 0, 1) := by decide +kernel
theorem d_Book_shut_8 : decode b_Book_shut 8 = .ok (.getfield 14, 3) := by decide +kernel
theorem d_Book_shut_11 : decode b_Book_shut 11 = .ok (.invokevirtual 40, 3) := by decide +kernel
theorem d_Book_shut_14 : decode b_Book_shut 14 = .ok (.invokevirtual 83, 3) := by decide +kernel
theorem d_Book_shut_17 : decode b_Book_shut 17 = .ok (.return_, 1) := by decide +kernel
def w_Book_shut  (σ : PPS) (x0 : Int32) (post : PPS → Prop) : Prop := (∀ σ14 : PPS, σ14 = sNd σ (tSet 14 (pNd σ) x0 10 ((pNd σ).1)) → post σ14)
set_option maxHeartbeats 4000000 in
set_option maxRecDepth 100000 in
theorem c_Book_shut (l : Launch) (w : WD) (sz : Nat) (σ : PPS) (x0 : Int32)  (post : PPS → Prop) (hI : inv σ) (hE : w_Book_shut σ x0 post) : Met l y_Book_shut ws_Book_shut { frames := 1, cells := 0, slots := 0, locals := 24 } (va_Pc [.ref (wA w 6), .int x0] (gW w σ sz)) (va_Qv (fun u => post u ∧ inv u) (mB (wG w) (WW w) (wI w) (va_A (WW w σ) sz)) (va_A (WW w σ) sz)) 0 0 (va_A (WW w σ) sz) := by
  refine Met.ofW (cc := b_Book_shut) (maxL := 2) (ret := none) (by decide) rfl ?_
  intro p e s m args below meth c s₁ B hml hv
  obtain ⟨rfl, hsz, hP, hK, hD0, hC⟩ := hv
  have hx := B.exec
  have hb := B.bytes
  have hr := B.returns
  have hta : ∀ w ∈ aW, w.before _ s = true := fun w h => atoms_spec (ws := ws_Book_shut) B.pre w (List.mem_cons_of_mem _ h)
  have hown : s.vm.findClass R_Book = some m.cls := findClass_of_methodNamed B.named
  have hlocks := B.notSynchronized
  subst hsz
  have hD := hD0.self (sz := s.heap.size)
  generalize hAe : va_A (WW w σ) s.heap.size = A at hD hC ⊢
  have hA : ∀ q : Nat, s.heap.size ≤ q → A q := fun q h => by rw [← hAe]; exact Or.inr h
  have hS : va_S A s.heap s.heap [] := va_S.rf
  have hP : va_P (wG w) classes (WW w σ) s.heap := hP
  have hl := lv_entry ([.ref (wA w 6), .int x0]) (n := 2) (Nat.le_of_ble_eq_true rfl)
  rw [lg_entry_eq]
  generalize (lg_sl ([.ref (wA w 6), .int x0]) ++ List.replicate (2 - (lg_sl ([.ref (wA w 6), .int x0])).length) Slot.unset).toArray = ls at hl ⊢
  have hl : lv_has ls 2 [(0, .ref (wA w 6)), (1, .int x0)] := hl
  unfold w_Book_shut at hE
  refine lv_aload_n hx hb d_Book_shut_0 rfl (lv_at hl 0 rfl) ?_
  refine va_get (D := (wG w)) (ci := 3) (v := .ref (wA w 7)) (C := R_Book) (T := F_Book) (N := 4) hx hb hta i_Book hown hK hP 6 rfl rfl 0 (by decide) (hta _ fl_Book_14) (fun _ h9 => h9) rfl d_Book_shut_1 ?_
  refine lv_iload_n hx hb d_Book_shut_4 rfl (lv_at hl 1 rfl) ?_
  refine lv_bipush (v := 10) hx hb d_Book_shut_5 (by decide) ?_
  refine lv_aload_n hx hb d_Book_shut_7 rfl (lv_at hl 0 rfl) ?_
  refine va_get (D := (wG w)) (ci := 3) (v := .ref (wA w 7)) (C := R_Book) (T := F_Book) (N := 4) hx hb hta i_Book hown hK hP 6 rfl rfl 0 (by decide) (hta _ fl_Book_14) (fun _ h9 => h9) rfl d_Book_shut_8 ?_
  refine ro_V (b0 := (wA w 7)) (As := []) (rest := [.int 10, .int x0, .ref (wA w 7)]) ⟨hx, hb, hml, hown, hta⟩ (c_Table_size l (wG w) (wA w 7) (wA w 8) (wI w) 900 14 12600 (pNd σ)  (fun r => r = (pNd σ).1) rfl) ok_Book_40 ⟨Nat.le_of_ble_eq_true rfl, Nat.le_of_ble_eq_true rfl⟩ blind_rW (va_recv hK hP (ci := 2) (q0 := 7) rfl rfl) (fun U h1 h2 => ⟨by rw [h1]; exact hP.sub [7, 8] rfl, va_K.moved h2.alike hK⟩) rfl hl.1 rfl (Nat.le_of_ble_eq_true rfl) d_Book_shut_11 ⟨Nat.zero_le _, Nat.zero_le _⟩ (fun r11 hrr => ?_)
  subst hrr
  refine cNd_v (As := [.int x0, .int 10, .int ((pNd σ).1)]) (rest := []) ⟨hx, hb, hml, hown, hta⟩ (c_Table_set l (wG w) (wA w 7) (wA w 8) (wI w) 900 14 12600 _ (pNd σ) x0 10 ((pNd σ).1) (fun u => u = tSet 14 (pNd σ) x0 10 ((pNd σ).1)) (lNd_set hI x0 10 ((pNd σ).1))) ok_Book_83 ⟨Nat.le_of_ble_eq_true rfl, Nat.le_of_ble_eq_true rfl⟩ hP hK hD hS hA rfl hl.1 rfl (Nat.le_of_ble_eq_true rfl) d_Book_shut_14 ⟨Nat.zero_le _, Nat.zero_le _⟩ (fun u H locs hrr hP hD hS => ?_)
  subst hrr
  have hP : va_P (wG w) classes (WW w (sNd σ (tSet 14 (pNd σ) x0 10 ((pNd σ).1)))) H := hP
  have hD : va_D A (WW w (sNd σ (tSet 14 (pNd σ) x0 10 ((pNd σ).1)))) := hD
  have hI : inv (sNd σ (tSet 14 (pNd σ) x0 10 ((pNd σ).1))) := (inv.sNd hI (sOk_set (inv.Nd hI) _ _ _))
  have hE := hE _ rfl
  generalize (sNd σ (tSet 14 (pNd σ) x0 10 ((pNd σ).1)) : PPS) = σ14 at hP hD hI hE
  exact W.vret hx hb hr (fun t ht hW => ⟨⟨σ14, rfl, ⟨hE, hI⟩, by rw [ht]; exact hP, va_K.moved hW.alike hK, hD⟩, hS.F ht⟩) hS.2.2 d_Book_shut_17

theorem d_Book_keepId_0 : decode b_Book_keepId 0 = .ok (.aload_n 0, 1) := by decide +kernel
theorem d_Book_keepId_1 : decode b_Book_keepId 1 = .ok (.getfield 14, 3) := by decide +kernel
theorem d_Book_keepId_4 : decode b_Book_keepId 4 = .ok (.iload_n 1, 1) := by decide +kernel
theorem d_Book_keepId_5 : decode b_Book_keepId 5 = .ok (.bipush 13, 2) := by decide +kernel
theorem d_Book_keepId_7 : decode b_Book_keepId 7 = .ok (.iload_n 2, 1) := by decide +kernel
theorem d_Book_keepId_8 : decode b_Book_keepId 8 = .ok (.invokevirtual 83, 3) := by decide +kernel
theorem d_Book_keepId_11 : decode b_Book_keepId 11 = .ok (.return_, 1) := by decide +kernel
def w_Book_keepId  (σ : PPS) (x0 : Int32) (x1 : Int32) (post : PPS → Prop) : Prop := (∀ σ8 : PPS, σ8 = sNd σ (tSet 14 (pNd σ) x0 13 x1) → post σ8)
set_option maxHeartbeats 4000000 in
set_option maxRecDepth 100000 in
theorem c_Book_keepId (l : Launch) (w : WD) (sz : Nat) (σ : PPS) (x0 : Int32) (x1 : Int32)  (post : PPS → Prop) (hI : inv σ) (hE : w_Book_keepId σ x0 x1 post) : Met l y_Book_keepId ws_Book_keepId { frames := 1, cells := 0, slots := 0, locals := 24 } (va_Pc [.ref (wA w 6), .int x0, .int x1] (gW w σ sz)) (va_Qv (fun u => post u ∧ inv u) (mB (wG w) (WW w) (wI w) (va_A (WW w σ) sz)) (va_A (WW w σ) sz)) 0 0 (va_A (WW w σ) sz) := by
  refine Met.ofW (cc := b_Book_keepId) (maxL := 3) (ret := none) (by decide) rfl ?_
  intro p e s m args below meth c s₁ B hml hv
  obtain ⟨rfl, hsz, hP, hK, hD0, hC⟩ := hv
  have hx := B.exec
  have hb := B.bytes
  have hr := B.returns
  have hta : ∀ w ∈ aW, w.before _ s = true := fun w h => atoms_spec (ws := ws_Book_keepId) B.pre w (List.mem_cons_of_mem _ h)
  have hown : s.vm.findClass R_Book = some m.cls := findClass_of_methodNamed B.named
  have hlocks := B.notSynchronized
  subst hsz
  have hD := hD0.self (sz := s.heap.size)
  generalize hAe : va_A (WW w σ) s.heap.size = A at hD hC ⊢
  have hA : ∀ q : Nat, s.heap.size ≤ q → A q := fun q h => by rw [← hAe]; exact Or.inr h
  have hS : va_S A s.heap s.heap [] := va_S.rf
  have hP : va_P (wG w) classes (WW w σ) s.heap := hP
  have hl := lv_entry ([.ref (wA w 6), .int x0, .int x1]) (n := 3) (Nat.le_of_ble_eq_true rfl)
  rw [lg_entry_eq]
  generalize (lg_sl ([.ref (wA w 6), .int x0, .int x1]) ++ List.replicate (3 - (lg_sl ([.ref (wA w 6), .int x0, .int x1])).length) Slot.unset).toArray = ls at hl ⊢
  have hl : lv_has ls 3 [(0, .ref (wA w 6)), (1, .int x0), (2, .int x1)] := hl
  unfold w_Book_keepId at hE
  refine lv_aload_n hx hb d_Book_keepId_0 rfl (lv_at hl 0 rfl) ?_
  refine va_get (D := (wG w)) (ci := 3) (v := .ref (wA w 7)) (C := R_Book) (T := F_Book) (N := 4) hx hb hta i_Book hown hK hP 6 rfl rfl 0 (by decide) (hta _ fl_Book_14) (fun _ h9 => h9) rfl d_Book_keepId_1 ?_
  refine lv_iload_n hx hb d_Book_keepId_4 rfl (lv_at hl 1 rfl) ?_
  refine lv_bipush (v := 13) hx hb d_Book_keepId_5 (by decide) ?_
  refine lv_iload_n hx hb d_Book_keepId_7 rfl (lv_at hl 2 rfl) ?_
  refine cNd_v (As := [.int x0, .int 13, .int x1]) (rest := []) ⟨hx, hb, hml, hown, hta⟩ (c_Table_set l (wG w) (wA w 7) (wA w 8) (wI w) 900 14 12600 _ (pNd σ) x0 13 x1 (fun u => u = tSet 14 (pNd σ) x0 13 x1) (lNd_set hI x0 13 x1)) ok_Book_83 ⟨Nat.le_of_ble_eq_true rfl, Nat.le_of_ble_eq_true rfl⟩ hP hK hD hS hA rfl hl.1 rfl (Nat.le_of_ble_eq_true rfl) d_Book_keepId_8 ⟨Nat.zero_le _, Nat.zero_le _⟩ (fun u H locs hrr hP hD hS => ?_)
  subst hrr
  have hP : va_P (wG w) classes (WW w (sNd σ (tSet 14 (pNd σ) x0 13 x1))) H := hP
  have hD : va_D A (WW w (sNd σ (tSet 14 (pNd σ) x0 13 x1))) := hD
  have hI : inv (sNd σ (tSet 14 (pNd σ) x0 13 x1)) := (inv.sNd hI (sOk_set (inv.Nd hI) _ _ _))
  have hE := hE _ rfl
  generalize (sNd σ (tSet 14 (pNd σ) x0 13 x1) : PPS) = σ8 at hP hD hI hE
  exact W.vret hx hb hr (fun t ht hW => ⟨⟨σ8, rfl, ⟨hE, hI⟩, by rw [ht]; exact hP, va_K.moved hW.alike hK, hD⟩, hS.F ht⟩) hS.2.2 d_Book_keepId_11

theorem d_Book_endName_0 : decode b_Book_endName 0 = .ok (.aload_n 0, 1) := by decide +kernel
theorem d_Book_endName_1 : decode b_Book_endName 1 = .ok (.getfield 20, 3) := by decide +kernel
theorem d_Book_endName_4 : decode b_Book_endName 4 = .ok (.iload_n 1, 1) := by decide +kernel
theorem d_Book_endName_5 : decode b_Book_endName 5 = .ok (.iconst 0, 1) := by decide +kernel
theorem d_Book_endName_6 : decode b_Book_endName 6 = .ok (.aload_n 0, 1) := by decide +kernel
theorem d_Book_endName_7 : decode b_Book_endName 7 = .ok (.getfield 28, 3) := by decide +kernel
theorem d_Book_endName_10 : decode b_Book_endName 10 = .ok (.invokevirtual 75, 3) := by decide +kernel
theorem d_Book_endName_13 : decode b_Book_endName 13 = .ok (.aload_n 0, 1) := by decide +kernel
theorem d_Book_endName_14 : decode b_Book_endName 14 = .ok (.getfield 20, 3) := by decide +kernel
theorem d_Book_endName_17 : decode b_Book_endName 17 = .ok (.iload_n 1, 1) := by decide +kernel
theorem d_Book_endName_18 : decode b_Book_endName 18 = .ok (.iconst 3, 1) := by decide +kernel
theorem d_Book_endName_19 : decode b_Book_endName 19 = .ok (.invokevirtual 44, 3) := by decide +kernel
theorem d_Book_endName_22 : decode b_Book_endName 22 = .ok (.isub, 1) := by decide +kernel
theorem d_Book_endName_23 : decode b_Book_endName 23 = .ok (.invokevirtual 83, 3) := by decide +kernel
theorem d_Book_endName_26 : decode b_Book_endName 26 = .ok (.aload_n 0, 1) := by decide +kernel
theorem d_Book_endName_27 : decode b_Book_endName 27 = .ok (.getfield 20, 3) := by decide +kernel
theorem d_Book_endName_30 : decode b_Book_endName 30 = .ok (.iload_n 1, 1) := by decide +kernel
theorem d_Book_endName_31 : decode b_Book_endName 31 = .ok (.iconst 4, 1) := by decide +kernel
theorem d_Book_endName_32 : decode b_Book_endName 32 = .ok (.aload_n 0, 1) := by decide +kernel
theorem d_Book_endName_33 : decode b_Book_endName 33 = .ok (.getfield 28, 3) := by decide +kernel
theorem d_Book_endName_36 : decode b_Book_endName 36 = .ok (.invokevirtual 75, 3) := by decide +kernel
theorem d_Book_endName_39 : decode b_Book_endName 39 = .ok (.invokevirtual 83, 3) := by decide +kernel
theorem d_Book_endName_42 : decode b_Book_endName 42 = .ok (.return_, 1) := by decide +kernel
def w_Book_endName  (σ : PPS) (x0 : Int32) (post : PPS → Prop) : Prop := (∀ σ23 : PPS, σ23 = sAt σ (tSet 5 (pAt σ) x0 0 (((pLe σ).1) - (tGet 5 (pAt σ) x0 3))) → (∀ σ39 : PPS, σ39 = sAt σ23 (tSet 5 (pAt σ23) x0 4 ((pLe σ23).1)) → post σ39))
set_option maxHeartbeats 4000000 in
set_option maxRecDepth 100000 in
theorem c_Book_endName (l : Launch) (w : WD) (sz : Nat) (σ : PPS) (x0 : Int32)  (post : PPS → Prop) (hI : inv σ) (hE : w_Book_endName σ x0 post) : Met l y_Book_endName ws_Book_endName { frames := 1, cells := 0, slots := 0, locals := 24 } (va_Pc [.ref (wA w 6), .int x0] (gW w σ sz)) (va_Qv (fun u => post u ∧ inv u) (mB (wG w) (WW w) (wI w) (va_A (WW w σ) sz)) (va_A (WW w σ) sz)) 0 0 (va_A (WW w σ) sz) := by
  refine Met.ofW (cc := b_Book_endName) (maxL := 2) (ret := none) (by decide) rfl ?_
  intro p e s m args below meth c s₁ B hml hv
  obtain ⟨rfl, hsz, hP, hK, hD0, hC⟩ := hv
  have hx := B.exec
  have hb := B.bytes
  have hr := B.returns
  have hta : ∀ w ∈ aW, w.before _ s = true := fun w h => atoms_spec (ws := ws_Book_endName) B.pre w (List.mem_cons_of_mem _ h)
  have hown : s.vm.findClass R_Book = some m.cls := findClass_of_methodNamed B.named
  have hlocks := B.notSynchronized
  subst hsz
  have hD := hD0.self (sz := s.heap.size)
  generalize hAe : va_A (WW w σ) s.heap.size = A at hD hC ⊢
  have hA : ∀ q : Nat, s.heap.size ≤ q → A q := fun q h => by rw [← hAe]; exact Or.inr h
  have hS : va_S A s.heap s.heap [] := va_S.rf
  have hP : va_P (wG w) classes (WW w σ) s.heap := hP
  have hl := lv_entry ([.ref (wA w 6), .int x0]) (n := 2) (Nat.le_of_ble_eq_true rfl)
  rw [lg_entry_eq]
  generalize (lg_sl ([.ref (wA w 6), .int x0]) ++ List.replicate (2 - (lg_sl ([.ref (wA w 6), .int x0])).length) Slot.unset).toArray = ls at hl ⊢
  have hl : lv_has ls 2 [(0, .ref (wA w 6)), (1, .int x0)] := hl
  unfold w_Book_endName at hE
  refine lv_aload_n hx hb d_Book_endName_0 rfl (lv_at hl 0 rfl) ?_
  refine va_get (D := (wG w)) (ci := 3) (v := .ref (wA w 9)) (C := R_Book) (T := F_Book) (N := 4) hx hb hta i_Book hown hK hP 6 rfl rfl 1 (by decide) (hta _ fl_Book_20) (fun _ h9 => h9) rfl d_Book_endName_1 ?_
  refine lv_iload_n hx hb d_Book_endName_4 rfl (lv_at hl 1 rfl) ?_
  refine lv_iconst (v := 0) hx hb d_Book_endName_5 (by decide) ?_
  refine lv_aload_n hx hb d_Book_endName_6 rfl (lv_at hl 0 rfl) ?_
  refine va_get (D := (wG w)) (ci := 3) (v := .ref (wA w 11)) (C := R_Book) (T := F_Book) (N := 4) hx hb hta i_Book hown hK hP 6 rfl rfl 2 (by decide) (hta _ fl_Book_28) (fun _ h9 => h9) rfl d_Book_endName_7 ?_
  refine ro_V (b0 := (wA w 11)) (As := []) (rest := [.int 0, .int x0, .ref (wA w 9)]) ⟨hx, hb, hml, hown, hta⟩ (c_Strip_size l (wG w) (wA w 11) (wA w 12) (wI w) 4000 (pLe σ)  (fun r => r = (pLe σ).1) rfl) ok_Book_75 ⟨Nat.le_of_ble_eq_true rfl, Nat.le_of_ble_eq_true rfl⟩ blind_rW (va_recv hK hP (ci := 1) (q0 := 11) rfl rfl) (fun U h1 h2 => ⟨by rw [h1]; exact hP.sub [11, 12] rfl, va_K.moved h2.alike hK⟩) rfl hl.1 rfl (Nat.le_of_ble_eq_true rfl) d_Book_endName_10 ⟨Nat.zero_le _, Nat.zero_le _⟩ (fun r10 hrr => ?_)
  subst hrr
  refine lv_aload_n hx hb d_Book_endName_13 rfl (lv_at hl 0 rfl) ?_
  refine va_get (D := (wG w)) (ci := 3) (v := .ref (wA w 9)) (C := R_Book) (T := F_Book) (N := 4) hx hb hta i_Book hown hK hP 6 rfl rfl 1 (by decide) (hta _ fl_Book_20) (fun _ h9 => h9) rfl d_Book_endName_14 ?_
  refine lv_iload_n hx hb d_Book_endName_17 rfl (lv_at hl 1 rfl) ?_
  refine lv_iconst (v := 3) hx hb d_Book_endName_18 (by decide) ?_
  refine ro_V (b0 := (wA w 9)) (As := [.int x0, .int 3]) (rest := [.int ((pLe σ).1), .int 0, .int x0, .ref (wA w 9)]) ⟨hx, hb, hml, hown, hta⟩ (c_Table_get l (wG w) (wA w 9) (wA w 10) (wI w) 800 5 4000 (pAt σ) x0 3 (fun r => r = tGet 5 (pAt σ) x0 3) (lAt_get hI x0 3)) ok_Book_44 ⟨Nat.le_of_ble_eq_true rfl, Nat.le_of_ble_eq_true rfl⟩ blind_rW (va_recv hK hP (ci := 2) (q0 := 9) rfl rfl) (fun U h1 h2 => ⟨by rw [h1]; exact hP.sub [9, 10] rfl, va_K.moved h2.alike hK⟩) rfl hl.1 rfl (Nat.le_of_ble_eq_true rfl) d_Book_endName_19 ⟨Nat.zero_le _, Nat.zero_le _⟩ (fun r19 hrr => ?_)
  subst hrr
  refine lv_isub hx hb d_Book_endName_22 ?_
  refine cAt_v (As := [.int x0, .int 0, .int (((pLe σ).1) - (tGet 5 (pAt σ) x0 3))]) (rest := []) ⟨hx, hb, hml, hown, hta⟩ (c_Table_set l (wG w) (wA w 9) (wA w 10) (wI w) 800 5 4000 _ (pAt σ) x0 0 (((pLe σ).1) - (tGet 5 (pAt σ) x0 3)) (fun u => u = tSet 5 (pAt σ) x0 0 (((pLe σ).1) - (tGet 5 (pAt σ) x0 3))) (lAt_set hI x0 0 (((pLe σ).1) - (tGet 5 (pAt σ) x0 3)))) ok_Book_83 ⟨Nat.le_of_ble_eq_true rfl, Nat.le_of_ble_eq_true rfl⟩ hP hK hD hS hA rfl hl.1 rfl (Nat.le_of_ble_eq_true rfl) d_Book_endName_23 ⟨Nat.zero_le _, Nat.zero_le _⟩ (fun u H locs hrr hP hD hS => ?_)
  subst hrr
  have hP : va_P (wG w) classes (WW w (sAt σ (tSet 5 (pAt σ) x0 0 (((pLe σ).1) - (tGet 5 (pAt σ) x0 3))))) H := hP
  have hD : va_D A (WW w (sAt σ (tSet 5 (pAt σ) x0 0 (((pLe σ).1) - (tGet 5 (pAt σ) x0 3))))) := hD
  have hI : inv (sAt σ (tSet 5 (pAt σ) x0 0 (((pLe σ).1) - (tGet 5 (pAt σ) x0 3)))) := (inv.sAt hI (sOk_set (inv.At hI) _ _ _))
  have hE := hE _ rfl
  generalize (sAt σ (tSet 5 (pAt σ) x0 0 (((pLe σ).1) - (tGet 5 (pAt σ) x0 3))) : PPS) = σ23 at hP hD hI hE
  refine lv_aload_n hx hb d_Book_endName_26 rfl (lv_at hl 0 rfl) ?_
  refine va_get (D := (wG w)) (ci := 3) (v := .ref (wA w 9)) (C := R_Book) (T := F_Book) (N := 4) hx hb hta i_Book hown hK hP 6 rfl rfl 1 (by decide) (hta _ fl_Book_20) (fun _ h9 => h9) rfl d_Book_endName_27 ?_
  refine lv_iload_n hx hb d_Book_endName_30 rfl (lv_at hl 1 rfl) ?_
  refine lv_iconst (v := 4) hx hb d_Book_endName_31 (by decide) ?_
  refine lv_aload_n hx hb d_Book_endName_32 rfl (lv_at hl 0 rfl) ?_
  refine va_get (D := (wG w)) (ci := 3) (v := .ref (wA w 11)) (C := R_Book) (T := F_Book) (N := 4) hx hb hta i_Book hown hK hP 6 rfl rfl 2 (by decide) (hta _ fl_Book_28) (fun _ h9 => h9) rfl d_Book_endName_33 ?_
  refine ro_V (b0 := (wA w 11)) (As := []) (rest := [.int 4, .int x0, .ref (wA w 9)]) ⟨hx, hb, hml, hown, hta⟩ (c_Strip_size l (wG w) (wA w 11) (wA w 12) (wI w) 4000 (pLe σ23)  (fun r => r = (pLe σ23).1) rfl) ok_Book_75 ⟨Nat.le_of_ble_eq_true rfl, Nat.le_of_ble_eq_true rfl⟩ blind_rW (va_recv hK hP (ci := 1) (q0 := 11) rfl rfl) (fun U h1 h2 => ⟨by rw [h1]; exact hP.sub [11, 12] rfl, va_K.moved h2.alike hK⟩) rfl hl.1 rfl (Nat.le_of_ble_eq_true rfl) d_Book_endName_36 ⟨Nat.zero_le _, Nat.zero_le _⟩ (fun r36 hrr => ?_)
  subst hrr
  refine cAt_v (As := [.int x0, .int 4, .int ((pLe σ23).1)]) (rest := []) ⟨hx, hb, hml, hown, hta⟩ (c_Table_set l (wG w) (wA w 9) (wA w 10) (wI w) 800 5 4000 _ (pAt σ23) x0 4 ((pLe σ23).1) (fun u => u = tSet 5 (pAt σ23) x0 4 ((pLe σ23).1)) (lAt_set hI x0 4 ((pLe σ23).1))) ok_Book_83 ⟨Nat.le_of_ble_eq_true rfl, Nat.le_of_ble_eq_true rfl⟩ hP hK hD hS hA rfl hl.1 rfl (Nat.le_of_ble_eq_true rfl) d_Book_endName_39 ⟨Nat.zero_le _, Nat.zero_le _⟩ (fun u H locs hrr hP hD hS => ?_)
  subst hrr
  have hP : va_P (wG w) classes (WW w (sAt σ23 (tSet 5 (pAt σ23) x0 4 ((pLe σ23).1)))) H := hP
  have hD : va_D A (WW w (sAt σ23 (tSet 5 (pAt σ23) x0 4 ((pLe σ23).1)))) := hD
  have hI : inv (sAt σ23 (tSet 5 (pAt σ23) x0 4 ((pLe σ23).1))) := (inv.sAt hI (sOk_set (inv.At hI) _ _ _))
  have hE := hE _ rfl
  generalize (sAt σ23 (tSet 5 (pAt σ23) x0 4 ((pLe σ23).1)) : PPS) = σ39 at hP hD hI hE
  exact W.vret hx hb hr (fun t ht hW => ⟨⟨σ39, rfl, ⟨hE, hI⟩, by rw [ht]; exact hP, va_K.moved hW.alike hK, hD⟩, hS.F ht⟩) hS.2.2 d_Book_endName_42

theorem d_Book_endLatestValue_0 : decode b_Book_endLatestValue 0 = .ok (.aload_n 0, 1) := by decide +kernel
theorem d_Book_endLatestValue_1 : decode b_Book_endLatestValue 1 = .ok (.getfield 20, 3) := by decide +kernel
theorem d_Book_endLatestValue_4 : decode b_Book_endLatestValue 4 = .ok (.invokevirtual 40, 3) := by decide +kernel
theorem d_Book_endLatestValue_7 : decode b_Book_endLatestValue 7 = .ok (.iconst 1, 1) := by decide +kernel
theorem d_Book_endLatestValue_8 : decode b_Book_endLatestValue 8 = .ok (.isub, 1) := by decide +kernel
theorem d_Book_endLatestValue_9 : decode b_Book_endLatestValue 9 = .ok (.istore_n 1, 1) := by decide +kernel
theorem d_Book_endLatestValue_10 : decode b_Book_endLatestValue 10 = .ok (.aload_n 0, 1) := by decide +kernel
theorem d_Book_endLatestValue_11 : decode b_Book_endLatestValue 11 = .ok (.getfield 20, 3) := by decide +kernel
theorem d_Book_endLatestValue_14 : decode b_Book_endLatestValue 14 = .ok (.iload_n 1, 1) := by decide +kernel
theorem d_Book_endLatestValue_15 : decode b_Book_endLatestValue 15 = .ok (.iconst 1, 1) := by decide +kernel
theorem d_Book_endLatestValue_16 : decode b_Book_endLatestValue 16 = .ok (.aload_n 0, 1) := by decide +kernel
theorem d_Book_endLatestValue_17 : decode b_Book_endLatestValue 17 = .ok (.getfield 28, 3) := by decide +kernel
theorem d_Book_endLatestValue_20 : decode b_Book_endLatestValue 20 = .ok (.invokevirtual 75, 3) := by decide +kernel
theorem d_Book_endLatestValue_23 : decode b_Book_endLatestValue 23 = .ok (.aload_n 0, 1) := by decide +kernel
theorem d_Book_endLatestValue_24 : decode b_Book_endLatestValue 24 = .ok (.getfield 20, 3) := by decide +kernel
theorem d_Book_endLatestValue_27 : decode b_Book_endLatestValue 27 = .ok (.iload_n 1, 1) := by decide +kernel
theorem d_Book_endLatestValue_28 : decode b_Book_endLatestValue 28 = .ok (.iconst 4, 1) := by decide +kernel
theorem d_Book_endLatestValue_29 : decode b_Book_endLatestValue 29 = .ok (.invokevirtual 44, 3) := by decide +kernel
theorem d_Book_endLatestValue_32 : decode b_Book_endLatestValue 32 = .ok (.isub, 1) := by decide +kernel
theorem d_Book_endLatestValue_33 : decode b_Book_endLatestValue 33 = .ok (.invokevirtual 83, 3) := by decide +kernel
theorem d_Book_endLatestValue_36 : decode b_Book_endLatestValue 36 = .ok (.return_, 1) := by decide +kernel
def w_Book_endLatestValue  (σ : PPS)  (post : PPS → Prop) : Prop := (∀ σ33 : PPS, σ33 = sAt σ (tSet 5 (pAt σ) (((pAt σ).1) - 1) 1 (((pLe σ).1) - (tGet 5 (pAt σ) (((pAt σ).1) - 1) 4))) → post σ33)
set_option maxHeartbeats 4000000 in
set_option maxRecDepth 100000 in
theorem c_Book_endLatestValue (l : Launch) (w : WD) (sz : Nat) (σ : PPS)   (post : PPS → Prop) (hI : inv σ) (hE : w_Book_endLatestValue σ post) : Met l y_Book_endLatestValue ws_Book_endLatestValue { frames := 1, cells := 0, slots := 0, locals := 24 } (va_Pc [.ref (wA w 6)] (gW w σ sz)) (va_Qv (fun u => post u ∧ inv u) (mB (wG w) (WW w) (wI w) (va_A (WW w σ) sz)) (va_A (WW w σ) sz)) 0 0 (va_A (WW w σ) sz) := by
  refine Met.ofW (cc := b_Book_endLatestValue) (maxL := 2) (ret := none) (by decide) rfl ?_
  intro p e s m args below meth c s₁ B hml hv
  obtain ⟨rfl, hsz, hP, hK, hD0, hC⟩ := hv
  have hx := B.exec
  have hb := B.bytes
  have hr := B.returns
  have hta : ∀ w ∈ aW, w.before _ s = true := fun w h => atoms_spec (ws := ws_Book_endLatestValue) B.pre w (List.mem_cons_of_mem _ h)
  have hown : s.vm.findClass R_Book = some m.cls := findClass_of_methodNamed B.named
  have hlocks := B.notSynchronized
  subst hsz
  have hD := hD0.self (sz := s.heap.size)
  generalize hAe : va_A (WW w σ) s.heap.size = A at hD hC ⊢
  have hA : ∀ q : Nat, s.heap.size ≤ q → A q := fun q h => by rw [← hAe]; exact Or.inr h
  have hS : va_S A s.heap s.heap [] := va_S.rf
  have hP : va_P (wG w) classes (WW w σ) s.heap := hP
  have hl := lv_entry ([.ref (wA w 6)]) (n := 2) (Nat.le_of_ble_eq_true rfl)
  rw [lg_entry_eq]
  generalize (lg_sl ([.ref (wA w 6)]) ++ List.replicate (2 - (lg_sl ([.ref (wA w 6)])).length) Slot.unset).toArray = ls at hl ⊢
  have hl : lv_has ls 2 [(0, .ref (wA w 6))] := hl
  unfold w_Book_endLatestValue at hE
  refine lv_aload_n hx hb d_Book_endLatestValue_0 rfl (lv_at hl 0 rfl) ?_
  refine va_get (D := (wG w)) (ci := 3) (v := .ref (wA w 9)) (C := R_Book) (T := F_Book) (N := 4) hx hb hta i_Book hown hK hP 6 rfl rfl 1 (by decide) (hta _ fl_Book_20) (fun _ h9 => h9) rfl d_Book_endLatestValue_1 ?_
  refine ro_V (b0 := (wA w 9)) (As := []) (rest := []) ⟨hx, hb, hml, hown, hta⟩ (c_Table_size l (wG w) (wA w 9) (wA w 10) (wI w) 800 5 4000 (pAt σ)  (fun r => r = (pAt σ).1) rfl) ok_Book_40 ⟨Nat.le_of_ble_eq_true rfl, Nat.le_of_ble_eq_true rfl⟩ blind_rW (va_recv hK hP (ci := 2) (q0 := 9) rfl rfl) (fun U h1 h2 => ⟨by rw [h1]; exact hP.sub [9, 10] rfl, va_K.moved h2.alike hK⟩) rfl hl.1 rfl (Nat.le_of_ble_eq_true rfl) d_Book_endLatestValue_4 ⟨Nat.zero_le _, Nat.zero_le _⟩ (fun r4 hrr => ?_)
  subst hrr
  refine lv_iconst (v := 1) hx hb d_Book_endLatestValue_7 (by decide) ?_
  refine lv_isub hx hb d_Book_endLatestValue_8 ?_
  refine lv_istore_n (lv' := [(1, .int (((pAt σ).1) - 1)), (0, .ref (wA w 6))]) hx hb d_Book_endLatestValue_9 rfl hl (by decide) rfl (fun ls hl => ?_)
  refine lv_aload_n hx hb d_Book_endLatestValue_10 rfl (lv_at hl 1 rfl) ?_
  refine va_get (D := (wG w)) (ci := 3) (v := .ref (wA w 9)) (C := R_Book) (T := F_Book) (N := 4) hx hb hta i_Book hown hK hP 6 rfl rfl 1 (by decide) (hta _ fl_Book_20) (fun _ h9 => h9) rfl d_Book_endLatestValue_11 ?_
  refine lv_iload_n hx hb d_Book_endLatestValue_14 rfl (lv_at hl 0 rfl) ?_
  refine lv_iconst (v := 1) hx hb d_Book_endLatestValue_15 (by decide) ?_
  refine lv_aload_n hx hb d_Book_endLatestValue_16 rfl (lv_at hl 1 rfl) ?_
  refine va_get (D := (wG w)) (ci := 3) (v := .ref (wA w 11)) (C := R_Book) (T := F_Book) (N := 4) hx hb hta i_Book hown hK hP 6 rfl rfl 2 (by decide) (hta _ fl_Book_28) (fun _ h9 => h9) rfl d_Book_endLatestValue_17 ?_
  refine ro_V (b0 := (wA w 11)) (As := []) (rest := [.int 1, .int (((pAt σ).1) - 1), .ref (wA w 9)]) ⟨hx, hb, hml, hown, hta⟩ (c_Strip_size l (wG w) (wA w 11) (wA w 12) (wI w) 4000 (pLe σ)  (fun r => r = (pLe σ).1) rfl) ok_Book_75 ⟨Nat.le_of_ble_eq_true rfl, Nat.le_of_ble_eq_true rfl⟩ blind_rW (va_recv hK hP (ci := 1) (q0 := 11) rfl rfl) (fun U h1 h2 => ⟨by rw [h1]; exact hP.sub [11, 12] rfl, va_K.moved h2.alike hK⟩) rfl hl.1 rfl (Nat.le_of_ble_eq_true rfl) d_Book_endLatestValue_20 ⟨Nat.zero_le _, Nat.zero_le _⟩ (fun r20 hrr => ?_)
  subst hrr
  refine lv_aload_n hx hb d_Book_endLatestValue_23 rfl (lv_at hl 1 rfl) ?_
  refine va_get (D := (wG w)) (ci := 3) (v := .ref (wA w 9)) (C := R_Book) (T := F_Book) (N := 4) hx hb hta i_Book hown hK hP 6 rfl rfl 1 (by decide) (hta _ fl_Book_20) (fun _ h9 => h9) rfl d_Book_endLatestValue_24 ?_
  refine lv_iload_n hx hb d_Book_endLatestValue_27 rfl (lv_at hl 0 rfl) ?_
  refine lv_iconst (v := 4) hx hb d_Book_endLatestValue_28 (by decide) ?_
  refine ro_V (b0 := (wA w 9)) (As := [.int (((pAt σ).1) - 1), .int 4]) (rest := [.int ((pLe σ).1), .int 1, .int (((pAt σ).1) - 1), .ref (wA w 9)]) ⟨hx, hb, hml, hown, hta⟩ (c_Table_get l (wG w) (wA w 9) (wA w 10) (wI w) 800 5 4000 (pAt σ) (((pAt σ).1) - 1) 4 (fun r => r = tGet 5 (pAt σ) (((pAt σ).1) - 1) 4) (lAt_get hI (((pAt σ).1) - 1) 4)) ok_Book_44 ⟨Nat.le_of_ble_eq_true rfl, Nat.le_of_ble_eq_true rfl⟩ blind_rW (va_recv hK hP (ci := 2) (q0 := 9) rfl rfl) (fun U h1 h2 => ⟨by rw [h1]; exact hP.sub [9, 10] rfl, va_K.moved h2.alike hK⟩) rfl hl.1 rfl (Nat.le_of_ble_eq_true rfl) d_Book_endLatestValue_29 ⟨Nat.zero_le _, Nat.zero_le _⟩ (fun r29 hrr => ?_)
  subst hrr
  refine lv_isub hx hb d_Book_endLatestValue_32 ?_
  refine cAt_v (As := [.int (((pAt σ).1) - 1), .int 1, .int (((pLe σ).1) - (tGet 5 (pAt σ) (((pAt σ).1) - 1) 4))]) (rest := []) ⟨hx, hb, hml, hown, hta⟩ (c_Table_set l (wG w) (wA w 9) (wA w 10) (wI w) 800 5 4000 _ (pAt σ) (((pAt σ).1) - 1) 1 (((pLe σ).1) - (tGet 5 (pAt σ) (((pAt σ).1) - 1) 4)) (fun u => u = tSet 5 (pAt σ) (((pAt σ).1) - 1) 1 (((pLe σ).1) - (tGet 5 (pAt σ) (((pAt σ).1) - 1) 4))) (lAt_set hI (((pAt σ).1) - 1) 1 (((pLe σ).1) - (tGet 5 (pAt σ) (((pAt σ).1) - 1) 4)))) ok_Book_83 ⟨Nat.le_of_ble_eq_true rfl, Nat.le_of_ble_eq_true rfl⟩ hP hK hD hS hA rfl hl.1 rfl (Nat.le_of_ble_eq_true rfl) d_Book_endLatestValue_33 ⟨Nat.zero_le _, Nat.zero_le _⟩ (fun u H locs hrr hP hD hS => ?_)
  subst hrr
  have hP : va_P (wG w) classes (WW w (sAt σ (tSet 5 (pAt σ) (((pAt σ).1) - 1) 1 (((pLe σ).1) - (tGet 5 (pAt σ) (((pAt σ).1) - 1) 4))))) H := hP
  have hD : va_D A (WW w (sAt σ (tSet 5 (pAt σ) (((pAt σ).1) - 1) 1 (((pLe σ).1) - (tGet 5 (pAt σ) (((pAt σ).1) - 1) 4))))) := hD
  have hI : inv (sAt σ (tSet 5 (pAt σ) (((pAt σ).1) - 1) 1 (((pLe σ).1) - (tGet 5 (pAt σ) (((pAt σ).1) - 1) 4)))) := (inv.sAt hI (sOk_set (inv.At hI) _ _ _))
  have hE := hE _ rfl
  generalize (sAt σ (tSet 5 (pAt σ) (((pAt σ).1) - 1) 1 (((pLe σ).1) - (tGet 5 (pAt σ) (((pAt σ).1) - 1) 4))) : PPS) = σ33 at hP hD hI hE
  exact W.vret hx hb hr (fun t ht hW => ⟨⟨σ33, rfl, ⟨hE, hI⟩, by rw [ht]; exact hP, va_K.moved hW.alike hK, hD⟩, hS.F ht⟩) hS.2.2 d_Book_endLatestValue_36
theorem ok_Book_80 : okV "PlainPages$Book" 80 R_Table y_Table_addRow b_Table_addRow 3 (some .int) 0 := ⟨aW_in 478 (by decide +kernel) rfl, aW_in 479 (by decide +kernel) rfl, aW_in 480 (by decide +kernel) rfl, aW_in 88 (by decide +kernel) rfl, cd_Table_addRow, rfl, by decide +kernel, by decide +kernel, by decide +kernel⟩
theorem d_Book_addNode_0 : decode b_Book_addNode 0 = .ok (.aload_n 0, 1) := by decide +kernel
theorem d_Book_addNode_1 : decode b_Book_addNode 1 = .ok (.getfield 14, 3) := by decide +kernel
theorem d_Book_addNode_4 : decode b_Book_addNode 4 = .ok (.invokevirtual 80, 3) := by decide +kernel
theorem d_Book_addNode_7 : decode b_Book_addNode 7 = .ok (.istore 4, 2) := by decide +kernel
theorem d_Book_addNode_9 : decode b_Book_addNode 9 = .ok (.aload_n 0, 1) := by decide +kernel
theorem d_Book_addNode_10 : decode b_Book_addNode 10 = .ok (.getfield 14, 3) := by decide +kernel
theorem d_Book_addNode_13 : decode b_Book_addNode 13 = .ok (.iload 4, 2) := by decide +kernel
theorem d_Book_addNode_15 : decode b_Book_addNode 15 = .ok (.iconst 0, 1) := by decide +kernel
theorem d_Book_addNode_16 : decode b_Book_addNode 16 = .ok (.iload_n 1, 1) := by decide +kernel
theorem d_Book_addNode_17 : decode b_Book_addNode 17 = .ok (.invokevirtual 83, 3) := by decide +kernel
theorem d_Book_addNode_20 : decode b_Book_addNode 20 = .ok (.aload_n 0, 1) := by decide +kernel
theorem d_Book_addNode_21 : decode b_Book_addNode 21 = .ok (.getfield 14, 3) := by decide +kernel
theorem d_Book_addNode_24 : decode b_Book_addNode 24 = .ok (.iload 4, 2) := by decide +kernel
theorem d_Book_addNode_26 : decode b_Book_addNode 26 = .ok (.iconst 1, 1) := by decide +kernel
theorem d_Book_addNode_27 : decode b_Book_addNode 27 = .ok (.iload_n 2, 1) := by decide +kernel
theorem d_Book_addNode_28 : decode b_Book_addNode 28 = .ok (.invokevirtual 83, 3) := by decide +kernel
theorem d_Book_addNode_31 : decode b_Book_addNode 31 = .ok (.aload_n 0, 1) := by decide +kernel
theorem d_Book_addNode_32 : decode b_Book_addNode 32 = .ok (.getfield 14, 3) := by decide +kernel
theorem d_Book_addNode_35 : decode b_Book_addNode 35 = .ok (.iload 4, 2) := by decide +kernel
theorem d_Book_addNode_37 : decode b_Book_addNode 37 = .ok (.iconst 2, 1) := by decide +kernel
theorem d_Book_addNode_38 : decode b_Book_addNode 38 = .ok (.iload_n 3, 1) := by decide +kernel
theorem d_Book_addNode_39 : decode b_Book_addNode 39 = .ok (.invokevirtual 83, 3) := by decide +kernel
theorem d_Book_addNode_42 : decode b_Book_addNode 42 = .ok (.aload_n 0, 1) := by decide +kernel
theorem d_Book_addNode_43 : decode b_Book_addNode 43 = .ok (.getfield 14, 3) := by decide +kernel
theorem d_Book_addNode_46 : decode b_Book_addNode 46 = .ok (.iload 4, 2) := by decide +kernel
theorem d_Book_addNode_48 : decode b_Book_addNode 48 = .ok (.iconst 4, 1) := by decide +kernel
theorem d_Book_addNode_49 : decode b_Book_addNode 49 = .ok (.iconst 0, 1) := by decide +kernel
theorem d_Book_addNode_50 : decode b_Book_addNode 50 = .ok (.invokevirtual 83, 3) := by decide +kernel
theorem d_Book_addNode_53 : decode b_Book_addNode 53 = .ok (.aload_n 0, 1) := by decide +kernel
theorem d_Book_addNode_54 : decode b_Book_addNode 54 = .ok (.getfield 14, 3) := by decide +kernel
theorem d_Book_addNode_57 : decode b_Book_addNode 57 = .ok (.iload 4, 2) := by decide +kernel
theorem d_Book_addNode_59 : decode b_Book_addNode 59 = .ok (.bipush 9, 2) := by decide +kernel
theorem d_Book_addNode_61 : decode b_Book_addNode 61 = .ok (.aload_n 0, 1) := by decide +kernel
theorem d_Book_addNode_62 : decode b_Book_addNode 62 = .ok (.getfield 20, 3) := by decide +kernel
theorem d_Book_addNode_65 : decode b_Book_addNode 65 = .ok (.invokevirtual 40, 3) := by decide +kernel
theorem d_Book_addNode_68 : decode b_Book_addNode 68 = .ok (.invokevirtual 83, 3) := by decide +kernel
theorem d_Book_addNode_71 : decode b_Book_addNode 71 = .ok (.aload_n 0, 1) := by decide +kernel
theorem d_Book_addNode_72 : decode b_Book_addNode 72 = .ok (.getfield 14, 3) := by decide +kernel
theorem d_Book_addNode_75 : decode b_Book_addNode 75 = .ok (.iload 4, 2) := by decide +kernel
theorem d_Book_addNode_77 : decode b_Book_addNode 77 = .ok (.bipush 8, 2) := by decide +kernel
theorem d_Book_addNode_79 : decode b_Book_addNode 79 = .ok (.aload_n 0, 1) := by decide +kernel
theorem d_Book_addNode_80 : decode b_Book_addNode 80 = .ok (.getfield 28, 3) := by decide +kernel
theorem d_Book_addNode_83 : decode b_Book_addNode 83 = .ok (.invokevirtual 75, 3) := by decide +kernel
theorem d_Book_addNode_86 : decode b_Book_addNode 86 = .ok (.invokevirtual 83, 3) := by decide +kernel
theorem d_Book_addNode_89 : decode b_Book_addNode 89 = .ok (.aload_n 0, 1) := by decide +kernel
theorem d_Book_addNode_90 : decode b_Book_addNode 90 = .ok (.getfield 14, 3) := by decide +kernel
theorem d_Book_addNode_93 : decode b_Book_addNode 93 = .ok (.iload 4, 2) := by decide +kernel
theorem d_Book_addNode_95 : decode b_Book_addNode 95 = .ok (.bipush 7, 2) := by decide +kernel
theorem d_Book_addNode_97 : decode b_Book_addNode 97 = .ok (.iload_n 2, 1) := by decide +kernel
theorem d_Book_addNode_98 : decode b_Book_addNode 98 = .ok (.iconst (-1), 1) := by decide +kernel
theorem d_Book_addNode_99 : decode b_Book_addNode 99 = .ok (.if_icmp .ne 7, 3) := by decide +kernel
theorem d_Book_addNode_102 : decode b_Book_addNode 102 = .ok (.iconst 1, 1) := by decide +kernel
theorem d_Book_addNode_103 : decode b_Book_addNode 103 = .ok (.goto 15, 3) := by decide +kernel
theorem d_Book_addNode_106 : decode b_Book_addNode 106 = .ok (.aload_n 0, 1) := by decide +kernel
theorem d_Book_addNode_107 : decode b_Book_addNode 107 = .ok (.getfield 14, 3) := by decide +kernel
theorem d_Book_addNode_110 : decode b_Book_addNode 110 = .ok (.iload_n 2, 1) := by decide +kernel
theorem d_Book_addNode_111 : decode b_Book_addNode 111 = .ok (.bipush 7, 2) := by decide +kernel
theorem d_Book_addNode_113 : decode b_Book_addNode 113 = .ok (.invokevirtual 44, 3) := by decide +kernel
theorem d_Book_addNode_116 : decode b_Book_addNode 116 = .ok (.iconst 1, 1) := by decide +kernel
theorem d_Book_addNode_117 : decode b_Book_addNode 117 = .ok (.iadd, 1) := by decide +kernel
theorem d_Book_addNode_118 : decode b_Book_addNode 118 = .ok (.invokevirtual 83, 3) := by decide +kernel
theorem d_Book_addNode_121 : decode b_Book_addNode 121 = .ok (.aload_n 0, 1) := by decide +kernel
theorem d_Book_addNode_122 : decode b_Book_addNode 122 = .ok (.getfield 14, 3) := by decide +kernel
theorem d_Book_addNode_125 : decode b_Book_addNode 125 = .ok (.iload_n 2, 1) := by decide +kernel
theorem d_Book_addNode_126 : decode b_Book_addNode 126 = .ok (.bipush 11, 2) := by decide +kernel
theorem d_Book_addNode_128 : decode b_Book_addNode 128 = .ok (.invokevirtual 44, 3) := by decide +kernel
theorem d_Book_addNode_131 : decode b_Book_addNode 131 = .ok (.istore 5, 2) := by decide +kernel
theorem d_Book_addNode_133 : decode b_Book_addNode 133 = .ok (.aload_n 0, 1) := by decide +kernel
theorem d_Book_addNode_134 : decode b_Book_addNode 134 = .ok (.getfield 14, 3) := by decide +kernel
theorem d_Book_addNode_137 : decode b_Book_addNode 137 = .ok (.iload 5, 2) := by decide +kernel
theorem d_Book_addNode_139 : decode b_Book_addNode 139 = .ok (.iconst 5, 1) := by decide +kernel
theorem d_Book_addNode_140 : decode b_Book_addNode 140 = .ok (.iload 4, 2) := by decide +kernel
theorem d_Book_addNode_142 : decode b_Book_addNode 142 = .ok (.invokevirtual 83, 3) := by decide +kernel
theorem d_Book_addNode_145 : decode b_Book_addNode 145 = .ok (.iload 5, 2) := by decide +kernel
theorem d_Book_addNode_147 : decode b_Book_addNode 147 = .ok (.iconst (-1), 1) := by decide +kernel
theorem d_Book_addNode_148 : decode b_Book_addNode 148 = .ok (.if_icmp .ne 15, 3) := by decide +kernel
theorem d_Book_addNode_151 : decode b_Book_addNode 151 = .ok (.aload_n 0, 1) := by decide +kernel
theorem d_Book_addNode_152 : decode b_Book_addNode 152 = .ok (.getfield 14, 3) := by decide +kernel
theorem d_Book_addNode_155 : decode b_Book_addNode 155 = .ok (.iload_n 2, 1) := by decide +kernel
theorem d_Book_addNode_156 : decode b_Book_addNode 156 = .ok (.bipush 6, 2) := by decide +kernel
theorem d_Book_addNode_158 : decode b_Book_addNode 158 = .ok (.iload 4, 2) := by decide +kernel
theorem d_Book_addNode_160 : decode b_Book_addNode 160 = .ok (.invokevirtual 83, 3) := by decide +kernel
theorem d_Book_addNode_163 : decode b_Book_addNode 163 = .ok (.aload_n 0, 1) := by decide +kernel
theorem d_Book_addNode_164 : decode b_Book_addNode 164 = .ok (.getfield 14, 3) := by decide +kernel
theorem d_Book_addNode_167 : decode b_Book_addNode 167 = .ok (.iload_n 2, 1) := by decide +kernel
theorem d_Book_addNode_168 : decode b_Book_addNode 168 = .ok (.bipush 11, 2) := by decide +kernel
theorem d_Book_addNode_170 : decode b_Book_addNode 170 = .ok (.iload 4, 2) := by decide +kernel
theorem d_Book_addNode_172 : decode b_Book_addNode 172 = .ok (.invokevirtual 83, 3) := by decide +kernel
theorem d_Book_addNode_175 : decode b_Book_addNode 175 = .ok (.iload_n 1, 1) := by decide +kernel
theorem d_Book_addNode_176 : decode b_Book_addNode 176 = .ok (.iconst 1, 1) := by decide +kernel
theorem d_Book_addNode_177 : decode b_Book_addNode 177 = .ok (.if_icmp .ne 13, 3) := by decide +kernel
theorem d_Book_addNode_180 : decode b_Book_addNode 180 = .ok (.aload_n 0, 1) := by decide +kernel
theorem d_Book_addNode_181 : decode b_Book_addNode 181 = .ok (.dup, 1) := by decide +kernel
theorem d_Book_addNode_182 : decode b_Book_addNode 182 = .ok (.getfield 32, 3) := by decide +kernel
theorem d_Book_addNode_185 : decode b_Book_addNode 185 = .ok (.iconst 1, 1) := by decide +kernel
theorem d_Book_addNode_186 : decode b_Book_addNode 186 = .ok (.iadd, 1) := by decide +kernel
theorem d_Book_addNode_187 : decode b_Book_addNode 187 = .ok (.putfield 32, 3) := by decide +kernel
theorem d_Book_addNode_190 : decode b_Book_addNode 190 = .ok (.iload 4, 2) := by decide +kernel
theorem d_Book_addNode_192 : decode b_Book_addNode 192 = .ok (.ireturn, 1) := by decide +kernel
def w_Book_addNode_J163   (post : Int32 → PPS → Prop) (v1 : Int32) (v2 : Int32) (v4 : Int32) (σ : PPS) : Prop := (∀ σ172 : PPS, σ172 = sNd σ (tSet 14 (pNd σ) v2 11 v4) → ((v1 = 1 → (∀ σ187 : PPS, σ187 = sEl σ172 ((pEl σ172) + 1) → post v4 σ187)) ∧ (¬ v1 = 1 → post v4 σ172)))
def w_Book_addNode_J118   (post : Int32 → PPS → Prop) (v1 : Int32) (v2 : Int32) (v4 : Int32) (t0 : Int32) (t1 : Int32) (t2 : Int32) (σ : PPS) : Prop := (∀ σ118 : PPS, σ118 = sNd σ (tSet 14 (pNd σ) t2 t1 t0) → (∀ σ142 : PPS, σ142 = sNd σ118 (tSet 14 (pNd σ118) (tGet 14 (pNd σ118) v2 11) 5 v4) → (((tGet 14 (pNd σ118) v2 11) = (-1) → (∀ σ160 : PPS, σ160 = sNd σ142 (tSet 14 (pNd σ142) v2 6 v4) → w_Book_addNode_J163 post v1 v2 v4 σ160)) ∧ (¬ (tGet 14 (pNd σ118) v2 11) = (-1) → w_Book_addNode_J163 post v1 v2 v4 σ142))))
def w_Book_addNode  (σ : PPS) (x0 : Int32) (x1 : Int32) (x2 : Int32) (post : Int32 → PPS → Prop) : Prop := (∀ σ4 : PPS, σ4 = sNd σ (tAdd 900 14 (pNd σ)) → (∀ σ17 : PPS, σ17 = sNd σ4 (tSet 14 (pNd σ4) (tAddR 900 (pNd σ)) 0 x0) → (∀ σ28 : PPS, σ28 = sNd σ17 (tSet 14 (pNd σ17) (tAddR 900 (pNd σ)) 1 x1) → (∀ σ39 : PPS, σ39 = sNd σ28 (tSet 14 (pNd σ28) (tAddR 900 (pNd σ)) 2 x2) → (∀ σ50 : PPS, σ50 = sNd σ39 (tSet 14 (pNd σ39) (tAddR 900 (pNd σ)) 4 0) → (∀ σ68 : PPS, σ68 = sNd σ50 (tSet 14 (pNd σ50) (tAddR 900 (pNd σ)) 9 ((pAt σ50).1)) → (∀ σ86 : PPS, σ86 = sNd σ68 (tSet 14 (pNd σ68) (tAddR 900 (pNd σ)) 8 ((pLe σ68).1)) → ((x1 = (-1) → w_Book_addNode_J118 post x0 x1 (tAddR 900 (pNd σ)) 1 7 (tAddR 900 (pNd σ)) σ86) ∧ (¬ x1 = (-1) → w_Book_addNode_J118 post x0 x1 (tAddR 900 (pNd σ)) ((tGet 14 (pNd σ86) x1 7) + 1) 7 (tAddR 900 (pNd σ)) σ86)))))))))
set_option maxHeartbeats 4000000 in
set_option maxRecDepth 100000 in
theorem c_Book_addNode (l : Launch) (w : WD) (sz : Nat) (σ : PPS) (x0 : Int32) (x1 : Int32) (x2 : Int32)  (post : Int32 → PPS → Prop) (hI : inv σ) (hE : w_Book_addNode σ x0 x1 x2 post) : Met l y_Book_addNode ws_Book_addNode { frames := 1, cells := 0, slots := 0, locals := 24 } (va_Pc [.ref (wA w 6), .int x0, .int x1, .int x2] (gW w σ sz)) (va_Qi (fun r u => post r u ∧ inv u) (mB (wG w) (WW w) (wI w) (va_A (WW w σ) sz)) (va_A (WW w σ) sz)) 0 0 (va_A (WW w σ) sz) := by
  refine Met.ofW (cc := b_Book_addNode) (maxL := 6) (ret := (some .int)) (by decide) rfl ?_
  intro p e s m args below meth c s₁ B hml hv
  obtain ⟨rfl, hsz, hP, hK, hD0, hC⟩ := hv
  have hx := B.exec
  have hb := B.bytes
  have hr := B.returns
  have hta : ∀ w ∈ aW, w.before _ s = true := fun w h => atoms_spec (ws := ws_Book_addNode) B.pre w (List.mem_cons_of_mem _ h)
  have hown : s.vm.findClass R_Book = some m.cls := findClass_of_methodNamed B.named
  have hlocks := B.notSynchronized
  subst hsz
  have hD := hD0.self (sz := s.heap.size)
  generalize hAe : va_A (WW w σ) s.heap.size = A at hD hC ⊢
  have hA : ∀ q : Nat, s.heap.size ≤ q → A q := fun q h => by rw [← hAe]; exact Or.inr h
  have hS : va_S A s.heap s.heap [] := va_S.rf
  have hP : va_P (wG w) classes (WW w σ) s.heap := hP
  have hl := lv_entry ([.ref (wA w 6), .int x0, .int x1, .int x2]) (n := 6) (Nat.le_of_ble_eq_true rfl)
  rw [lg_entry_eq]
  generalize (lg_sl ([.ref (wA w 6), .int x0, .int x1, .int x2]) ++ List.replicate (6 - (lg_sl ([.ref (wA w 6), .int x0, .int x1, .int x2])).length) Slot.unset).toArray = ls at hl ⊢
  have hl : lv_has ls 6 [(0, .ref (wA w 6)), (1, .int x0), (2, .int x1), (3, .int x2)] := hl
  have J163 : ∀ (v1 : Int32) (v2 : Int32) (v4 : Int32) (σ : PPS) (H : Heap) (locs : List Loc) (hP : va_P (wG w) classes (WW w σ) H) (hD : va_D A (WW w σ)) (hS : va_S A s.heap H locs) (hI : inv σ) (ls : Array Slot) (hl : lv_has ls 6 [(0, .ref (wA w 6)), (1, .int v1), (2, .int v2), (4, .int v4)]) (hE : w_Book_addNode_J163 post v1 v2 v4 σ), W p l e (headSpec ws_Book_addNode { frames := 1, cells := 0, slots := 0, locals := 24 }).room s m ([.ref (wA w 6), .int x0, .int x1, .int x2] : List Value).toArray below meth c H locs 0 0 (MQ below (va_Qi (fun r u => post r u ∧ inv u) (mB (wG w) (WW w) (wI w) A) A) ([.ref (wA w 6), .int x0, .int x1, .int x2] : List Value).toArray s 0 0 A) (F0 m 163 ls []) := by
    intro  v1 v2 v4 σ H locs hP hD hS hI ls hl hE
    unfold w_Book_addNode_J163 at hE
    refine lv_aload_n hx hb d_Book_addNode_163 rfl (lv_at hl 0 rfl) ?_
    refine va_get (D := (wG w)) (ci := 3) (v := .ref (wA w 7)) (C := R_Book) (T := F_Book) (N := 4) hx hb hta i_Book hown hK hP 6 rfl rfl 0 (by decide) (hta _ fl_Book_14) (fun _ h9 => h9) rfl d_Book_addNode_164 ?_
    refine lv_iload_n hx hb d_Book_addNode_167 rfl (lv_at hl 2 rfl) ?_
    refine lv_bipush (v := 11) hx hb d_Book_addNode_168 (by decide) ?_
    refine lv_iload hx hb d_Book_addNode_170 (lv_at hl 3 rfl) ?_
    refine cNd_v (As := [.int v2, .int 11, .int v4]) (rest := []) ⟨hx, hb, hml, hown, hta⟩ (c_Table_set l (wG w) (wA w 7) (wA w 8) (wI w) 900 14 12600 _ (pNd σ) v2 11 v4 (fun u => u = tSet 14 (pNd σ) v2 11 v4) (lNd_set hI v2 11 v4)) ok_Book_83 ⟨Nat.le_of_ble_eq_true rfl, Nat.le_of_ble_eq_true rfl⟩ hP hK hD hS hA rfl hl.1 rfl (Nat.le_of_ble_eq_true rfl) d_Book_addNode_172 ⟨Nat.zero_le _, Nat.zero_le _⟩ (fun u H locs hrr hP hD hS => ?_)
    subst hrr
    have hP : va_P (wG w) classes (WW w (sNd σ (tSet 14 (pNd σ) v2 11 v4))) H := hP
    have hD : va_D A (WW w (sNd σ (tSet 14 (pNd σ) v2 11 v4))) := hD
    have hI : inv (sNd σ (tSet 14 (pNd σ) v2 11 v4)) := (inv.sNd hI (sOk_set (inv.Nd hI) _ _ _))
    have hE := hE _ rfl
    generalize (sNd σ (tSet 14 (pNd σ) v2 11 v4) : PPS) = σ172 at hP hD hI hE
    refine lv_iload_n hx hb d_Book_addNode_175 rfl (lv_at hl 1 rfl) ?_
    refine lv_iconst (v := 1) hx hb d_Book_addNode_176 (by decide) ?_
    refine lv_icmp_ne (tgt := 190) hx hb d_Book_addNode_177 (by decide) (fun cc177 => ?_) (fun cc177 => ?_)
    · have hE := hE.2 cc177
      refine lv_iload hx hb d_Book_addNode_190 (lv_at hl 3 rfl) ?_
      exact W.iret (v := v4) hx hb hr (fun t ht hW => ⟨⟨_, σ172, rfl, ⟨hE, hI⟩, by rw [ht]; exact hP, va_K.moved hW.alike hK, hD⟩, hS.F ht⟩) hS.2.2 d_Book_addNode_192
    · have hE := hE.1 cc177
      refine lv_aload_n hx hb d_Book_addNode_180 rfl (lv_at hl 0 rfl) ?_
      refine lv_dup hx hb d_Book_addNode_181 rfl ?_
      refine va_get (D := (wG w)) (ci := 3) (v := .int (pEl σ172)) (C := R_Book) (T := F_Book) (N := 4) hx hb hta i_Book hown hK hP 6 rfl rfl 3 (by decide) (hta _ fl_Book_32) (fun _ h9 => h9) rfl d_Book_addNode_182 ?_
      refine lv_iconst (v := 1) hx hb d_Book_addNode_185 (by decide) ?_
      refine lv_iadd hx hb d_Book_addNode_186 ?_
      refine va_put (D := (wG w)) (ci := 3) (v := .int ((pEl σ172) + 1)) (ty := .int) (C := R_Book) (T := F_Book) (N := 4) hx hb hta i_Book t_Book t_Book_ok n_Book hown hK hP hD hS 6 rfl rfl 3 (by decide) (hta _ fl_Book_32) (fun _ h9 => h9) rfl (by decide +kernel) rfl rfl (Nat.le_of_ble_eq_true rfl) d_Book_addNode_187 (fun H locs hP hD hS => ?_)
      have hP : va_P (wG w) classes (WW w (sEl σ172 ((pEl σ172) + 1))) H := hP
      have hD : va_D A (WW w (sEl σ172 ((pEl σ172) + 1))) := hD
      have hI : inv (sEl σ172 ((pEl σ172) + 1)) := hI
      have hE := hE _ rfl
      generalize (sEl σ172 ((pEl σ172) + 1) : PPS) = σ187 at hP hD hI hE
      refine lv_iload hx hb d_Book_addNode_190 (lv_at hl 3 rfl) ?_
      exact W.iret (v := v4) hx hb hr (fun t ht hW => ⟨⟨_, σ187, rfl, ⟨hE, hI⟩, by rw [ht]; exact hP, va_K.moved hW.alike hK, hD⟩, hS.F ht⟩) hS.2.2 d_Book_addNode_192
  have J118 : ∀ (v1 : Int32) (v2 : Int32) (v4 : Int32) (t0 : Int32) (t1 : Int32) (t2 : Int32) (σ : PPS) (H : Heap) (locs : List Loc) (hP : va_P (wG w) classes (WW w σ) H) (hD : va_D A (WW w σ)) (hS : va_S A s.heap H locs) (hI : inv σ) (ls : Array Slot) (hl : lv_has ls 6 [(0, .ref (wA w 6)), (1, .int v1), (2, .int v2), (4, .int v4)]) (hE : w_Book_addNode_J118 post v1 v2 v4 t0 t1 t2 σ), W p l e (headSpec ws_Book_addNode { frames := 1, cells := 0, slots := 0, locals := 24 }).room s m ([.ref (wA w 6), .int x0, .int x1, .int x2] : List Value).toArray below meth c H locs 0 0 (MQ below (va_Qi (fun r u => post r u ∧ inv u) (mB (wG w) (WW w) (wI w) A) A) ([.ref (wA w 6), .int x0, .int x1, .int x2] : List Value).toArray s 0 0 A) (F0 m 118 ls [.int t0, .int t1, .int t2, .ref (wA w 7)]) := by
    intro  v1 v2 v4 t0 t1 t2 σ H locs hP hD hS hI ls hl hE
    unfold w_Book_addNode_J118 at hE
    refine cNd_v (As := [.int t2, .int t1, .int t0]) (rest := []) ⟨hx, hb, hml, hown, hta⟩ (c_Table_set l (wG w) (wA w 7) (wA w 8) (wI w) 900 14 12600 _ (pNd σ) t2 t1 t0 (fun u => u = tSet 14 (pNd σ) t2 t1 t0) (lNd_set hI t2 t1 t0)) ok_Book_83 ⟨Nat.le_of_ble_eq_true rfl, Nat.le_of_ble_eq_true rfl⟩ hP hK hD hS hA rfl hl.1 rfl (Nat.le_of_ble_eq_true rfl) d_Book_addNode_118 ⟨Nat.zero_le _, Nat.zero_le _⟩ (fun u H locs hrr hP hD hS => ?_)
    subst hrr
    have hP : va_P (wG w) classes (WW w (sNd σ (tSet 14 (pNd σ) t2 t1 t0))) H := hP
    have hD : va_D A (WW w (sNd σ (tSet 14 (pNd σ) t2 t1 t0))) := hD
    have hI : inv (sNd σ (tSet 14 (pNd σ) t2 t1 t0)) := (inv.sNd hI (sOk_set (inv.Nd hI) _ _ _))
    have hE := hE _ rfl
    generalize (sNd σ (tSet 14 (pNd σ) t2 t1 t0) : PPS) = σ118 at hP hD hI hE
    refine lv_aload_n hx hb d_Book_addNode_121 rfl (lv_at hl 0 rfl) ?_
    refine va_get (D := (wG w)) (ci := 3) (v := .ref (wA w 7)) (C := R_Book) (T := F_Book) (N := 4) hx hb hta i_Book hown hK hP 6 rfl rfl 0 (by decide) (hta _ fl_Book_14) (fun _ h9 => h9) rfl d_Book_addNode_122 ?_
    refine lv_iload_n hx hb d_Book_addNode_125 rfl (lv_at hl 2 rfl) ?_
    refine lv_bipush (v := 11) hx hb d_Book_addNode_126 (by decide) ?_
    refine ro_V (b0 := (wA w 7)) (As := [.int v2, .int 11]) (rest := []) ⟨hx, hb, hml, hown, hta⟩ (c_Table_get l (wG w) (wA w 7) (wA w 8) (wI w) 900 14 12600 (pNd σ118) v2 11 (fun r => r = tGet 14 (pNd σ118) v2 11) (lNd_get hI v2 11)) ok_Book_44 ⟨Nat.le_of_ble_eq_true rfl, Nat.le_of_ble_eq_true rfl⟩ blind_rW (va_recv hK hP (ci := 2) (q0 := 7) rfl rfl) (fun U h1 h2 => ⟨by rw [h1]; exact hP.sub [7, 8] rfl, va_K.moved h2.alike hK⟩) rfl hl.1 rfl (Nat.le_of_ble_eq_true rfl) d_Book_addNode_128 ⟨Nat.zero_le _, Nat.zero_le _⟩ (fun r128 hrr => ?_)
    subst hrr
    refine lv_istore (lv' := [(5, .int (tGet 14 (pNd σ118) v2 11)), (0, .ref (wA w 6)), (1, .int v1), (2, .int v2), (4, .int v4)]) hx hb d_Book_addNode_131 hl (by decide) rfl (fun ls hl => ?_)
    refine lv_aload_n hx hb d_Book_addNode_133 rfl (lv_at hl 1 rfl) ?_
    refine va_get (D := (wG w)) (ci := 3) (v := .ref (wA w 7)) (C := R_Book) (T := F_Book) (N := 4) hx hb hta i_Book hown hK hP 6 rfl rfl 0 (by decide) (hta _ fl_Book_14) (fun _ h9 => h9) rfl d_Book_addNode_134 ?_
    refine lv_iload hx hb d_Book_addNode_137 (lv_at hl 0 rfl) ?_
    refine lv_iconst (v := 5) hx hb d_Book_addNode_139 (by decide) ?_
    refine lv_iload hx hb d_Book_addNode_140 (lv_at hl 4 rfl) ?_
    refine cNd_v (As := [.int (tGet 14 (pNd σ118) v2 11), .int 5, .int v4]) (rest := []) ⟨hx, hb, hml, hown, hta⟩ (c_Table_set l (wG w) (wA w 7) (wA w 8) (wI w) 900 14 12600 _ (pNd σ118) (tGet 14 (pNd σ118) v2 11) 5 v4 (fun u => u = tSet 14 (pNd σ118) (tGet 14 (pNd σ118) v2 11) 5 v4) (lNd_set hI (tGet 14 (pNd σ118) v2 11) 5 v4)) ok_Book_83 ⟨Nat.le_of_ble_eq_true rfl, Nat.le_of_ble_eq_true rfl⟩ hP hK hD hS hA rfl hl.1 rfl (Nat.le_of_ble_eq_true rfl) d_Book_addNode_142 ⟨Nat.zero_le _, Nat.zero_le _⟩ (fun u H locs hrr hP hD hS => ?_)
    subst hrr
    have hP : va_P (wG w) classes (WW w (sNd σ118 (tSet 14 (pNd σ118) (tGet 14 (pNd σ118) v2 11) 5 v4))) H := hP
    have hD : va_D A (WW w (sNd σ118 (tSet 14 (pNd σ118) (tGet 14 (pNd σ118) v2 11) 5 v4))) := hD
    have hI : inv (sNd σ118 (tSet 14 (pNd σ118) (tGet 14 (pNd σ118) v2 11) 5 v4)) := (inv.sNd hI (sOk_set (inv.Nd hI) _ _ _))
    have hE := hE _ rfl
    generalize (sNd σ118 (tSet 14 (pNd σ118) (tGet 14 (pNd σ118) v2 11) 5 v4) : PPS) = σ142 at hP hD hI hE
    refine lv_iload hx hb d_Book_addNode_145 (lv_at hl 0 rfl) ?_
    refine lv_iconst (v := -1) hx hb d_Book_addNode_147 (by decide) ?_
    refine lv_icmp_ne (tgt := 163) hx hb d_Book_addNode_148 (by decide) (fun cc148 => ?_) (fun cc148 => ?_)
    · have hE := hE.2 cc148
      exact J163  v1 v2 v4 σ142 _ _ hP hD hS hI _ (lv_sub hl [1, 2, 3, 4] rfl) hE
    · have hE := hE.1 cc148
      refine lv_aload_n hx hb d_Book_addNode_151 rfl (lv_at hl 1 rfl) ?_
      refine va_get (D := (wG w)) (ci := 3) (v := .ref (wA w 7)) (C := R_Book) (T := F_Book) (N := 4) hx hb hta i_Book hown hK hP 6 rfl rfl 0 (by decide) (hta _ fl_Book_14) (fun _ h9 => h9) rfl d_Book_addNode_152 ?_
      refine lv_iload_n hx hb d_Book_addNode_155 rfl (lv_at hl 3 rfl) ?_
      refine lv_bipush (v := 6) hx hb d_Book_addNode_156 (by decide) ?_
      refine lv_iload hx hb d_Book_addNode_158 (lv_at hl 4 rfl) ?_
      refine cNd_v (As := [.int v2, .int 6, .int v4]) (rest := []) ⟨hx, hb, hml, hown, hta⟩ (c_Table_set l (wG w) (wA w 7) (wA w 8) (wI w) 900 14 12600 _ (pNd σ142) v2 6 v4 (fun u => u = tSet 14 (pNd σ142) v2 6 v4) (lNd_set hI v2 6 v4)) ok_Book_83 ⟨Nat.le_of_ble_eq_true rfl, Nat.le_of_ble_eq_true rfl⟩ hP hK hD hS hA rfl hl.1 rfl (Nat.le_of_ble_eq_true rfl) d_Book_addNode_160 ⟨Nat.zero_le _, Nat.zero_le _⟩ (fun u H locs hrr hP hD hS => ?_)
      subst hrr
      have hP : va_P (wG w) classes (WW w (sNd σ142 (tSet 14 (pNd σ142) v2 6 v4))) H := hP
      have hD : va_D A (WW w (sNd σ142 (tSet 14 (pNd σ142) v2 6 v4))) := hD
      have hI : inv (sNd σ142 (tSet 14 (pNd σ142) v2 6 v4)) := (inv.sNd hI (sOk_set (inv.Nd hI) _ _ _))
      have hE := hE _ rfl
      generalize (sNd σ142 (tSet 14 (pNd σ142) v2 6 v4) : PPS) = σ160 at hP hD hI hE
      exact J163  v1 v2 v4 σ160 _ _ hP hD hS hI _ (lv_sub hl [1, 2, 3, 4] rfl) hE
  unfold w_Book_addNode at hE
  refine lv_aload_n hx hb d_Book_addNode_0 rfl (lv_at hl 0 rfl) ?_
  refine va_get (D := (wG w)) (ci := 3) (v := .ref (wA w 7)) (C := R_Book) (T := F_Book) (N := 4) hx hb hta i_Book hown hK hP 6 rfl rfl 0 (by decide) (hta _ fl_Book_14) (fun _ h9 => h9) rfl d_Book_addNode_1 ?_
  refine cNd_i (As := []) (rest := []) ⟨hx, hb, hml, hown, hta⟩ (c_Table_addRow l (wG w) (wA w 7) (wA w 8) (wI w) 900 14 12600 _ (pNd σ) (fun r u => r = tAddR 900 (pNd σ) ∧ u = tAdd 900 14 (pNd σ)) (lNd_add hI)) ok_Book_80 ⟨Nat.le_of_ble_eq_true rfl, Nat.le_of_ble_eq_true rfl⟩ hP hK hD hS hA rfl hl.1 rfl (Nat.le_of_ble_eq_true rfl) d_Book_addNode_4 ⟨Nat.zero_le _, Nat.zero_le _⟩ (fun r u H locs hrr hP hD hS => ?_)
  obtain ⟨rfl, rfl⟩ := hrr
  have hP : va_P (wG w) classes (WW w (sNd σ (tAdd 900 14 (pNd σ)))) H := hP
  have hD : va_D A (WW w (sNd σ (tAdd 900 14 (pNd σ)))) := hD
  have hI : inv (sNd σ (tAdd 900 14 (pNd σ))) := (inv.sNd hI (sOk_tAdd (by decide) (inv.Nd hI)))
  have hE := hE _ rfl
  generalize (sNd σ (tAdd 900 14 (pNd σ)) : PPS) = σ4 at hP hD hI hE
  refine lv_istore (lv' := [(4, .int (tAddR 900 (pNd σ))), (0, .ref (wA w 6)), (1, .int x0), (2, .int x1), (3, .int x2)]) hx hb d_Book_addNode_7 hl (by decide) rfl (fun ls hl => ?_)
  refine lv_aload_n hx hb d_Book_addNode_9 rfl (lv_at hl 1 rfl) ?_
  refine va_get (D := (wG w)) (ci := 3) (v := .ref (wA w 7)) (C := R_Book) (T := F_Book) (N := 4) hx hb hta i_Book hown hK hP 6 rfl rfl 0 (by decide) (hta _ fl_Book_14) (fun _ h9 => h9) rfl d_Book_addNode_10 ?_
  refine lv_iload hx hb d_Book_addNode_13 (lv_at hl 0 rfl) ?_
  refine lv_iconst (v := 0) hx hb d_Book_addNode_15 (by decide) ?_
  refine lv_iload_n hx hb d_Book_addNode_16 rfl (lv_at hl 2 rfl) ?_
  refine cNd_v (As := [.int (tAddR 900 (pNd σ)), .int 0, .int x0]) (rest := []) ⟨hx, hb, hml, hown, hta⟩ (c_Table_set l (wG w) (wA w 7) (wA w 8) (wI w) 900 14 12600 _ (pNd σ4) (tAddR 900 (pNd σ)) 0 x0 (fun u => u = tSet 14 (pNd σ4) (tAddR 900 (pNd σ)) 0 x0) (lNd_set hI (tAddR 900 (pNd σ)) 0 x0)) ok_Book_83 ⟨Nat.le_of_ble_eq_true rfl, Nat.le_of_ble_eq_true rfl⟩ hP hK hD hS hA rfl hl.1 rfl (Nat.le_of_ble_eq_true rfl) d_Book_addNode_17 ⟨Nat.zero_le _, Nat.zero_le _⟩ (fun u H locs hrr hP hD hS => ?_)
  subst hrr
  have hP : va_P (wG w) classes (WW w (sNd σ4 (tSet 14 (pNd σ4) (tAddR 900 (pNd σ)) 0 x0))) H := hP
  have hD : va_D A (WW w (sNd σ4 (tSet 14 (pNd σ4) (tAddR 900 (pNd σ)) 0 x0))) := hD
  have hI : inv (sNd σ4 (tSet 14 (pNd σ4) (tAddR 900 (pNd σ)) 0 x0)) := (inv.sNd hI (sOk_set (inv.Nd hI) _ _ _))
  have hE := hE _ rfl
  generalize (sNd σ4 (tSet 14 (pNd σ4) (tAddR 900 (pNd σ)) 0 x0) : PPS) = σ17 at hP hD hI hE
  refine lv_aload_n hx hb d_Book_addNode_20 rfl (lv_at hl 1 rfl) ?_
  refine va_get (D := (wG w)) (ci := 3) (v := .ref (wA w 7)) (C := R_Book) (T := F_Book) (N := 4) hx hb hta i_Book hown hK hP 6 rfl rfl 0 (by decide) (hta _ fl_Book_14) (fun _ h9 => h9) rfl d_Book_addNode_21 ?_
  refine lv_iload hx hb d_Book_addNode_24 (lv_at hl 0 rfl) ?_
  refine lv_iconst (v := 1) hx hb d_Book_addNode_26 (by decide) ?_
  refine lv_iload_n hx hb d_Book_addNode_27 rfl (lv_at hl 3 rfl) ?_
  refine cNd_v (As := [.int (tAddR 900 (pNd σ)), .int 1, .int x1]) (rest := []) ⟨hx, hb, hml, hown, hta⟩ (c_Table_set l (wG w) (wA w 7) (wA w 8) (wI w) 900 14 12600 _ (pNd σ17) (tAddR 900 (pNd σ)) 1 x1 (fun u => u = tSet 14 (pNd σ17) (tAddR 900 (pNd σ)) 1 x1) (lNd_set hI (tAddR 900 (pNd σ)) 1 x1)) ok_Book_83 ⟨Nat.le_of_ble_eq_true rfl, Nat.le_of_ble_eq_true rfl⟩ hP hK hD hS hA rfl hl.1 rfl (Nat.le_of_ble_eq_true rfl) d_Book_addNode_28 ⟨Nat.zero_le _, Nat.zero_le _⟩ (fun u H locs hrr hP hD hS => ?_)
  subst hrr
  have hP : va_P (wG w) classes (WW w (sNd σ17 (tSet 14 (pNd σ17) (tAddR 900 (pNd σ)) 1 x1))) H := hP
  have hD : va_D A (WW w (sNd σ17 (tSet 14 (pNd σ17) (tAddR 900 (pNd σ)) 1 x1))) := hD
  have hI : inv (sNd σ17 (tSet 14 (pNd σ17) (tAddR 900 (pNd σ)) 1 x1)) := (inv.sNd hI (sOk_set (inv.Nd hI) _ _ _))
  have hE := hE _ rfl
  generalize (sNd σ17 (tSet 14 (pNd σ17) (tAddR 900 (pNd σ)) 1 x1) : PPS) = σ28 at hP hD hI hE
  refine lv_aload_n hx hb d_Book_addNode_31 rfl (lv_at hl 1 rfl) ?_
  refine va_get (D := (wG w)) (ci := 3) (v := .ref (wA w 7)) (C := R_Book) (T := F_Book) (N := 4) hx hb hta i_Book hown hK hP 6 rfl rfl 0 (by decide) (hta _ fl_Book_14) (fun _ h9 => h9) rfl d_Book_addNode_32 ?_
  refine lv_iload hx hb d_Book_addNode_35 (lv_at hl 0 rfl) ?_
  refine lv_iconst (v := 2) hx hb d_Book_addNode_37 (by decide) ?_
  refine lv_iload_n hx hb d_Book_addNode_38 rfl (lv_at hl 4 rfl) ?_
  refine cNd_v (As := [.int (tAddR 900 (pNd σ)), .int 2, .int x2]) (rest := []) ⟨hx, hb, hml, hown, hta⟩ (c_Table_set l (wG w) (wA w 7) (wA w 8) (wI w) 900 14 12600 _ (pNd σ28) (tAddR 900 (pNd σ)) 2 x2 (fun u => u = tSet 14 (pNd σ28) (tAddR 900 (pNd σ)) 2 x2) (lNd_set hI (tAddR 900 (pNd σ)) 2 x2)) ok_Book_83 ⟨Nat.le_of_ble_eq_true rfl, Nat.le_of_ble_eq_true rfl⟩ hP hK hD hS hA rfl hl.1 rfl (Nat.le_of_ble_eq_true rfl) d_Book_addNode_39 ⟨Nat.zero_le _, Nat.zero_le _⟩ (fun u H locs hrr hP hD hS => ?_)
  subst hrr
  have hP : va_P (wG w) classes (WW w (sNd σ28 (tSet 14 (pNd σ28) (tAddR 900 (pNd σ)) 2 x2))) H := hP
  have hD : va_D A (WW w (sNd σ28 (tSet 14 (pNd σ28) (tAddR 900 (pNd σ)) 2 x2))) := hD
  have hI : inv (sNd σ28 (tSet 14 (pNd σ28) (tAddR 900 (pNd σ)) 2 x2)) := (inv.sNd hI (sOk_set (inv.Nd hI) _ _ _))
  have hE := hE _ rfl
  generalize (sNd σ28 (tSet 14 (pNd σ28) (tAddR 900 (pNd σ)) 2 x2) : PPS) = σ39 at hP hD hI hE
  refine lv_aload_n hx hb d_Book_addNode_42 rfl (lv_at hl 1 rfl) ?_
  refine va_get (D := (wG w)) (ci := 3) (v := .ref (wA w 7)) (C := R_Book) (T := F_Book) (N := 4) hx hb hta i_Book hown hK hP 6 rfl rfl 0 (by decide) (hta _ fl_Book_14) (fun _ h9 => h9) rfl d_Book_addNode_43 ?_
  refine lv_iload hx hb d_Book_addNode_46 (lv_at hl 0 rfl) ?_
  refine lv_iconst (v := 4) hx hb d_Book_addNode_48 (by decide) ?_
  refine lv_iconst (v := 0) hx hb d_Book_addNode_49 (by decide) ?_
  refine cNd_v (As := [.int (tAddR 900 (pNd σ)), .int 4, .int 0]) (rest := []) ⟨hx, hb, hml, hown, hta⟩ (c_Table_set l (wG w) (wA w 7) (wA w 8) (wI w) 900 14 12600 _ (pNd σ39) (tAddR 900 (pNd σ)) 4 0 (fun u => u = tSet 14 (pNd σ39) (tAddR 900 (pNd σ)) 4 0) (lNd_set hI (tAddR 900 (pNd σ)) 4 0)) ok_Book_83 ⟨Nat.le_of_ble_eq_true rfl, Nat.le_of_ble_eq_true rfl⟩ hP hK hD hS hA rfl hl.1 rfl (Nat.le_of_ble_eq_true rfl) d_Book_addNode_50 ⟨Nat.zero_le _, Nat.zero_le _⟩ (fun u H locs hrr hP hD hS => ?_)
  subst hrr
  have hP : va_P (wG w) classes (WW w (sNd σ39 (tSet 14 (pNd σ39) (tAddR 900 (pNd σ)) 4 0))) H := hP
  have hD : va_D A (WW w (sNd σ39 (tSet 14 (pNd σ39) (tAddR 900 (pNd σ)) 4 0))) := hD
  have hI : inv (sNd σ39 (tSet 14 (pNd σ39) (tAddR 900 (pNd σ)) 4 0)) := (inv.sNd hI (sOk_set (inv.Nd hI) _ _ _))
  have hE := hE _ rfl
  generalize (sNd σ39 (tSet 14 (pNd σ39) (tAddR 900 (pNd σ)) 4 0) : PPS) = σ50 at hP hD hI hE
  refine lv_aload_n hx hb d_Book_addNode_53 rfl (lv_at hl 1 rfl) ?_
  refine va_get (D := (wG w)) (ci := 3) (v := .ref (wA w 7)) (C := R_Book) (T := F_Book) (N := 4) hx hb hta i_Book hown hK hP 6 rfl rfl 0 (by decide) (hta _ fl_Book_14) (fun _ h9 => h9) rfl d_Book_addNode_54 ?_
  refine lv_iload hx hb d_Book_addNode_57 (lv_at hl 0 rfl) ?_
  refine lv_bipush (v := 9) hx hb d_Book_addNode_59 (by decide) ?_
  refine lv_aload_n hx hb d_Book_addNode_61 rfl (lv_at hl 1 rfl) ?_
  refine va_get (D := (wG w)) (ci := 3) (v := .ref (wA w 9)) (C := R_Book) (T := F_Book) (N := 4) hx hb hta i_Book hown hK hP 6 rfl rfl 1 (by decide) (hta _ fl_Book_20) (fun _ h9 => h9) rfl d_Book_addNode_62 ?_
  refine ro_V (b0 := (wA w 9)) (As := []) (rest := [.int 9, .int (tAddR 900 (pNd σ)), .ref (wA w 7)]) ⟨hx, hb, hml, hown, hta⟩ (c_Table_size l (wG w) (wA w 9) (wA w 10) (wI w) 800 5 4000 (pAt σ50)  (fun r => r = (pAt σ50).1) rfl) ok_Book_40 ⟨Nat.le_of_ble_eq_true rfl, Nat.le_of_ble_eq_true rfl⟩ blind_rW (va_recv hK hP (ci := 2) (q0 := 9) rfl rfl) (fun U h1 h2 => ⟨by rw [h1]; exact hP.sub [9, 10] rfl, va_K.moved h2.alike hK⟩) rfl hl.1 rfl (Nat.le_of_ble_eq_true rfl) d_Book_addNode_65 ⟨Nat.zero_le _, Nat.zero_le _⟩ (fun r65 hrr => ?_)
  subst hrr
  refine cNd_v (As := [.int (tAddR 900 (pNd σ)), .int 9, .int ((pAt σ50).1)]) (rest := []) ⟨hx, hb, hml, hown, hta⟩ (c_Table_set l (wG w) (wA w 7) (wA w 8) (wI w) 900 14 12600 _ (pNd σ50) (tAddR 900 (pNd σ)) 9 ((pAt σ50).1) (fun u => u = tSet 14 (pNd σ50) (tAddR 900 (pNd σ)) 9 ((pAt σ50).1)) (lNd_set hI (tAddR 900 (pNd σ)) 9 ((pAt σ50).1))) ok_Book_83 ⟨Nat.le_of_ble_eq_true rfl, Nat.le_of_ble_eq_true rfl⟩ hP hK hD hS hA rfl hl.1 rfl (Nat.le_of_ble_eq_true rfl) d_Book_addNode_68 ⟨Nat.zero_le _, Nat.zero_le _⟩ (fun u H locs hrr hP hD hS => ?_)
  subst hrr
  have hP : va_P (wG w) classes (WW w (sNd σ50 (tSet 14 (pNd σ50) (tAddR 900 (pNd σ)) 9 ((pAt σ50).1)))) H := hP
  have hD : va_D A (WW w (sNd σ50 (tSet 14 (pNd σ50) (tAddR 900 (pNd σ)) 9 ((pAt σ50).1)))) := hD
  have hI : inv (sNd σ50 (tSet 14 (pNd σ50) (tAddR 900 (pNd σ)) 9 ((pAt σ50).1))) := (inv.sNd hI (sOk_set (inv.Nd hI) _ _ _))
  have hE := hE _ rfl
  generalize (sNd σ50 (tSet 14 (pNd σ50) (tAddR 900 (pNd σ)) 9 ((pAt σ50).1)) : PPS) = σ68 at hP hD hI hE
  refine lv_aload_n hx hb d_Book_addNode_71 rfl (lv_at hl 1 rfl) ?_
  refine va_get (D := (wG w)) (ci := 3) (v := .ref (wA w 7)) (C := R_Book) (T := F_Book) (N := 4) hx hb hta i_Book hown hK hP 6 rfl rfl 0 (by decide) (hta _ fl_Book_14) (fun _ h9 => h9) rfl d_Book_addNode_72 ?_
  refine lv_iload hx hb d_Book_addNode_75 (lv_at hl 0 rfl) ?_
  refine lv_bipush (v := 8) hx hb d_Book_addNode_77 (by decide) ?_
  refine lv_aload_n hx hb d_Book_addNode_79 rfl (lv_at hl 1 rfl) ?_
  refine va_get (D := (wG w)) (ci := 3) (v := .ref (wA w 11)) (C := R_Book) (T := F_Book) (N := 4) hx hb hta i_Book hown hK hP 6 rfl rfl 2 (by decide) (hta _ fl_Book_28) (fun _ h9 => h9) rfl d_Book_addNode_80 ?_
  refine ro_V (b0 := (wA w 11)) (As := []) (rest := [.int 8, .int (tAddR 900 (pNd σ)), .ref (wA w 7)]) ⟨hx, hb, hml, hown, hta⟩ (c_Strip_size l (wG w) (wA w 11) (wA w 12) (wI w) 4000 (pLe σ68)  (fun r => r = (pLe σ68).1) rfl) ok_Book_75 ⟨Nat.le_of_ble_eq_true rfl, Nat.le_of_ble_eq_true rfl⟩ blind_rW (va_recv hK hP (ci := 1) (q0 := 11) rfl rfl) (fun U h1 h2 => ⟨by rw [h1]; exact hP.sub [11, 12] rfl, va_K.moved h2.alike hK⟩) rfl hl.1 rfl (Nat.le_of_ble_eq_true rfl) d_Book_addNode_83 ⟨Nat.zero_le _, Nat.zero_le _⟩ (fun r83 hrr => ?_)
  subst hrr
  refine cNd_v (As := [.int (tAddR 900 (pNd σ)), .int 8, .int ((pLe σ68).1)]) (rest := []) ⟨hx, hb, hml, hown, hta⟩ (c_Table_set l (wG w) (wA w 7) (wA w 8) (wI w) 900 14 12600 _ (pNd σ68) (tAddR 900 (pNd σ)) 8 ((pLe σ68).1) (fun u => u = tSet 14 (pNd σ68) (tAddR 900 (pNd σ)) 8 ((pLe σ68).1)) (lNd_set hI (tAddR 900 (pNd σ)) 8 ((pLe σ68).1))) ok_Book_83 ⟨Nat.le_of_ble_eq_true rfl, Nat.le_of_ble_eq_true rfl⟩ hP hK hD hS hA rfl hl.1 rfl (Nat.le_of_ble_eq_true rfl) d_Book_addNode_86 ⟨Nat.zero_le _, Nat.zero_le _⟩ (fun u H locs hrr hP hD hS => ?_)
  subst hrr
  have hP : va_P (wG w) classes (WW w (sNd σ68 (tSet 14 (pNd σ68) (tAddR 900 (pNd σ)) 8 ((pLe σ68).1)))) H := hP
  have hD : va_D A (WW w (sNd σ68 (tSet 14 (pNd σ68) (tAddR 900 (pNd σ)) 8 ((pLe σ68).1)))) := hD
  have hI : inv (sNd σ68 (tSet 14 (pNd σ68) (tAddR 900 (pNd σ)) 8 ((pLe σ68).1))) := (inv.sNd hI (sOk_set (inv.Nd hI) _ _ _))
  have hE := hE _ rfl
  generalize (sNd σ68 (tSet 14 (pNd σ68) (tAddR 900 (pNd σ)) 8 ((pLe σ68).1)) : PPS) = σ86 at hP hD hI hE
  refine lv_aload_n hx hb d_Book_addNode_89 rfl (lv_at hl 1 rfl) ?_
  refine va_get (D := (wG w)) (ci := 3) (v := .ref (wA w 7)) (C := R_Book) (T := F_Book) (N := 4) hx hb hta i_Book hown hK hP 6 rfl rfl 0 (by decide) (hta _ fl_Book_14) (fun _ h9 => h9) rfl d_Book_addNode_90 ?_
  refine lv_iload hx hb d_Book_addNode_93 (lv_at hl 0 rfl) ?_
  refine lv_bipush (v := 7) hx hb d_Book_addNode_95 (by decide) ?_
  refine lv_iload_n hx hb d_Book_addNode_97 rfl (lv_at hl 3 rfl) ?_
  refine lv_iconst (v := -1) hx hb d_Book_addNode_98 (by decide) ?_
  refine lv_icmp_ne (tgt := 106) hx hb d_Book_addNode_99 (by decide) (fun cc99 => ?_) (fun cc99 => ?_)
  · have hE := hE.2 cc99
    refine lv_aload_n hx hb d_Book_addNode_106 rfl (lv_at hl 1 rfl) ?_
    refine va_get (D := (wG w)) (ci := 3) (v := .ref (wA w 7)) (C := R_Book) (T := F_Book) (N := 4) hx hb hta i_Book hown hK hP 6 rfl rfl 0 (by decide) (hta _ fl_Book_14) (fun _ h9 => h9) rfl d_Book_addNode_107 ?_
    refine lv_iload_n hx hb d_Book_addNode_110 rfl (lv_at hl 3 rfl) ?_
    refine lv_bipush (v := 7) hx hb d_Book_addNode_111 (by decide) ?_
    refine ro_V (b0 := (wA w 7)) (As := [.int x1, .int 7]) (rest := [.int 7, .int (tAddR 900 (pNd σ)), .ref (wA w 7)]) ⟨hx, hb, hml, hown, hta⟩ (c_Table_get l (wG w) (wA w 7) (wA w 8) (wI w) 900 14 12600 (pNd σ86) x1 7 (fun r => r = tGet 14 (pNd σ86) x1 7) (lNd_get hI x1 7)) ok_Book_44 ⟨Nat.le_of_ble_eq_true rfl, Nat.le_of_ble_eq_true rfl⟩ blind_rW (va_recv hK hP (ci := 2) (q0 := 7) rfl rfl) (fun U h1 h2 => ⟨by rw [h1]; exact hP.sub [7, 8] rfl, va_K.moved h2.alike hK⟩) rfl hl.1 rfl (Nat.le_of_ble_eq_true rfl) d_Book_addNode_113 ⟨Nat.zero_le _, Nat.zero_le _⟩ (fun r113 hrr => ?_)
    subst hrr
    refine lv_iconst (v := 1) hx hb d_Book_addNode_116 (by decide) ?_
    refine lv_iadd hx hb d_Book_addNode_117 ?_
    exact J118  x0 x1 (tAddR 900 (pNd σ)) ((tGet 14 (pNd σ86) x1 7) + 1) 7 (tAddR 900 (pNd σ)) σ86 _ _ hP hD hS hI _ (lv_sub hl [1, 2, 3, 0] rfl) hE
  · have hE := hE.1 cc99
    refine lv_iconst (v := 1) hx hb d_Book_addNode_102 (by decide) ?_
    refine lv_goto (tgt := 118) hx hb d_Book_addNode_103 (by decide) ?_
    exact J118  x0 x1 (tAddR 900 (pNd σ)) 1 7 (tAddR 900 (pNd σ)) σ86 _ _ hP hD hS hI _ (lv_sub hl [1, 2, 3, 0] rfl) hE

theorem d_Book_keepKind_0 : decode b_Book_keepKind 0 = .ok (.aload_n 0, 1) := by decide +kernel
theorem d_Book_keepKind_1 : decode b_Book_keepKind 1 = .ok (.getfield 14, 3) := by decide +kernel
theorem d_Book_keepKind_4 : decode b_Book_keepKind 4 = .ok (.iload_n 1, 1) := by decide +kernel
theorem d_Book_keepKind_5 : decode b_Book_keepKind 5 = .ok (.bipush 8, 2) := by decide +kernel
theorem d_Book_keepKind_7 : decode b_Book_keepKind 7 = .ok (.invokevirtual 44, 3) := by decide +kernel
theorem d_Book_keepKind_10 : decode b_Book_keepKind 10 = .ok (.istore_n 2, 1) := by decide +kernel
theorem d_Book_keepKind_11 : decode b_Book_keepKind 11 = .ok (.aload_n 0, 1) := by decide +kernel
theorem d_Book_keepKind_12 : decode b_Book_keepKind 12 = .ok (.getfield 14, 3) := by decide +kernel
theorem d_Book_keepKind_15 : decode b_Book_keepKind 15 = .ok (.iload_n 1, 1) := by decide +kernel
theorem d_Book_keepKind_16 : decode b_Book_keepKind 16 = .ok (.iconst 3, 1) := by decide +kernel
theorem d_Book_keepKind_17 : decode b_Book_keepKind 17 = .ok (.invokevirtual 44, 3) := by decide +kernel
theorem d_Book_keepKind_20 : decode b_Book_keepKind 20 = .ok (.istore_n 3, 1) := by decide +kernel
theorem d_Book_keepKind_21 : decode b_Book_keepKind 21 = .ok (.iconst 0, 1) := by decide +kernel
theorem d_Book_keepKind_22 : decode b_Book_keepKind 22 = .ok (.istore 4, 2) := by decide +kernel
theorem d_Book_keepKind_24 : decode b_Book_keepKind 24 = .ok (.iload 4, 2) := by decide +kernel
theorem d_Book_keepKind_26 : decode b_Book_keepKind 26 = .ok (.getstatic 51, 3) := by decide +kernel
theorem d_Book_keepKind_29 : decode b_Book_keepKind 29 = .ok (.arraylength, 1) := by decide +kernel
theorem d_Book_keepKind_30 : decode b_Book_keepKind 30 = .ok (.if_icmp .ge 48, 3) := by decide +kernel
theorem d_Book_keepKind_33 : decode b_Book_keepKind 33 = .ok (.getstatic 51, 3) := by decide +kernel
theorem d_Book_keepKind_36 : decode b_Book_keepKind 36 = .ok (.iload 4, 2) := by decide +kernel
theorem d_Book_keepKind_38 : decode b_Book_keepKind 38 = .ok (.aaload, 1) := by decide +kernel
theorem d_Book_keepKind_39 : decode b_Book_keepKind 39 = .ok (.ifnull 33, 3) := by decide +kernel
theorem d_Book_keepKind_42 : decode b_Book_keepKind 42 = .ok (.aload_n 0, 1) := by decide +kernel
theorem d_Book_keepKind_43 : decode b_Book_keepKind 43 = .ok (.iload_n 2, 1) := by decide +kernel
theorem d_Book_keepKind_44 : decode b_Book_keepKind 44 = .ok (.iload_n 3, 1) := by decide +kernel
theorem d_Book_keepKind_45 : decode b_Book_keepKind 45 = .ok (.getstatic 51, 3) := by decide +kernel
theorem d_Book_keepKind_48 : decode b_Book_keepKind 48 = .ok (.iload 4, 2) := by decide +kernel
theorem d_Book_keepKind_50 : decode b_Book_keepKind 50 = .ok (.aaload, 1) := by decide +kernel
theorem d_Book_keepKind_51 : decode b_Book_keepKind 51 = .ok (.getfield 90, 3) := by decide +kernel
theorem d_Book_keepKind_54 : decode b_Book_keepKind 54 = .ok (.invokevirtual 62, 3) := by decide +kernel
theorem d_Book_keepKind_57 : decode b_Book_keepKind 57 = .ok (.ifCond .eq 15, 3) := by decide +kernel
theorem d_Book_keepKind_60 : decode b_Book_keepKind 60 = .ok (.aload_n 0, 1) := by decide +kernel
theorem d_Book_keepKind_61 : decode b_Book_keepKind 61 = .ok (.getfield 14, 3) := by decide +kernel
theorem d_Book_keepKind_64 : decode b_Book_keepKind 64 = .ok (.iload_n 1, 1) := by decide +kernel
theorem d_Book_keepKind_65 : decode b_Book_keepKind 65 = .ok (.bipush 12, 2) := by decide +kernel
theorem d_Book_keepKind_67 : decode b_Book_keepKind 67 = .ok (.iload 4, 2) := by decide +kernel
theorem d_Book_keepKind_69 : decode b_Book_keepKind 69 = .ok (.invokevirtual 83, 3) := by decide +kernel
theorem d_Book_keepKind_72 : decode b_Book_keepKind 72 = .ok (.iinc 4 1, 3) := by decide +kernel
theorem d_Book_keepKind_75 : decode b_Book_keepKind 75 = .ok (.goto (-51), 3) := by decide +kernel
theorem d_Book_keepKind_78 : decode b_Book_keepKind 78 = .ok (.return_, 1) := by decide +kernel
def w_Book_keepKind_J72  (v1 : Int32) (v2 : Int32) (v3 : Int32) (K24 : Int32 → PPS → Prop) (post : PPS → Prop) (v4 : Int32) (σ : PPS) : Prop := K24 (v4 + 1) σ
def w_Book_keepKind_L24  (v1 : Int32) (v2 : Int32) (v3 : Int32) (post : PPS → Prop) : Nat → Int32 → PPS → Prop
  | 0, _, _ => False
  | n24 + 1, v4, σ => ((23 ≤ v4 → post σ) ∧ (¬ 23 ≤ v4 → (vp_in v4 23 ∧ (vp_in v4 23 ∧ (v4.toNatClampNeg < 23 ∧ w_Book_lettersAre σ v2 v3 (kLa.getD v4.toNatClampNeg 0) (fun r54 => ((r54 = 0 → w_Book_keepKind_J72 v1 v2 v3 (w_Book_keepKind_L24 v1 v2 v3 post n24) post v4 σ) ∧ (¬ r54 = 0 → (∀ σ69 : PPS, σ69 = sNd σ (tSet 14 (pNd σ) v1 12 v4) → w_Book_keepKind_J72 v1 v2 v3 (w_Book_keepKind_L24 v1 v2 v3 post n24) post v4 σ69)))))))))
def w_Book_keepKind  (σ : PPS) (x0 : Int32) (post : PPS → Prop) : Prop := (∃ n24, w_Book_keepKind_L24 x0 (tGet 14 (pNd σ) x0 8) (tGet 14 (pNd σ) x0 3) post n24 0 σ)
set_option maxHeartbeats 4000000 in
set_option maxRecDepth 100000 in
theorem c_Book_keepKind (l : Launch) (w : WD) (sz : Nat) (σ : PPS) (x0 : Int32)  (post : PPS → Prop) (hI : inv σ) (hE : w_Book_keepKind σ x0 post) : Met l y_Book_keepKind ws_Book_keepKind { frames := 5, cells := 0, slots := 0, locals := 109 } (va_Pc [.ref (wA w 6), .int x0] (gW w σ sz)) (va_Qv (fun u => post u ∧ inv u) (mB (wG w) (WW w) (wI w) (va_A (WW w σ) sz)) (va_A (WW w σ) sz)) 0 0 (va_A (WW w σ) sz) := by
  refine Met.ofW (cc := b_Book_keepKind) (maxL := 5) (ret := none) (by decide) rfl ?_
  intro p e s m args below meth c s₁ B hml hv
  obtain ⟨rfl, hsz, hP, hK, hD0, hC⟩ := hv
  have hx := B.exec
  have hb := B.bytes
  have hr := B.returns
  have hta : ∀ w ∈ aW, w.before _ s = true := fun w h => atoms_spec (ws := ws_Book_keepKind) B.pre w (List.mem_cons_of_mem _ h)
  have hown : s.vm.findClass R_Book = some m.cls := findClass_of_methodNamed B.named
  have hlocks := B.notSynchronized
  subst hsz
  have hD := hD0.self (sz := s.heap.size)
  generalize hAe : va_A (WW w σ) s.heap.size = A at hD hC ⊢
  have hA : ∀ q : Nat, s.heap.size ≤ q → A q := fun q h => by rw [← hAe]; exact Or.inr h
  have hS : va_S A s.heap s.heap [] := va_S.rf
  have hP : va_P (wG w) classes (WW w σ) s.heap := hP
  have hl := lv_entry ([.ref (wA w 6), .int x0]) (n := 5) (Nat.le_of_ble_eq_true rfl)
  rw [lg_entry_eq]
  generalize (lg_sl ([.ref (wA w 6), .int x0]) ++ List.replicate (5 - (lg_sl ([.ref (wA w 6), .int x0])).length) Slot.unset).toArray = ls at hl ⊢
  have hl : lv_has ls 5 [(0, .ref (wA w 6)), (1, .int x0)] := hl
  have L24 : ∀ (v1 : Int32) (v2 : Int32) (v3 : Int32) (n24 : Nat) (v4 : Int32) (σ : PPS) (H : Heap) (locs : List Loc) (hP : va_P (wG w) classes (WW w σ) H) (hD : va_D A (WW w σ)) (hS : va_S A s.heap H locs) (hI : inv σ) (ls : Array Slot) (hl : lv_has ls 5 [(0, .ref (wA w 6)), (1, .int v1), (2, .int v2), (3, .int v3), (4, .int v4)]) (hE : w_Book_keepKind_L24 v1 v2 v3 post n24 v4 σ), W p l e (headSpec ws_Book_keepKind { frames := 5, cells := 0, slots := 0, locals := 109 }).room s m ([.ref (wA w 6), .int x0] : List Value).toArray below meth c H locs 0 0 (MQ below (va_Qv (fun u => post u ∧ inv u) (mB (wG w) (WW w) (wI w) A) A) ([.ref (wA w 6), .int x0] : List Value).toArray s 0 0 A) (F0 m 24 ls []) := by
    intro v1 v2 v3 n24
    induction n24 with
    | zero => intro v4 σ H locs hP hD hS hI ls hl hE; exact hE.elim
    | succ n24 ih24 =>
      have J72 : ∀ (v4 : Int32) (σ : PPS) (H : Heap) (locs : List Loc) (hP : va_P (wG w) classes (WW w σ) H) (hD : va_D A (WW w σ)) (hS : va_S A s.heap H locs) (hI : inv σ) (ls : Array Slot) (hl : lv_has ls 5 [(0, .ref (wA w 6)), (1, .int v1), (2, .int v2), (3, .int v3), (4, .int v4)]) (hE : w_Book_keepKind_J72 v1 v2 v3 (w_Book_keepKind_L24 v1 v2 v3 post n24) post v4 σ), W p l e (headSpec ws_Book_keepKind { frames := 5, cells := 0, slots := 0, locals := 109 }).room s m ([.ref (wA w 6), .int x0] : List Value).toArray below meth c H locs 0 0 (MQ below (va_Qv (fun u => post u ∧ inv u) (mB (wG w) (WW w) (wI w) A) A) ([.ref (wA w 6), .int x0] : List Value).toArray s 0 0 A) (F0 m 72 ls []) := by
        intro  v4 σ H locs hP hD hS hI ls hl hE
        unfold w_Book_keepKind_J72 at hE
        refine lv_iinc (v := v4 + 1) (lv' := [(4, .int (v4 + 1)), (0, .ref (wA w 6)), (1, .int v1), (2, .int v2), (3, .int v3)]) hx hb d_Book_keepKind_72 hl (k := 4) rfl rfl (by decide) rfl (fun ls hl => ?_)
        refine lv_goto (tgt := 24) hx hb d_Book_keepKind_75 (by decide) ?_
        exact ih24 (v4 + 1) σ _ _ hP hD hS hI _ (lv_sub hl [1, 2, 3, 4, 0] rfl) hE
      intro v4 σ H locs hP hD hS hI ls hl hE
      unfold w_Book_keepKind_L24 at hE
      refine lv_iload hx hb d_Book_keepKind_24 (lv_at hl 4 rfl) ?_
      refine k_arr hx hb hC hS hown hC.2.2.2.2.2.2.2.1 d_Book_keepKind_26 ?_
      refine k_len hx hb hC hS d_Book_keepKind_29 ?_
      refine lv_icmp_ge (tgt := 78) hx hb d_Book_keepKind_30 (by decide) (fun cc30 => ?_) (fun cc30 => ?_)
      · have hE := hE.1 cc30
        exact W.vret hx hb hr (fun t ht hW => ⟨⟨σ, rfl, ⟨hE, hI⟩, by rw [ht]; exact hP, va_K.moved hW.alike hK, hD⟩, hS.F ht⟩) hS.2.2 d_Book_keepKind_78
      · have hE := hE.2 cc30
        refine k_arr hx hb hC hS hown hC.2.2.2.2.2.2.2.1 d_Book_keepKind_33 ?_
        refine lv_iload hx hb d_Book_keepKind_36 (lv_at hl 4 rfl) ?_
        obtain ⟨hI38, hE⟩ := hE
        refine k_ald hx hb hC hS hI38 d_Book_keepKind_38 ?_
        refine lv_ifnull hx hb d_Book_keepKind_39 ?_
        refine lv_aload_n hx hb d_Book_keepKind_42 rfl (lv_at hl 0 rfl) ?_
        refine lv_iload_n hx hb d_Book_keepKind_43 rfl (lv_at hl 2 rfl) ?_
        refine lv_iload_n hx hb d_Book_keepKind_44 rfl (lv_at hl 3 rfl) ?_
        refine k_arr hx hb hC hS hown hC.2.2.2.2.2.2.2.1 d_Book_keepKind_45 ?_
        refine lv_iload hx hb d_Book_keepKind_48 (lv_at hl 4 rfl) ?_
        obtain ⟨hI50, hE⟩ := hE
        refine k_ald hx hb hC hS hI50 d_Book_keepKind_50 ?_
        obtain ⟨hk51, hE⟩ := hE
        refine k_lab hx hb hC rfl hk51 hS hown hC.2.2.2.2.2.2.2.2.1 d_Book_keepKind_51 ?_
        refine ro_V (b0 := (wA w 6)) (As := [.int v2, .int v3, .ref (wK w (kLa.getD v4.toNatClampNeg 0))]) (rest := []) ⟨hx, hb, hml, hown, hta⟩ (c_Book_lettersAre l w σ v2 v3 (kLa.getD v4.toNatClampNeg 0)  _ hI hE) ok_Book_62 ⟨Nat.le_of_ble_eq_true rfl, Nat.le_of_ble_eq_true rfl⟩ blind_fW (va_recv hK hP (ci := 3) (q0 := 6) rfl rfl) (fW_of hP hK hC hS) rfl hl.1 rfl (Nat.le_of_ble_eq_true rfl) d_Book_keepKind_54 ⟨Nat.zero_le _, Nat.zero_le _⟩ (fun r54 hE => ?_)
        refine lv_if_eq (tgt := 72) hx hb d_Book_keepKind_57 (by decide) (fun cc57 => ?_) (fun cc57 => ?_)
        · have hE := hE.1 cc57
          exact J72  v4 σ _ _ hP hD hS hI _ (lv_sub hl [0, 1, 2, 3, 4] rfl) hE
        · have hE := hE.2 cc57
          refine lv_aload_n hx hb d_Book_keepKind_60 rfl (lv_at hl 0 rfl) ?_
          refine va_get (D := (wG w)) (ci := 3) (v := .ref (wA w 7)) (C := R_Book) (T := F_Book) (N := 4) hx hb hta i_Book hown hK hP 6 rfl rfl 0 (by decide) (hta _ fl_Book_14) (fun _ h9 => h9) rfl d_Book_keepKind_61 ?_
          refine lv_iload_n hx hb d_Book_keepKind_64 rfl (lv_at hl 1 rfl) ?_
          refine lv_bipush (v := 12) hx hb d_Book_keepKind_65 (by decide) ?_
          refine lv_iload hx hb d_Book_keepKind_67 (lv_at hl 4 rfl) ?_
          refine cNd_v (As := [.int v1, .int 12, .int v4]) (rest := []) ⟨hx, hb, hml, hown, hta⟩ (c_Table_set l (wG w) (wA w 7) (wA w 8) (wI w) 900 14 12600 _ (pNd σ) v1 12 v4 (fun u => u = tSet 14 (pNd σ) v1 12 v4) (lNd_set hI v1 12 v4)) ok_Book_83 ⟨Nat.le_of_ble_eq_true rfl, Nat.le_of_ble_eq_true rfl⟩ hP hK hD hS hA rfl hl.1 rfl (Nat.le_of_ble_eq_true rfl) d_Book_keepKind_69 ⟨Nat.zero_le _, Nat.zero_le _⟩ (fun u H locs hrr hP hD hS => ?_)
          subst hrr
          have hP : va_P (wG w) classes (WW w (sNd σ (tSet 14 (pNd σ) v1 12 v4))) H := hP
          have hD : va_D A (WW w (sNd σ (tSet 14 (pNd σ) v1 12 v4))) := hD
          have hI : inv (sNd σ (tSet 14 (pNd σ) v1 12 v4)) := (inv.sNd hI (sOk_set (inv.Nd hI) _ _ _))
          have hE := hE _ rfl
          generalize (sNd σ (tSet 14 (pNd σ) v1 12 v4) : PPS) = σ69 at hP hD hI hE
          exact J72  v4 σ69 _ _ hP hD hS hI _ (lv_sub hl [0, 1, 2, 3, 4] rfl) hE
  unfold w_Book_keepKind at hE
  refine lv_aload_n hx hb d_Book_keepKind_0 rfl (lv_at hl 0 rfl) ?_
  refine va_get (D := (wG w)) (ci := 3) (v := .ref (wA w 7)) (C := R_Book) (T := F_Book) (N := 4) hx hb hta i_Book hown hK hP 6 rfl rfl 0 (by decide) (hta _ fl_Book_14) (fun _ h9 => h9) rfl d_Book_keepKind_1 ?_
  refine lv_iload_n hx hb d_Book_keepKind_4 rfl (lv_at hl 1 rfl) ?_
  refine lv_bipush (v := 8) hx hb d_Book_keepKind_5 (by decide) ?_
  refine ro_V (b0 := (wA w 7)) (As := [.int x0, .int 8]) (rest := []) ⟨hx, hb, hml, hown, hta⟩ (c_Table_get l (wG w) (wA w 7) (wA w 8) (wI w) 900 14 12600 (pNd σ) x0 8 (fun r => r = tGet 14 (pNd σ) x0 8) (lNd_get hI x0 8)) ok_Book_44 ⟨Nat.le_of_ble_eq_true rfl, Nat.le_of_ble_eq_true rfl⟩ blind_rW (va_recv hK hP (ci := 2) (q0 := 7) rfl rfl) (fun U h1 h2 => ⟨by rw [h1]; exact hP.sub [7, 8] rfl, va_K.moved h2.alike hK⟩) rfl hl.1 rfl (Nat.le_of_ble_eq_true rfl) d_Book_keepKind_7 ⟨Nat.zero_le _, Nat.zero_le _⟩ (fun r7 hrr => ?_)
  subst hrr
  refine lv_istore_n (lv' := [(2, .int (tGet 14 (pNd σ) x0 8)), (0, .ref (wA w 6)), (1, .int x0)]) hx hb d_Book_keepKind_10 rfl hl (by decide) rfl (fun ls hl => ?_)
  refine lv_aload_n hx hb d_Book_keepKind_11 rfl (lv_at hl 1 rfl) ?_
  refine va_get (D := (wG w)) (ci := 3) (v := .ref (wA w 7)) (C := R_Book) (T := F_Book) (N := 4) hx hb hta i_Book hown hK hP 6 rfl rfl 0 (by decide) (hta _ fl_Book_14) (fun _ h9 => h9) rfl d_Book_keepKind_12 ?_
  refine lv_iload_n hx hb d_Book_keepKind_15 rfl (lv_at hl 2 rfl) ?_
  refine lv_iconst (v := 3) hx hb d_Book_keepKind_16 (by decide) ?_
  refine ro_V (b0 := (wA w 7)) (As := [.int x0, .int 3]) (rest := []) ⟨hx, hb, hml, hown, hta⟩ (c_Table_get l (wG w) (wA w 7) (wA w 8) (wI w) 900 14 12600 (pNd σ) x0 3 (fun r => r = tGet 14 (pNd σ) x0 3) (lNd_get hI x0 3)) ok_Book_44 ⟨Nat.le_of_ble_eq_true rfl, Nat.le_of_ble_eq_true rfl⟩ blind_rW (va_recv hK hP (ci := 2) (q0 := 7) rfl rfl) (fun U h1 h2 => ⟨by rw [h1]; exact hP.sub [7, 8] rfl, va_K.moved h2.alike hK⟩) rfl hl.1 rfl (Nat.le_of_ble_eq_true rfl) d_Book_keepKind_17 ⟨Nat.zero_le _, Nat.zero_le _⟩ (fun r17 hrr => ?_)
  subst hrr
  refine lv_istore_n (lv' := [(3, .int (tGet 14 (pNd σ) x0 3)), (2, .int (tGet 14 (pNd σ) x0 8)), (0, .ref (wA w 6)), (1, .int x0)]) hx hb d_Book_keepKind_20 rfl hl (by decide) rfl (fun ls hl => ?_)
  refine lv_iconst (v := 0) hx hb d_Book_keepKind_21 (by decide) ?_
  refine lv_istore (lv' := [(4, .int 0), (3, .int (tGet 14 (pNd σ) x0 3)), (2, .int (tGet 14 (pNd σ) x0 8)), (0, .ref (wA w 6)), (1, .int x0)]) hx hb d_Book_keepKind_22 hl (by decide) rfl (fun ls hl => ?_)
  obtain ⟨n24, hE⟩ := hE
  exact L24 x0 (tGet 14 (pNd σ) x0 8) (tGet 14 (pNd σ) x0 3) n24 0 σ _ _ hP hD hS hI _ (lv_sub hl [3, 4, 2, 1, 0] rfl) hE

theorem d_Book_addAttribute_0 : decode b_Book_addAttribute 0 = .ok (.aload_n 0, 1) := by decide +kernel
theorem d_Book_addAttribute_1 : decode b_Book_addAttribute 1 = .ok (.getfield 20, 3) := by decide +kernel
theorem d_Book_addAttribute_4 : decode b_Book_addAttribute 4 = .ok (.invokevirtual 80, 3) := by decide +kernel
theorem d_Book_addAttribute_7 : decode b_Book_addAttribute 7 = .ok (.istore_n 3, 1) := by decide +kernel
theorem d_Book_addAttribute_8 : decode b_Book_addAttribute 8 = .ok (.aload_n 0, 1) := by decide +kernel
theorem d_Book_addAttribute_9 : decode b_Book_addAttribute 9 = .ok (.getfield 20, 3) := by decide +kernel
theorem d_Book_addAttribute_12 : decode b_Book_addAttribute 12 = .ok (.iload_n 3, 1) := by decide +kernel
theorem d_Book_addAttribute_13 : decode b_Book_addAttribute 13 = .ok (.iconst 2, 1) := by decide +kernel
theorem d_Book_addAttribute_14 : decode b_Book_addAttribute 14 = .ok (.iload_n 2, 1) := by decide +kernel
theorem d_Book_addAttribute_15 : decode b_Book_addAttribute 15 = .ok (.invokevirtual 83, 3) := by decide +kernel
theorem d_Book_addAttribute_18 : decode b_Book_addAttribute 18 = .ok (.aload_n 0, 1) := by decide +kernel
theorem d_Book_addAttribute_19 : decode b_Book_addAttribute 19 = .ok (.getfield 20, 3) := by decide +kernel
theorem d_Book_addAttribute_22 : decode b_Book_addAttribute 22 = .ok (.iload_n 3, 1) := by decide +kernel
theorem d_Book_addAttribute_23 : decode b_Book_addAttribute 23 = .ok (.iconst 3, 1) := by decide +kernel
theorem d_Book_addAttribute_24 : decode b_Book_addAttribute 24 = .ok (.aload_n 0, 1) := by decide +kernel
theorem d_Book_addAttribute_25 : decode b_Book_addAttribute 25 = .ok (.getfield 28, 3) := by decide +kernel
theorem d_Book_addAttribute_28 : decode b_Book_addAttribute 28 = .ok (.invokevirtual 75, 3) := by decide +kernel
theorem d_Book_addAttribute_31 : decode b_Book_addAttribute 31 = .ok (.invokevirtual 83, 3) := by decide +kernel
theorem d_Book_addAttribute_34 : decode b_Book_addAttribute 34 = .ok (.aload_n 0, 1) := by decide +kernel
theorem d_Book_addAttribute_35 : decode b_Book_addAttribute 35 = .ok (.getfield 14, 3) := by decide +kernel
theorem d_Book_addAttribute_38 : decode b_Book_addAttribute 38 = .ok (.iload_n 1, 1) := by decide +kernel
theorem d_Book_addAttribute_39 : decode b_Book_addAttribute 39 = .ok (.iconst 4, 1) := by decide +kernel
theorem d_Book_addAttribute_40 : decode b_Book_addAttribute 40 = .ok (.aload_n 0, 1) := by decide +kernel
theorem d_Book_addAttribute_41 : decode b_Book_addAttribute 41 = .ok (.getfield 14, 3) := by decide +kernel
theorem d_Book_addAttribute_44 : decode b_Book_addAttribute 44 = .ok (.iload_n 1, 1) := by decide +kernel
theorem d_Book_addAttribute_45 : decode b_Book_addAttribute 45 = .ok (.iconst 4, 1) := by decide +kernel
theorem d_Book_addAttribute_46 : decode b_Book_addAttribute 46 = .ok (.invokevirtual 44, 3) := by decide +kernel
theorem d_Book_addAttribute_49 : decode b_Book_addAttribute 49 = .ok (.iconst 1, 1) := by decide +kernel
theorem d_Book_addAttribute_50 : decode b_Book_addAttribute 50 = .ok (.iadd, 1) := by decide +kernel
theorem d_Book_addAttribute_51 : decode b_Book_addAttribute 51 = .ok (.invokevirtual 83, 3) := by decide +kernel
theorem d_Book_addAttribute_54 : decode b_Book_addAttribute 54 = .ok (.iload_n 3, 1) := by decide +kernel
theorem d_Book_addAttribute_55 : decode b_Book_addAttribute 55 = .ok (.ireturn, 1) := by decide +kernel
def w_Book_addAttribute  (σ : PPS) (x0 : Int32) (x1 : Int32) (post : Int32 → PPS → Prop) : Prop := (∀ σ4 : PPS, σ4 = sAt σ (tAdd 800 5 (pAt σ)) → (∀ σ15 : PPS, σ15 = sAt σ4 (tSet 5 (pAt σ4) (tAddR 800 (pAt σ)) 2 x1) → (∀ σ31 : PPS, σ31 = sAt σ15 (tSet 5 (pAt σ15) (tAddR 800 (pAt σ)) 3 ((pLe σ15).1)) → (∀ σ51 : PPS, σ51 = sNd σ31 (tSet 14 (pNd σ31) x0 4 ((tGet 14 (pNd σ31) x0 4) + 1)) → post (tAddR 800 (pAt σ)) σ51))))
set_option maxHeartbeats 4000000 in
set_option maxRecDepth 100000 in
theorem c_Book_addAttribute (l : Launch) (w : WD) (sz : Nat) (σ : PPS) (x0 : Int32) (x1 : Int32)  (post : Int32 → PPS → Prop) (hI : inv σ) (hE : w_Book_addAttribute σ x0 x1 post) : Met l y_Book_addAttribute ws_Book_addAttribute { frames := 1, cells := 0, slots := 0, locals := 24 } (va_Pc [.ref (wA w 6), .int x0, .int x1] (gW w σ sz)) (va_Qi (fun r u => post r u ∧ inv u) (mB (wG w) (WW w) (wI w) (va_A (WW w σ) sz)) (va_A (WW w σ) sz)) 0 0 (va_A (WW w σ) sz) := by
  refine Met.ofW (cc := b_Book_addAttribute) (maxL := 4) (ret := (some .int)) (by decide) rfl ?_
  intro p e s m args below meth c s₁ B hml hv
  obtain ⟨rfl, hsz, hP, hK, hD0, hC⟩ := hv
  have hx := B.exec
  have hb := B.bytes
  have hr := B.returns
  have hta : ∀ w ∈ aW, w.before _ s = true := fun w h => atoms_spec (ws := ws_Book_addAttribute) B.pre w (List.mem_cons_of_mem _ h)
  have hown : s.vm.findClass R_Book = some m.cls := findClass_of_methodNamed B.named
  have hlocks := B.notSynchronized
  subst hsz
  have hD := hD0.self (sz := s.heap.size)
  generalize hAe : va_A (WW w σ) s.heap.size = A at hD hC ⊢
  have hA : ∀ q : Nat, s.heap.size ≤ q → A q := fun q h => by rw [← hAe]; exact Or.inr h
  have hS : va_S A s.heap s.heap [] := va_S.rf
  have hP : va_P (wG w) classes (WW w σ) s.heap := hP
  have hl := lv_entry ([.ref (wA w 6), .int x0, .int x1]) (n := 4) (Nat.le_of_ble_eq_true rfl)
  rw [lg_entry_eq]
  generalize (lg_sl ([.ref (wA w 6), .int x0, .int x1]) ++ List.replicate (4 - (lg_sl ([.ref (wA w 6), .int x0, .int x1])).length) Slot.unset).toArray = ls at hl ⊢
  have hl : lv_has ls 4 [(0, .ref (wA w 6)), (1, .int x0), (2, .int x1)] := hl
  unfold w_Book_addAttribute at hE
  refine lv_aload_n hx hb d_Book_addAttribute_0 rfl (lv_at hl 0 rfl) ?_
  refine va_get (D := (wG w)) (ci := 3) (v := .ref (wA w 9)) (C := R_Book) (T := F_Book) (N := 4) hx hb hta i_Book hown hK hP 6 rfl rfl 1 (by decide) (hta _ fl_Book_20) (fun _ h9 => h9) rfl d_Book_addAttribute_1 ?_
  refine cAt_i (As := []) (rest := []) ⟨hx, hb, hml, hown, hta⟩ (c_Table_addRow l (wG w) (wA w 9) (wA w 10) (wI w) 800 5 4000 _ (pAt σ) (fun r u => r = tAddR 800 (pAt σ) ∧ u = tAdd 800 5 (pAt σ)) (lAt_add hI)) ok_Book_80 ⟨Nat.le_of_ble_eq_true rfl, Nat.le_of_ble_eq_true rfl⟩ hP hK hD hS hA rfl hl.1 rfl (Nat.le_of_ble_eq_true rfl) d_Book_addAttribute_4 ⟨Nat.zero_le _, Nat.zero_le _⟩ (fun r u H locs hrr hP hD hS => ?_)
  obtain ⟨rfl, rfl⟩ := hrr
  have hP : va_P (wG w) classes (WW w (sAt σ (tAdd 800 5 (pAt σ)))) H := hP
  have hD : va_D A (WW w (sAt σ (tAdd 800 5 (pAt σ)))) := hD
  have hI : inv (sAt σ (tAdd 800 5 (pAt σ))) := (inv.sAt hI (sOk_tAdd (by decide) (inv.At hI)))
  have hE := hE _ rfl
  generalize (sAt σ (tAdd 800 5 (pAt σ)) : PPS) = σ4 at hP hD hI hE
  refine lv_istore_n (lv' := [(3, .int (tAddR 800 (pAt σ))), (0, .ref (wA w 6)), (1, .int x0), (2, .int x1)]) hx hb d_Book_addAttribute_7 rfl hl (by decide) rfl (fun ls hl => ?_)
  refine lv_aload_n hx hb d_Book_addAttribute_8 rfl (lv_at hl 1 rfl) ?_
  refine va_get (D := (wG w)) (ci := 3) (v := .ref (wA w 9)) (C := R_Book) (T := F_Book) (N := 4) hx hb hta i_Book hown hK hP 6 rfl rfl 1 (by decide) (hta _ fl_Book_20) (fun _ h9 => h9) rfl d_Book_addAttribute_9 ?_
  refine lv_iload_n hx hb d_Book_addAttribute_12 rfl (lv_at hl 0 rfl) ?_
  refine lv_iconst (v := 2) hx hb d_Book_addAttribute_13 (by decide) ?_
  refine lv_iload_n hx hb d_Book_addAttribute_14 rfl (lv_at hl 3 rfl) ?_
  refine cAt_v (As := [.int (tAddR 800 (pAt σ)), .int 2, .int x1]) (rest := []) ⟨hx, hb, hml, hown, hta⟩ (c_Table_set l (wG w) (wA w 9) (wA w 10) (wI w) 800 5 4000 _ (pAt σ4) (tAddR 800 (pAt σ)) 2 x1 (fun u => u = tSet 5 (pAt σ4) (tAddR 800 (pAt σ)) 2 x1) (lAt_set hI (tAddR 800 (pAt σ)) 2 x1)) ok_Book_83 ⟨Nat.le_of_ble_eq_true rfl, Nat.le_of_ble_eq_true rfl⟩ hP hK hD hS hA rfl hl.1 rfl (Nat.le_of_ble_eq_true rfl) d_Book_addAttribute_15 ⟨Nat.zero_le _, Nat.zero_le _⟩ (fun u H locs hrr hP hD hS => ?_)
  subst hrr
  have hP : va_P (wG w) classes (WW w (sAt σ4 (tSet 5 (pAt σ4) (tAddR 800 (pAt σ)) 2 x1))) H := hP
  have hD : va_D A (WW w (sAt σ4 (tSet 5 (pAt σ4) (tAddR 800 (pAt σ)) 2 x1))) := hD
  have hI : inv (sAt σ4 (tSet 5 (pAt σ4) (tAddR 800 (pAt σ)) 2 x1)) := (inv.sAt hI (sOk_set (inv.At hI) _ _ _))
  have hE := hE _ rfl
  generalize (sAt σ4 (tSet 5 (pAt σ4) (tAddR 800 (pAt σ)) 2 x1) : PPS) = σ15 at hP hD hI hE
  refine lv_aload_n hx hb d_Book_addAttribute_18 rfl (lv_at hl 1 rfl) ?_
  refine va_get (D := (wG w)) (ci := 3) (v := .ref (wA w 9)) (C := R_Book) (T := F_Book) (N := 4) hx hb hta i_Book hown hK hP 6 rfl rfl 1 (by decide) (hta _ fl_Book_20) (fun _ h9 => h9) rfl d_Book_addAttribute_19 ?_
  refine lv_iload_n hx hb d_Book_addAttribute_22 rfl (lv_at hl 0 rfl) ?_
  refine lv_iconst (v := 3) hx hb d_Book_addAttribute_23 (by decide) ?_
  refine lv_aload_n hx hb d_Book_addAttribute_24 rfl (lv_at hl 1 rfl) ?_
  refine va_get (D := (wG w)) (ci := 3) (v := .ref (wA w 11)) (C := R_Book) (T := F_Book) (N := 4) hx hb hta i_Book hown hK hP 6 rfl rfl 2 (by decide) (hta _ fl_Book_28) (fun _ h9 => h9) rfl d_Book_addAttribute_25 ?_
  refine ro_V (b0 := (wA w 11)) (As := []) (rest := [.int 3, .int (tAddR 800 (pAt σ)), .ref (wA w 9)]) ⟨hx, hb, hml, hown, hta⟩ (c_Strip_size l (wG w) (wA w 11) (wA w 12) (wI w) 4000 (pLe σ15)  (fun r => r = (pLe σ15).1) rfl) ok_Book_75 ⟨Nat.le_of_ble_eq_true rfl, Nat.le_of_ble_eq_true rfl⟩ blind_rW (va_recv hK hP (ci := 1) (q0 := 11) rfl rfl) (fun U h1 h2 => ⟨by rw [h1]; exact hP.sub [11, 12] rfl, va_K.moved h2.alike hK⟩) rfl hl.1 rfl (Nat.le_of_ble_eq_true rfl) d_Book_addAttribute_28 ⟨Nat.zero_le _, Nat.zero_le _⟩ (fun r28 hrr => ?_)
  subst hrr
  refine cAt_v (As := [.int (tAddR 800 (pAt σ)), .int 3, .int ((pLe σ15).1)]) (rest := []) ⟨hx, hb, hml, hown, hta⟩ (c_Table_set l (wG w) (wA w 9) (wA w 10) (wI w) 800 5 4000 _ (pAt σ15) (tAddR 800 (pAt σ)) 3 ((pLe σ15).1) (fun u => u = tSet 5 (pAt σ15) (tAddR 800 (pAt σ)) 3 ((pLe σ15).1)) (lAt_set hI (tAddR 800 (pAt σ)) 3 ((pLe σ15).1))) ok_Book_83 ⟨Nat.le_of_ble_eq_true rfl, Nat.le_of_ble_eq_true rfl⟩ hP hK hD hS hA rfl hl.1 rfl (Nat.le_of_ble_eq_true rfl) d_Book_addAttribute_31 ⟨Nat.zero_le _, Nat.zero_le _⟩ (fun u H locs hrr hP hD hS => ?_)
  subst hrr
  have hP : va_P (wG w) classes (WW w (sAt σ15 (tSet 5 (pAt σ15) (tAddR 800 (pAt σ)) 3 ((pLe σ15).1)))) H := hP
  have hD : va_D A (WW w (sAt σ15 (tSet 5 (pAt σ15) (tAddR 800 (pAt σ)) 3 ((pLe σ15).1)))) := hD
  have hI : inv (sAt σ15 (tSet 5 (pAt σ15) (tAddR 800 (pAt σ)) 3 ((pLe σ15).1))) := (inv.sAt hI (sOk_set (inv.At hI) _ _ _))
  have hE := hE _ rfl
  generalize (sAt σ15 (tSet 5 (pAt σ15) (tAddR 800 (pAt σ)) 3 ((pLe σ15).1)) : PPS) = σ31 at hP hD hI hE
  refine lv_aload_n hx hb d_Book_addAttribute_34 rfl (lv_at hl 1 rfl) ?_
  refine va_get (D := (wG w)) (ci := 3) (v := .ref (wA w 7)) (C := R_Book) (T := F_Book) (N := 4) hx hb hta i_Book hown hK hP 6 rfl rfl 0 (by decide) (hta _ fl_Book_14) (fun _ h9 => h9) rfl d_Book_addAttribute_35 ?_
  refine lv_iload_n hx hb d_Book_addAttribute_38 rfl (lv_at hl 2 rfl) ?_
  refine lv_iconst (v := 4) hx hb d_Book_addAttribute_39 (by decide) ?_
  refine lv_aload_n hx hb d_Book_addAttribute_40 rfl (lv_at hl 1 rfl) ?_
  refine va_get (D := (wG w)) (ci := 3) (v := .ref (wA w 7)) (C := R_Book) (T := F_Book) (N := 4) hx hb hta i_Book hown hK hP 6 rfl rfl 0 (by decide) (hta _ fl_Book_14) (fun _ h9 => h9) rfl d_Book_addAttribute_41 ?_
  refine lv_iload_n hx hb d_Book_addAttribute_44 rfl (lv_at hl 2 rfl) ?_
  refine lv_iconst (v := 4) hx hb d_Book_addAttribute_45 (by decide) ?_
  refine ro_V (b0 := (wA w 7)) (As := [.int x0, .int 4]) (rest := [.int 4, .int x0, .ref (wA w 7)]) ⟨hx, hb, hml, hown, hta⟩ (c_Table_get l (wG w) (wA w 7) (wA w 8) (wI w) 900 14 12600 (pNd σ31) x0 4 (fun r => r = tGet 14 (pNd σ31) x0 4) (lNd_get hI x0 4)) ok_Book_44 ⟨Nat.le_of_ble_eq_true rfl, Nat.le_of_ble_eq_true rfl⟩ blind_rW (va_recv hK hP (ci := 2) (q0 := 7) rfl rfl) (fun U h1 h2 => ⟨by rw [h1]; exact hP.sub [7, 8] rfl, va_K.moved h2.alike hK⟩) rfl hl.1 rfl (Nat.le_of_ble_eq_true rfl) d_Book_addAttribute_46 ⟨Nat.zero_le _, Nat.zero_le _⟩ (fun r46 hrr => ?_)
  subst hrr
  refine lv_iconst (v := 1) hx hb d_Book_addAttribute_49 (by decide) ?_
  refine lv_iadd hx hb d_Book_addAttribute_50 ?_
  refine cNd_v (As := [.int x0, .int 4, .int ((tGet 14 (pNd σ31) x0 4) + 1)]) (rest := []) ⟨hx, hb, hml, hown, hta⟩ (c_Table_set l (wG w) (wA w 7) (wA w 8) (wI w) 900 14 12600 _ (pNd σ31) x0 4 ((tGet 14 (pNd σ31) x0 4) + 1) (fun u => u = tSet 14 (pNd σ31) x0 4 ((tGet 14 (pNd σ31) x0 4) + 1)) (lNd_set hI x0 4 ((tGet 14 (pNd σ31) x0 4) + 1))) ok_Book_83 ⟨Nat.le_of_ble_eq_true rfl, Nat.le_of_ble_eq_true rfl⟩ hP hK hD hS hA rfl hl.1 rfl (Nat.le_of_ble_eq_true rfl) d_Book_addAttribute_51 ⟨Nat.zero_le _, Nat.zero_le _⟩ (fun u H locs hrr hP hD hS => ?_)
  subst hrr
  have hP : va_P (wG w) classes (WW w (sNd σ31 (tSet 14 (pNd σ31) x0 4 ((tGet 14 (pNd σ31) x0 4) + 1)))) H := hP
  have hD : va_D A (WW w (sNd σ31 (tSet 14 (pNd σ31) x0 4 ((tGet 14 (pNd σ31) x0 4) + 1)))) := hD
  have hI : inv (sNd σ31 (tSet 14 (pNd σ31) x0 4 ((tGet 14 (pNd σ31) x0 4) + 1))) := (inv.sNd hI (sOk_set (inv.Nd hI) _ _ _))
  have hE := hE _ rfl
  generalize (sNd σ31 (tSet 14 (pNd σ31) x0 4 ((tGet 14 (pNd σ31) x0 4) + 1)) : PPS) = σ51 at hP hD hI hE
  refine lv_iload_n hx hb d_Book_addAttribute_54 rfl (lv_at hl 0 rfl) ?_
  exact W.iret (v := tAddR 800 (pAt σ)) hx hb hr (fun t ht hW => ⟨⟨_, σ51, rfl, ⟨hE, hI⟩, by rw [ht]; exact hP, va_K.moved hW.alike hK, hD⟩, hS.F ht⟩) hS.2.2 d_Book_addAttribute_55
