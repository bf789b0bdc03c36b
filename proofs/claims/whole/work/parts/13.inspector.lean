-- printed by wip/gen
theorem fl_Insp_9 : Cond.fieldLink "PlainPages$Inspector" 9 "PlainPages$Inspector" "book" "LPlainPages$Book;" ∈ aW := aW_in 203 (by decide +kernel) rfl
theorem ok_Insp_42 : okV "PlainPages$Inspector" 42 R_Book y_Book_ofNode b_Book_ofNode 3 (some .int) 2 := ⟨aW_in 721 (by decide +kernel) rfl, aW_in 285 (by decide +kernel) rfl, aW_in 286 (by decide +kernel) rfl, aW_in 87 (by decide +kernel) rfl, cd_Book_ofNode, rfl, by decide +kernel, by decide +kernel, by decide +kernel⟩
theorem ok_Insp_21 : okV "PlainPages$Inspector" 21 R_Book y_Book_kindOf b_Book_kindOf 3 (some (.object "PlainPages$Kind")) 1 := ⟨aW_in 713 (by decide +kernel) rfl, aW_in 714 (by decide +kernel) rfl, aW_in 715 (by decide +kernel) rfl, aW_in 87 (by decide +kernel) rfl, cd_Book_kindOf, rfl, by decide +kernel, by decide +kernel, by decide +kernel⟩
theorem fl_Insp_46 : Cond.fieldLink "PlainPages$Inspector" 46 "PlainPages$Kind" "A" "LPlainPages$Kind;" ∈ aW := aW_in 726 (by decide +kernel) rfl
theorem d_Insp_isInA_0 : decode b_Insp_isInA 0 = .ok (.aload_n 0, 1) := by decide +kernel
theorem d_Insp_isInA_1 : decode b_Insp_isInA 1 = .ok (.getfield 9, 3) := by decide +kernel
theorem d_Insp_isInA_4 : decode b_Insp_isInA 4 = .ok (.iload_n 1, 1) := by decide +kernel
theorem d_Insp_isInA_5 : decode b_Insp_isInA 5 = .ok (.iconst 1, 1) := by decide +kernel
theorem d_Insp_isInA_6 : decode b_Insp_isInA 6 = .ok (.invokevirtual 42, 3) := by decide +kernel
theorem d_Insp_isInA_9 : decode b_Insp_isInA 9 = .ok (.istore_n 2, 1) := by decide +kernel
theorem d_Insp_isInA_10 : decode b_Insp_isInA 10 = .ok (.iconst 0, 1) := by decide +kernel
theorem d_Insp_isInA_11 : decode b_Insp_isInA 11 = .ok (.istore_n 3, 1) := by decide +kernel
theorem d_Insp_isInA_12 : decode b_Insp_isInA 12 = .ok (.iload_n 3, 1) := by decide +kernel
theorem d_Insp_isInA_13 : decode b_Insp_isInA 13 = .ok (.bipush 40, 2) := by decide +kernel
theorem d_Insp_isInA_15 : decode b_Insp_isInA 15 = .ok (.if_icmp .ge 40, 3) := by decide +kernel
theorem d_Insp_isInA_18 : decode b_Insp_isInA 18 = .ok (.iload_n 2, 1) := by decide +kernel
theorem d_Insp_isInA_19 : decode b_Insp_isInA 19 = .ok (.iconst (-1), 1) := by decide +kernel
theorem d_Insp_isInA_20 : decode b_Insp_isInA 20 = .ok (.if_icmp .eq 35, 3) := by decide +kernel
theorem d_Insp_isInA_23 : decode b_Insp_isInA 23 = .ok (.aload_n 0, 1) := by decide +kernel
theorem d_Insp_isInA_24 : decode b_Insp_isInA 24 = .ok (.getfield 9, 3) := by decide +kernel
theorem d_Insp_isInA_27 : decode b_Insp_isInA 27 = .ok (.iload_n 2, 1) := by decide +kernel
theorem d_Insp_isInA_28 : decode b_Insp_isInA 28 = .ok (.invokevirtual 21, 3) := by decide +kernel
theorem d_Insp_isInA_31 : decode b_Insp_isInA 31 = .ok (.getstatic 46, 3) := by decide +kernel
theorem d_Insp_isInA_34 : decode b_Insp_isInA 34 = .ok (.if_acmp .ne 5, 3) := by decide +kernel
theorem d_Insp_isInA_37 : decode b_Insp_isInA 37 = .ok (.iconst 1, 1) := by decide +kernel
theorem d_Insp_isInA_38 : decode b_Insp_isInA 38 = .ok (.ireturn, 1) := by decide +kernel
theorem d_Insp_isInA_39 : decode b_Insp_isInA 39 = .ok (.aload_n 0, 1) := by decide +kernel
theorem d_Insp_isInA_40 : decode b_Insp_isInA 40 = .ok (.getfield 9, 3) := by decide +kernel
theorem d_Insp_isInA_43 : decode b_Insp_isInA 43 = .ok (.iload_n 2, 1) := by decide +kernel
theorem d_Insp_isInA_44 : decode b_Insp_isInA 44 = .ok (.iconst 1, 1) := by decide +kernel
theorem d_Insp_isInA_45 : decode b_Insp_isInA 45 = .ok (.invokevirtual 42, 3) := by decide +kernel
theorem d_Insp_isInA_48 : decode b_Insp_isInA 48 = .ok (.istore_n 2, 1) := by decide +kernel
theorem d_Insp_isInA_49 : decode b_Insp_isInA 49 = .ok (.iinc 3 1, 3) := by decide +kernel
theorem d_Insp_isInA_52 : decode b_Insp_isInA 52 = .ok (.goto (-40), 3) := by decide +kernel
theorem d_Insp_isInA_55 : decode b_Insp_isInA 55 = .ok (.iconst 0, 1) := by decide +kernel
theorem d_Insp_isInA_56 : decode b_Insp_isInA 56 = .ok (.ireturn, 1) := by decide +kernel
def w_Insp_isInA_L12  (σ : PPS) (post : Int32 → Prop) : Nat → Int32 → Int32 → Prop
  | 0, _, _ => False
  | n12 + 1, v2, v3 => ((40 ≤ v3 → post 0) ∧ (¬ 40 ≤ v3 → ((v2 = (-1) → post 0) ∧ (¬ v2 = (-1) → (∀ r28, r28 = bKind σ v2 → (kOk r28 ∧ ((r28 = (some 17) → post 1) ∧ (¬ r28 = (some 17) → w_Insp_isInA_L12 σ post n12 (tGet 14 (pNd σ) v2 1) (v3 + 1)))))))))
def w_Insp_isInA  (σ : PPS) (x0 : Int32) (post : Int32 → Prop) : Prop := (∃ n12, w_Insp_isInA_L12 σ post n12 (tGet 14 (pNd σ) x0 1) 0)
set_option maxHeartbeats 4000000 in
set_option maxRecDepth 100000 in
theorem c_Insp_isInA (l : Launch) (w : WD) (σ : PPS) (x0 : Int32)  (post : Int32 → Prop) (hI : inv σ) (hE : w_Insp_isInA σ x0 post) : Met l y_Insp_isInA ws_Insp_isInA { frames := 2, cells := 0, slots := 0, locals := 45 } (va_Pc [.ref (wA w 14), .int x0] (fW w σ)) (vp_Si post) 0 0 (fun _ => False) := by
  refine Met.ofW (cc := b_Insp_isInA) (maxL := 4) (ret := (some .boolean)) (by decide) rfl ?_
  intro p e s m args below meth c s₁ B hml hv
  obtain ⟨rfl, hP, hK, hC⟩ := hv
  have hS : va_S (fun _ : Nat => False) s.heap s.heap [] := va_S.rf
  have hx := B.exec
  have hb := B.bytes
  have hr := B.returns
  have hta : ∀ w ∈ aW, w.before _ s = true := fun w h => atoms_spec (ws := ws_Insp_isInA) B.pre w (List.mem_cons_of_mem _ h)
  have hown : s.vm.findClass R_Insp = some m.cls := findClass_of_methodNamed B.named
  have hlocks := B.notSynchronized
  have hl := lv_entry ([.ref (wA w 14), .int x0]) (n := 4) (Nat.le_of_ble_eq_true rfl)
  rw [lg_entry_eq]
  generalize (lg_sl ([.ref (wA w 14), .int x0]) ++ List.replicate (4 - (lg_sl ([.ref (wA w 14), .int x0])).length) Slot.unset).toArray = ls at hl ⊢
  have hl : lv_has ls 4 [(0, .ref (wA w 14)), (1, .int x0)] := hl
  have L12 : ∀ (n12 : Nat) (v2 : Int32) (v3 : Int32) (ls : Array Slot) (hl : lv_has ls 4 [(0, .ref (wA w 14)), (2, .int v2), (3, .int v3)]) (hE : w_Insp_isInA_L12 σ post n12 v2 v3), W p l e (headSpec ws_Insp_isInA { frames := 2, cells := 0, slots := 0, locals := 45 }).room s m ([.ref (wA w 14), .int x0] : List Value).toArray below meth c s.heap [] 0 0 (MQ below (vp_Si post) ([.ref (wA w 14), .int x0] : List Value).toArray s 0 0 (fun _ => False)) (F0 m 12 ls []) := by
    intro n12
    induction n12 with
    | zero => intro v2 v3 ls hl hE; exact hE.elim
    | succ n12 ih12 =>
      intro v2 v3 ls hl hE
      unfold w_Insp_isInA_L12 at hE
      refine lv_iload_n hx hb d_Insp_isInA_12 rfl (lv_at hl 2 rfl) ?_
      refine lv_bipush (v := 40) hx hb d_Insp_isInA_13 (by decide) ?_
      refine lv_icmp_ge (tgt := 55) hx hb d_Insp_isInA_15 (by decide) (fun cc15 => ?_) (fun cc15 => ?_)
      · have hE := hE.1 cc15
        refine lv_iconst (v := 0) hx hb d_Insp_isInA_55 (by decide) ?_
        exact W.zret (v := 0) hx hb hr rfl (fun t ht hW => ⟨_, rfl, hE, ht⟩) (fun q h => by cases h) d_Insp_isInA_56
      · have hE := hE.2 cc15
        refine lv_iload_n hx hb d_Insp_isInA_18 rfl (lv_at hl 1 rfl) ?_
        refine lv_iconst (v := -1) hx hb d_Insp_isInA_19 (by decide) ?_
        refine lv_icmp_eq (tgt := 55) hx hb d_Insp_isInA_20 (by decide) (fun cc20 => ?_) (fun cc20 => ?_)
        · have hE := hE.1 cc20
          refine lv_iconst (v := 0) hx hb d_Insp_isInA_55 (by decide) ?_
          exact W.zret (v := 0) hx hb hr rfl (fun t ht hW => ⟨_, rfl, hE, ht⟩) (fun q h => by cases h) d_Insp_isInA_56
        · have hE := hE.2 cc20
          refine lv_aload_n hx hb d_Insp_isInA_23 rfl (lv_at hl 0 rfl) ?_
          refine va_get (D := (wG w)) (ci := 5) (v := .ref (wA w 6)) (C := R_Insp) (T := F_Insp) (N := 1) hx hb hta i_Insp hown hK hP 14 rfl rfl 0 (by decide) (hta _ fl_Insp_9) (fun _ h9 => h9) rfl d_Insp_isInA_24 ?_
          refine lv_iload_n hx hb d_Insp_isInA_27 rfl (lv_at hl 1 rfl) ?_
          refine roQ_V (b0 := (wA w 6)) (As := [.int v2]) (rest := []) ⟨hx, hb, hml, hown, hta⟩ (f_Book_kindOf l w σ v2 hI) ok_Insp_21 ⟨Nat.le_of_ble_eq_true rfl, Nat.le_of_ble_eq_true rfl⟩ blind_fW (va_recv hK hP (ci := 3) (q0 := 6) rfl rfl) (fW_of hP hK hC hS) rfl hl.1 rfl (Nat.le_of_ble_eq_true rfl) d_Insp_isInA_28 ⟨Nat.zero_le _, Nat.zero_le _⟩ (fun r28 hrr => ?_)
          have hE := hE r28 hrr
          refine k_sta (k := 17) hx hb hC (by decide) rfl hS hown (hta _ fl_Insp_46) d_Insp_isInA_31 ?_
          obtain ⟨hkx, hE⟩ := hE
          refine lv_acmpE_ne hC.1.2 hkx (fun _ h => by cases h; first | assumption | decide) (tgt := 39) hx hb d_Insp_isInA_34 (by decide) (fun cc34 => ?_) (fun cc34 => ?_)
          · have hE := hE.2 cc34
            refine lv_aload_n hx hb d_Insp_isInA_39 rfl (lv_at hl 0 rfl) ?_
            refine va_get (D := (wG w)) (ci := 5) (v := .ref (wA w 6)) (C := R_Insp) (T := F_Insp) (N := 1) hx hb hta i_Insp hown hK hP 14 rfl rfl 0 (by decide) (hta _ fl_Insp_9) (fun _ h9 => h9) rfl d_Insp_isInA_40 ?_
            refine lv_iload_n hx hb d_Insp_isInA_43 rfl (lv_at hl 1 rfl) ?_
            refine lv_iconst (v := 1) hx hb d_Insp_isInA_44 (by decide) ?_
            refine ro_V (b0 := (wA w 6)) (As := [.int v2, .int 1]) (rest := []) ⟨hx, hb, hml, hown, hta⟩ (f_Book_ofNode l w σ v2 1 hI) ok_Insp_42 ⟨Nat.le_of_ble_eq_true rfl, Nat.le_of_ble_eq_true rfl⟩ blind_fW (va_recv hK hP (ci := 3) (q0 := 6) rfl rfl) (fW_of hP hK hC hS) rfl hl.1 rfl (Nat.le_of_ble_eq_true rfl) d_Insp_isInA_45 ⟨Nat.zero_le _, Nat.zero_le _⟩ (fun r45 hrr => ?_)
            subst hrr
            refine lv_istore_n (lv' := [(2, .int (tGet 14 (pNd σ) v2 1)), (0, .ref (wA w 14)), (3, .int v3)]) hx hb d_Insp_isInA_48 rfl hl (by decide) rfl (fun ls hl => ?_)
            refine lv_iinc (v := v3 + 1) (lv' := [(3, .int (v3 + 1)), (2, .int (tGet 14 (pNd σ) v2 1)), (0, .ref (wA w 14))]) hx hb d_Insp_isInA_49 hl (k := 2) rfl rfl (by decide) rfl (fun ls hl => ?_)
            refine lv_goto (tgt := 12) hx hb d_Insp_isInA_52 (by decide) ?_
            exact ih12 (tGet 14 (pNd σ) v2 1) (v3 + 1) _ (lv_sub hl [2, 1, 0] rfl) hE
          · have hE := hE.1 cc34
            refine lv_iconst (v := 1) hx hb d_Insp_isInA_37 (by decide) ?_
            exact W.zret (v := 1) hx hb hr rfl (fun t ht hW => ⟨_, rfl, hE, ht⟩) (fun q h => by cases h) d_Insp_isInA_38
  unfold w_Insp_isInA at hE
  refine lv_aload_n hx hb d_Insp_isInA_0 rfl (lv_at hl 0 rfl) ?_
  refine va_get (D := (wG w)) (ci := 5) (v := .ref (wA w 6)) (C := R_Insp) (T := F_Insp) (N := 1) hx hb hta i_Insp hown hK hP 14 rfl rfl 0 (by decide) (hta _ fl_Insp_9) (fun _ h9 => h9) rfl d_Insp_isInA_1 ?_
  refine lv_iload_n hx hb d_Insp_isInA_4 rfl (lv_at hl 1 rfl) ?_
  refine lv_iconst (v := 1) hx hb d_Insp_isInA_5 (by decide) ?_
  refine ro_V (b0 := (wA w 6)) (As := [.int x0, .int 1]) (rest := []) ⟨hx, hb, hml, hown, hta⟩ (f_Book_ofNode l w σ x0 1 hI) ok_Insp_42 ⟨Nat.le_of_ble_eq_true rfl, Nat.le_of_ble_eq_true rfl⟩ blind_fW (va_recv hK hP (ci := 3) (q0 := 6) rfl rfl) (fW_of hP hK hC hS) rfl hl.1 rfl (Nat.le_of_ble_eq_true rfl) d_Insp_isInA_6 ⟨Nat.zero_le _, Nat.zero_le _⟩ (fun r6 hrr => ?_)
  subst hrr
  refine lv_istore_n (lv' := [(2, .int (tGet 14 (pNd σ) x0 1)), (0, .ref (wA w 14)), (1, .int x0)]) hx hb d_Insp_isInA_9 rfl hl (by decide) rfl (fun ls hl => ?_)
  refine lv_iconst (v := 0) hx hb d_Insp_isInA_10 (by decide) ?_
  refine lv_istore_n (lv' := [(3, .int 0), (2, .int (tGet 14 (pNd σ) x0 1)), (0, .ref (wA w 14)), (1, .int x0)]) hx hb d_Insp_isInA_11 rfl hl (by decide) rfl (fun ls hl => ?_)
  obtain ⟨n12, hE⟩ := hE
  exact L12  n12 (tGet 14 (pNd σ) x0 1) 0 _ (lv_sub hl [2, 1, 0] rfl) hE
theorem ok_Insp_76 : okV "PlainPages$Inspector" 76 R_Kind y_Kind_says b_Kind_says 2 (some .boolean) 1 := ⟨aW_in 722 (by decide +kernel) rfl, aW_in 723 (by decide +kernel) rfl, aW_in 724 (by decide +kernel) rfl, aW_in 104 (by decide +kernel) rfl, cd_Kind_says, rfl, by decide +kernel, by decide +kernel, by decide +kernel⟩
theorem ok_Insp_79 : okV "PlainPages$Inspector" 79 R_Insp y_Insp_isInA b_Insp_isInA 4 (some .boolean) 1 := ⟨aW_in 728 (by decide +kernel) rfl, aW_in 730 (by decide +kernel) rfl, aW_in 25 (by decide +kernel) rfl, aW_in 90 (by decide +kernel) rfl, cd_Insp_isInA, rfl, by decide +kernel, by decide +kernel, by decide +kernel⟩
theorem d_Insp_mayBeThere_0 : decode b_Insp_mayBeThere 0 = .ok (.aload_n 0, 1) := by decide +kernel
theorem d_Insp_mayBeThere_1 : decode b_Insp_mayBeThere 1 = .ok (.getfield 9, 3) := by decide +kernel
theorem d_Insp_mayBeThere_4 : decode b_Insp_mayBeThere 4 = .ok (.iload_n 1, 1) := by decide +kernel
theorem d_Insp_mayBeThere_5 : decode b_Insp_mayBeThere 5 = .ok (.iconst 1, 1) := by decide +kernel
theorem d_Insp_mayBeThere_6 : decode b_Insp_mayBeThere 6 = .ok (.invokevirtual 42, 3) := by decide +kernel
theorem d_Insp_mayBeThere_9 : decode b_Insp_mayBeThere 9 = .ok (.istore_n 3, 1) := by decide +kernel
theorem d_Insp_mayBeThere_10 : decode b_Insp_mayBeThere 10 = .ok (.iload_n 3, 1) := by decide +kernel
theorem d_Insp_mayBeThere_11 : decode b_Insp_mayBeThere 11 = .ok (.iconst (-1), 1) := by decide +kernel
theorem d_Insp_mayBeThere_12 : decode b_Insp_mayBeThere 12 = .ok (.if_icmp .ne 17, 3) := by decide +kernel
theorem d_Insp_mayBeThere_15 : decode b_Insp_mayBeThere 15 = .ok (.aload_n 2, 1) := by decide +kernel
theorem d_Insp_mayBeThere_16 : decode b_Insp_mayBeThere 16 = .ok (.getfield 72, 3) := by decide +kernel
theorem d_Insp_mayBeThere_19 : decode b_Insp_mayBeThere 19 = .ok (.iconst 1, 1) := by decide +kernel
theorem d_Insp_mayBeThere_20 : decode b_Insp_mayBeThere 20 = .ok (.if_icmp .ne 7, 3) := by decide +kernel
theorem d_Insp_mayBeThere_23 : decode b_Insp_mayBeThere 23 = .ok (.iconst 1, 1) := by decide +kernel
theorem d_Insp_mayBeThere_24 : decode b_Insp_mayBeThere 24 = .ok (.goto 4, 3) := by decide +kernel
theorem d_Insp_mayBeThere_27 : decode b_Insp_mayBeThere 27 = .ok (.iconst 0, 1) := by decide +kernel
theorem d_Insp_mayBeThere_28 : decode b_Insp_mayBeThere 28 = .ok (.ireturn, 1) := by decide +kernel
theorem d_Insp_mayBeThere_29 : decode b_Insp_mayBeThere 29 = .ok (.aload_n 0, 1) := by decide +kernel
theorem d_Insp_mayBeThere_30 : decode b_Insp_mayBeThere 30 = .ok (.getfield 9, 3) := by decide +kernel
theorem d_Insp_mayBeThere_33 : decode b_Insp_mayBeThere 33 = .ok (.iload_n 3, 1) := by decide +kernel
theorem d_Insp_mayBeThere_34 : decode b_Insp_mayBeThere 34 = .ok (.invokevirtual 21, 3) := by decide +kernel
theorem d_Insp_mayBeThere_37 : decode b_Insp_mayBeThere 37 = .ok (.astore 4, 2) := by decide +kernel
theorem d_Insp_mayBeThere_39 : decode b_Insp_mayBeThere 39 = .ok (.aload 4, 2) := by decide +kernel
theorem d_Insp_mayBeThere_41 : decode b_Insp_mayBeThere 41 = .ok (.ifnull 34, 3) := by decide +kernel
theorem d_Insp_mayBeThere_44 : decode b_Insp_mayBeThere 44 = .ok (.aload 4, 2) := by decide +kernel
theorem d_Insp_mayBeThere_46 : decode b_Insp_mayBeThere 46 = .ok (.aload_n 2, 1) := by decide +kernel
theorem d_Insp_mayBeThere_47 : decode b_Insp_mayBeThere 47 = .ok (.getfield 72, 3) := by decide +kernel
theorem d_Insp_mayBeThere_50 : decode b_Insp_mayBeThere 50 = .ok (.invokevirtual 76, 3) := by decide +kernel
theorem d_Insp_mayBeThere_53 : decode b_Insp_mayBeThere 53 = .ok (.ifCond .eq 22, 3) := by decide +kernel
theorem d_Insp_mayBeThere_56 : decode b_Insp_mayBeThere 56 = .ok (.aload_n 2, 1) := by decide +kernel
theorem d_Insp_mayBeThere_57 : decode b_Insp_mayBeThere 57 = .ok (.getstatic 46, 3) := by decide +kernel
theorem d_Insp_mayBeThere_60 : decode b_Insp_mayBeThere 60 = .ok (.if_acmp .ne 11, 3) := by decide +kernel
theorem d_Insp_mayBeThere_63 : decode b_Insp_mayBeThere 63 = .ok (.aload_n 0, 1) := by decide +kernel
theorem d_Insp_mayBeThere_64 : decode b_Insp_mayBeThere 64 = .ok (.iload_n 1, 1) := by decide +kernel
theorem d_Insp_mayBeThere_65 : decode b_Insp_mayBeThere 65 = .ok (.invokevirtual 79, 3) := by decide +kernel
theorem d_Insp_mayBeThere_68 : decode b_Insp_mayBeThere 68 = .ok (.ifCond .ne 7, 3) := by decide +kernel
theorem d_Insp_mayBeThere_71 : decode b_Insp_mayBeThere 71 = .ok (.iconst 1, 1) := by decide +kernel
theorem d_Insp_mayBeThere_72 : decode b_Insp_mayBeThere 72 = .ok (.goto 4, 3) := by decide +kernel
theorem d_Insp_mayBeThere_75 : decode b_Insp_mayBeThere 75 = .ok (.iconst 0, 1) := by decide +kernel
theorem d_Insp_mayBeThere_76 : decode b_Insp_mayBeThere 76 = .ok (.ireturn, 1) := by decide +kernel
def w_Insp_mayBeThere_J71  (σ : PPS) (post : Int32 → Prop)  : Prop := post 1
def w_Insp_mayBeThere  (σ : PPS) (x0 : Int32) (x1 : Option Nat) (post : Int32 → Prop) : Prop := (((tGet 14 (pNd σ) x0 1) = (-1) → (∃ k16, x1 = some k16 ∧ k16 < 23 ∧ (((kAs.getD k16 0) = 1 → post 1) ∧ (¬ (kAs.getD k16 0) = 1 → post 0)))) ∧ (¬ (tGet 14 (pNd σ) x0 1) = (-1) → (∀ r34, r34 = bKind σ (tGet 14 (pNd σ) x0 1) → ((r34 = none → post 0) ∧ (¬ r34 = none → (∃ k47, x1 = some k47 ∧ k47 < 23 ∧ (∃ k50, r34 = some k50 ∧ k50 < 23 ∧ (((b2i (kSays k50 (kAs.getD k47 0))) = 0 → post 0) ∧ (¬ (b2i (kSays k50 (kAs.getD k47 0))) = 0 → (((some k47) = (some 17) → w_Insp_isInA σ x0 (fun r65 => ((r65 = 0 → w_Insp_mayBeThere_J71 σ post ) ∧ (¬ r65 = 0 → post 0)))) ∧ (¬ (some k47) = (some 17) → w_Insp_mayBeThere_J71 σ post )))))))))))
set_option maxHeartbeats 4000000 in
set_option maxRecDepth 100000 in
theorem c_Insp_mayBeThere (l : Launch) (w : WD) (σ : PPS) (x0 : Int32) (x1 : Option Nat)  (post : Int32 → Prop) (hI : inv σ) (hE : w_Insp_mayBeThere σ x0 x1 post) : Met l y_Insp_mayBeThere ws_Insp_mayBeThere { frames := 3, cells := 0, slots := 0, locals := 68 } (va_Pc [.ref (wA w 14), .int x0, va_re (wE w) x1] (fW w σ)) (vp_Si post) 0 0 (fun _ => False) := by
  refine Met.ofW (cc := b_Insp_mayBeThere) (maxL := 5) (ret := (some .boolean)) (by decide) rfl ?_
  intro p e s m args below meth c s₁ B hml hv
  obtain ⟨rfl, hP, hK, hC⟩ := hv
  have hS : va_S (fun _ : Nat => False) s.heap s.heap [] := va_S.rf
  have hx := B.exec
  have hb := B.bytes
  have hr := B.returns
  have hta : ∀ w ∈ aW, w.before _ s = true := fun w h => atoms_spec (ws := ws_Insp_mayBeThere) B.pre w (List.mem_cons_of_mem _ h)
  have hown : s.vm.findClass R_Insp = some m.cls := findClass_of_methodNamed B.named
  have hlocks := B.notSynchronized
  have hl := lv_entry ([.ref (wA w 14), .int x0, va_re (wE w) x1]) (n := 5) (by cases x1 <;> exact Nat.le_of_ble_eq_true rfl)
  rw [lg_entry_eq]
  generalize (lg_sl ([.ref (wA w 14), .int x0, va_re (wE w) x1]) ++ List.replicate (5 - (lg_sl ([.ref (wA w 14), .int x0, va_re (wE w) x1])).length) Slot.unset).toArray = ls at hl ⊢
  have hl : lv_has ls 5 [(0, .ref (wA w 14)), (1, .int x0), (2, va_re (wE w) x1)] := hl
  have J71 : ∀ (ls : Array Slot) (hl : lv_has ls 5 []) (hE : w_Insp_mayBeThere_J71 σ post ), W p l e (headSpec ws_Insp_mayBeThere { frames := 3, cells := 0, slots := 0, locals := 68 }).room s m ([.ref (wA w 14), .int x0, va_re (wE w) x1] : List Value).toArray below meth c s.heap [] 0 0 (MQ below (vp_Si post) ([.ref (wA w 14), .int x0, va_re (wE w) x1] : List Value).toArray s 0 0 (fun _ => False)) (F0 m 71 ls []) := by
    intro  ls hl hE
    unfold w_Insp_mayBeThere_J71 at hE
    refine lv_iconst (v := 1) hx hb d_Insp_mayBeThere_71 (by decide) ?_
    refine lv_goto (tgt := 76) hx hb d_Insp_mayBeThere_72 (by decide) ?_
    exact W.zret (v := 1) hx hb hr rfl (fun t ht hW => ⟨_, rfl, hE, ht⟩) (fun q h => by cases h) d_Insp_mayBeThere_76
  unfold w_Insp_mayBeThere at hE
  refine lv_aload_n hx hb d_Insp_mayBeThere_0 rfl (lv_at hl 0 rfl) ?_
  refine va_get (D := (wG w)) (ci := 5) (v := .ref (wA w 6)) (C := R_Insp) (T := F_Insp) (N := 1) hx hb hta i_Insp hown hK hP 14 rfl rfl 0 (by decide) (hta _ fl_Insp_9) (fun _ h9 => h9) rfl d_Insp_mayBeThere_1 ?_
  refine lv_iload_n hx hb d_Insp_mayBeThere_4 rfl (lv_at hl 1 rfl) ?_
  refine lv_iconst (v := 1) hx hb d_Insp_mayBeThere_5 (by decide) ?_
  refine ro_V (b0 := (wA w 6)) (As := [.int x0, .int 1]) (rest := []) ⟨hx, hb, hml, hown, hta⟩ (f_Book_ofNode l w σ x0 1 hI) ok_Insp_42 ⟨Nat.le_of_ble_eq_true rfl, Nat.le_of_ble_eq_true rfl⟩ blind_fW (va_recv hK hP (ci := 3) (q0 := 6) rfl rfl) (fW_of hP hK hC hS) rfl hl.1 rfl (Nat.le_of_ble_eq_true rfl) d_Insp_mayBeThere_6 ⟨Nat.zero_le _, Nat.zero_le _⟩ (fun r6 hrr => ?_)
  subst hrr
  refine lv_istore_n (lv' := [(3, .int (tGet 14 (pNd σ) x0 1)), (0, .ref (wA w 14)), (1, .int x0), (2, va_re (wE w) x1)]) hx hb d_Insp_mayBeThere_9 rfl hl (by decide) (by cases x1 <;> rfl) (fun ls hl => ?_)
  refine lv_iload_n hx hb d_Insp_mayBeThere_10 rfl (lv_at hl 0 rfl) ?_
  refine lv_iconst (v := -1) hx hb d_Insp_mayBeThere_11 (by decide) ?_
  refine lv_icmp_ne (tgt := 29) hx hb d_Insp_mayBeThere_12 (by decide) (fun cc12 => ?_) (fun cc12 => ?_)
  · have hE := hE.2 cc12
    refine lv_aload_n hx hb d_Insp_mayBeThere_29 rfl (lv_at hl 1 rfl) ?_
    refine va_get (D := (wG w)) (ci := 5) (v := .ref (wA w 6)) (C := R_Insp) (T := F_Insp) (N := 1) hx hb hta i_Insp hown hK hP 14 rfl rfl 0 (by decide) (hta _ fl_Insp_9) (fun _ h9 => h9) rfl d_Insp_mayBeThere_30 ?_
    refine lv_iload_n hx hb d_Insp_mayBeThere_33 rfl (lv_at hl 0 rfl) ?_
    refine roQ_V (b0 := (wA w 6)) (As := [.int (tGet 14 (pNd σ) x0 1)]) (rest := []) ⟨hx, hb, hml, hown, hta⟩ (f_Book_kindOf l w σ (tGet 14 (pNd σ) x0 1) hI) ok_Insp_21 ⟨Nat.le_of_ble_eq_true rfl, Nat.le_of_ble_eq_true rfl⟩ blind_fW (va_recv hK hP (ci := 3) (q0 := 6) rfl rfl) (fW_of hP hK hC hS) rfl hl.1 rfl (Nat.le_of_ble_eq_true rfl) d_Insp_mayBeThere_34 ⟨Nat.zero_le _, Nat.zero_le _⟩ (fun r34 hrr => ?_)
    have hE := hE r34 hrr
    refine lv_astoreQ (lv' := [(4, va_re (wE w) r34), (3, .int (tGet 14 (pNd σ) x0 1)), (0, .ref (wA w 14)), (1, .int x0), (2, va_re (wE w) x1)]) hx hb d_Insp_mayBeThere_37 hl (by decide) rfl (fun ls hl => ?_)
    refine lv_aloadQ hx hb d_Insp_mayBeThere_39 (lv_at hl 0 rfl) ?_
    refine lv_ifnullQ (tgt := 75) hx hb d_Insp_mayBeThere_41 (by decide) (fun cc41 => ?_) (fun cc41 => ?_)
    · have hE := hE.1 cc41
      refine lv_iconst (v := 0) hx hb d_Insp_mayBeThere_75 (by decide) ?_
      exact W.zret (v := 0) hx hb hr rfl (fun t ht hW => ⟨_, rfl, hE, ht⟩) (fun q h => by cases h) d_Insp_mayBeThere_76
    · have hE := hE.2 cc41
      refine lv_aloadQ hx hb d_Insp_mayBeThere_44 (lv_at hl 0 rfl) ?_
      refine lv_aload_nQ hx hb d_Insp_mayBeThere_46 rfl (lv_at hl 4 rfl) ?_
      obtain ⟨k47, rfl, hk47, hE⟩ := hE
      refine k_getN (q := ("PlainPages$Kind", "as", "I", kAs)) hx hb hC rfl hk47 hS hown (by simp [kF]) hC.2.2.2.2.2.2.2.2.2.1 d_Insp_mayBeThere_47 ?_
      obtain ⟨k50, rfl, hk50, hE⟩ := hE
      refine ro_V (b0 := wE w k50) (As := [.int (kAs.getD k47 0)]) (rest := []) ⟨hx, hb, hml, hown, hta⟩ (f_Kind_says l w k50 (kAs.getD k47 0) hk50) ok_Insp_76 ⟨Nat.le_of_ble_eq_true rfl, Nat.le_of_ble_eq_true rfl⟩ blind_cW (k_recv hC hS hk50) (cW_of hC hS) rfl hl.1 rfl (Nat.le_of_ble_eq_true rfl) d_Insp_mayBeThere_50 ⟨Nat.zero_le _, Nat.zero_le _⟩ (fun r50 hrr => ?_)
      subst hrr
      refine lv_if_eq (tgt := 75) hx hb d_Insp_mayBeThere_53 (by decide) (fun cc53 => ?_) (fun cc53 => ?_)
      · have hE := hE.1 cc53
        refine lv_iconst (v := 0) hx hb d_Insp_mayBeThere_75 (by decide) ?_
        exact W.zret (v := 0) hx hb hr rfl (fun t ht hW => ⟨_, rfl, hE, ht⟩) (fun q h => by cases h) d_Insp_mayBeThere_76
      · have hE := hE.2 cc53
        refine lv_aload_nQ hx hb d_Insp_mayBeThere_56 rfl (lv_at hl 4 rfl) ?_
        refine k_sta (k := 17) hx hb hC (by decide) rfl hS hown (hta _ fl_Insp_46) d_Insp_mayBeThere_57 ?_
        refine lv_acmpE_ne hC.1.2 (fun _ h => by cases h; first | assumption | decide) (fun _ h => by cases h; first | assumption | decide) (tgt := 71) hx hb d_Insp_mayBeThere_60 (by decide) (fun cc60 => ?_) (fun cc60 => ?_)
        · have hE := hE.2 cc60
          exact J71   _ (lv_sub hl [] rfl) hE
        · have hE := hE.1 cc60
          refine lv_aload_n hx hb d_Insp_mayBeThere_63 rfl (lv_at hl 2 rfl) ?_
          refine lv_iload_n hx hb d_Insp_mayBeThere_64 rfl (lv_at hl 3 rfl) ?_
          refine ro_V (b0 := (wA w 14)) (As := [.int x0]) (rest := []) ⟨hx, hb, hml, hown, hta⟩ (c_Insp_isInA l w σ x0  _ hI hE) ok_Insp_79 ⟨Nat.le_of_ble_eq_true rfl, Nat.le_of_ble_eq_true rfl⟩ blind_fW (va_recv hK hP (ci := 5) (q0 := 14) rfl rfl) (fW_of hP hK hC hS) rfl hl.1 rfl (Nat.le_of_ble_eq_true rfl) d_Insp_mayBeThere_65 ⟨Nat.zero_le _, Nat.zero_le _⟩ (fun r65 hE => ?_)
          refine lv_if_ne (tgt := 75) hx hb d_Insp_mayBeThere_68 (by decide) (fun cc68 => ?_) (fun cc68 => ?_)
          · have hE := hE.2 cc68
            refine lv_iconst (v := 0) hx hb d_Insp_mayBeThere_75 (by decide) ?_
            exact W.zret (v := 0) hx hb hr rfl (fun t ht hW => ⟨_, rfl, hE, ht⟩) (fun q h => by cases h) d_Insp_mayBeThere_76
          · have hE := hE.1 cc68
            exact J71   _ (lv_sub hl [] rfl) hE
  · have hE := hE.1 cc12
    refine lv_aload_nQ hx hb d_Insp_mayBeThere_15 rfl (lv_at hl 3 rfl) ?_
    obtain ⟨k16, rfl, hk16, hE⟩ := hE
    refine k_getN (q := ("PlainPages$Kind", "as", "I", kAs)) hx hb hC rfl hk16 hS hown (by simp [kF]) hC.2.2.2.2.2.2.2.2.2.1 d_Insp_mayBeThere_16 ?_
    refine lv_iconst (v := 1) hx hb d_Insp_mayBeThere_19 (by decide) ?_
    refine lv_icmp_ne (tgt := 27) hx hb d_Insp_mayBeThere_20 (by decide) (fun cc20 => ?_) (fun cc20 => ?_)
    · have hE := hE.2 cc20
      refine lv_iconst (v := 0) hx hb d_Insp_mayBeThere_27 (by decide) ?_
      exact W.zret (v := 0) hx hb hr rfl (fun t ht hW => ⟨_, rfl, hE, ht⟩) (fun q h => by cases h) d_Insp_mayBeThere_28
    · have hE := hE.1 cc20
      refine lv_iconst (v := 1) hx hb d_Insp_mayBeThere_23 (by decide) ?_
      refine lv_goto (tgt := 28) hx hb d_Insp_mayBeThere_24 (by decide) ?_
      exact W.zret (v := 1) hx hb hr rfl (fun t ht hW => ⟨_, rfl, hE, ht⟩) (fun q h => by cases h) d_Insp_mayBeThere_28
theorem ok_Insp_97 : okV "PlainPages$Inspector" 97 R_Book y_Book_isNamed b_Book_isNamed 3 (some .boolean) 2 := ⟨aW_in 742 (by decide +kernel) rfl, aW_in 537 (by decide +kernel) rfl, aW_in 538 (by decide +kernel) rfl, aW_in 87 (by decide +kernel) rfl, cd_Book_isNamed, rfl, by decide +kernel, by decide +kernel, by decide +kernel⟩
theorem d_Insp_markOf_0 : decode b_Insp_markOf 0 = .ok (.aload_n 0, 1) := by decide +kernel
theorem d_Insp_markOf_1 : decode b_Insp_markOf 1 = .ok (.getfield 9, 3) := by decide +kernel
theorem d_Insp_markOf_4 : decode b_Insp_markOf 4 = .ok (.iload_n 1, 1) := by decide +kernel
theorem d_Insp_markOf_5 : decode b_Insp_markOf 5 = .ok (.ldc 95, 2) := by decide +kernel
theorem d_Insp_markOf_7 : decode b_Insp_markOf 7 = .ok (.invokevirtual 97, 3) := by decide +kernel
theorem d_Insp_markOf_10 : decode b_Insp_markOf 10 = .ok (.ifCond .eq 5, 3) := by decide +kernel
theorem d_Insp_markOf_13 : decode b_Insp_markOf 13 = .ok (.iconst 1, 1) := by decide +kernel
theorem d_Insp_markOf_14 : decode b_Insp_markOf 14 = .ok (.ireturn, 1) := by decide +kernel
theorem d_Insp_markOf_15 : decode b_Insp_markOf 15 = .ok (.aload_n 0, 1) := by decide +kernel
theorem d_Insp_markOf_16 : decode b_Insp_markOf 16 = .ok (.getfield 9, 3) := by decide +kernel
theorem d_Insp_markOf_19 : decode b_Insp_markOf 19 = .ok (.iload_n 1, 1) := by decide +kernel
theorem d_Insp_markOf_20 : decode b_Insp_markOf 20 = .ok (.ldc 55, 2) := by decide +kernel
theorem d_Insp_markOf_22 : decode b_Insp_markOf 22 = .ok (.invokevirtual 97, 3) := by decide +kernel
theorem d_Insp_markOf_25 : decode b_Insp_markOf 25 = .ok (.ifCond .eq 5, 3) := by decide +kernel
theorem d_Insp_markOf_28 : decode b_Insp_markOf 28 = .ok (.iconst 2, 1) := by decide +kernel
theorem d_Insp_markOf_29 : decode b_Insp_markOf 29 = .ok (.ireturn, 1) := by decide +kernel
theorem d_Insp_markOf_30 : decode b_Insp_markOf 30 = .ok (.aload_n 0, 1) := by decide +kernel
theorem d_Insp_markOf_31 : decode b_Insp_markOf 31 = .ok (.getfield 9, 3) := by decide +kernel
theorem d_Insp_markOf_34 : decode b_Insp_markOf 34 = .ok (.iload_n 1, 1) := by decide +kernel
theorem d_Insp_markOf_35 : decode b_Insp_markOf 35 = .ok (.ldc 101, 2) := by decide +kernel
theorem d_Insp_markOf_37 : decode b_Insp_markOf 37 = .ok (.invokevirtual 97, 3) := by decide +kernel
theorem d_Insp_markOf_40 : decode b_Insp_markOf 40 = .ok (.ifCond .eq 5, 3) := by decide +kernel
theorem d_Insp_markOf_43 : decode b_Insp_markOf 43 = .ok (.iconst 4, 1) := by decide +kernel
theorem d_Insp_markOf_44 : decode b_Insp_markOf 44 = .ok (.ireturn, 1) := by decide +kernel
theorem d_Insp_markOf_45 : decode b_Insp_markOf 45 = .ok (.aload_n 0, 1) := by decide +kernel
theorem d_Insp_markOf_46 : decode b_Insp_markOf 46 = .ok (.getfield 9, 3) := by decide +kernel
theorem d_Insp_markOf_49 : decode b_Insp_markOf 49 = .ok (.iload_n 1, 1) := by decide +kernel
theorem d_Insp_markOf_50 : decode b_Insp_markOf 50 = .ok (.ldc 103, 2) := by decide +kernel
theorem d_Insp_markOf_52 : decode b_Insp_markOf 52 = .ok (.invokevirtual 97, 3) := by decide +kernel
theorem d_Insp_markOf_55 : decode b_Insp_markOf 55 = .ok (.ifCond .eq 6, 3) := by decide +kernel
theorem d_Insp_markOf_58 : decode b_Insp_markOf 58 = .ok (.bipush 8, 2) := by decide +kernel
theorem d_Insp_markOf_60 : decode b_Insp_markOf 60 = .ok (.ireturn, 1) := by decide +kernel
theorem d_Insp_markOf_61 : decode b_Insp_markOf 61 = .ok (.aload_n 0, 1) := by decide +kernel
theorem d_Insp_markOf_62 : decode b_Insp_markOf 62 = .ok (.getfield 9, 3) := by decide +kernel
theorem d_Insp_markOf_65 : decode b_Insp_markOf 65 = .ok (.iload_n 1, 1) := by decide +kernel
theorem d_Insp_markOf_66 : decode b_Insp_markOf 66 = .ok (.ldc 105, 2) := by decide +kernel
theorem d_Insp_markOf_68 : decode b_Insp_markOf 68 = .ok (.invokevirtual 97, 3) := by decide +kernel
theorem d_Insp_markOf_71 : decode b_Insp_markOf 71 = .ok (.ifCond .eq 6, 3) := by decide +kernel
theorem d_Insp_markOf_74 : decode b_Insp_markOf 74 = .ok (.bipush 16, 2) := by decide +kernel
theorem d_Insp_markOf_76 : decode b_Insp_markOf 76 = .ok (.ireturn, 1) := by decide +kernel
theorem d_Insp_markOf_77 : decode b_Insp_markOf 77 = .ok (.aload_n 0, 1) := by decide +kernel
theorem d_Insp_markOf_78 : decode b_Insp_markOf 78 = .ok (.getfield 9, 3) := by decide +kernel
theorem d_Insp_markOf_81 : decode b_Insp_markOf 81 = .ok (.iload_n 1, 1) := by decide +kernel
theorem d_Insp_markOf_82 : decode b_Insp_markOf 82 = .ok (.ldc 107, 2) := by decide +kernel
theorem d_Insp_markOf_84 : decode b_Insp_markOf 84 = .ok (.invokevirtual 97, 3) := by decide +kernel
theorem d_Insp_markOf_87 : decode b_Insp_markOf 87 = .ok (.ifCond .eq 6, 3) := by decide +kernel
theorem d_Insp_markOf_90 : decode b_Insp_markOf 90 = .ok (.bipush 32, 2) := by decide +kernel
theorem d_Insp_markOf_92 : decode b_Insp_markOf 92 = .ok (.ireturn, 1) := by decide +kernel
theorem d_Insp_markOf_93 : decode b_Insp_markOf 93 = .ok (.aload_n 0, 1) := by decide +kernel
theorem d_Insp_markOf_94 : decode b_Insp_markOf 94 = .ok (.getfield 9, 3) := by decide +kernel
theorem d_Insp_markOf_97 : decode b_Insp_markOf 97 = .ok (.iload_n 1, 1) := by decide +kernel
theorem d_Insp_markOf_98 : decode b_Insp_markOf 98 = .ok (.ldc 109, 2) := by decide +kernel
theorem d_Insp_markOf_100 : decode b_Insp_markOf 100 = .ok (.invokevirtual 97, 3) := by decide +kernel
theorem d_Insp_markOf_103 : decode b_Insp_markOf 103 = .ok (.ifCond .eq 8, 3) := by decide +kernel
theorem d_Insp_markOf_106 : decode b_Insp_markOf 106 = .ok (.bipush 64, 2) := by decide +kernel
theorem d_Insp_markOf_108 : decode b_Insp_markOf 108 = .ok (.goto 4, 3) := by decide +kernel
theorem d_Insp_markOf_111 : decode b_Insp_markOf 111 = .ok (.iconst 0, 1) := by decide +kernel
theorem d_Insp_markOf_112 : decode b_Insp_markOf 112 = .ok (.ireturn, 1) := by decide +kernel
def w_Insp_markOf  (σ : PPS) (x0 : Int32) (post : Int32 → Prop) : Prop := w_Book_isNamed σ x0 9 (fun r7 => ((r7 = 0 → w_Book_isNamed σ x0 10 (fun r22 => ((r22 = 0 → w_Book_isNamed σ x0 11 (fun r37 => ((r37 = 0 → w_Book_isNamed σ x0 12 (fun r52 => ((r52 = 0 → w_Book_isNamed σ x0 13 (fun r68 => ((r68 = 0 → w_Book_isNamed σ x0 14 (fun r84 => ((r84 = 0 → w_Book_isNamed σ x0 15 (fun r100 => ((r100 = 0 → post 0) ∧ (¬ r100 = 0 → post 64)))) ∧ (¬ r84 = 0 → post 32)))) ∧ (¬ r68 = 0 → post 16)))) ∧ (¬ r52 = 0 → post 8)))) ∧ (¬ r37 = 0 → post 4)))) ∧ (¬ r22 = 0 → post 2)))) ∧ (¬ r7 = 0 → post 1)))
set_option maxHeartbeats 4000000 in
set_option maxRecDepth 100000 in
theorem c_Insp_markOf (l : Launch) (w : WD) (σ : PPS) (x0 : Int32)  (post : Int32 → Prop) (hI : inv σ) (hE : w_Insp_markOf σ x0 post) : Met l y_Insp_markOf ws_Insp_markOf { frames := 6, cells := 0, slots := 0, locals := 131 } (va_Pc [.ref (wA w 14), .int x0] (fW w σ)) (vp_Si post) 0 0 (fun _ => False) := by
  refine Met.ofW (cc := b_Insp_markOf) (maxL := 2) (ret := (some .int)) (by decide) rfl ?_
  intro p e s m args below meth c s₁ B hml hv
  obtain ⟨rfl, hP, hK, hC⟩ := hv
  have hS : va_S (fun _ : Nat => False) s.heap s.heap [] := va_S.rf
  have hx := B.exec
  have hb := B.bytes
  have hr := B.returns
  have hta : ∀ w ∈ aW, w.before _ s = true := fun w h => atoms_spec (ws := ws_Insp_markOf) B.pre w (List.mem_cons_of_mem _ h)
  have hown : s.vm.findClass R_Insp = some m.cls := findClass_of_methodNamed B.named
  have hlocks := B.notSynchronized
  have hl := lv_entry ([.ref (wA w 14), .int x0]) (n := 2) (Nat.le_of_ble_eq_true rfl)
  rw [lg_entry_eq]
  generalize (lg_sl ([.ref (wA w 14), .int x0]) ++ List.replicate (2 - (lg_sl ([.ref (wA w 14), .int x0])).length) Slot.unset).toArray = ls at hl ⊢
  have hl : lv_has ls 2 [(0, .ref (wA w 14)), (1, .int x0)] := hl
  unfold w_Insp_markOf at hE
  refine lv_aload_n hx hb d_Insp_markOf_0 rfl (lv_at hl 0 rfl) ?_
  refine va_get (D := (wG w)) (ci := 5) (v := .ref (wA w 6)) (C := R_Insp) (T := F_Insp) (N := 1) hx hb hta i_Insp hown hK hP 14 rfl rfl 0 (by decide) (hta _ fl_Insp_9) (fun _ h9 => h9) rfl d_Insp_markOf_1 ?_
  refine lv_iload_n hx hb d_Insp_markOf_4 rfl (lv_at hl 1 rfl) ?_
  refine t_ldc (i := 9) hx hb hC (by decide) rfl hown d_Insp_markOf_5 ?_
  refine ro_V (b0 := (wA w 6)) (As := [.int x0, .ref (wK w 9)]) (rest := []) ⟨hx, hb, hml, hown, hta⟩ (c_Book_isNamed l w σ x0 9  _ hI hE) ok_Insp_97 ⟨Nat.le_of_ble_eq_true rfl, Nat.le_of_ble_eq_true rfl⟩ blind_fW (va_recv hK hP (ci := 3) (q0 := 6) rfl rfl) (fW_of hP hK hC hS) rfl hl.1 rfl (Nat.le_of_ble_eq_true rfl) d_Insp_markOf_7 ⟨Nat.zero_le _, Nat.zero_le _⟩ (fun r7 hE => ?_)
  refine lv_if_eq (tgt := 15) hx hb d_Insp_markOf_10 (by decide) (fun cc10 => ?_) (fun cc10 => ?_)
  · have hE := hE.1 cc10
    refine lv_aload_n hx hb d_Insp_markOf_15 rfl (lv_at hl 0 rfl) ?_
    refine va_get (D := (wG w)) (ci := 5) (v := .ref (wA w 6)) (C := R_Insp) (T := F_Insp) (N := 1) hx hb hta i_Insp hown hK hP 14 rfl rfl 0 (by decide) (hta _ fl_Insp_9) (fun _ h9 => h9) rfl d_Insp_markOf_16 ?_
    refine lv_iload_n hx hb d_Insp_markOf_19 rfl (lv_at hl 1 rfl) ?_
    refine t_ldc (i := 10) hx hb hC (by decide) rfl hown d_Insp_markOf_20 ?_
    refine ro_V (b0 := (wA w 6)) (As := [.int x0, .ref (wK w 10)]) (rest := []) ⟨hx, hb, hml, hown, hta⟩ (c_Book_isNamed l w σ x0 10  _ hI hE) ok_Insp_97 ⟨Nat.le_of_ble_eq_true rfl, Nat.le_of_ble_eq_true rfl⟩ blind_fW (va_recv hK hP (ci := 3) (q0 := 6) rfl rfl) (fW_of hP hK hC hS) rfl hl.1 rfl (Nat.le_of_ble_eq_true rfl) d_Insp_markOf_22 ⟨Nat.zero_le _, Nat.zero_le _⟩ (fun r22 hE => ?_)
    refine lv_if_eq (tgt := 30) hx hb d_Insp_markOf_25 (by decide) (fun cc25 => ?_) (fun cc25 => ?_)
    · have hE := hE.1 cc25
      refine lv_aload_n hx hb d_Insp_markOf_30 rfl (lv_at hl 0 rfl) ?_
      refine va_get (D := (wG w)) (ci := 5) (v := .ref (wA w 6)) (C := R_Insp) (T := F_Insp) (N := 1) hx hb hta i_Insp hown hK hP 14 rfl rfl 0 (by decide) (hta _ fl_Insp_9) (fun _ h9 => h9) rfl d_Insp_markOf_31 ?_
      refine lv_iload_n hx hb d_Insp_markOf_34 rfl (lv_at hl 1 rfl) ?_
      refine t_ldc (i := 11) hx hb hC (by decide) rfl hown d_Insp_markOf_35 ?_
      refine ro_V (b0 := (wA w 6)) (As := [.int x0, .ref (wK w 11)]) (rest := []) ⟨hx, hb, hml, hown, hta⟩ (c_Book_isNamed l w σ x0 11  _ hI hE) ok_Insp_97 ⟨Nat.le_of_ble_eq_true rfl, Nat.le_of_ble_eq_true rfl⟩ blind_fW (va_recv hK hP (ci := 3) (q0 := 6) rfl rfl) (fW_of hP hK hC hS) rfl hl.1 rfl (Nat.le_of_ble_eq_true rfl) d_Insp_markOf_37 ⟨Nat.zero_le _, Nat.zero_le _⟩ (fun r37 hE => ?_)
      refine lv_if_eq (tgt := 45) hx hb d_Insp_markOf_40 (by decide) (fun cc40 => ?_) (fun cc40 => ?_)
      · have hE := hE.1 cc40
        refine lv_aload_n hx hb d_Insp_markOf_45 rfl (lv_at hl 0 rfl) ?_
        refine va_get (D := (wG w)) (ci := 5) (v := .ref (wA w 6)) (C := R_Insp) (T := F_Insp) (N := 1) hx hb hta i_Insp hown hK hP 14 rfl rfl 0 (by decide) (hta _ fl_Insp_9) (fun _ h9 => h9) rfl d_Insp_markOf_46 ?_
        refine lv_iload_n hx hb d_Insp_markOf_49 rfl (lv_at hl 1 rfl) ?_
        refine t_ldc (i := 12) hx hb hC (by decide) rfl hown d_Insp_markOf_50 ?_
        refine ro_V (b0 := (wA w 6)) (As := [.int x0, .ref (wK w 12)]) (rest := []) ⟨hx, hb, hml, hown, hta⟩ (c_Book_isNamed l w σ x0 12  _ hI hE) ok_Insp_97 ⟨Nat.le_of_ble_eq_true rfl, Nat.le_of_ble_eq_true rfl⟩ blind_fW (va_recv hK hP (ci := 3) (q0 := 6) rfl rfl) (fW_of hP hK hC hS) rfl hl.1 rfl (Nat.le_of_ble_eq_true rfl) d_Insp_markOf_52 ⟨Nat.zero_le _, Nat.zero_le _⟩ (fun r52 hE => ?_)
        refine lv_if_eq (tgt := 61) hx hb d_Insp_markOf_55 (by decide) (fun cc55 => ?_) (fun cc55 => ?_)
        · have hE := hE.1 cc55
          refine lv_aload_n hx hb d_Insp_markOf_61 rfl (lv_at hl 0 rfl) ?_
          refine va_get (D := (wG w)) (ci := 5) (v := .ref (wA w 6)) (C := R_Insp) (T := F_Insp) (N := 1) hx hb hta i_Insp hown hK hP 14 rfl rfl 0 (by decide) (hta _ fl_Insp_9) (fun _ h9 => h9) rfl d_Insp_markOf_62 ?_
          refine lv_iload_n hx hb d_Insp_markOf_65 rfl (lv_at hl 1 rfl) ?_
          refine t_ldc (i := 13) hx hb hC (by decide) rfl hown d_Insp_markOf_66 ?_
          refine ro_V (b0 := (wA w 6)) (As := [.int x0, .ref (wK w 13)]) (rest := []) ⟨hx, hb, hml, hown, hta⟩ (c_Book_isNamed l w σ x0 13  _ hI hE) ok_Insp_97 ⟨Nat.le_of_ble_eq_true rfl, Nat.le_of_ble_eq_true rfl⟩ blind_fW (va_recv hK hP (ci := 3) (q0 := 6) rfl rfl) (fW_of hP hK hC hS) rfl hl.1 rfl (Nat.le_of_ble_eq_true rfl) d_Insp_markOf_68 ⟨Nat.zero_le _, Nat.zero_le _⟩ (fun r68 hE => ?_)
          refine lv_if_eq (tgt := 77) hx hb d_Insp_markOf_71 (by decide) (fun cc71 => ?_) (fun cc71 => ?_)
          · have hE := hE.1 cc71
            refine lv_aload_n hx hb d_Insp_markOf_77 rfl (lv_at hl 0 rfl) ?_
            refine va_get (D := (wG w)) (ci := 5) (v := .ref (wA w 6)) (C := R_Insp) (T := F_Insp) (N := 1) hx hb hta i_Insp hown hK hP 14 rfl rfl 0 (by decide) (hta _ fl_Insp_9) (fun _ h9 => h9) rfl d_Insp_markOf_78 ?_
            refine lv_iload_n hx hb d_Insp_markOf_81 rfl (lv_at hl 1 rfl) ?_
            refine t_ldc (i := 14) hx hb hC (by decide) rfl hown d_Insp_markOf_82 ?_
            refine ro_V (b0 := (wA w 6)) (As := [.int x0, .ref (wK w 14)]) (rest := []) ⟨hx, hb, hml, hown, hta⟩ (c_Book_isNamed l w σ x0 14  _ hI hE) ok_Insp_97 ⟨Nat.le_of_ble_eq_true rfl, Nat.le_of_ble_eq_true rfl⟩ blind_fW (va_recv hK hP (ci := 3) (q0 := 6) rfl rfl) (fW_of hP hK hC hS) rfl hl.1 rfl (Nat.le_of_ble_eq_true rfl) d_Insp_markOf_84 ⟨Nat.zero_le _, Nat.zero_le _⟩ (fun r84 hE => ?_)
            refine lv_if_eq (tgt := 93) hx hb d_Insp_markOf_87 (by decide) (fun cc87 => ?_) (fun cc87 => ?_)
            · have hE := hE.1 cc87
              refine lv_aload_n hx hb d_Insp_markOf_93 rfl (lv_at hl 0 rfl) ?_
              refine va_get (D := (wG w)) (ci := 5) (v := .ref (wA w 6)) (C := R_Insp) (T := F_Insp) (N := 1) hx hb hta i_Insp hown hK hP 14 rfl rfl 0 (by decide) (hta _ fl_Insp_9) (fun _ h9 => h9) rfl d_Insp_markOf_94 ?_
              refine lv_iload_n hx hb d_Insp_markOf_97 rfl (lv_at hl 1 rfl) ?_
              refine t_ldc (i := 15) hx hb hC (by decide) rfl hown d_Insp_markOf_98 ?_
              refine ro_V (b0 := (wA w 6)) (As := [.int x0, .ref (wK w 15)]) (rest := []) ⟨hx, hb, hml, hown, hta⟩ (c_Book_isNamed l w σ x0 15  _ hI hE) ok_Insp_97 ⟨Nat.le_of_ble_eq_true rfl, Nat.le_of_ble_eq_true rfl⟩ blind_fW (va_recv hK hP (ci := 3) (q0 := 6) rfl rfl) (fW_of hP hK hC hS) rfl hl.1 rfl (Nat.le_of_ble_eq_true rfl) d_Insp_markOf_100 ⟨Nat.zero_le _, Nat.zero_le _⟩ (fun r100 hE => ?_)
              refine lv_if_eq (tgt := 111) hx hb d_Insp_markOf_103 (by decide) (fun cc103 => ?_) (fun cc103 => ?_)
              · have hE := hE.1 cc103
                refine lv_iconst (v := 0) hx hb d_Insp_markOf_111 (by decide) ?_
                exact W.iret (v := 0) hx hb hr (fun t ht hW => ⟨_, rfl, hE, ht⟩) (fun q h => by cases h) d_Insp_markOf_112
              · have hE := hE.2 cc103
                refine lv_bipush (v := 64) hx hb d_Insp_markOf_106 (by decide) ?_
                refine lv_goto (tgt := 112) hx hb d_Insp_markOf_108 (by decide) ?_
                exact W.iret (v := 64) hx hb hr (fun t ht hW => ⟨_, rfl, hE, ht⟩) (fun q h => by cases h) d_Insp_markOf_112
            · have hE := hE.2 cc87
              refine lv_bipush (v := 32) hx hb d_Insp_markOf_90 (by decide) ?_
              exact W.iret (v := 32) hx hb hr (fun t ht hW => ⟨_, rfl, hE, ht⟩) (fun q h => by cases h) d_Insp_markOf_92
          · have hE := hE.2 cc71
            refine lv_bipush (v := 16) hx hb d_Insp_markOf_74 (by decide) ?_
            exact W.iret (v := 16) hx hb hr (fun t ht hW => ⟨_, rfl, hE, ht⟩) (fun q h => by cases h) d_Insp_markOf_76
        · have hE := hE.2 cc55
          refine lv_bipush (v := 8) hx hb d_Insp_markOf_58 (by decide) ?_
          exact W.iret (v := 8) hx hb hr (fun t ht hW => ⟨_, rfl, hE, ht⟩) (fun q h => by cases h) d_Insp_markOf_60
      · have hE := hE.2 cc40
        refine lv_iconst (v := 4) hx hb d_Insp_markOf_43 (by decide) ?_
        exact W.iret (v := 4) hx hb hr (fun t ht hW => ⟨_, rfl, hE, ht⟩) (fun q h => by cases h) d_Insp_markOf_44
    · have hE := hE.2 cc25
      refine lv_iconst (v := 2) hx hb d_Insp_markOf_28 (by decide) ?_
      exact W.iret (v := 2) hx hb hr (fun t ht hW => ⟨_, rfl, hE, ht⟩) (fun q h => by cases h) d_Insp_markOf_29
  · have hE := hE.2 cc10
    refine lv_iconst (v := 1) hx hb d_Insp_markOf_13 (by decide) ?_
    exact W.iret (v := 1) hx hb hr (fun t ht hW => ⟨_, rfl, hE, ht⟩) (fun q h => by cases h) d_Insp_markOf_14
theorem ok_Insp_111 : okV "PlainPages$Inspector" 111 R_Book y_Book_valueBehindIs b_Book_valueBehindIs 5 (some .boolean) 3 := ⟨aW_in 753 (by decide +kernel) rfl, aW_in 754 (by decide +kernel) rfl, aW_in 755 (by decide +kernel) rfl, aW_in 87 (by decide +kernel) rfl, cd_Book_valueBehindIs, rfl, by decide +kernel, by decide +kernel, by decide +kernel⟩
theorem d_Insp_isIdAhead_0 : decode b_Insp_isIdAhead 0 = .ok (.iconst 0, 1) := by decide +kernel
theorem d_Insp_isIdAhead_1 : decode b_Insp_isIdAhead 1 = .ok (.istore 4, 2) := by decide +kernel
theorem d_Insp_isIdAhead_3 : decode b_Insp_isIdAhead 3 = .ok (.iload 4, 2) := by decide +kernel
theorem d_Insp_isIdAhead_5 : decode b_Insp_isIdAhead 5 = .ok (.iload_n 3, 1) := by decide +kernel
theorem d_Insp_isIdAhead_6 : decode b_Insp_isIdAhead 6 = .ok (.if_icmp .ge 44, 3) := by decide +kernel
theorem d_Insp_isIdAhead_9 : decode b_Insp_isIdAhead 9 = .ok (.aload_n 0, 1) := by decide +kernel
theorem d_Insp_isIdAhead_10 : decode b_Insp_isIdAhead 10 = .ok (.getfield 9, 3) := by decide +kernel
theorem d_Insp_isIdAhead_13 : decode b_Insp_isIdAhead 13 = .ok (.iload 4, 2) := by decide +kernel
theorem d_Insp_isIdAhead_15 : decode b_Insp_isIdAhead 15 = .ok (.bipush 13, 2) := by decide +kernel
theorem d_Insp_isIdAhead_17 : decode b_Insp_isIdAhead 17 = .ok (.invokevirtual 42, 3) := by decide +kernel
theorem d_Insp_isIdAhead_20 : decode b_Insp_isIdAhead 20 = .ok (.istore 5, 2) := by decide +kernel
theorem d_Insp_isIdAhead_22 : decode b_Insp_isIdAhead 22 = .ok (.iload 5, 2) := by decide +kernel
theorem d_Insp_isIdAhead_24 : decode b_Insp_isIdAhead 24 = .ok (.iconst (-1), 1) := by decide +kernel
theorem d_Insp_isIdAhead_25 : decode b_Insp_isIdAhead 25 = .ok (.if_icmp .eq 19, 3) := by decide +kernel
theorem d_Insp_isIdAhead_28 : decode b_Insp_isIdAhead 28 = .ok (.aload_n 0, 1) := by decide +kernel
theorem d_Insp_isIdAhead_29 : decode b_Insp_isIdAhead 29 = .ok (.getfield 9, 3) := by decide +kernel
theorem d_Insp_isIdAhead_32 : decode b_Insp_isIdAhead 32 = .ok (.iload_n 1, 1) := by decide +kernel
theorem d_Insp_isIdAhead_33 : decode b_Insp_isIdAhead 33 = .ok (.iload_n 2, 1) := by decide +kernel
theorem d_Insp_isIdAhead_34 : decode b_Insp_isIdAhead 34 = .ok (.iload 5, 2) := by decide +kernel
theorem d_Insp_isIdAhead_36 : decode b_Insp_isIdAhead 36 = .ok (.invokevirtual 111, 3) := by decide +kernel
theorem d_Insp_isIdAhead_39 : decode b_Insp_isIdAhead 39 = .ok (.ifCond .eq 5, 3) := by decide +kernel
theorem d_Insp_isIdAhead_42 : decode b_Insp_isIdAhead 42 = .ok (.iconst 1, 1) := by decide +kernel
theorem d_Insp_isIdAhead_43 : decode b_Insp_isIdAhead 43 = .ok (.ireturn, 1) := by decide +kernel
theorem d_Insp_isIdAhead_44 : decode b_Insp_isIdAhead 44 = .ok (.iinc 4 1, 3) := by decide +kernel
theorem d_Insp_isIdAhead_47 : decode b_Insp_isIdAhead 47 = .ok (.goto (-44), 3) := by decide +kernel
theorem d_Insp_isIdAhead_50 : decode b_Insp_isIdAhead 50 = .ok (.iconst 0, 1) := by decide +kernel
theorem d_Insp_isIdAhead_51 : decode b_Insp_isIdAhead 51 = .ok (.ireturn, 1) := by decide +kernel
def w_Insp_isIdAhead_J44  (σ : PPS) (v1 : Int32) (v2 : Int32) (v3 : Int32) (K3 : Int32 → Prop) (post : Int32 → Prop) (v4 : Int32) : Prop := K3 (v4 + 1)
def w_Insp_isIdAhead_L3  (σ : PPS) (v1 : Int32) (v2 : Int32) (v3 : Int32) (post : Int32 → Prop) : Nat → Int32 → Prop
  | 0, _ => False
  | n3 + 1, v4 => ((v3 ≤ v4 → post 0) ∧ (¬ v3 ≤ v4 → (((tGet 14 (pNd σ) v4 13) = (-1) → w_Insp_isIdAhead_J44 σ v1 v2 v3 (w_Insp_isIdAhead_L3 σ v1 v2 v3 post n3) post v4) ∧ (¬ (tGet 14 (pNd σ) v4 13) = (-1) → w_Book_valueBehindIs σ v1 v2 (tGet 14 (pNd σ) v4 13) (fun r36 => ((r36 = 0 → w_Insp_isIdAhead_J44 σ v1 v2 v3 (w_Insp_isIdAhead_L3 σ v1 v2 v3 post n3) post v4) ∧ (¬ r36 = 0 → post 1)))))))
def w_Insp_isIdAhead  (σ : PPS) (x0 : Int32) (x1 : Int32) (x2 : Int32) (post : Int32 → Prop) : Prop := (∃ n3, w_Insp_isIdAhead_L3 σ x0 x1 x2 post n3 0)
set_option maxHeartbeats 4000000 in
set_option maxRecDepth 100000 in
theorem c_Insp_isIdAhead (l : Launch) (w : WD) (σ : PPS) (x0 : Int32) (x1 : Int32) (x2 : Int32)  (post : Int32 → Prop) (hI : inv σ) (hE : w_Insp_isIdAhead σ x0 x1 x2 post) : Met l y_Insp_isIdAhead ws_Insp_isIdAhead { frames := 3, cells := 0, slots := 0, locals := 69 } (va_Pc [.ref (wA w 14), .int x0, .int x1, .int x2] (fW w σ)) (vp_Si post) 0 0 (fun _ => False) := by
  refine Met.ofW (cc := b_Insp_isIdAhead) (maxL := 6) (ret := (some .boolean)) (by decide) rfl ?_
  intro p e s m args below meth c s₁ B hml hv
  obtain ⟨rfl, hP, hK, hC⟩ := hv
  have hS : va_S (fun _ : Nat => False) s.heap s.heap [] := va_S.rf
  have hx := B.exec
  have hb := B.bytes
  have hr := B.returns
  have hta : ∀ w ∈ aW, w.before _ s = true := fun w h => atoms_spec (ws := ws_Insp_isIdAhead) B.pre w (List.mem_cons_of_mem _ h)
  have hown : s.vm.findClass R_Insp = some m.cls := findClass_of_methodNamed B.named
  have hlocks := B.notSynchronized
  have hl := lv_entry ([.ref (wA w 14), .int x0, .int x1, .int x2]) (n := 6) (Nat.le_of_ble_eq_true rfl)
  rw [lg_entry_eq]
  generalize (lg_sl ([.ref (wA w 14), .int x0, .int x1, .int x2]) ++ List.replicate (6 - (lg_sl ([.ref (wA w 14), .int x0, .int x1, .int x2])).length) Slot.unset).toArray = ls at hl ⊢
  have hl : lv_has ls 6 [(0, .ref (wA w 14)), (1, .int x0), (2, .int x1), (3, .int x2)] := hl
  have L3 : ∀ (v1 : Int32) (v2 : Int32) (v3 : Int32) (n3 : Nat) (v4 : Int32) (ls : Array Slot) (hl : lv_has ls 6 [(0, .ref (wA w 14)), (1, .int v1), (2, .int v2), (3, .int v3), (4, .int v4)]) (hE : w_Insp_isIdAhead_L3 σ v1 v2 v3 post n3 v4), W p l e (headSpec ws_Insp_isIdAhead { frames := 3, cells := 0, slots := 0, locals := 69 }).room s m ([.ref (wA w 14), .int x0, .int x1, .int x2] : List Value).toArray below meth c s.heap [] 0 0 (MQ below (vp_Si post) ([.ref (wA w 14), .int x0, .int x1, .int x2] : List Value).toArray s 0 0 (fun _ => False)) (F0 m 3 ls []) := by
    intro v1 v2 v3 n3
    induction n3 with
    | zero => intro v4 ls hl hE; exact hE.elim
    | succ n3 ih3 =>
      have J44 : ∀ (v4 : Int32) (ls : Array Slot) (hl : lv_has ls 6 [(0, .ref (wA w 14)), (1, .int v1), (2, .int v2), (3, .int v3), (4, .int v4)]) (hE : w_Insp_isIdAhead_J44 σ v1 v2 v3 (w_Insp_isIdAhead_L3 σ v1 v2 v3 post n3) post v4), W p l e (headSpec ws_Insp_isIdAhead { frames := 3, cells := 0, slots := 0, locals := 69 }).room s m ([.ref (wA w 14), .int x0, .int x1, .int x2] : List Value).toArray below meth c s.heap [] 0 0 (MQ below (vp_Si post) ([.ref (wA w 14), .int x0, .int x1, .int x2] : List Value).toArray s 0 0 (fun _ => False)) (F0 m 44 ls []) := by
        intro  v4 ls hl hE
        unfold w_Insp_isIdAhead_J44 at hE
        refine lv_iinc (v := v4 + 1) (lv' := [(4, .int (v4 + 1)), (0, .ref (wA w 14)), (1, .int v1), (2, .int v2), (3, .int v3)]) hx hb d_Insp_isIdAhead_44 hl (k := 4) rfl rfl (by decide) rfl (fun ls hl => ?_)
        refine lv_goto (tgt := 3) hx hb d_Insp_isIdAhead_47 (by decide) ?_
        exact ih3 (v4 + 1) _ (lv_sub hl [1, 2, 3, 4, 0] rfl) hE
      intro v4 ls hl hE
      unfold w_Insp_isIdAhead_L3 at hE
      refine lv_iload hx hb d_Insp_isIdAhead_3 (lv_at hl 4 rfl) ?_
      refine lv_iload_n hx hb d_Insp_isIdAhead_5 rfl (lv_at hl 3 rfl) ?_
      refine lv_icmp_ge (tgt := 50) hx hb d_Insp_isIdAhead_6 (by decide) (fun cc6 => ?_) (fun cc6 => ?_)
      · have hE := hE.1 cc6
        refine lv_iconst (v := 0) hx hb d_Insp_isIdAhead_50 (by decide) ?_
        exact W.zret (v := 0) hx hb hr rfl (fun t ht hW => ⟨_, rfl, hE, ht⟩) (fun q h => by cases h) d_Insp_isIdAhead_51
      · have hE := hE.2 cc6
        refine lv_aload_n hx hb d_Insp_isIdAhead_9 rfl (lv_at hl 0 rfl) ?_
        refine va_get (D := (wG w)) (ci := 5) (v := .ref (wA w 6)) (C := R_Insp) (T := F_Insp) (N := 1) hx hb hta i_Insp hown hK hP 14 rfl rfl 0 (by decide) (hta _ fl_Insp_9) (fun _ h9 => h9) rfl d_Insp_isIdAhead_10 ?_
        refine lv_iload hx hb d_Insp_isIdAhead_13 (lv_at hl 4 rfl) ?_
        refine lv_bipush (v := 13) hx hb d_Insp_isIdAhead_15 (by decide) ?_
        refine ro_V (b0 := (wA w 6)) (As := [.int v4, .int 13]) (rest := []) ⟨hx, hb, hml, hown, hta⟩ (f_Book_ofNode l w σ v4 13 hI) ok_Insp_42 ⟨Nat.le_of_ble_eq_true rfl, Nat.le_of_ble_eq_true rfl⟩ blind_fW (va_recv hK hP (ci := 3) (q0 := 6) rfl rfl) (fW_of hP hK hC hS) rfl hl.1 rfl (Nat.le_of_ble_eq_true rfl) d_Insp_isIdAhead_17 ⟨Nat.zero_le _, Nat.zero_le _⟩ (fun r17 hrr => ?_)
        subst hrr
        refine lv_istore (lv' := [(5, .int (tGet 14 (pNd σ) v4 13)), (0, .ref (wA w 14)), (1, .int v1), (2, .int v2), (3, .int v3), (4, .int v4)]) hx hb d_Insp_isIdAhead_20 hl (by decide) rfl (fun ls hl => ?_)
        refine lv_iload hx hb d_Insp_isIdAhead_22 (lv_at hl 0 rfl) ?_
        refine lv_iconst (v := -1) hx hb d_Insp_isIdAhead_24 (by decide) ?_
        refine lv_icmp_eq (tgt := 44) hx hb d_Insp_isIdAhead_25 (by decide) (fun cc25 => ?_) (fun cc25 => ?_)
        · have hE := hE.1 cc25
          exact J44  v4 _ (lv_sub hl [1, 2, 3, 4, 5] rfl) hE
        · have hE := hE.2 cc25
          refine lv_aload_n hx hb d_Insp_isIdAhead_28 rfl (lv_at hl 1 rfl) ?_
          refine va_get (D := (wG w)) (ci := 5) (v := .ref (wA w 6)) (C := R_Insp) (T := F_Insp) (N := 1) hx hb hta i_Insp hown hK hP 14 rfl rfl 0 (by decide) (hta _ fl_Insp_9) (fun _ h9 => h9) rfl d_Insp_isIdAhead_29 ?_
          refine lv_iload_n hx hb d_Insp_isIdAhead_32 rfl (lv_at hl 2 rfl) ?_
          refine lv_iload_n hx hb d_Insp_isIdAhead_33 rfl (lv_at hl 3 rfl) ?_
          refine lv_iload hx hb d_Insp_isIdAhead_34 (lv_at hl 0 rfl) ?_
          refine ro_V (b0 := (wA w 6)) (As := [.int v1, .int v2, .int (tGet 14 (pNd σ) v4 13)]) (rest := []) ⟨hx, hb, hml, hown, hta⟩ (c_Book_valueBehindIs l w σ v1 v2 (tGet 14 (pNd σ) v4 13)  _ hI hE) ok_Insp_111 ⟨Nat.le_of_ble_eq_true rfl, Nat.le_of_ble_eq_true rfl⟩ blind_fW (va_recv hK hP (ci := 3) (q0 := 6) rfl rfl) (fW_of hP hK hC hS) rfl hl.1 rfl (Nat.le_of_ble_eq_true rfl) d_Insp_isIdAhead_36 ⟨Nat.zero_le _, Nat.zero_le _⟩ (fun r36 hE => ?_)
          refine lv_if_eq (tgt := 44) hx hb d_Insp_isIdAhead_39 (by decide) (fun cc39 => ?_) (fun cc39 => ?_)
          · have hE := hE.1 cc39
            exact J44  v4 _ (lv_sub hl [1, 2, 3, 4, 5] rfl) hE
          · have hE := hE.2 cc39
            refine lv_iconst (v := 1) hx hb d_Insp_isIdAhead_42 (by decide) ?_
            exact W.zret (v := 1) hx hb hr rfl (fun t ht hW => ⟨_, rfl, hE, ht⟩) (fun q h => by cases h) d_Insp_isIdAhead_43
  unfold w_Insp_isIdAhead at hE
  refine lv_iconst (v := 0) hx hb d_Insp_isIdAhead_0 (by decide) ?_
  refine lv_istore (lv' := [(4, .int 0), (0, .ref (wA w 14)), (1, .int x0), (2, .int x1), (3, .int x2)]) hx hb d_Insp_isIdAhead_1 hl (by decide) rfl (fun ls hl => ?_)
  obtain ⟨n3, hE⟩ := hE
  exact L3 x0 x1 x2 n3 0 _ (lv_sub hl [1, 2, 3, 4, 0] rfl) hE
theorem ok_Insp_61 : okV "PlainPages$Inspector" 61 R_Book y_Book_ofAttribute b_Book_ofAttribute 3 (some .int) 2 := ⟨aW_in 761 (by decide +kernel) rfl, aW_in 313 (by decide +kernel) rfl, aW_in 314 (by decide +kernel) rfl, aW_in 87 (by decide +kernel) rfl, cd_Book_ofAttribute, rfl, by decide +kernel, by decide +kernel, by decide +kernel⟩
theorem ok_Insp_64 : okV "PlainPages$Inspector" 64 R_Book y_Book_letterAt b_Book_letterAt 4 (some .int) 3 := ⟨aW_in 762 (by decide +kernel) rfl, aW_in 297 (by decide +kernel) rfl, aW_in 298 (by decide +kernel) rfl, aW_in 87 (by decide +kernel) rfl, cd_Book_letterAt, rfl, by decide +kernel, by decide +kernel, by decide +kernel⟩
theorem ok_Insp_114 : okS "PlainPages$Inspector" 114 y_Signs_isDigit b_Signs_isDigit 1 (some .boolean) 1 := ⟨aW_in 763 (by decide +kernel) rfl, aW_in 472 (by decide +kernel) rfl, aW_in 97 (by decide +kernel) rfl, cd_Signs_isDigit, by decide +kernel, by decide +kernel, by decide +kernel⟩
theorem d_Insp_isNumber_0 : decode b_Insp_isNumber 0 = .ok (.aload_n 0, 1) := by decide +kernel
theorem d_Insp_isNumber_1 : decode b_Insp_isNumber 1 = .ok (.getfield 9, 3) := by decide +kernel
theorem d_Insp_isNumber_4 : decode b_Insp_isNumber 4 = .ok (.iload_n 1, 1) := by decide +kernel
theorem d_Insp_isNumber_5 : decode b_Insp_isNumber 5 = .ok (.iconst 4, 1) := by decide +kernel
theorem d_Insp_isNumber_6 : decode b_Insp_isNumber 6 = .ok (.invokevirtual 61, 3) := by decide +kernel
theorem d_Insp_isNumber_9 : decode b_Insp_isNumber 9 = .ok (.istore_n 2, 1) := by decide +kernel
theorem d_Insp_isNumber_10 : decode b_Insp_isNumber 10 = .ok (.aload_n 0, 1) := by decide +kernel
theorem d_Insp_isNumber_11 : decode b_Insp_isNumber 11 = .ok (.getfield 9, 3) := by decide +kernel
theorem d_Insp_isNumber_14 : decode b_Insp_isNumber 14 = .ok (.iload_n 1, 1) := by decide +kernel
theorem d_Insp_isNumber_15 : decode b_Insp_isNumber 15 = .ok (.iconst 1, 1) := by decide +kernel
theorem d_Insp_isNumber_16 : decode b_Insp_isNumber 16 = .ok (.invokevirtual 61, 3) := by decide +kernel
theorem d_Insp_isNumber_19 : decode b_Insp_isNumber 19 = .ok (.istore_n 3, 1) := by decide +kernel
theorem d_Insp_isNumber_20 : decode b_Insp_isNumber 20 = .ok (.iconst 0, 1) := by decide +kernel
theorem d_Insp_isNumber_21 : decode b_Insp_isNumber 21 = .ok (.istore 4, 2) := by decide +kernel
theorem d_Insp_isNumber_23 : decode b_Insp_isNumber 23 = .ok (.iload 4, 2) := by decide +kernel
theorem d_Insp_isNumber_25 : decode b_Insp_isNumber 25 = .ok (.iload_n 3, 1) := by decide +kernel
theorem d_Insp_isNumber_26 : decode b_Insp_isNumber 26 = .ok (.if_icmp .ge 28, 3) := by decide +kernel
theorem d_Insp_isNumber_29 : decode b_Insp_isNumber 29 = .ok (.aload_n 0, 1) := by decide +kernel
theorem d_Insp_isNumber_30 : decode b_Insp_isNumber 30 = .ok (.getfield 9, 3) := by decide +kernel
theorem d_Insp_isNumber_33 : decode b_Insp_isNumber 33 = .ok (.iload_n 2, 1) := by decide +kernel
theorem d_Insp_isNumber_34 : decode b_Insp_isNumber 34 = .ok (.iload_n 3, 1) := by decide +kernel
theorem d_Insp_isNumber_35 : decode b_Insp_isNumber 35 = .ok (.iload 4, 2) := by decide +kernel
theorem d_Insp_isNumber_37 : decode b_Insp_isNumber 37 = .ok (.invokevirtual 64, 3) := by decide +kernel
theorem d_Insp_isNumber_40 : decode b_Insp_isNumber 40 = .ok (.invokestatic 114, 3) := by decide +kernel
theorem d_Insp_isNumber_43 : decode b_Insp_isNumber 43 = .ok (.ifCond .ne 5, 3) := by decide +kernel
theorem d_Insp_isNumber_46 : decode b_Insp_isNumber 46 = .ok (.iconst 0, 1) := by decide +kernel
theorem d_Insp_isNumber_47 : decode b_Insp_isNumber 47 = .ok (.ireturn, 1) := by decide +kernel
theorem d_Insp_isNumber_48 : decode b_Insp_isNumber 48 = .ok (.iinc 4 1, 3) := by decide +kernel
theorem d_Insp_isNumber_51 : decode b_Insp_isNumber 51 = .ok (.goto (-28), 3) := by decide +kernel
theorem d_Insp_isNumber_54 : decode b_Insp_isNumber 54 = .ok (.iload_n 3, 1) := by decide +kernel
theorem d_Insp_isNumber_55 : decode b_Insp_isNumber 55 = .ok (.iconst 1, 1) := by decide +kernel
theorem d_Insp_isNumber_56 : decode b_Insp_isNumber 56 = .ok (.if_icmp .lt 13, 3) := by decide +kernel
theorem d_Insp_isNumber_59 : decode b_Insp_isNumber 59 = .ok (.iload_n 3, 1) := by decide +kernel
theorem d_Insp_isNumber_60 : decode b_Insp_isNumber 60 = .ok (.bipush 9, 2) := by decide +kernel
theorem d_Insp_isNumber_62 : decode b_Insp_isNumber 62 = .ok (.if_icmp .gt 7, 3) := by decide +kernel
theorem d_Insp_isNumber_65 : decode b_Insp_isNumber 65 = .ok (.iconst 1, 1) := by decide +kernel
theorem d_Insp_isNumber_66 : decode b_Insp_isNumber 66 = .ok (.goto 4, 3) := by decide +kernel
theorem d_Insp_isNumber_69 : decode b_Insp_isNumber 69 = .ok (.iconst 0, 1) := by decide +kernel
theorem d_Insp_isNumber_70 : decode b_Insp_isNumber 70 = .ok (.ireturn, 1) := by decide +kernel
def w_Insp_isNumber_L23  (σ : PPS) (v2 : Int32) (v3 : Int32) (post : Int32 → Prop) : Nat → Int32 → Prop
  | 0, _ => False
  | n23 + 1, v4 => ((v3 ≤ v4 → ((v3 < 1 → post 0) ∧ (¬ v3 < 1 → ((9 < v3 → post 0) ∧ (¬ 9 < v3 → post 1))))) ∧ (¬ v3 ≤ v4 → (((b2i (cDg (bLet σ v2 v3 v4))) = 0 → post 0) ∧ (¬ (b2i (cDg (bLet σ v2 v3 v4))) = 0 → w_Insp_isNumber_L23 σ v2 v3 post n23 (v4 + 1)))))
def w_Insp_isNumber  (σ : PPS) (x0 : Int32) (post : Int32 → Prop) : Prop := (∃ n23, w_Insp_isNumber_L23 σ (tGet 5 (pAt σ) x0 4) (tGet 5 (pAt σ) x0 1) post n23 0)
set_option maxHeartbeats 4000000 in
set_option maxRecDepth 100000 in
theorem c_Insp_isNumber (l : Launch) (w : WD) (σ : PPS) (x0 : Int32)  (post : Int32 → Prop) (hI : inv σ) (hE : w_Insp_isNumber σ x0 post) : Met l y_Insp_isNumber ws_Insp_isNumber { frames := 2, cells := 0, slots := 0, locals := 45 } (va_Pc [.ref (wA w 14), .int x0] (fW w σ)) (vp_Si post) 0 0 (fun _ => False) := by
  refine Met.ofW (cc := b_Insp_isNumber) (maxL := 5) (ret := (some .boolean)) (by decide) rfl ?_
  intro p e s m args below meth c s₁ B hml hv
  obtain ⟨rfl, hP, hK, hC⟩ := hv
  have hS : va_S (fun _ : Nat => False) s.heap s.heap [] := va_S.rf
  have hx := B.exec
  have hb := B.bytes
  have hr := B.returns
  have hta : ∀ w ∈ aW, w.before _ s = true := fun w h => atoms_spec (ws := ws_Insp_isNumber) B.pre w (List.mem_cons_of_mem _ h)
  have hown : s.vm.findClass R_Insp = some m.cls := findClass_of_methodNamed B.named
  have hlocks := B.notSynchronized
  have hl := lv_entry ([.ref (wA w 14), .int x0]) (n := 5) (Nat.le_of_ble_eq_true rfl)
  rw [lg_entry_eq]
  generalize (lg_sl ([.ref (wA w 14), .int x0]) ++ List.replicate (5 - (lg_sl ([.ref (wA w 14), .int x0])).length) Slot.unset).toArray = ls at hl ⊢
  have hl : lv_has ls 5 [(0, .ref (wA w 14)), (1, .int x0)] := hl
  have L23 : ∀ (v2 : Int32) (v3 : Int32) (n23 : Nat) (v4 : Int32) (ls : Array Slot) (hl : lv_has ls 5 [(0, .ref (wA w 14)), (2, .int v2), (3, .int v3), (4, .int v4)]) (hE : w_Insp_isNumber_L23 σ v2 v3 post n23 v4), W p l e (headSpec ws_Insp_isNumber { frames := 2, cells := 0, slots := 0, locals := 45 }).room s m ([.ref (wA w 14), .int x0] : List Value).toArray below meth c s.heap [] 0 0 (MQ below (vp_Si post) ([.ref (wA w 14), .int x0] : List Value).toArray s 0 0 (fun _ => False)) (F0 m 23 ls []) := by
    intro v2 v3 n23
    induction n23 with
    | zero => intro v4 ls hl hE; exact hE.elim
    | succ n23 ih23 =>
      intro v4 ls hl hE
      unfold w_Insp_isNumber_L23 at hE
      refine lv_iload hx hb d_Insp_isNumber_23 (lv_at hl 3 rfl) ?_
      refine lv_iload_n hx hb d_Insp_isNumber_25 rfl (lv_at hl 2 rfl) ?_
      refine lv_icmp_ge (tgt := 54) hx hb d_Insp_isNumber_26 (by decide) (fun cc26 => ?_) (fun cc26 => ?_)
      · have hE := hE.1 cc26
        refine lv_iload_n hx hb d_Insp_isNumber_54 rfl (lv_at hl 2 rfl) ?_
        refine lv_iconst (v := 1) hx hb d_Insp_isNumber_55 (by decide) ?_
        refine lv_icmp_lt (tgt := 69) hx hb d_Insp_isNumber_56 (by decide) (fun cc56 => ?_) (fun cc56 => ?_)
        · have hE := hE.1 cc56
          refine lv_iconst (v := 0) hx hb d_Insp_isNumber_69 (by decide) ?_
          exact W.zret (v := 0) hx hb hr rfl (fun t ht hW => ⟨_, rfl, hE, ht⟩) (fun q h => by cases h) d_Insp_isNumber_70
        · have hE := hE.2 cc56
          refine lv_iload_n hx hb d_Insp_isNumber_59 rfl (lv_at hl 2 rfl) ?_
          refine lv_bipush (v := 9) hx hb d_Insp_isNumber_60 (by decide) ?_
          refine lv_icmp_gt (tgt := 69) hx hb d_Insp_isNumber_62 (by decide) (fun cc62 => ?_) (fun cc62 => ?_)
          · have hE := hE.1 cc62
            refine lv_iconst (v := 0) hx hb d_Insp_isNumber_69 (by decide) ?_
            exact W.zret (v := 0) hx hb hr rfl (fun t ht hW => ⟨_, rfl, hE, ht⟩) (fun q h => by cases h) d_Insp_isNumber_70
          · have hE := hE.2 cc62
            refine lv_iconst (v := 1) hx hb d_Insp_isNumber_65 (by decide) ?_
            refine lv_goto (tgt := 70) hx hb d_Insp_isNumber_66 (by decide) ?_
            exact W.zret (v := 1) hx hb hr rfl (fun t ht hW => ⟨_, rfl, hE, ht⟩) (fun q h => by cases h) d_Insp_isNumber_70
      · have hE := hE.2 cc26
        refine lv_aload_n hx hb d_Insp_isNumber_29 rfl (lv_at hl 0 rfl) ?_
        refine va_get (D := (wG w)) (ci := 5) (v := .ref (wA w 6)) (C := R_Insp) (T := F_Insp) (N := 1) hx hb hta i_Insp hown hK hP 14 rfl rfl 0 (by decide) (hta _ fl_Insp_9) (fun _ h9 => h9) rfl d_Insp_isNumber_30 ?_
        refine lv_iload_n hx hb d_Insp_isNumber_33 rfl (lv_at hl 1 rfl) ?_
        refine lv_iload_n hx hb d_Insp_isNumber_34 rfl (lv_at hl 2 rfl) ?_
        refine lv_iload hx hb d_Insp_isNumber_35 (lv_at hl 3 rfl) ?_
        refine ro_V (b0 := (wA w 6)) (As := [.int v2, .int v3, .int v4]) (rest := []) ⟨hx, hb, hml, hown, hta⟩ (f_Book_letterAt l w σ v2 v3 v4 hI) ok_Insp_64 ⟨Nat.le_of_ble_eq_true rfl, Nat.le_of_ble_eq_true rfl⟩ blind_fW (va_recv hK hP (ci := 3) (q0 := 6) rfl rfl) (fW_of hP hK hC hS) rfl hl.1 rfl (Nat.le_of_ble_eq_true rfl) d_Insp_isNumber_37 ⟨Nat.zero_le _, Nat.zero_le _⟩ (fun r37 hrr => ?_)
        subst hrr
        refine ro_S  (As := [.int (bLet σ v2 v3 v4)]) (rest := []) ⟨hx, hb, hml, hown, hta⟩ (f_Signs_isDigit l (bLet σ v2 v3 v4)) ok_Insp_114 ⟨Nat.le_of_ble_eq_true rfl, Nat.le_of_ble_eq_true rfl⟩ blind_true  (fun _ _ _ => trivial) rfl hl.1 rfl (Nat.le_of_ble_eq_true rfl) d_Insp_isNumber_40 ⟨Nat.zero_le _, Nat.zero_le _⟩ (fun r40 hrr => ?_)
        subst hrr
        refine lv_if_ne (tgt := 48) hx hb d_Insp_isNumber_43 (by decide) (fun cc43 => ?_) (fun cc43 => ?_)
        · have hE := hE.2 cc43
          refine lv_iinc (v := v4 + 1) (lv' := [(4, .int (v4 + 1)), (0, .ref (wA w 14)), (2, .int v2), (3, .int v3)]) hx hb d_Insp_isNumber_48 hl (k := 3) rfl rfl (by decide) rfl (fun ls hl => ?_)
          refine lv_goto (tgt := 23) hx hb d_Insp_isNumber_51 (by decide) ?_
          exact ih23 (v4 + 1) _ (lv_sub hl [1, 2, 3, 0] rfl) hE
        · have hE := hE.1 cc43
          refine lv_iconst (v := 0) hx hb d_Insp_isNumber_46 (by decide) ?_
          exact W.zret (v := 0) hx hb hr rfl (fun t ht hW => ⟨_, rfl, hE, ht⟩) (fun q h => by cases h) d_Insp_isNumber_47
  unfold w_Insp_isNumber at hE
  refine lv_aload_n hx hb d_Insp_isNumber_0 rfl (lv_at hl 0 rfl) ?_
  refine va_get (D := (wG w)) (ci := 5) (v := .ref (wA w 6)) (C := R_Insp) (T := F_Insp) (N := 1) hx hb hta i_Insp hown hK hP 14 rfl rfl 0 (by decide) (hta _ fl_Insp_9) (fun _ h9 => h9) rfl d_Insp_isNumber_1 ?_
  refine lv_iload_n hx hb d_Insp_isNumber_4 rfl (lv_at hl 1 rfl) ?_
  refine lv_iconst (v := 4) hx hb d_Insp_isNumber_5 (by decide) ?_
  refine ro_V (b0 := (wA w 6)) (As := [.int x0, .int 4]) (rest := []) ⟨hx, hb, hml, hown, hta⟩ (f_Book_ofAttribute l w σ x0 4 hI) ok_Insp_61 ⟨Nat.le_of_ble_eq_true rfl, Nat.le_of_ble_eq_true rfl⟩ blind_fW (va_recv hK hP (ci := 3) (q0 := 6) rfl rfl) (fW_of hP hK hC hS) rfl hl.1 rfl (Nat.le_of_ble_eq_true rfl) d_Insp_isNumber_6 ⟨Nat.zero_le _, Nat.zero_le _⟩ (fun r6 hrr => ?_)
  subst hrr
  refine lv_istore_n (lv' := [(2, .int (tGet 5 (pAt σ) x0 4)), (0, .ref (wA w 14)), (1, .int x0)]) hx hb d_Insp_isNumber_9 rfl hl (by decide) rfl (fun ls hl => ?_)
  refine lv_aload_n hx hb d_Insp_isNumber_10 rfl (lv_at hl 1 rfl) ?_
  refine va_get (D := (wG w)) (ci := 5) (v := .ref (wA w 6)) (C := R_Insp) (T := F_Insp) (N := 1) hx hb hta i_Insp hown hK hP 14 rfl rfl 0 (by decide) (hta _ fl_Insp_9) (fun _ h9 => h9) rfl d_Insp_isNumber_11 ?_
  refine lv_iload_n hx hb d_Insp_isNumber_14 rfl (lv_at hl 2 rfl) ?_
  refine lv_iconst (v := 1) hx hb d_Insp_isNumber_15 (by decide) ?_
  refine ro_V (b0 := (wA w 6)) (As := [.int x0, .int 1]) (rest := []) ⟨hx, hb, hml, hown, hta⟩ (f_Book_ofAttribute l w σ x0 1 hI) ok_Insp_61 ⟨Nat.le_of_ble_eq_true rfl, Nat.le_of_ble_eq_true rfl⟩ blind_fW (va_recv hK hP (ci := 3) (q0 := 6) rfl rfl) (fW_of hP hK hC hS) rfl hl.1 rfl (Nat.le_of_ble_eq_true rfl) d_Insp_isNumber_16 ⟨Nat.zero_le _, Nat.zero_le _⟩ (fun r16 hrr => ?_)
  subst hrr
  refine lv_istore_n (lv' := [(3, .int (tGet 5 (pAt σ) x0 1)), (2, .int (tGet 5 (pAt σ) x0 4)), (0, .ref (wA w 14)), (1, .int x0)]) hx hb d_Insp_isNumber_19 rfl hl (by decide) rfl (fun ls hl => ?_)
  refine lv_iconst (v := 0) hx hb d_Insp_isNumber_20 (by decide) ?_
  refine lv_istore (lv' := [(4, .int 0), (3, .int (tGet 5 (pAt σ) x0 1)), (2, .int (tGet 5 (pAt σ) x0 4)), (0, .ref (wA w 14)), (1, .int x0)]) hx hb d_Insp_isNumber_21 hl (by decide) rfl (fun ls hl => ?_)
  obtain ⟨n23, hE⟩ := hE
  exact L23 (tGet 5 (pAt σ) x0 4) (tGet 5 (pAt σ) x0 1) n23 0 _ (lv_sub hl [3, 2, 1, 0] rfl) hE
theorem ok_Insp_92 : okV "PlainPages$Inspector" 92 R_Kind y_Kind_allows b_Kind_allows 2 (some .boolean) 1 := ⟨aW_in 764 (by decide +kernel) rfl, aW_in 765 (by decide +kernel) rfl, aW_in 766 (by decide +kernel) rfl, aW_in 104 (by decide +kernel) rfl, cd_Kind_allows, rfl, by decide +kernel, by decide +kernel, by decide +kernel⟩
theorem ok_Insp_82 : okV "PlainPages$Inspector" 82 R_Book y_Book_attributeOf b_Book_attributeOf 4 (some .int) 2 := ⟨aW_in 736 (by decide +kernel) rfl, aW_in 309 (by decide +kernel) rfl, aW_in 310 (by decide +kernel) rfl, aW_in 87 (by decide +kernel) rfl, cd_Book_attributeOf, rfl, by decide +kernel, by decide +kernel, by decide +kernel⟩
theorem ok_Insp_85 : okV "PlainPages$Inspector" 85 R_Insp y_Insp_markOf b_Insp_markOf 2 (some .int) 1 := ⟨aW_in 737 (by decide +kernel) rfl, aW_in 739 (by decide +kernel) rfl, aW_in 27 (by decide +kernel) rfl, aW_in 90 (by decide +kernel) rfl, cd_Insp_markOf, rfl, by decide +kernel, by decide +kernel, by decide +kernel⟩
theorem ok_Insp_68 : okV "PlainPages$Inspector" 68 R_Insp y_Insp_isIdAhead b_Insp_isIdAhead 6 (some .boolean) 3 := ⟨aW_in 749 (by decide +kernel) rfl, aW_in 751 (by decide +kernel) rfl, aW_in 28 (by decide +kernel) rfl, aW_in 90 (by decide +kernel) rfl, cd_Insp_isIdAhead, rfl, by decide +kernel, by decide +kernel, by decide +kernel⟩
theorem ok_Insp_89 : okV "PlainPages$Inspector" 89 R_Insp y_Insp_isNumber b_Insp_isNumber 5 (some .boolean) 1 := ⟨aW_in 757 (by decide +kernel) rfl, aW_in 759 (by decide +kernel) rfl, aW_in 29 (by decide +kernel) rfl, aW_in 90 (by decide +kernel) rfl, cd_Insp_isNumber, rfl, by decide +kernel, by decide +kernel, by decide +kernel⟩
theorem d_Insp_hasFitAttributes_0 : decode b_Insp_hasFitAttributes 0 = .ok (.iconst 0, 1) := by decide +kernel
theorem d_Insp_hasFitAttributes_1 : decode b_Insp_hasFitAttributes 1 = .ok (.istore_n 3, 1) := by decide +kernel
theorem d_Insp_hasFitAttributes_2 : decode b_Insp_hasFitAttributes 2 = .ok (.iconst 0, 1) := by decide +kernel
theorem d_Insp_hasFitAttributes_3 : decode b_Insp_hasFitAttributes 3 = .ok (.istore 4, 2) := by decide +kernel
theorem d_Insp_hasFitAttributes_5 : decode b_Insp_hasFitAttributes 5 = .ok (.iload 4, 2) := by decide +kernel
theorem d_Insp_hasFitAttributes_7 : decode b_Insp_hasFitAttributes 7 = .ok (.aload_n 0, 1) := by decide +kernel
theorem d_Insp_hasFitAttributes_8 : decode b_Insp_hasFitAttributes 8 = .ok (.getfield 9, 3) := by decide +kernel
theorem d_Insp_hasFitAttributes_11 : decode b_Insp_hasFitAttributes 11 = .ok (.iload_n 1, 1) := by decide +kernel
theorem d_Insp_hasFitAttributes_12 : decode b_Insp_hasFitAttributes 12 = .ok (.iconst 4, 1) := by decide +kernel
theorem d_Insp_hasFitAttributes_13 : decode b_Insp_hasFitAttributes 13 = .ok (.invokevirtual 42, 3) := by decide +kernel
theorem d_Insp_hasFitAttributes_16 : decode b_Insp_hasFitAttributes 16 = .ok (.if_icmp .ge 74, 3) := by decide +kernel
theorem d_Insp_hasFitAttributes_19 : decode b_Insp_hasFitAttributes 19 = .ok (.aload_n 0, 1) := by decide +kernel
theorem d_Insp_hasFitAttributes_20 : decode b_Insp_hasFitAttributes 20 = .ok (.getfield 9, 3) := by decide +kernel
theorem d_Insp_hasFitAttributes_23 : decode b_Insp_hasFitAttributes 23 = .ok (.iload_n 1, 1) := by decide +kernel
theorem d_Insp_hasFitAttributes_24 : decode b_Insp_hasFitAttributes 24 = .ok (.iload 4, 2) := by decide +kernel
theorem d_Insp_hasFitAttributes_26 : decode b_Insp_hasFitAttributes 26 = .ok (.invokevirtual 82, 3) := by decide +kernel
theorem d_Insp_hasFitAttributes_29 : decode b_Insp_hasFitAttributes 29 = .ok (.istore 5, 2) := by decide +kernel
theorem d_Insp_hasFitAttributes_31 : decode b_Insp_hasFitAttributes 31 = .ok (.aload_n 0, 1) := by decide +kernel
theorem d_Insp_hasFitAttributes_32 : decode b_Insp_hasFitAttributes 32 = .ok (.iload 5, 2) := by decide +kernel
theorem d_Insp_hasFitAttributes_34 : decode b_Insp_hasFitAttributes 34 = .ok (.invokevirtual 85, 3) := by decide +kernel
theorem d_Insp_hasFitAttributes_37 : decode b_Insp_hasFitAttributes 37 = .ok (.istore 6, 2) := by decide +kernel
theorem d_Insp_hasFitAttributes_39 : decode b_Insp_hasFitAttributes 39 = .ok (.iload 6, 2) := by decide +kernel
theorem d_Insp_hasFitAttributes_41 : decode b_Insp_hasFitAttributes 41 = .ok (.ifCond .eq 36, 3) := by decide +kernel
theorem d_Insp_hasFitAttributes_44 : decode b_Insp_hasFitAttributes 44 = .ok (.iload 6, 2) := by decide +kernel
theorem d_Insp_hasFitAttributes_46 : decode b_Insp_hasFitAttributes 46 = .ok (.iconst 1, 1) := by decide +kernel
theorem d_Insp_hasFitAttributes_47 : decode b_Insp_hasFitAttributes 47 = .ok (.if_icmp .ne 14, 3) := by decide +kernel
theorem d_Insp_hasFitAttributes_50 : decode b_Insp_hasFitAttributes 50 = .ok (.aload_n 0, 1) := by decide +kernel
theorem d_Insp_hasFitAttributes_51 : decode b_Insp_hasFitAttributes 51 = .ok (.iload 5, 2) := by decide +kernel
theorem d_Insp_hasFitAttributes_53 : decode b_Insp_hasFitAttributes 53 = .ok (.iconst 0, 1) := by decide +kernel
theorem d_Insp_hasFitAttributes_54 : decode b_Insp_hasFitAttributes 54 = .ok (.iload_n 1, 1) := by decide +kernel
theorem d_Insp_hasFitAttributes_55 : decode b_Insp_hasFitAttributes 55 = .ok (.invokevirtual 68, 3) := by decide +kernel
theorem d_Insp_hasFitAttributes_58 : decode b_Insp_hasFitAttributes 58 = .ok (.ifCond .ne 19, 3) := by decide +kernel
theorem d_Insp_hasFitAttributes_61 : decode b_Insp_hasFitAttributes 61 = .ok (.iload 6, 2) := by decide +kernel
theorem d_Insp_hasFitAttributes_63 : decode b_Insp_hasFitAttributes 63 = .ok (.bipush 64, 2) := by decide +kernel
theorem d_Insp_hasFitAttributes_65 : decode b_Insp_hasFitAttributes 65 = .ok (.if_icmp .ne 14, 3) := by decide +kernel
theorem d_Insp_hasFitAttributes_68 : decode b_Insp_hasFitAttributes 68 = .ok (.aload_n 0, 1) := by decide +kernel
theorem d_Insp_hasFitAttributes_69 : decode b_Insp_hasFitAttributes 69 = .ok (.iload 5, 2) := by decide +kernel
theorem d_Insp_hasFitAttributes_71 : decode b_Insp_hasFitAttributes 71 = .ok (.invokevirtual 89, 3) := by decide +kernel
theorem d_Insp_hasFitAttributes_74 : decode b_Insp_hasFitAttributes 74 = .ok (.ifCond .ne 5, 3) := by decide +kernel
theorem d_Insp_hasFitAttributes_77 : decode b_Insp_hasFitAttributes 77 = .ok (.iconst 0, 1) := by decide +kernel
theorem d_Insp_hasFitAttributes_78 : decode b_Insp_hasFitAttributes 78 = .ok (.ireturn, 1) := by decide +kernel
theorem d_Insp_hasFitAttributes_79 : decode b_Insp_hasFitAttributes 79 = .ok (.iload_n 3, 1) := by decide +kernel
theorem d_Insp_hasFitAttributes_80 : decode b_Insp_hasFitAttributes 80 = .ok (.iload 6, 2) := by decide +kernel
theorem d_Insp_hasFitAttributes_82 : decode b_Insp_hasFitAttributes 82 = .ok (.ior, 1) := by decide +kernel
theorem d_Insp_hasFitAttributes_83 : decode b_Insp_hasFitAttributes 83 = .ok (.istore_n 3, 1) := by decide +kernel
theorem d_Insp_hasFitAttributes_84 : decode b_Insp_hasFitAttributes 84 = .ok (.iinc 4 1, 3) := by decide +kernel
theorem d_Insp_hasFitAttributes_87 : decode b_Insp_hasFitAttributes 87 = .ok (.goto (-82), 3) := by decide +kernel
theorem d_Insp_hasFitAttributes_90 : decode b_Insp_hasFitAttributes 90 = .ok (.aload_n 2, 1) := by decide +kernel
theorem d_Insp_hasFitAttributes_91 : decode b_Insp_hasFitAttributes 91 = .ok (.iload_n 3, 1) := by decide +kernel
theorem d_Insp_hasFitAttributes_92 : decode b_Insp_hasFitAttributes 92 = .ok (.invokevirtual 92, 3) := by decide +kernel
theorem d_Insp_hasFitAttributes_95 : decode b_Insp_hasFitAttributes 95 = .ok (.ireturn, 1) := by decide +kernel
def w_Insp_hasFitAttributes_J79  (σ : PPS) (v1 : Int32) (v2 : Option Nat) (K5 : Int32 → Int32 → Prop) (post : Int32 → Prop) (v3 : Int32) (v4 : Int32) (v6 : Int32) : Prop := K5 (v3 ||| v6) (v4 + 1)
def w_Insp_hasFitAttributes_J61  (σ : PPS) (v1 : Int32) (v2 : Option Nat) (K5 : Int32 → Int32 → Prop) (post : Int32 → Prop) (v3 : Int32) (v4 : Int32) (v5 : Int32) (v6 : Int32) : Prop := ((v6 = 64 → w_Insp_isNumber σ v5 (fun r71 => ((r71 = 0 → post 0) ∧ (¬ r71 = 0 → w_Insp_hasFitAttributes_J79 σ v1 v2 (K5) post v3 v4 v6)))) ∧ (¬ v6 = 64 → w_Insp_hasFitAttributes_J79 σ v1 v2 (K5) post v3 v4 v6))
def w_Insp_hasFitAttributes_L5  (σ : PPS) (v1 : Int32) (v2 : Option Nat) (post : Int32 → Prop) : Nat → Int32 → Int32 → Prop
  | 0, _, _ => False
  | n5 + 1, v3, v4 => (((tGet 14 (pNd σ) v1 4) ≤ v4 → (∃ k92, v2 = some k92 ∧ k92 < 23 ∧ post (b2i (kAllows k92 v3)))) ∧ (¬ (tGet 14 (pNd σ) v1 4) ≤ v4 → w_Insp_markOf σ (bAtt σ v1 v4) (fun r34 => ((r34 = 0 → post 0) ∧ (¬ r34 = 0 → ((r34 = 1 → w_Insp_isIdAhead σ (bAtt σ v1 v4) 0 v1 (fun r55 => ((r55 = 0 → w_Insp_hasFitAttributes_J61 σ v1 v2 (w_Insp_hasFitAttributes_L5 σ v1 v2 post n5) post v3 v4 (bAtt σ v1 v4) r34) ∧ (¬ r55 = 0 → post 0)))) ∧ (¬ r34 = 1 → w_Insp_hasFitAttributes_J61 σ v1 v2 (w_Insp_hasFitAttributes_L5 σ v1 v2 post n5) post v3 v4 (bAtt σ v1 v4) r34)))))))
def w_Insp_hasFitAttributes  (σ : PPS) (x0 : Int32) (x1 : Option Nat) (post : Int32 → Prop) : Prop := (∃ n5, w_Insp_hasFitAttributes_L5 σ x0 x1 post n5 0 0)
set_option maxHeartbeats 4000000 in
set_option maxRecDepth 100000 in
theorem c_Insp_hasFitAttributes (l : Launch) (w : WD) (σ : PPS) (x0 : Int32) (x1 : Option Nat)  (post : Int32 → Prop) (hI : inv σ) (hE : w_Insp_hasFitAttributes σ x0 x1 post) : Met l y_Insp_hasFitAttributes ws_Insp_hasFitAttributes { frames := 7, cells := 0, slots := 0, locals := 152 } (va_Pc [.ref (wA w 14), .int x0, va_re (wE w) x1] (fW w σ)) (vp_Si post) 0 0 (fun _ => False) := by
  refine Met.ofW (cc := b_Insp_hasFitAttributes) (maxL := 7) (ret := (some .boolean)) (by decide) rfl ?_
  intro p e s m args below meth c s₁ B hml hv
  obtain ⟨rfl, hP, hK, hC⟩ := hv
  have hS : va_S (fun _ : Nat => False) s.heap s.heap [] := va_S.rf
  have hx := B.exec
  have hb := B.bytes
  have hr := B.returns
  have hta : ∀ w ∈ aW, w.before _ s = true := fun w h => atoms_spec (ws := ws_Insp_hasFitAttributes) B.pre w (List.mem_cons_of_mem _ h)
  have hown : s.vm.findClass R_Insp = some m.cls := findClass_of_methodNamed B.named
  have hlocks := B.notSynchronized
  have hl := lv_entry ([.ref (wA w 14), .int x0, va_re (wE w) x1]) (n := 7) (by cases x1 <;> exact Nat.le_of_ble_eq_true rfl)
  rw [lg_entry_eq]
  generalize (lg_sl ([.ref (wA w 14), .int x0, va_re (wE w) x1]) ++ List.replicate (7 - (lg_sl ([.ref (wA w 14), .int x0, va_re (wE w) x1])).length) Slot.unset).toArray = ls at hl ⊢
  have hl : lv_has ls 7 [(0, .ref (wA w 14)), (1, .int x0), (2, va_re (wE w) x1)] := hl
  have L5 : ∀ (v1 : Int32) (v2 : Option Nat) (n5 : Nat) (v3 : Int32) (v4 : Int32) (ls : Array Slot) (hl : lv_has ls 7 [(0, .ref (wA w 14)), (1, .int v1), (2, va_re (wE w) v2), (3, .int v3), (4, .int v4)]) (hE : w_Insp_hasFitAttributes_L5 σ v1 v2 post n5 v3 v4), W p l e (headSpec ws_Insp_hasFitAttributes { frames := 7, cells := 0, slots := 0, locals := 152 }).room s m ([.ref (wA w 14), .int x0, va_re (wE w) x1] : List Value).toArray below meth c s.heap [] 0 0 (MQ below (vp_Si post) ([.ref (wA w 14), .int x0, va_re (wE w) x1] : List Value).toArray s 0 0 (fun _ => False)) (F0 m 5 ls []) := by
    intro v1 v2 n5
    induction n5 with
    | zero => intro v3 v4 ls hl hE; exact hE.elim
    | succ n5 ih5 =>
      have J79 : ∀ (v3 : Int32) (v4 : Int32) (v6 : Int32) (ls : Array Slot) (hl : lv_has ls 7 [(0, .ref (wA w 14)), (1, .int v1), (2, va_re (wE w) v2), (3, .int v3), (4, .int v4), (6, .int v6)]) (hE : w_Insp_hasFitAttributes_J79 σ v1 v2 (w_Insp_hasFitAttributes_L5 σ v1 v2 post n5) post v3 v4 v6), W p l e (headSpec ws_Insp_hasFitAttributes { frames := 7, cells := 0, slots := 0, locals := 152 }).room s m ([.ref (wA w 14), .int x0, va_re (wE w) x1] : List Value).toArray below meth c s.heap [] 0 0 (MQ below (vp_Si post) ([.ref (wA w 14), .int x0, va_re (wE w) x1] : List Value).toArray s 0 0 (fun _ => False)) (F0 m 79 ls []) := by
        intro  v3 v4 v6 ls hl hE
        unfold w_Insp_hasFitAttributes_J79 at hE
        refine lv_iload_n hx hb d_Insp_hasFitAttributes_79 rfl (lv_at hl 3 rfl) ?_
        refine lv_iload hx hb d_Insp_hasFitAttributes_80 (lv_at hl 5 rfl) ?_
        refine lv_ior hx hb d_Insp_hasFitAttributes_82 ?_
        refine lv_istore_n (lv' := [(3, .int (v3 ||| v6)), (0, .ref (wA w 14)), (1, .int v1), (2, va_re (wE w) v2), (4, .int v4), (6, .int v6)]) hx hb d_Insp_hasFitAttributes_83 rfl hl (by decide) (by cases v2 <;> rfl) (fun ls hl => ?_)
        refine lv_iinc (v := v4 + 1) (lv' := [(4, .int (v4 + 1)), (3, .int (v3 ||| v6)), (0, .ref (wA w 14)), (1, .int v1), (2, va_re (wE w) v2), (6, .int v6)]) hx hb d_Insp_hasFitAttributes_84 hl (k := 4) rfl rfl (by decide) rfl (fun ls hl => ?_)
        refine lv_goto (tgt := 5) hx hb d_Insp_hasFitAttributes_87 (by decide) ?_
        exact ih5 (v3 ||| v6) (v4 + 1) _ (lv_sub hl [2, 3, 4, 1, 0] rfl) hE
      have J61 : ∀ (v3 : Int32) (v4 : Int32) (v5 : Int32) (v6 : Int32) (ls : Array Slot) (hl : lv_has ls 7 [(0, .ref (wA w 14)), (1, .int v1), (2, va_re (wE w) v2), (3, .int v3), (4, .int v4), (5, .int v5), (6, .int v6)]) (hE : w_Insp_hasFitAttributes_J61 σ v1 v2 (w_Insp_hasFitAttributes_L5 σ v1 v2 post n5) post v3 v4 v5 v6), W p l e (headSpec ws_Insp_hasFitAttributes { frames := 7, cells := 0, slots := 0, locals := 152 }).room s m ([.ref (wA w 14), .int x0, va_re (wE w) x1] : List Value).toArray below meth c s.heap [] 0 0 (MQ below (vp_Si post) ([.ref (wA w 14), .int x0, va_re (wE w) x1] : List Value).toArray s 0 0 (fun _ => False)) (F0 m 61 ls []) := by
        intro  v3 v4 v5 v6 ls hl hE
        unfold w_Insp_hasFitAttributes_J61 at hE
        refine lv_iload hx hb d_Insp_hasFitAttributes_61 (lv_at hl 6 rfl) ?_
        refine lv_bipush (v := 64) hx hb d_Insp_hasFitAttributes_63 (by decide) ?_
        refine lv_icmp_ne (tgt := 79) hx hb d_Insp_hasFitAttributes_65 (by decide) (fun cc65 => ?_) (fun cc65 => ?_)
        · have hE := hE.2 cc65
          exact J79  v3 v4 v6 _ (lv_sub hl [0, 1, 2, 3, 4, 6] rfl) hE
        · have hE := hE.1 cc65
          refine lv_aload_n hx hb d_Insp_hasFitAttributes_68 rfl (lv_at hl 0 rfl) ?_
          refine lv_iload hx hb d_Insp_hasFitAttributes_69 (lv_at hl 5 rfl) ?_
          refine ro_V (b0 := (wA w 14)) (As := [.int v5]) (rest := []) ⟨hx, hb, hml, hown, hta⟩ (c_Insp_isNumber l w σ v5  _ hI hE) ok_Insp_89 ⟨Nat.le_of_ble_eq_true rfl, Nat.le_of_ble_eq_true rfl⟩ blind_fW (va_recv hK hP (ci := 5) (q0 := 14) rfl rfl) (fW_of hP hK hC hS) rfl hl.1 rfl (Nat.le_of_ble_eq_true rfl) d_Insp_hasFitAttributes_71 ⟨Nat.zero_le _, Nat.zero_le _⟩ (fun r71 hE => ?_)
          refine lv_if_ne (tgt := 79) hx hb d_Insp_hasFitAttributes_74 (by decide) (fun cc74 => ?_) (fun cc74 => ?_)
          · have hE := hE.2 cc74
            exact J79  v3 v4 v6 _ (lv_sub hl [0, 1, 2, 3, 4, 6] rfl) hE
          · have hE := hE.1 cc74
            refine lv_iconst (v := 0) hx hb d_Insp_hasFitAttributes_77 (by decide) ?_
            exact W.zret (v := 0) hx hb hr rfl (fun t ht hW => ⟨_, rfl, hE, ht⟩) (fun q h => by cases h) d_Insp_hasFitAttributes_78
      intro v3 v4 ls hl hE
      unfold w_Insp_hasFitAttributes_L5 at hE
      refine lv_iload hx hb d_Insp_hasFitAttributes_5 (lv_at hl 4 rfl) ?_
      refine lv_aload_n hx hb d_Insp_hasFitAttributes_7 rfl (lv_at hl 0 rfl) ?_
      refine va_get (D := (wG w)) (ci := 5) (v := .ref (wA w 6)) (C := R_Insp) (T := F_Insp) (N := 1) hx hb hta i_Insp hown hK hP 14 rfl rfl 0 (by decide) (hta _ fl_Insp_9) (fun _ h9 => h9) rfl d_Insp_hasFitAttributes_8 ?_
      refine lv_iload_n hx hb d_Insp_hasFitAttributes_11 rfl (lv_at hl 1 rfl) ?_
      refine lv_iconst (v := 4) hx hb d_Insp_hasFitAttributes_12 (by decide) ?_
      refine ro_V (b0 := (wA w 6)) (As := [.int v1, .int 4]) (rest := [.int v4]) ⟨hx, hb, hml, hown, hta⟩ (f_Book_ofNode l w σ v1 4 hI) ok_Insp_42 ⟨Nat.le_of_ble_eq_true rfl, Nat.le_of_ble_eq_true rfl⟩ blind_fW (va_recv hK hP (ci := 3) (q0 := 6) rfl rfl) (fW_of hP hK hC hS) rfl hl.1 rfl (Nat.le_of_ble_eq_true rfl) d_Insp_hasFitAttributes_13 ⟨Nat.zero_le _, Nat.zero_le _⟩ (fun r13 hrr => ?_)
      subst hrr
      refine lv_icmp_ge (tgt := 90) hx hb d_Insp_hasFitAttributes_16 (by decide) (fun cc16 => ?_) (fun cc16 => ?_)
      · have hE := hE.1 cc16
        refine lv_aload_nQ hx hb d_Insp_hasFitAttributes_90 rfl (lv_at hl 2 rfl) ?_
        refine lv_iload_n hx hb d_Insp_hasFitAttributes_91 rfl (lv_at hl 3 rfl) ?_
        obtain ⟨k92, rfl, hk92, hE⟩ := hE
        refine ro_V (b0 := wE w k92) (As := [.int v3]) (rest := []) ⟨hx, hb, hml, hown, hta⟩ (f_Kind_allows l w k92 v3 hk92) ok_Insp_92 ⟨Nat.le_of_ble_eq_true rfl, Nat.le_of_ble_eq_true rfl⟩ blind_cW (k_recv hC hS hk92) (cW_of hC hS) rfl hl.1 rfl (Nat.le_of_ble_eq_true rfl) d_Insp_hasFitAttributes_92 ⟨Nat.zero_le _, Nat.zero_le _⟩ (fun r92 hrr => ?_)
        subst hrr
        exact W.zret (v := b2i (kAllows k92 v3)) hx hb hr (b2i_nar _) (fun t ht hW => ⟨_, rfl, hE, ht⟩) (fun q h => by cases h) d_Insp_hasFitAttributes_95
      · have hE := hE.2 cc16
        refine lv_aload_n hx hb d_Insp_hasFitAttributes_19 rfl (lv_at hl 0 rfl) ?_
        refine va_get (D := (wG w)) (ci := 5) (v := .ref (wA w 6)) (C := R_Insp) (T := F_Insp) (N := 1) hx hb hta i_Insp hown hK hP 14 rfl rfl 0 (by decide) (hta _ fl_Insp_9) (fun _ h9 => h9) rfl d_Insp_hasFitAttributes_20 ?_
        refine lv_iload_n hx hb d_Insp_hasFitAttributes_23 rfl (lv_at hl 1 rfl) ?_
        refine lv_iload hx hb d_Insp_hasFitAttributes_24 (lv_at hl 4 rfl) ?_
        refine ro_V (b0 := (wA w 6)) (As := [.int v1, .int v4]) (rest := []) ⟨hx, hb, hml, hown, hta⟩ (f_Book_attributeOf l w σ v1 v4 hI) ok_Insp_82 ⟨Nat.le_of_ble_eq_true rfl, Nat.le_of_ble_eq_true rfl⟩ blind_fW (va_recv hK hP (ci := 3) (q0 := 6) rfl rfl) (fW_of hP hK hC hS) rfl hl.1 rfl (Nat.le_of_ble_eq_true rfl) d_Insp_hasFitAttributes_26 ⟨Nat.zero_le _, Nat.zero_le _⟩ (fun r26 hrr => ?_)
        subst hrr
        refine lv_istore (lv' := [(5, .int (bAtt σ v1 v4)), (0, .ref (wA w 14)), (1, .int v1), (2, va_re (wE w) v2), (3, .int v3), (4, .int v4)]) hx hb d_Insp_hasFitAttributes_29 hl (by decide) rfl (fun ls hl => ?_)
        refine lv_aload_n hx hb d_Insp_hasFitAttributes_31 rfl (lv_at hl 1 rfl) ?_
        refine lv_iload hx hb d_Insp_hasFitAttributes_32 (lv_at hl 0 rfl) ?_
        refine ro_V (b0 := (wA w 14)) (As := [.int (bAtt σ v1 v4)]) (rest := []) ⟨hx, hb, hml, hown, hta⟩ (c_Insp_markOf l w σ (bAtt σ v1 v4)  _ hI hE) ok_Insp_85 ⟨Nat.le_of_ble_eq_true rfl, Nat.le_of_ble_eq_true rfl⟩ blind_fW (va_recv hK hP (ci := 5) (q0 := 14) rfl rfl) (fW_of hP hK hC hS) rfl hl.1 rfl (Nat.le_of_ble_eq_true rfl) d_Insp_hasFitAttributes_34 ⟨Nat.zero_le _, Nat.zero_le _⟩ (fun r34 hE => ?_)
        refine lv_istore (lv' := [(6, .int r34), (5, .int (bAtt σ v1 v4)), (0, .ref (wA w 14)), (1, .int v1), (2, va_re (wE w) v2), (3, .int v3), (4, .int v4)]) hx hb d_Insp_hasFitAttributes_37 hl (by decide) rfl (fun ls hl => ?_)
        refine lv_iload hx hb d_Insp_hasFitAttributes_39 (lv_at hl 0 rfl) ?_
        refine lv_if_eq (tgt := 77) hx hb d_Insp_hasFitAttributes_41 (by decide) (fun cc41 => ?_) (fun cc41 => ?_)
        · have hE := hE.1 cc41
          refine lv_iconst (v := 0) hx hb d_Insp_hasFitAttributes_77 (by decide) ?_
          exact W.zret (v := 0) hx hb hr rfl (fun t ht hW => ⟨_, rfl, hE, ht⟩) (fun q h => by cases h) d_Insp_hasFitAttributes_78
        · have hE := hE.2 cc41
          refine lv_iload hx hb d_Insp_hasFitAttributes_44 (lv_at hl 0 rfl) ?_
          refine lv_iconst (v := 1) hx hb d_Insp_hasFitAttributes_46 (by decide) ?_
          refine lv_icmp_ne (tgt := 61) hx hb d_Insp_hasFitAttributes_47 (by decide) (fun cc47 => ?_) (fun cc47 => ?_)
          · have hE := hE.2 cc47
            exact J61  v3 v4 (bAtt σ v1 v4) r34 _ (lv_sub hl [2, 3, 4, 5, 6, 1, 0] rfl) hE
          · have hE := hE.1 cc47
            refine lv_aload_n hx hb d_Insp_hasFitAttributes_50 rfl (lv_at hl 2 rfl) ?_
            refine lv_iload hx hb d_Insp_hasFitAttributes_51 (lv_at hl 1 rfl) ?_
            refine lv_iconst (v := 0) hx hb d_Insp_hasFitAttributes_53 (by decide) ?_
            refine lv_iload_n hx hb d_Insp_hasFitAttributes_54 rfl (lv_at hl 3 rfl) ?_
            refine ro_V (b0 := (wA w 14)) (As := [.int (bAtt σ v1 v4), .int 0, .int v1]) (rest := []) ⟨hx, hb, hml, hown, hta⟩ (c_Insp_isIdAhead l w σ (bAtt σ v1 v4) 0 v1  _ hI hE) ok_Insp_68 ⟨Nat.le_of_ble_eq_true rfl, Nat.le_of_ble_eq_true rfl⟩ blind_fW (va_recv hK hP (ci := 5) (q0 := 14) rfl rfl) (fW_of hP hK hC hS) rfl hl.1 rfl (Nat.le_of_ble_eq_true rfl) d_Insp_hasFitAttributes_55 ⟨Nat.zero_le _, Nat.zero_le _⟩ (fun r55 hE => ?_)
            refine lv_if_ne (tgt := 77) hx hb d_Insp_hasFitAttributes_58 (by decide) (fun cc58 => ?_) (fun cc58 => ?_)
            · have hE := hE.2 cc58
              refine lv_iconst (v := 0) hx hb d_Insp_hasFitAttributes_77 (by decide) ?_
              exact W.zret (v := 0) hx hb hr rfl (fun t ht hW => ⟨_, rfl, hE, ht⟩) (fun q h => by cases h) d_Insp_hasFitAttributes_78
            · have hE := hE.1 cc58
              exact J61  v3 v4 (bAtt σ v1 v4) r34 _ (lv_sub hl [2, 3, 4, 5, 6, 1, 0] rfl) hE
  unfold w_Insp_hasFitAttributes at hE
  refine lv_iconst (v := 0) hx hb d_Insp_hasFitAttributes_0 (by decide) ?_
  refine lv_istore_n (lv' := [(3, .int 0), (0, .ref (wA w 14)), (1, .int x0), (2, va_re (wE w) x1)]) hx hb d_Insp_hasFitAttributes_1 rfl hl (by decide) (by cases x1 <;> rfl) (fun ls hl => ?_)
  refine lv_iconst (v := 0) hx hb d_Insp_hasFitAttributes_2 (by decide) ?_
  refine lv_istore (lv' := [(4, .int 0), (3, .int 0), (0, .ref (wA w 14)), (1, .int x0), (2, va_re (wE w) x1)]) hx hb d_Insp_hasFitAttributes_3 hl (by decide) rfl (fun ls hl => ?_)
  obtain ⟨n5, hE⟩ := hE
  exact L5 x0 x1 n5 0 0 _ (lv_sub hl [2, 3, 4, 1, 0] rfl) hE
theorem ok_Insp_38 : okV "PlainPages$Inspector" 38 R_Book y_Book_isElement b_Book_isElement 2 (some .boolean) 1 := ⟨aW_in 772 (by decide +kernel) rfl, aW_in 773 (by decide +kernel) rfl, aW_in 774 (by decide +kernel) rfl, aW_in 87 (by decide +kernel) rfl, cd_Book_isElement, rfl, by decide +kernel, by decide +kernel, by decide +kernel⟩
theorem d_Insp_holdsWhatItMust_0 : decode b_Insp_holdsWhatItMust 0 = .ok (.aload_n 2, 1) := by decide +kernel
theorem d_Insp_holdsWhatItMust_1 : decode b_Insp_holdsWhatItMust 1 = .ok (.sipush 1024, 3) := by decide +kernel
theorem d_Insp_holdsWhatItMust_4 : decode b_Insp_holdsWhatItMust 4 = .ok (.invokevirtual 76, 3) := by decide +kernel
theorem d_Insp_holdsWhatItMust_7 : decode b_Insp_holdsWhatItMust 7 = .ok (.ifCond .ne 5, 3) := by decide +kernel
theorem d_Insp_holdsWhatItMust_10 : decode b_Insp_holdsWhatItMust 10 = .ok (.iconst 1, 1) := by decide +kernel
theorem d_Insp_holdsWhatItMust_11 : decode b_Insp_holdsWhatItMust 11 = .ok (.ireturn, 1) := by decide +kernel
theorem d_Insp_holdsWhatItMust_12 : decode b_Insp_holdsWhatItMust 12 = .ok (.aload_n 2, 1) := by decide +kernel
theorem d_Insp_holdsWhatItMust_13 : decode b_Insp_holdsWhatItMust 13 = .ok (.getfield 119, 3) := by decide +kernel
theorem d_Insp_holdsWhatItMust_16 : decode b_Insp_holdsWhatItMust 16 = .ok (.sipush 255, 3) := by decide +kernel
theorem d_Insp_holdsWhatItMust_19 : decode b_Insp_holdsWhatItMust 19 = .ok (.iand, 1) := by decide +kernel
theorem d_Insp_holdsWhatItMust_20 : decode b_Insp_holdsWhatItMust 20 = .ok (.istore_n 3, 1) := by decide +kernel
theorem d_Insp_holdsWhatItMust_21 : decode b_Insp_holdsWhatItMust 21 = .ok (.iload_n 1, 1) := by decide +kernel
theorem d_Insp_holdsWhatItMust_22 : decode b_Insp_holdsWhatItMust 22 = .ok (.iconst 1, 1) := by decide +kernel
theorem d_Insp_holdsWhatItMust_23 : decode b_Insp_holdsWhatItMust 23 = .ok (.iadd, 1) := by decide +kernel
theorem d_Insp_holdsWhatItMust_24 : decode b_Insp_holdsWhatItMust 24 = .ok (.istore 4, 2) := by decide +kernel
theorem d_Insp_holdsWhatItMust_26 : decode b_Insp_holdsWhatItMust 26 = .ok (.iload 4, 2) := by decide +kernel
theorem d_Insp_holdsWhatItMust_28 : decode b_Insp_holdsWhatItMust 28 = .ok (.aload_n 0, 1) := by decide +kernel
theorem d_Insp_holdsWhatItMust_29 : decode b_Insp_holdsWhatItMust 29 = .ok (.getfield 9, 3) := by decide +kernel
theorem d_Insp_holdsWhatItMust_32 : decode b_Insp_holdsWhatItMust 32 = .ok (.iload_n 1, 1) := by decide +kernel
theorem d_Insp_holdsWhatItMust_33 : decode b_Insp_holdsWhatItMust 33 = .ok (.bipush 10, 2) := by decide +kernel
theorem d_Insp_holdsWhatItMust_35 : decode b_Insp_holdsWhatItMust 35 = .ok (.invokevirtual 42, 3) := by decide +kernel
theorem d_Insp_holdsWhatItMust_38 : decode b_Insp_holdsWhatItMust 38 = .ok (.if_icmp .ge 75, 3) := by decide +kernel
theorem d_Insp_holdsWhatItMust_41 : decode b_Insp_holdsWhatItMust 41 = .ok (.aload_n 0, 1) := by decide +kernel
theorem d_Insp_holdsWhatItMust_42 : decode b_Insp_holdsWhatItMust 42 = .ok (.getfield 9, 3) := by decide +kernel
theorem d_Insp_holdsWhatItMust_45 : decode b_Insp_holdsWhatItMust 45 = .ok (.iload 4, 2) := by decide +kernel
theorem d_Insp_holdsWhatItMust_47 : decode b_Insp_holdsWhatItMust 47 = .ok (.iconst 1, 1) := by decide +kernel
theorem d_Insp_holdsWhatItMust_48 : decode b_Insp_holdsWhatItMust 48 = .ok (.invokevirtual 42, 3) := by decide +kernel
theorem d_Insp_holdsWhatItMust_51 : decode b_Insp_holdsWhatItMust 51 = .ok (.iload_n 1, 1) := by decide +kernel
theorem d_Insp_holdsWhatItMust_52 : decode b_Insp_holdsWhatItMust 52 = .ok (.if_icmp .ne 55, 3) := by decide +kernel
theorem d_Insp_holdsWhatItMust_55 : decode b_Insp_holdsWhatItMust 55 = .ok (.aload_n 0, 1) := by decide +kernel
theorem d_Insp_holdsWhatItMust_56 : decode b_Insp_holdsWhatItMust 56 = .ok (.getfield 9, 3) := by decide +kernel
theorem d_Insp_holdsWhatItMust_59 : decode b_Insp_holdsWhatItMust 59 = .ok (.iload 4, 2) := by decide +kernel
theorem d_Insp_holdsWhatItMust_61 : decode b_Insp_holdsWhatItMust 61 = .ok (.invokevirtual 38, 3) := by decide +kernel
theorem d_Insp_holdsWhatItMust_64 : decode b_Insp_holdsWhatItMust 64 = .ok (.ifCond .eq 43, 3) := by decide +kernel
theorem d_Insp_holdsWhatItMust_67 : decode b_Insp_holdsWhatItMust 67 = .ok (.iload_n 3, 1) := by decide +kernel
theorem d_Insp_holdsWhatItMust_68 : decode b_Insp_holdsWhatItMust 68 = .ok (.iload_n 3, 1) := by decide +kernel
theorem d_Insp_holdsWhatItMust_69 : decode b_Insp_holdsWhatItMust 69 = .ok (.ineg, 1) := by decide +kernel
theorem d_Insp_holdsWhatItMust_70 : decode b_Insp_holdsWhatItMust 70 = .ok (.iand, 1) := by decide +kernel
theorem d_Insp_holdsWhatItMust_71 : decode b_Insp_holdsWhatItMust 71 = .ok (.istore 5, 2) := by decide +kernel
theorem d_Insp_holdsWhatItMust_73 : decode b_Insp_holdsWhatItMust 73 = .ok (.aload_n 0, 1) := by decide +kernel
theorem d_Insp_holdsWhatItMust_74 : decode b_Insp_holdsWhatItMust 74 = .ok (.getfield 9, 3) := by decide +kernel
theorem d_Insp_holdsWhatItMust_77 : decode b_Insp_holdsWhatItMust 77 = .ok (.iload 4, 2) := by decide +kernel
theorem d_Insp_holdsWhatItMust_79 : decode b_Insp_holdsWhatItMust 79 = .ok (.invokevirtual 21, 3) := by decide +kernel
theorem d_Insp_holdsWhatItMust_82 : decode b_Insp_holdsWhatItMust 82 = .ok (.astore 6, 2) := by decide +kernel
theorem d_Insp_holdsWhatItMust_84 : decode b_Insp_holdsWhatItMust 84 = .ok (.aload 6, 2) := by decide +kernel
theorem d_Insp_holdsWhatItMust_86 : decode b_Insp_holdsWhatItMust 86 = .ok (.ifnull 14, 3) := by decide +kernel
theorem d_Insp_holdsWhatItMust_89 : decode b_Insp_holdsWhatItMust 89 = .ok (.aload 6, 2) := by decide +kernel
theorem d_Insp_holdsWhatItMust_91 : decode b_Insp_holdsWhatItMust 91 = .ok (.getfield 72, 3) := by decide +kernel
theorem d_Insp_holdsWhatItMust_94 : decode b_Insp_holdsWhatItMust 94 = .ok (.iload 5, 2) := by decide +kernel
theorem d_Insp_holdsWhatItMust_96 : decode b_Insp_holdsWhatItMust 96 = .ok (.iand, 1) := by decide +kernel
theorem d_Insp_holdsWhatItMust_97 : decode b_Insp_holdsWhatItMust 97 = .ok (.ifCond .ne 5, 3) := by decide +kernel
theorem d_Insp_holdsWhatItMust_100 : decode b_Insp_holdsWhatItMust 100 = .ok (.iconst 0, 1) := by decide +kernel
theorem d_Insp_holdsWhatItMust_101 : decode b_Insp_holdsWhatItMust 101 = .ok (.ireturn, 1) := by decide +kernel
theorem d_Insp_holdsWhatItMust_102 : decode b_Insp_holdsWhatItMust 102 = .ok (.iload_n 3, 1) := by decide +kernel
theorem d_Insp_holdsWhatItMust_103 : decode b_Insp_holdsWhatItMust 103 = .ok (.iload 5, 2) := by decide +kernel
theorem d_Insp_holdsWhatItMust_105 : decode b_Insp_holdsWhatItMust 105 = .ok (.isub, 1) := by decide +kernel
theorem d_Insp_holdsWhatItMust_106 : decode b_Insp_holdsWhatItMust 106 = .ok (.istore_n 3, 1) := by decide +kernel
theorem d_Insp_holdsWhatItMust_107 : decode b_Insp_holdsWhatItMust 107 = .ok (.iinc 4 1, 3) := by decide +kernel
theorem d_Insp_holdsWhatItMust_110 : decode b_Insp_holdsWhatItMust 110 = .ok (.goto (-84), 3) := by decide +kernel
theorem d_Insp_holdsWhatItMust_113 : decode b_Insp_holdsWhatItMust 113 = .ok (.iload_n 3, 1) := by decide +kernel
theorem d_Insp_holdsWhatItMust_114 : decode b_Insp_holdsWhatItMust 114 = .ok (.ifCond .ne 7, 3) := by decide +kernel
theorem d_Insp_holdsWhatItMust_117 : decode b_Insp_holdsWhatItMust 117 = .ok (.iconst 1, 1) := by decide +kernel
theorem d_Insp_holdsWhatItMust_118 : decode b_Insp_holdsWhatItMust 118 = .ok (.goto 4, 3) := by decide +kernel
theorem d_Insp_holdsWhatItMust_121 : decode b_Insp_holdsWhatItMust 121 = .ok (.iconst 0, 1) := by decide +kernel
theorem d_Insp_holdsWhatItMust_122 : decode b_Insp_holdsWhatItMust 122 = .ok (.ireturn, 1) := by decide +kernel
def w_Insp_holdsWhatItMust_J107  (σ : PPS) (v1 : Int32) (K26 : Int32 → Int32 → Prop) (post : Int32 → Prop) (v3 : Int32) (v4 : Int32) : Prop := K26 v3 (v4 + 1)
def w_Insp_holdsWhatItMust_L26  (σ : PPS) (v1 : Int32) (post : Int32 → Prop) : Nat → Int32 → Int32 → Prop
  | 0, _, _ => False
  | n26 + 1, v3, v4 => (((tGet 14 (pNd σ) v1 10) ≤ v4 → ((v3 = 0 → post 1) ∧ (¬ v3 = 0 → post 0))) ∧ (¬ (tGet 14 (pNd σ) v1 10) ≤ v4 → (((tGet 14 (pNd σ) v4 1) = v1 → (((b2i (bEle σ v4)) = 0 → w_Insp_holdsWhatItMust_J107 σ v1 (w_Insp_holdsWhatItMust_L26 σ v1 post n26) post v3 v4) ∧ (¬ (b2i (bEle σ v4)) = 0 → (∀ r79, r79 = bKind σ v4 → ((r79 = none → post 0) ∧ (¬ r79 = none → (∃ k91, r79 = some k91 ∧ k91 < 23 ∧ ((((kAs.getD k91 0) &&& (v3 &&& (-v3))) = 0 → post 0) ∧ (¬ ((kAs.getD k91 0) &&& (v3 &&& (-v3))) = 0 → w_Insp_holdsWhatItMust_J107 σ v1 (w_Insp_holdsWhatItMust_L26 σ v1 post n26) post (v3 - (v3 &&& (-v3))) v4))))))))) ∧ (¬ (tGet 14 (pNd σ) v4 1) = v1 → w_Insp_holdsWhatItMust_J107 σ v1 (w_Insp_holdsWhatItMust_L26 σ v1 post n26) post v3 v4))))
def w_Insp_holdsWhatItMust  (σ : PPS) (x0 : Int32) (x1 : Option Nat) (post : Int32 → Prop) : Prop := (∃ k4, x1 = some k4 ∧ k4 < 23 ∧ (((b2i (kSays k4 1024)) = 0 → post 1) ∧ (¬ (b2i (kSays k4 1024)) = 0 → (k4 < 23 ∧ (∃ n26, w_Insp_holdsWhatItMust_L26 σ x0 post n26 ((kHo.getD k4 0) &&& 255) (x0 + 1))))))
set_option maxHeartbeats 4000000 in
set_option maxRecDepth 100000 in
theorem c_Insp_holdsWhatItMust (l : Launch) (w : WD) (σ : PPS) (x0 : Int32) (x1 : Option Nat)  (post : Int32 → Prop) (hI : inv σ) (hE : w_Insp_holdsWhatItMust σ x0 x1 post) : Met l y_Insp_holdsWhatItMust ws_Insp_holdsWhatItMust { frames := 2, cells := 0, slots := 0, locals := 45 } (va_Pc [.ref (wA w 14), .int x0, va_re (wE w) x1] (fW w σ)) (vp_Si post) 0 0 (fun _ => False) := by
  refine Met.ofW (cc := b_Insp_holdsWhatItMust) (maxL := 7) (ret := (some .boolean)) (by decide) rfl ?_
  intro p e s m args below meth c s₁ B hml hv
  obtain ⟨rfl, hP, hK, hC⟩ := hv
  have hS : va_S (fun _ : Nat => False) s.heap s.heap [] := va_S.rf
  have hx := B.exec
  have hb := B.bytes
  have hr := B.returns
  have hta : ∀ w ∈ aW, w.before _ s = true := fun w h => atoms_spec (ws := ws_Insp_holdsWhatItMust) B.pre w (List.mem_cons_of_mem _ h)
  have hown : s.vm.findClass R_Insp = some m.cls := findClass_of_methodNamed B.named
  have hlocks := B.notSynchronized
  have hl := lv_entry ([.ref (wA w 14), .int x0, va_re (wE w) x1]) (n := 7) (by cases x1 <;> exact Nat.le_of_ble_eq_true rfl)
  rw [lg_entry_eq]
  generalize (lg_sl ([.ref (wA w 14), .int x0, va_re (wE w) x1]) ++ List.replicate (7 - (lg_sl ([.ref (wA w 14), .int x0, va_re (wE w) x1])).length) Slot.unset).toArray = ls at hl ⊢
  have hl : lv_has ls 7 [(0, .ref (wA w 14)), (1, .int x0), (2, va_re (wE w) x1)] := hl
  have L26 : ∀ (v1 : Int32) (n26 : Nat) (v3 : Int32) (v4 : Int32) (ls : Array Slot) (hl : lv_has ls 7 [(0, .ref (wA w 14)), (1, .int v1), (3, .int v3), (4, .int v4)]) (hE : w_Insp_holdsWhatItMust_L26 σ v1 post n26 v3 v4), W p l e (headSpec ws_Insp_holdsWhatItMust { frames := 2, cells := 0, slots := 0, locals := 45 }).room s m ([.ref (wA w 14), .int x0, va_re (wE w) x1] : List Value).toArray below meth c s.heap [] 0 0 (MQ below (vp_Si post) ([.ref (wA w 14), .int x0, va_re (wE w) x1] : List Value).toArray s 0 0 (fun _ => False)) (F0 m 26 ls []) := by
    intro v1 n26
    induction n26 with
    | zero => intro v3 v4 ls hl hE; exact hE.elim
    | succ n26 ih26 =>
      have J107 : ∀ (v3 : Int32) (v4 : Int32) (ls : Array Slot) (hl : lv_has ls 7 [(0, .ref (wA w 14)), (1, .int v1), (3, .int v3), (4, .int v4)]) (hE : w_Insp_holdsWhatItMust_J107 σ v1 (w_Insp_holdsWhatItMust_L26 σ v1 post n26) post v3 v4), W p l e (headSpec ws_Insp_holdsWhatItMust { frames := 2, cells := 0, slots := 0, locals := 45 }).room s m ([.ref (wA w 14), .int x0, va_re (wE w) x1] : List Value).toArray below meth c s.heap [] 0 0 (MQ below (vp_Si post) ([.ref (wA w 14), .int x0, va_re (wE w) x1] : List Value).toArray s 0 0 (fun _ => False)) (F0 m 107 ls []) := by
        intro  v3 v4 ls hl hE
        unfold w_Insp_holdsWhatItMust_J107 at hE
        refine lv_iinc (v := v4 + 1) (lv' := [(4, .int (v4 + 1)), (0, .ref (wA w 14)), (1, .int v1), (3, .int v3)]) hx hb d_Insp_holdsWhatItMust_107 hl (k := 3) rfl rfl (by decide) rfl (fun ls hl => ?_)
        refine lv_goto (tgt := 26) hx hb d_Insp_holdsWhatItMust_110 (by decide) ?_
        exact ih26 v3 (v4 + 1) _ (lv_sub hl [1, 2, 3, 0] rfl) hE
      intro v3 v4 ls hl hE
      unfold w_Insp_holdsWhatItMust_L26 at hE
      refine lv_iload hx hb d_Insp_holdsWhatItMust_26 (lv_at hl 3 rfl) ?_
      refine lv_aload_n hx hb d_Insp_holdsWhatItMust_28 rfl (lv_at hl 0 rfl) ?_
      refine va_get (D := (wG w)) (ci := 5) (v := .ref (wA w 6)) (C := R_Insp) (T := F_Insp) (N := 1) hx hb hta i_Insp hown hK hP 14 rfl rfl 0 (by decide) (hta _ fl_Insp_9) (fun _ h9 => h9) rfl d_Insp_holdsWhatItMust_29 ?_
      refine lv_iload_n hx hb d_Insp_holdsWhatItMust_32 rfl (lv_at hl 1 rfl) ?_
      refine lv_bipush (v := 10) hx hb d_Insp_holdsWhatItMust_33 (by decide) ?_
      refine ro_V (b0 := (wA w 6)) (As := [.int v1, .int 10]) (rest := [.int v4]) ⟨hx, hb, hml, hown, hta⟩ (f_Book_ofNode l w σ v1 10 hI) ok_Insp_42 ⟨Nat.le_of_ble_eq_true rfl, Nat.le_of_ble_eq_true rfl⟩ blind_fW (va_recv hK hP (ci := 3) (q0 := 6) rfl rfl) (fW_of hP hK hC hS) rfl hl.1 rfl (Nat.le_of_ble_eq_true rfl) d_Insp_holdsWhatItMust_35 ⟨Nat.zero_le _, Nat.zero_le _⟩ (fun r35 hrr => ?_)
      subst hrr
      refine lv_icmp_ge (tgt := 113) hx hb d_Insp_holdsWhatItMust_38 (by decide) (fun cc38 => ?_) (fun cc38 => ?_)
      · have hE := hE.1 cc38
        refine lv_iload_n hx hb d_Insp_holdsWhatItMust_113 rfl (lv_at hl 2 rfl) ?_
        refine lv_if_ne (tgt := 121) hx hb d_Insp_holdsWhatItMust_114 (by decide) (fun cc114 => ?_) (fun cc114 => ?_)
        · have hE := hE.2 cc114
          refine lv_iconst (v := 0) hx hb d_Insp_holdsWhatItMust_121 (by decide) ?_
          exact W.zret (v := 0) hx hb hr rfl (fun t ht hW => ⟨_, rfl, hE, ht⟩) (fun q h => by cases h) d_Insp_holdsWhatItMust_122
        · have hE := hE.1 cc114
          refine lv_iconst (v := 1) hx hb d_Insp_holdsWhatItMust_117 (by decide) ?_
          refine lv_goto (tgt := 122) hx hb d_Insp_holdsWhatItMust_118 (by decide) ?_
          exact W.zret (v := 1) hx hb hr rfl (fun t ht hW => ⟨_, rfl, hE, ht⟩) (fun q h => by cases h) d_Insp_holdsWhatItMust_122
      · have hE := hE.2 cc38
        refine lv_aload_n hx hb d_Insp_holdsWhatItMust_41 rfl (lv_at hl 0 rfl) ?_
        refine va_get (D := (wG w)) (ci := 5) (v := .ref (wA w 6)) (C := R_Insp) (T := F_Insp) (N := 1) hx hb hta i_Insp hown hK hP 14 rfl rfl 0 (by decide) (hta _ fl_Insp_9) (fun _ h9 => h9) rfl d_Insp_holdsWhatItMust_42 ?_
        refine lv_iload hx hb d_Insp_holdsWhatItMust_45 (lv_at hl 3 rfl) ?_
        refine lv_iconst (v := 1) hx hb d_Insp_holdsWhatItMust_47 (by decide) ?_
        refine ro_V (b0 := (wA w 6)) (As := [.int v4, .int 1]) (rest := []) ⟨hx, hb, hml, hown, hta⟩ (f_Book_ofNode l w σ v4 1 hI) ok_Insp_42 ⟨Nat.le_of_ble_eq_true rfl, Nat.le_of_ble_eq_true rfl⟩ blind_fW (va_recv hK hP (ci := 3) (q0 := 6) rfl rfl) (fW_of hP hK hC hS) rfl hl.1 rfl (Nat.le_of_ble_eq_true rfl) d_Insp_holdsWhatItMust_48 ⟨Nat.zero_le _, Nat.zero_le _⟩ (fun r48 hrr => ?_)
        subst hrr
        refine lv_iload_n hx hb d_Insp_holdsWhatItMust_51 rfl (lv_at hl 1 rfl) ?_
        refine lv_icmp_ne (tgt := 107) hx hb d_Insp_holdsWhatItMust_52 (by decide) (fun cc52 => ?_) (fun cc52 => ?_)
        · have hE := hE.2 cc52
          exact J107  v3 v4 _ (lv_sub hl [0, 1, 2, 3] rfl) hE
        · have hE := hE.1 cc52
          refine lv_aload_n hx hb d_Insp_holdsWhatItMust_55 rfl (lv_at hl 0 rfl) ?_
          refine va_get (D := (wG w)) (ci := 5) (v := .ref (wA w 6)) (C := R_Insp) (T := F_Insp) (N := 1) hx hb hta i_Insp hown hK hP 14 rfl rfl 0 (by decide) (hta _ fl_Insp_9) (fun _ h9 => h9) rfl d_Insp_holdsWhatItMust_56 ?_
          refine lv_iload hx hb d_Insp_holdsWhatItMust_59 (lv_at hl 3 rfl) ?_
          refine ro_V (b0 := (wA w 6)) (As := [.int v4]) (rest := []) ⟨hx, hb, hml, hown, hta⟩ (f_Book_isElement l w σ v4 hI) ok_Insp_38 ⟨Nat.le_of_ble_eq_true rfl, Nat.le_of_ble_eq_true rfl⟩ blind_fW (va_recv hK hP (ci := 3) (q0 := 6) rfl rfl) (fW_of hP hK hC hS) rfl hl.1 rfl (Nat.le_of_ble_eq_true rfl) d_Insp_holdsWhatItMust_61 ⟨Nat.zero_le _, Nat.zero_le _⟩ (fun r61 hrr => ?_)
          subst hrr
          refine lv_if_eq (tgt := 107) hx hb d_Insp_holdsWhatItMust_64 (by decide) (fun cc64 => ?_) (fun cc64 => ?_)
          · have hE := hE.1 cc64
            exact J107  v3 v4 _ (lv_sub hl [0, 1, 2, 3] rfl) hE
          · have hE := hE.2 cc64
            refine lv_iload_n hx hb d_Insp_holdsWhatItMust_67 rfl (lv_at hl 2 rfl) ?_
            refine lv_iload_n hx hb d_Insp_holdsWhatItMust_68 rfl (lv_at hl 2 rfl) ?_
            refine lv_ineg hx hb d_Insp_holdsWhatItMust_69 ?_
            refine lv_iand hx hb d_Insp_holdsWhatItMust_70 ?_
            refine lv_istore (lv' := [(5, .int (v3 &&& (-v3))), (0, .ref (wA w 14)), (1, .int v1), (3, .int v3), (4, .int v4)]) hx hb d_Insp_holdsWhatItMust_71 hl (by decide) rfl (fun ls hl => ?_)
            refine lv_aload_n hx hb d_Insp_holdsWhatItMust_73 rfl (lv_at hl 1 rfl) ?_
            refine va_get (D := (wG w)) (ci := 5) (v := .ref (wA w 6)) (C := R_Insp) (T := F_Insp) (N := 1) hx hb hta i_Insp hown hK hP 14 rfl rfl 0 (by decide) (hta _ fl_Insp_9) (fun _ h9 => h9) rfl d_Insp_holdsWhatItMust_74 ?_
            refine lv_iload hx hb d_Insp_holdsWhatItMust_77 (lv_at hl 4 rfl) ?_
            refine roQ_V (b0 := (wA w 6)) (As := [.int v4]) (rest := []) ⟨hx, hb, hml, hown, hta⟩ (f_Book_kindOf l w σ v4 hI) ok_Insp_21 ⟨Nat.le_of_ble_eq_true rfl, Nat.le_of_ble_eq_true rfl⟩ blind_fW (va_recv hK hP (ci := 3) (q0 := 6) rfl rfl) (fW_of hP hK hC hS) rfl hl.1 rfl (Nat.le_of_ble_eq_true rfl) d_Insp_holdsWhatItMust_79 ⟨Nat.zero_le _, Nat.zero_le _⟩ (fun r79 hrr => ?_)
            have hE := hE r79 hrr
            refine lv_astoreQ (lv' := [(6, va_re (wE w) r79), (5, .int (v3 &&& (-v3))), (0, .ref (wA w 14)), (1, .int v1), (3, .int v3), (4, .int v4)]) hx hb d_Insp_holdsWhatItMust_82 hl (by decide) rfl (fun ls hl => ?_)
            refine lv_aloadQ hx hb d_Insp_holdsWhatItMust_84 (lv_at hl 0 rfl) ?_
            refine lv_ifnullQ (tgt := 100) hx hb d_Insp_holdsWhatItMust_86 (by decide) (fun cc86 => ?_) (fun cc86 => ?_)
            · have hE := hE.1 cc86
              refine lv_iconst (v := 0) hx hb d_Insp_holdsWhatItMust_100 (by decide) ?_
              exact W.zret (v := 0) hx hb hr rfl (fun t ht hW => ⟨_, rfl, hE, ht⟩) (fun q h => by cases h) d_Insp_holdsWhatItMust_101
            · have hE := hE.2 cc86
              refine lv_aloadQ hx hb d_Insp_holdsWhatItMust_89 (lv_at hl 0 rfl) ?_
              obtain ⟨k91, rfl, hk91, hE⟩ := hE
              refine k_getN (q := ("PlainPages$Kind", "as", "I", kAs)) hx hb hC rfl hk91 hS hown (by simp [kF]) hC.2.2.2.2.2.2.2.2.2.1 d_Insp_holdsWhatItMust_91 ?_
              refine lv_iload hx hb d_Insp_holdsWhatItMust_94 (lv_at hl 1 rfl) ?_
              refine lv_iand hx hb d_Insp_holdsWhatItMust_96 ?_
              refine lv_if_ne (tgt := 102) hx hb d_Insp_holdsWhatItMust_97 (by decide) (fun cc97 => ?_) (fun cc97 => ?_)
              · have hE := hE.2 cc97
                refine lv_iload_n hx hb d_Insp_holdsWhatItMust_102 rfl (lv_at hl 4 rfl) ?_
                refine lv_iload hx hb d_Insp_holdsWhatItMust_103 (lv_at hl 1 rfl) ?_
                refine lv_isub hx hb d_Insp_holdsWhatItMust_105 ?_
                refine lv_istore_n (lv' := [(3, .int (v3 - (v3 &&& (-v3)))), (6, va_re (wE w) (some k91)), (5, .int (v3 &&& (-v3))), (0, .ref (wA w 14)), (1, .int v1), (4, .int v4)]) hx hb d_Insp_holdsWhatItMust_106 rfl hl (by decide) rfl (fun ls hl => ?_)
                exact J107  (v3 - (v3 &&& (-v3))) v4 _ (lv_sub hl [3, 4, 0, 5] rfl) hE
              · have hE := hE.1 cc97
                refine lv_iconst (v := 0) hx hb d_Insp_holdsWhatItMust_100 (by decide) ?_
                exact W.zret (v := 0) hx hb hr rfl (fun t ht hW => ⟨_, rfl, hE, ht⟩) (fun q h => by cases h) d_Insp_holdsWhatItMust_101
  unfold w_Insp_holdsWhatItMust at hE
  refine lv_aload_nQ hx hb d_Insp_holdsWhatItMust_0 rfl (lv_at hl 2 rfl) ?_
  refine lv_sipush (v := 1024) hx hb d_Insp_holdsWhatItMust_1 (by decide) ?_
  obtain ⟨k4, rfl, hk4, hE⟩ := hE
  refine ro_V (b0 := wE w k4) (As := [.int 1024]) (rest := []) ⟨hx, hb, hml, hown, hta⟩ (f_Kind_says l w k4 1024 hk4) ok_Insp_76 ⟨Nat.le_of_ble_eq_true rfl, Nat.le_of_ble_eq_true rfl⟩ blind_cW (k_recv hC hS hk4) (cW_of hC hS) rfl hl.1 rfl (Nat.le_of_ble_eq_true rfl) d_Insp_holdsWhatItMust_4 ⟨Nat.zero_le _, Nat.zero_le _⟩ (fun r4 hrr => ?_)
  subst hrr
  refine lv_if_ne (tgt := 12) hx hb d_Insp_holdsWhatItMust_7 (by decide) (fun cc7 => ?_) (fun cc7 => ?_)
  · have hE := hE.2 cc7
    refine lv_aload_nQ hx hb d_Insp_holdsWhatItMust_12 rfl (lv_at hl 2 rfl) ?_
    obtain ⟨hk13, hE⟩ := hE
    refine k_getN (q := ("PlainPages$Kind", "holding", "I", kHo)) hx hb hC rfl hk13 hS hown (by simp [kF]) hC.2.2.2.2.2.2.2.2.2.2.1 d_Insp_holdsWhatItMust_13 ?_
    refine lv_sipush (v := 255) hx hb d_Insp_holdsWhatItMust_16 (by decide) ?_
    refine lv_iand hx hb d_Insp_holdsWhatItMust_19 ?_
    refine lv_istore_n (lv' := [(3, .int ((kHo.getD k4 0) &&& 255)), (0, .ref (wA w 14)), (1, .int x0), (2, va_re (wE w) (some k4))]) hx hb d_Insp_holdsWhatItMust_20 rfl hl (by decide) rfl (fun ls hl => ?_)
    refine lv_iload_n hx hb d_Insp_holdsWhatItMust_21 rfl (lv_at hl 2 rfl) ?_
    refine lv_iconst (v := 1) hx hb d_Insp_holdsWhatItMust_22 (by decide) ?_
    refine lv_iadd hx hb d_Insp_holdsWhatItMust_23 ?_
    refine lv_istore (lv' := [(4, .int (x0 + 1)), (3, .int ((kHo.getD k4 0) &&& 255)), (0, .ref (wA w 14)), (1, .int x0), (2, va_re (wE w) (some k4))]) hx hb d_Insp_holdsWhatItMust_24 hl (by decide) rfl (fun ls hl => ?_)
    obtain ⟨n26, hE⟩ := hE
    exact L26 x0 n26 ((kHo.getD k4 0) &&& 255) (x0 + 1) _ (lv_sub hl [2, 3, 1, 0] rfl) hE
  · have hE := hE.1 cc7
    refine lv_iconst (v := 1) hx hb d_Insp_holdsWhatItMust_10 (by decide) ?_
    exact W.zret (v := 1) hx hb hr rfl (fun t ht hW => ⟨_, rfl, hE, ht⟩) (fun q h => by cases h) d_Insp_holdsWhatItMust_11
theorem ok_Insp_125 : okS "PlainPages$Inspector" 125 y_Signs_isWhite b_Signs_isWhite 1 (some .boolean) 1 := ⟨aW_in 784 (by decide +kernel) rfl, aW_in 446 (by decide +kernel) rfl, aW_in 97 (by decide +kernel) rfl, cd_Signs_isWhite, by decide +kernel, by decide +kernel, by decide +kernel⟩
theorem d_Insp_isWhiteText_0 : decode b_Insp_isWhiteText 0 = .ok (.aload_n 0, 1) := by decide +kernel
theorem d_Insp_isWhiteText_1 : decode b_Insp_isWhiteText 1 = .ok (.getfield 9, 3) := by decide +kernel
theorem d_Insp_isWhiteText_4 : decode b_Insp_isWhiteText 4 = .ok (.iload_n 1, 1) := by decide +kernel
theorem d_Insp_isWhiteText_5 : decode b_Insp_isWhiteText 5 = .ok (.bipush 8, 2) := by decide +kernel
theorem d_Insp_isWhiteText_7 : decode b_Insp_isWhiteText 7 = .ok (.invokevirtual 42, 3) := by decide +kernel
theorem d_Insp_isWhiteText_10 : decode b_Insp_isWhiteText 10 = .ok (.istore_n 2, 1) := by decide +kernel
theorem d_Insp_isWhiteText_11 : decode b_Insp_isWhiteText 11 = .ok (.aload_n 0, 1) := by decide +kernel
theorem d_Insp_isWhiteText_12 : decode b_Insp_isWhiteText 12 = .ok (.getfield 9, 3) := by decide +kernel
theorem d_Insp_isWhiteText_15 : decode b_Insp_isWhiteText 15 = .ok (.iload_n 1, 1) := by decide +kernel
theorem d_Insp_isWhiteText_16 : decode b_Insp_isWhiteText 16 = .ok (.iconst 3, 1) := by decide +kernel
theorem d_Insp_isWhiteText_17 : decode b_Insp_isWhiteText 17 = .ok (.invokevirtual 42, 3) := by decide +kernel
theorem d_Insp_isWhiteText_20 : decode b_Insp_isWhiteText 20 = .ok (.istore_n 3, 1) := by decide +kernel
theorem d_Insp_isWhiteText_21 : decode b_Insp_isWhiteText 21 = .ok (.iconst 0, 1) := by decide +kernel
theorem d_Insp_isWhiteText_22 : decode b_Insp_isWhiteText 22 = .ok (.istore 4, 2) := by decide +kernel
theorem d_Insp_isWhiteText_24 : decode b_Insp_isWhiteText 24 = .ok (.iload 4, 2) := by decide +kernel
theorem d_Insp_isWhiteText_26 : decode b_Insp_isWhiteText 26 = .ok (.iload_n 3, 1) := by decide +kernel
theorem d_Insp_isWhiteText_27 : decode b_Insp_isWhiteText 27 = .ok (.if_icmp .ge 28, 3) := by decide +kernel
theorem d_Insp_isWhiteText_30 : decode b_Insp_isWhiteText 30 = .ok (.aload_n 0, 1) := by decide +kernel
theorem d_Insp_isWhiteText_31 : decode b_Insp_isWhiteText 31 = .ok (.getfield 9, 3) := by decide +kernel
theorem d_Insp_isWhiteText_34 : decode b_Insp_isWhiteText 34 = .ok (.iload_n 2, 1) := by decide +kernel
theorem d_Insp_isWhiteText_35 : decode b_Insp_isWhiteText 35 = .ok (.iload_n 3, 1) := by decide +kernel
theorem d_Insp_isWhiteText_36 : decode b_Insp_isWhiteText 36 = .ok (.iload 4, 2) := by decide +kernel
theorem d_Insp_isWhiteText_38 : decode b_Insp_isWhiteText 38 = .ok (.invokevirtual 64, 3) := by decide +kernel
theorem d_Insp_isWhiteText_41 : decode b_Insp_isWhiteText 41 = .ok (.invokestatic 125, 3) := by decide +kernel
theorem d_Insp_isWhiteText_44 : decode b_Insp_isWhiteText 44 = .ok (.ifCond .ne 5, 3) := by decide +kernel
theorem d_Insp_isWhiteText_47 : decode b_Insp_isWhiteText 47 = .ok (.iconst 0, 1) := by decide +kernel
theorem d_Insp_isWhiteText_48 : decode b_Insp_isWhiteText 48 = .ok (.ireturn, 1) := by decide +kernel
theorem d_Insp_isWhiteText_49 : decode b_Insp_isWhiteText 49 = .ok (.iinc 4 1, 3) := by decide +kernel
theorem d_Insp_isWhiteText_52 : decode b_Insp_isWhiteText 52 = .ok (.goto (-28), 3) := by decide +kernel
theorem d_Insp_isWhiteText_55 : decode b_Insp_isWhiteText 55 = .ok (.iconst 1, 1) := by decide +kernel
theorem d_Insp_isWhiteText_56 : decode b_Insp_isWhiteText 56 = .ok (.ireturn, 1) := by decide +kernel
def w_Insp_isWhiteText_L24  (σ : PPS) (v2 : Int32) (v3 : Int32) (post : Int32 → Prop) : Nat → Int32 → Prop
  | 0, _ => False
  | n24 + 1, v4 => ((v3 ≤ v4 → post 1) ∧ (¬ v3 ≤ v4 → (((b2i (cWh (bLet σ v2 v3 v4))) = 0 → post 0) ∧ (¬ (b2i (cWh (bLet σ v2 v3 v4))) = 0 → w_Insp_isWhiteText_L24 σ v2 v3 post n24 (v4 + 1)))))
def w_Insp_isWhiteText  (σ : PPS) (x0 : Int32) (post : Int32 → Prop) : Prop := (∃ n24, w_Insp_isWhiteText_L24 σ (tGet 14 (pNd σ) x0 8) (tGet 14 (pNd σ) x0 3) post n24 0)
set_option maxHeartbeats 4000000 in
set_option maxRecDepth 100000 in
theorem c_Insp_isWhiteText (l : Launch) (w : WD) (σ : PPS) (x0 : Int32)  (post : Int32 → Prop) (hI : inv σ) (hE : w_Insp_isWhiteText σ x0 post) : Met l y_Insp_isWhiteText ws_Insp_isWhiteText { frames := 2, cells := 0, slots := 0, locals := 45 } (va_Pc [.ref (wA w 14), .int x0] (fW w σ)) (vp_Si post) 0 0 (fun _ => False) := by
  refine Met.ofW (cc := b_Insp_isWhiteText) (maxL := 5) (ret := (some .boolean)) (by decide) rfl ?_
  intro p e s m args below meth c s₁ B hml hv
  obtain ⟨rfl, hP, hK, hC⟩ := hv
  have hS : va_S (fun _ : Nat => False) s.heap s.heap [] := va_S.rf
  have hx := B.exec
  have hb := B.bytes
  have hr := B.returns
  have hta : ∀ w ∈ aW, w.before _ s = true := fun w h => atoms_spec (ws := ws_Insp_isWhiteText) B.pre w (List.mem_cons_of_mem _ h)
  have hown : s.vm.findClass R_Insp = some m.cls := findClass_of_methodNamed B.named
  have hlocks := B.notSynchronized
  have hl := lv_entry ([.ref (wA w 14), .int x0]) (n := 5) (Nat.le_of_ble_eq_true rfl)
  rw [lg_entry_eq]
  generalize (lg_sl ([.ref (wA w 14), .int x0]) ++ List.replicate (5 - (lg_sl ([.ref (wA w 14), .int x0])).length) Slot.unset).toArray = ls at hl ⊢
  have hl : lv_has ls 5 [(0, .ref (wA w 14)), (1, .int x0)] := hl
  have L24 : ∀ (v2 : Int32) (v3 : Int32) (n24 : Nat) (v4 : Int32) (ls : Array Slot) (hl : lv_has ls 5 [(0, .ref (wA w 14)), (2, .int v2), (3, .int v3), (4, .int v4)]) (hE : w_Insp_isWhiteText_L24 σ v2 v3 post n24 v4), W p l e (headSpec ws_Insp_isWhiteText { frames := 2, cells := 0, slots := 0, locals := 45 }).room s m ([.ref (wA w 14), .int x0] : List Value).toArray below meth c s.heap [] 0 0 (MQ below (vp_Si post) ([.ref (wA w 14), .int x0] : List Value).toArray s 0 0 (fun _ => False)) (F0 m 24 ls []) := by
    intro v2 v3 n24
    induction n24 with
    | zero => intro v4 ls hl hE; exact hE.elim
    | succ n24 ih24 =>
      intro v4 ls hl hE
      unfold w_Insp_isWhiteText_L24 at hE
      refine lv_iload hx hb d_Insp_isWhiteText_24 (lv_at hl 3 rfl) ?_
      refine lv_iload_n hx hb d_Insp_isWhiteText_26 rfl (lv_at hl 2 rfl) ?_
      refine lv_icmp_ge (tgt := 55) hx hb d_Insp_isWhiteText_27 (by decide) (fun cc27 => ?_) (fun cc27 => ?_)
      · have hE := hE.1 cc27
        refine lv_iconst (v := 1) hx hb d_Insp_isWhiteText_55 (by decide) ?_
        exact W.zret (v := 1) hx hb hr rfl (fun t ht hW => ⟨_, rfl, hE, ht⟩) (fun q h => by cases h) d_Insp_isWhiteText_56
      · have hE := hE.2 cc27
        refine lv_aload_n hx hb d_Insp_isWhiteText_30 rfl (lv_at hl 0 rfl) ?_
        refine va_get (D := (wG w)) (ci := 5) (v := .ref (wA w 6)) (C := R_Insp) (T := F_Insp) (N := 1) hx hb hta i_Insp hown hK hP 14 rfl rfl 0 (by decide) (hta _ fl_Insp_9) (fun _ h9 => h9) rfl d_Insp_isWhiteText_31 ?_
        refine lv_iload_n hx hb d_Insp_isWhiteText_34 rfl (lv_at hl 1 rfl) ?_
        refine lv_iload_n hx hb d_Insp_isWhiteText_35 rfl (lv_at hl 2 rfl) ?_
        refine lv_iload hx hb d_Insp_isWhiteText_36 (lv_at hl 3 rfl) ?_
        refine ro_V (b0 := (wA w 6)) (As := [.int v2, .int v3, .int v4]) (rest := []) ⟨hx, hb, hml, hown, hta⟩ (f_Book_letterAt l w σ v2 v3 v4 hI) ok_Insp_64 ⟨Nat.le_of_ble_eq_true rfl, Nat.le_of_ble_eq_true rfl⟩ blind_fW (va_recv hK hP (ci := 3) (q0 := 6) rfl rfl) (fW_of hP hK hC hS) rfl hl.1 rfl (Nat.le_of_ble_eq_true rfl) d_Insp_isWhiteText_38 ⟨Nat.zero_le _, Nat.zero_le _⟩ (fun r38 hrr => ?_)
        subst hrr
        refine ro_S  (As := [.int (bLet σ v2 v3 v4)]) (rest := []) ⟨hx, hb, hml, hown, hta⟩ (f_Signs_isWhite l (bLet σ v2 v3 v4)) ok_Insp_125 ⟨Nat.le_of_ble_eq_true rfl, Nat.le_of_ble_eq_true rfl⟩ blind_true  (fun _ _ _ => trivial) rfl hl.1 rfl (Nat.le_of_ble_eq_true rfl) d_Insp_isWhiteText_41 ⟨Nat.zero_le _, Nat.zero_le _⟩ (fun r41 hrr => ?_)
        subst hrr
        refine lv_if_ne (tgt := 49) hx hb d_Insp_isWhiteText_44 (by decide) (fun cc44 => ?_) (fun cc44 => ?_)
        · have hE := hE.2 cc44
          refine lv_iinc (v := v4 + 1) (lv' := [(4, .int (v4 + 1)), (0, .ref (wA w 14)), (2, .int v2), (3, .int v3)]) hx hb d_Insp_isWhiteText_49 hl (k := 3) rfl rfl (by decide) rfl (fun ls hl => ?_)
          refine lv_goto (tgt := 24) hx hb d_Insp_isWhiteText_52 (by decide) ?_
          exact ih24 (v4 + 1) _ (lv_sub hl [1, 2, 3, 0] rfl) hE
        · have hE := hE.1 cc44
          refine lv_iconst (v := 0) hx hb d_Insp_isWhiteText_47 (by decide) ?_
          exact W.zret (v := 0) hx hb hr rfl (fun t ht hW => ⟨_, rfl, hE, ht⟩) (fun q h => by cases h) d_Insp_isWhiteText_48
  unfold w_Insp_isWhiteText at hE
  refine lv_aload_n hx hb d_Insp_isWhiteText_0 rfl (lv_at hl 0 rfl) ?_
  refine va_get (D := (wG w)) (ci := 5) (v := .ref (wA w 6)) (C := R_Insp) (T := F_Insp) (N := 1) hx hb hta i_Insp hown hK hP 14 rfl rfl 0 (by decide) (hta _ fl_Insp_9) (fun _ h9 => h9) rfl d_Insp_isWhiteText_1 ?_
  refine lv_iload_n hx hb d_Insp_isWhiteText_4 rfl (lv_at hl 1 rfl) ?_
  refine lv_bipush (v := 8) hx hb d_Insp_isWhiteText_5 (by decide) ?_
  refine ro_V (b0 := (wA w 6)) (As := [.int x0, .int 8]) (rest := []) ⟨hx, hb, hml, hown, hta⟩ (f_Book_ofNode l w σ x0 8 hI) ok_Insp_42 ⟨Nat.le_of_ble_eq_true rfl, Nat.le_of_ble_eq_true rfl⟩ blind_fW (va_recv hK hP (ci := 3) (q0 := 6) rfl rfl) (fW_of hP hK hC hS) rfl hl.1 rfl (Nat.le_of_ble_eq_true rfl) d_Insp_isWhiteText_7 ⟨Nat.zero_le _, Nat.zero_le _⟩ (fun r7 hrr => ?_)
  subst hrr
  refine lv_istore_n (lv' := [(2, .int (tGet 14 (pNd σ) x0 8)), (0, .ref (wA w 14)), (1, .int x0)]) hx hb d_Insp_isWhiteText_10 rfl hl (by decide) rfl (fun ls hl => ?_)
  refine lv_aload_n hx hb d_Insp_isWhiteText_11 rfl (lv_at hl 1 rfl) ?_
  refine va_get (D := (wG w)) (ci := 5) (v := .ref (wA w 6)) (C := R_Insp) (T := F_Insp) (N := 1) hx hb hta i_Insp hown hK hP 14 rfl rfl 0 (by decide) (hta _ fl_Insp_9) (fun _ h9 => h9) rfl d_Insp_isWhiteText_12 ?_
  refine lv_iload_n hx hb d_Insp_isWhiteText_15 rfl (lv_at hl 2 rfl) ?_
  refine lv_iconst (v := 3) hx hb d_Insp_isWhiteText_16 (by decide) ?_
  refine ro_V (b0 := (wA w 6)) (As := [.int x0, .int 3]) (rest := []) ⟨hx, hb, hml, hown, hta⟩ (f_Book_ofNode l w σ x0 3 hI) ok_Insp_42 ⟨Nat.le_of_ble_eq_true rfl, Nat.le_of_ble_eq_true rfl⟩ blind_fW (va_recv hK hP (ci := 3) (q0 := 6) rfl rfl) (fW_of hP hK hC hS) rfl hl.1 rfl (Nat.le_of_ble_eq_true rfl) d_Insp_isWhiteText_17 ⟨Nat.zero_le _, Nat.zero_le _⟩ (fun r17 hrr => ?_)
  subst hrr
  refine lv_istore_n (lv' := [(3, .int (tGet 14 (pNd σ) x0 3)), (2, .int (tGet 14 (pNd σ) x0 8)), (0, .ref (wA w 14)), (1, .int x0)]) hx hb d_Insp_isWhiteText_20 rfl hl (by decide) rfl (fun ls hl => ?_)
  refine lv_iconst (v := 0) hx hb d_Insp_isWhiteText_21 (by decide) ?_
  refine lv_istore (lv' := [(4, .int 0), (3, .int (tGet 14 (pNd σ) x0 3)), (2, .int (tGet 14 (pNd σ) x0 8)), (0, .ref (wA w 14)), (1, .int x0)]) hx hb d_Insp_isWhiteText_22 hl (by decide) rfl (fun ls hl => ?_)
  obtain ⟨n24, hE⟩ := hE
  exact L24 (tGet 14 (pNd σ) x0 8) (tGet 14 (pNd σ) x0 3) n24 0 _ (lv_sub hl [3, 2, 1, 0] rfl) hE
theorem ok_Insp_122 : okV "PlainPages$Inspector" 122 R_Insp y_Insp_isWhiteText b_Insp_isWhiteText 5 (some .boolean) 1 := ⟨aW_in 780 (by decide +kernel) rfl, aW_in 782 (by decide +kernel) rfl, aW_in 32 (by decide +kernel) rfl, aW_in 90 (by decide +kernel) rfl, cd_Insp_isWhiteText, rfl, by decide +kernel, by decide +kernel, by decide +kernel⟩
theorem d_Insp_hasFitText_0 : decode b_Insp_hasFitText 0 = .ok (.aload_n 2, 1) := by decide +kernel
theorem d_Insp_hasFitText_1 : decode b_Insp_hasFitText 1 = .ok (.sipush 256, 3) := by decide +kernel
theorem d_Insp_hasFitText_4 : decode b_Insp_hasFitText 4 = .ok (.invokevirtual 76, 3) := by decide +kernel
theorem d_Insp_hasFitText_7 : decode b_Insp_hasFitText 7 = .ok (.ifCond .eq 5, 3) := by decide +kernel
theorem d_Insp_hasFitText_10 : decode b_Insp_hasFitText 10 = .ok (.iconst 1, 1) := by decide +kernel
theorem d_Insp_hasFitText_11 : decode b_Insp_hasFitText 11 = .ok (.ireturn, 1) := by decide +kernel
theorem d_Insp_hasFitText_12 : decode b_Insp_hasFitText 12 = .ok (.iload_n 1, 1) := by decide +kernel
theorem d_Insp_hasFitText_13 : decode b_Insp_hasFitText 13 = .ok (.iconst 1, 1) := by decide +kernel
theorem d_Insp_hasFitText_14 : decode b_Insp_hasFitText 14 = .ok (.iadd, 1) := by decide +kernel
theorem d_Insp_hasFitText_15 : decode b_Insp_hasFitText 15 = .ok (.istore_n 3, 1) := by decide +kernel
theorem d_Insp_hasFitText_16 : decode b_Insp_hasFitText 16 = .ok (.iload_n 3, 1) := by decide +kernel
theorem d_Insp_hasFitText_17 : decode b_Insp_hasFitText 17 = .ok (.aload_n 0, 1) := by decide +kernel
theorem d_Insp_hasFitText_18 : decode b_Insp_hasFitText 18 = .ok (.getfield 9, 3) := by decide +kernel
theorem d_Insp_hasFitText_21 : decode b_Insp_hasFitText 21 = .ok (.iload_n 1, 1) := by decide +kernel
theorem d_Insp_hasFitText_22 : decode b_Insp_hasFitText 22 = .ok (.bipush 10, 2) := by decide +kernel
theorem d_Insp_hasFitText_24 : decode b_Insp_hasFitText 24 = .ok (.invokevirtual 42, 3) := by decide +kernel
theorem d_Insp_hasFitText_27 : decode b_Insp_hasFitText 27 = .ok (.if_icmp .ge 65, 3) := by decide +kernel
theorem d_Insp_hasFitText_30 : decode b_Insp_hasFitText 30 = .ok (.aload_n 0, 1) := by decide +kernel
theorem d_Insp_hasFitText_31 : decode b_Insp_hasFitText 31 = .ok (.getfield 9, 3) := by decide +kernel
theorem d_Insp_hasFitText_34 : decode b_Insp_hasFitText 34 = .ok (.iload_n 3, 1) := by decide +kernel
theorem d_Insp_hasFitText_35 : decode b_Insp_hasFitText 35 = .ok (.iconst 1, 1) := by decide +kernel
theorem d_Insp_hasFitText_36 : decode b_Insp_hasFitText 36 = .ok (.invokevirtual 42, 3) := by decide +kernel
theorem d_Insp_hasFitText_39 : decode b_Insp_hasFitText 39 = .ok (.iload_n 1, 1) := by decide +kernel
theorem d_Insp_hasFitText_40 : decode b_Insp_hasFitText 40 = .ok (.if_icmp .ne 18, 3) := by decide +kernel
theorem d_Insp_hasFitText_43 : decode b_Insp_hasFitText 43 = .ok (.aload_n 0, 1) := by decide +kernel
theorem d_Insp_hasFitText_44 : decode b_Insp_hasFitText 44 = .ok (.getfield 9, 3) := by decide +kernel
theorem d_Insp_hasFitText_47 : decode b_Insp_hasFitText 47 = .ok (.iload_n 3, 1) := by decide +kernel
theorem d_Insp_hasFitText_48 : decode b_Insp_hasFitText 48 = .ok (.invokevirtual 38, 3) := by decide +kernel
theorem d_Insp_hasFitText_51 : decode b_Insp_hasFitText 51 = .ok (.ifCond .ne 7, 3) := by decide +kernel
theorem d_Insp_hasFitText_54 : decode b_Insp_hasFitText 54 = .ok (.iconst 1, 1) := by decide +kernel
theorem d_Insp_hasFitText_55 : decode b_Insp_hasFitText 55 = .ok (.goto 4, 3) := by decide +kernel
theorem d_Insp_hasFitText_58 : decode b_Insp_hasFitText 58 = .ok (.iconst 0, 1) := by decide +kernel
theorem d_Insp_hasFitText_59 : decode b_Insp_hasFitText 59 = .ok (.istore 4, 2) := by decide +kernel
theorem d_Insp_hasFitText_61 : decode b_Insp_hasFitText 61 = .ok (.iload 4, 2) := by decide +kernel
theorem d_Insp_hasFitText_63 : decode b_Insp_hasFitText 63 = .ok (.ifCond .eq 23, 3) := by decide +kernel
theorem d_Insp_hasFitText_66 : decode b_Insp_hasFitText 66 = .ok (.aload_n 2, 1) := by decide +kernel
theorem d_Insp_hasFitText_67 : decode b_Insp_hasFitText 67 = .ok (.sipush 512, 3) := by decide +kernel
theorem d_Insp_hasFitText_70 : decode b_Insp_hasFitText 70 = .ok (.invokevirtual 76, 3) := by decide +kernel
theorem d_Insp_hasFitText_73 : decode b_Insp_hasFitText 73 = .ok (.ifCond .eq 11, 3) := by decide +kernel
theorem d_Insp_hasFitText_76 : decode b_Insp_hasFitText 76 = .ok (.aload_n 0, 1) := by decide +kernel
theorem d_Insp_hasFitText_77 : decode b_Insp_hasFitText 77 = .ok (.iload_n 3, 1) := by decide +kernel
theorem d_Insp_hasFitText_78 : decode b_Insp_hasFitText 78 = .ok (.invokevirtual 122, 3) := by decide +kernel
theorem d_Insp_hasFitText_81 : decode b_Insp_hasFitText 81 = .ok (.ifCond .ne 5, 3) := by decide +kernel
theorem d_Insp_hasFitText_84 : decode b_Insp_hasFitText 84 = .ok (.iconst 0, 1) := by decide +kernel
theorem d_Insp_hasFitText_85 : decode b_Insp_hasFitText 85 = .ok (.ireturn, 1) := by decide +kernel
theorem d_Insp_hasFitText_86 : decode b_Insp_hasFitText 86 = .ok (.iinc 3 1, 3) := by decide +kernel
theorem d_Insp_hasFitText_89 : decode b_Insp_hasFitText 89 = .ok (.goto (-73), 3) := by decide +kernel
theorem d_Insp_hasFitText_92 : decode b_Insp_hasFitText 92 = .ok (.iconst 1, 1) := by decide +kernel
theorem d_Insp_hasFitText_93 : decode b_Insp_hasFitText 93 = .ok (.ireturn, 1) := by decide +kernel
def w_Insp_hasFitText_J86  (σ : PPS) (v1 : Int32) (v2 : Option Nat) (K16 : Int32 → Prop) (post : Int32 → Prop) (v3 : Int32) : Prop := K16 (v3 + 1)
def w_Insp_hasFitText_J59  (σ : PPS) (v1 : Int32) (v2 : Option Nat) (K16 : Int32 → Prop) (post : Int32 → Prop) (v3 : Int32) (t0 : Int32) : Prop := ((t0 = 0 → w_Insp_hasFitText_J86 σ v1 v2 (K16) post v3) ∧ (¬ t0 = 0 → (∃ k70, v2 = some k70 ∧ k70 < 23 ∧ (((b2i (kSays k70 512)) = 0 → post 0) ∧ (¬ (b2i (kSays k70 512)) = 0 → w_Insp_isWhiteText σ v3 (fun r78 => ((r78 = 0 → post 0) ∧ (¬ r78 = 0 → w_Insp_hasFitText_J86 σ v1 (some k70) (K16) post v3))))))))
def w_Insp_hasFitText_J58  (σ : PPS) (v1 : Int32) (v2 : Option Nat) (K16 : Int32 → Prop) (post : Int32 → Prop) (v3 : Int32) : Prop := w_Insp_hasFitText_J59 σ v1 v2 (K16) post v3 0
def w_Insp_hasFitText_L16  (σ : PPS) (v1 : Int32) (v2 : Option Nat) (post : Int32 → Prop) : Nat → Int32 → Prop
  | 0, _ => False
  | n16 + 1, v3 => (((tGet 14 (pNd σ) v1 10) ≤ v3 → post 1) ∧ (¬ (tGet 14 (pNd σ) v1 10) ≤ v3 → (((tGet 14 (pNd σ) v3 1) = v1 → (((b2i (bEle σ v3)) = 0 → w_Insp_hasFitText_J59 σ v1 v2 (w_Insp_hasFitText_L16 σ v1 v2 post n16) post v3 1) ∧ (¬ (b2i (bEle σ v3)) = 0 → w_Insp_hasFitText_J58 σ v1 v2 (w_Insp_hasFitText_L16 σ v1 v2 post n16) post v3))) ∧ (¬ (tGet 14 (pNd σ) v3 1) = v1 → w_Insp_hasFitText_J58 σ v1 v2 (w_Insp_hasFitText_L16 σ v1 v2 post n16) post v3))))
def w_Insp_hasFitText  (σ : PPS) (x0 : Int32) (x1 : Option Nat) (post : Int32 → Prop) : Prop := (∃ k4, x1 = some k4 ∧ k4 < 23 ∧ (((b2i (kSays k4 256)) = 0 → (∃ n16, w_Insp_hasFitText_L16 σ x0 (some k4) post n16 (x0 + 1))) ∧ (¬ (b2i (kSays k4 256)) = 0 → post 1)))
set_option maxHeartbeats 4000000 in
set_option maxRecDepth 100000 in
theorem c_Insp_hasFitText (l : Launch) (w : WD) (σ : PPS) (x0 : Int32) (x1 : Option Nat)  (post : Int32 → Prop) (hI : inv σ) (hE : w_Insp_hasFitText σ x0 x1 post) : Met l y_Insp_hasFitText ws_Insp_hasFitText { frames := 3, cells := 0, slots := 0, locals := 69 } (va_Pc [.ref (wA w 14), .int x0, va_re (wE w) x1] (fW w σ)) (vp_Si post) 0 0 (fun _ => False) := by
  refine Met.ofW (cc := b_Insp_hasFitText) (maxL := 5) (ret := (some .boolean)) (by decide) rfl ?_
  intro p e s m args below meth c s₁ B hml hv
  obtain ⟨rfl, hP, hK, hC⟩ := hv
  have hS : va_S (fun _ : Nat => False) s.heap s.heap [] := va_S.rf
  have hx := B.exec
  have hb := B.bytes
  have hr := B.returns
  have hta : ∀ w ∈ aW, w.before _ s = true := fun w h => atoms_spec (ws := ws_Insp_hasFitText) B.pre w (List.mem_cons_of_mem _ h)
  have hown : s.vm.findClass R_Insp = some m.cls := findClass_of_methodNamed B.named
  have hlocks := B.notSynchronized
  have hl := lv_entry ([.ref (wA w 14), .int x0, va_re (wE w) x1]) (n := 5) (by cases x1 <;> exact Nat.le_of_ble_eq_true rfl)
  rw [lg_entry_eq]
  generalize (lg_sl ([.ref (wA w 14), .int x0, va_re (wE w) x1]) ++ List.replicate (5 - (lg_sl ([.ref (wA w 14), .int x0, va_re (wE w) x1])).length) Slot.unset).toArray = ls at hl ⊢
  have hl : lv_has ls 5 [(0, .ref (wA w 14)), (1, .int x0), (2, va_re (wE w) x1)] := hl
  have L16 : ∀ (v1 : Int32) (v2 : Option Nat) (n16 : Nat) (v3 : Int32) (ls : Array Slot) (hl : lv_has ls 5 [(0, .ref (wA w 14)), (1, .int v1), (2, va_re (wE w) v2), (3, .int v3)]) (hE : w_Insp_hasFitText_L16 σ v1 v2 post n16 v3), W p l e (headSpec ws_Insp_hasFitText { frames := 3, cells := 0, slots := 0, locals := 69 }).room s m ([.ref (wA w 14), .int x0, va_re (wE w) x1] : List Value).toArray below meth c s.heap [] 0 0 (MQ below (vp_Si post) ([.ref (wA w 14), .int x0, va_re (wE w) x1] : List Value).toArray s 0 0 (fun _ => False)) (F0 m 16 ls []) := by
    intro v1 v2 n16
    induction n16 with
    | zero => intro v3 ls hl hE; exact hE.elim
    | succ n16 ih16 =>
      have J86 : ∀ (v3 : Int32) (ls : Array Slot) (hl : lv_has ls 5 [(0, .ref (wA w 14)), (1, .int v1), (2, va_re (wE w) v2), (3, .int v3)]) (hE : w_Insp_hasFitText_J86 σ v1 v2 (w_Insp_hasFitText_L16 σ v1 v2 post n16) post v3), W p l e (headSpec ws_Insp_hasFitText { frames := 3, cells := 0, slots := 0, locals := 69 }).room s m ([.ref (wA w 14), .int x0, va_re (wE w) x1] : List Value).toArray below meth c s.heap [] 0 0 (MQ below (vp_Si post) ([.ref (wA w 14), .int x0, va_re (wE w) x1] : List Value).toArray s 0 0 (fun _ => False)) (F0 m 86 ls []) := by
        intro  v3 ls hl hE
        unfold w_Insp_hasFitText_J86 at hE
        refine lv_iinc (v := v3 + 1) (lv' := [(3, .int (v3 + 1)), (0, .ref (wA w 14)), (1, .int v1), (2, va_re (wE w) v2)]) hx hb d_Insp_hasFitText_86 hl (k := 3) rfl rfl (by decide) (by cases v2 <;> rfl) (fun ls hl => ?_)
        refine lv_goto (tgt := 16) hx hb d_Insp_hasFitText_89 (by decide) ?_
        exact ih16 (v3 + 1) _ (lv_sub hl [1, 2, 3, 0] rfl) hE
      have J59 : ∀ (v3 : Int32) (t0 : Int32) (ls : Array Slot) (hl : lv_has ls 5 [(0, .ref (wA w 14)), (1, .int v1), (2, va_re (wE w) v2), (3, .int v3)]) (hE : w_Insp_hasFitText_J59 σ v1 v2 (w_Insp_hasFitText_L16 σ v1 v2 post n16) post v3 t0), W p l e (headSpec ws_Insp_hasFitText { frames := 3, cells := 0, slots := 0, locals := 69 }).room s m ([.ref (wA w 14), .int x0, va_re (wE w) x1] : List Value).toArray below meth c s.heap [] 0 0 (MQ below (vp_Si post) ([.ref (wA w 14), .int x0, va_re (wE w) x1] : List Value).toArray s 0 0 (fun _ => False)) (F0 m 59 ls [.int t0]) := by
        intro  v3 t0 ls hl hE
        unfold w_Insp_hasFitText_J59 at hE
        refine lv_istore (lv' := [(4, .int t0), (0, .ref (wA w 14)), (1, .int v1), (2, va_re (wE w) v2), (3, .int v3)]) hx hb d_Insp_hasFitText_59 hl (by decide) rfl (fun ls hl => ?_)
        refine lv_iload hx hb d_Insp_hasFitText_61 (lv_at hl 0 rfl) ?_
        refine lv_if_eq (tgt := 86) hx hb d_Insp_hasFitText_63 (by decide) (fun cc63 => ?_) (fun cc63 => ?_)
        · have hE := hE.1 cc63
          exact J86  v3 _ (lv_sub hl [1, 2, 3, 4] rfl) hE
        · have hE := hE.2 cc63
          refine lv_aload_nQ hx hb d_Insp_hasFitText_66 rfl (lv_at hl 3 rfl) ?_
          refine lv_sipush (v := 512) hx hb d_Insp_hasFitText_67 (by decide) ?_
          obtain ⟨k70, rfl, hk70, hE⟩ := hE
          refine ro_V (b0 := wE w k70) (As := [.int 512]) (rest := []) ⟨hx, hb, hml, hown, hta⟩ (f_Kind_says l w k70 512 hk70) ok_Insp_76 ⟨Nat.le_of_ble_eq_true rfl, Nat.le_of_ble_eq_true rfl⟩ blind_cW (k_recv hC hS hk70) (cW_of hC hS) rfl hl.1 rfl (Nat.le_of_ble_eq_true rfl) d_Insp_hasFitText_70 ⟨Nat.zero_le _, Nat.zero_le _⟩ (fun r70 hrr => ?_)
          subst hrr
          refine lv_if_eq (tgt := 84) hx hb d_Insp_hasFitText_73 (by decide) (fun cc73 => ?_) (fun cc73 => ?_)
          · have hE := hE.1 cc73
            refine lv_iconst (v := 0) hx hb d_Insp_hasFitText_84 (by decide) ?_
            exact W.zret (v := 0) hx hb hr rfl (fun t ht hW => ⟨_, rfl, hE, ht⟩) (fun q h => by cases h) d_Insp_hasFitText_85
          · have hE := hE.2 cc73
            refine lv_aload_n hx hb d_Insp_hasFitText_76 rfl (lv_at hl 1 rfl) ?_
            refine lv_iload_n hx hb d_Insp_hasFitText_77 rfl (lv_at hl 4 rfl) ?_
            refine ro_V (b0 := (wA w 14)) (As := [.int v3]) (rest := []) ⟨hx, hb, hml, hown, hta⟩ (c_Insp_isWhiteText l w σ v3  _ hI hE) ok_Insp_122 ⟨Nat.le_of_ble_eq_true rfl, Nat.le_of_ble_eq_true rfl⟩ blind_fW (va_recv hK hP (ci := 5) (q0 := 14) rfl rfl) (fW_of hP hK hC hS) rfl hl.1 rfl (Nat.le_of_ble_eq_true rfl) d_Insp_hasFitText_78 ⟨Nat.zero_le _, Nat.zero_le _⟩ (fun r78 hE => ?_)
            refine lv_if_ne (tgt := 86) hx hb d_Insp_hasFitText_81 (by decide) (fun cc81 => ?_) (fun cc81 => ?_)
            · have hE := hE.2 cc81
              exact J86  v3 _ (lv_sub hl [1, 2, 3, 4] rfl) hE
            · have hE := hE.1 cc81
              refine lv_iconst (v := 0) hx hb d_Insp_hasFitText_84 (by decide) ?_
              exact W.zret (v := 0) hx hb hr rfl (fun t ht hW => ⟨_, rfl, hE, ht⟩) (fun q h => by cases h) d_Insp_hasFitText_85
      have J58 : ∀ (v3 : Int32) (ls : Array Slot) (hl : lv_has ls 5 [(0, .ref (wA w 14)), (1, .int v1), (2, va_re (wE w) v2), (3, .int v3)]) (hE : w_Insp_hasFitText_J58 σ v1 v2 (w_Insp_hasFitText_L16 σ v1 v2 post n16) post v3), W p l e (headSpec ws_Insp_hasFitText { frames := 3, cells := 0, slots := 0, locals := 69 }).room s m ([.ref (wA w 14), .int x0, va_re (wE w) x1] : List Value).toArray below meth c s.heap [] 0 0 (MQ below (vp_Si post) ([.ref (wA w 14), .int x0, va_re (wE w) x1] : List Value).toArray s 0 0 (fun _ => False)) (F0 m 58 ls []) := by
        intro  v3 ls hl hE
        unfold w_Insp_hasFitText_J58 at hE
        refine lv_iconst (v := 0) hx hb d_Insp_hasFitText_58 (by decide) ?_
        exact J59  v3 0 _ (lv_sub hl [0, 1, 2, 3] rfl) hE
      intro v3 ls hl hE
      unfold w_Insp_hasFitText_L16 at hE
      refine lv_iload_n hx hb d_Insp_hasFitText_16 rfl (lv_at hl 3 rfl) ?_
      refine lv_aload_n hx hb d_Insp_hasFitText_17 rfl (lv_at hl 0 rfl) ?_
      refine va_get (D := (wG w)) (ci := 5) (v := .ref (wA w 6)) (C := R_Insp) (T := F_Insp) (N := 1) hx hb hta i_Insp hown hK hP 14 rfl rfl 0 (by decide) (hta _ fl_Insp_9) (fun _ h9 => h9) rfl d_Insp_hasFitText_18 ?_
      refine lv_iload_n hx hb d_Insp_hasFitText_21 rfl (lv_at hl 1 rfl) ?_
      refine lv_bipush (v := 10) hx hb d_Insp_hasFitText_22 (by decide) ?_
      refine ro_V (b0 := (wA w 6)) (As := [.int v1, .int 10]) (rest := [.int v3]) ⟨hx, hb, hml, hown, hta⟩ (f_Book_ofNode l w σ v1 10 hI) ok_Insp_42 ⟨Nat.le_of_ble_eq_true rfl, Nat.le_of_ble_eq_true rfl⟩ blind_fW (va_recv hK hP (ci := 3) (q0 := 6) rfl rfl) (fW_of hP hK hC hS) rfl hl.1 rfl (Nat.le_of_ble_eq_true rfl) d_Insp_hasFitText_24 ⟨Nat.zero_le _, Nat.zero_le _⟩ (fun r24 hrr => ?_)
      subst hrr
      refine lv_icmp_ge (tgt := 92) hx hb d_Insp_hasFitText_27 (by decide) (fun cc27 => ?_) (fun cc27 => ?_)
      · have hE := hE.1 cc27
        refine lv_iconst (v := 1) hx hb d_Insp_hasFitText_92 (by decide) ?_
        exact W.zret (v := 1) hx hb hr rfl (fun t ht hW => ⟨_, rfl, hE, ht⟩) (fun q h => by cases h) d_Insp_hasFitText_93
      · have hE := hE.2 cc27
        refine lv_aload_n hx hb d_Insp_hasFitText_30 rfl (lv_at hl 0 rfl) ?_
        refine va_get (D := (wG w)) (ci := 5) (v := .ref (wA w 6)) (C := R_Insp) (T := F_Insp) (N := 1) hx hb hta i_Insp hown hK hP 14 rfl rfl 0 (by decide) (hta _ fl_Insp_9) (fun _ h9 => h9) rfl d_Insp_hasFitText_31 ?_
        refine lv_iload_n hx hb d_Insp_hasFitText_34 rfl (lv_at hl 3 rfl) ?_
        refine lv_iconst (v := 1) hx hb d_Insp_hasFitText_35 (by decide) ?_
        refine ro_V (b0 := (wA w 6)) (As := [.int v3, .int 1]) (rest := []) ⟨hx, hb, hml, hown, hta⟩ (f_Book_ofNode l w σ v3 1 hI) ok_Insp_42 ⟨Nat.le_of_ble_eq_true rfl, Nat.le_of_ble_eq_true rfl⟩ blind_fW (va_recv hK hP (ci := 3) (q0 := 6) rfl rfl) (fW_of hP hK hC hS) rfl hl.1 rfl (Nat.le_of_ble_eq_true rfl) d_Insp_hasFitText_36 ⟨Nat.zero_le _, Nat.zero_le _⟩ (fun r36 hrr => ?_)
        subst hrr
        refine lv_iload_n hx hb d_Insp_hasFitText_39 rfl (lv_at hl 1 rfl) ?_
        refine lv_icmp_ne (tgt := 58) hx hb d_Insp_hasFitText_40 (by decide) (fun cc40 => ?_) (fun cc40 => ?_)
        · have hE := hE.2 cc40
          exact J58  v3 _ (lv_sub hl [0, 1, 2, 3] rfl) hE
        · have hE := hE.1 cc40
          refine lv_aload_n hx hb d_Insp_hasFitText_43 rfl (lv_at hl 0 rfl) ?_
          refine va_get (D := (wG w)) (ci := 5) (v := .ref (wA w 6)) (C := R_Insp) (T := F_Insp) (N := 1) hx hb hta i_Insp hown hK hP 14 rfl rfl 0 (by decide) (hta _ fl_Insp_9) (fun _ h9 => h9) rfl d_Insp_hasFitText_44 ?_
          refine lv_iload_n hx hb d_Insp_hasFitText_47 rfl (lv_at hl 3 rfl) ?_
          refine ro_V (b0 := (wA w 6)) (As := [.int v3]) (rest := []) ⟨hx, hb, hml, hown, hta⟩ (f_Book_isElement l w σ v3 hI) ok_Insp_38 ⟨Nat.le_of_ble_eq_true rfl, Nat.le_of_ble_eq_true rfl⟩ blind_fW (va_recv hK hP (ci := 3) (q0 := 6) rfl rfl) (fW_of hP hK hC hS) rfl hl.1 rfl (Nat.le_of_ble_eq_true rfl) d_Insp_hasFitText_48 ⟨Nat.zero_le _, Nat.zero_le _⟩ (fun r48 hrr => ?_)
          subst hrr
          refine lv_if_ne (tgt := 58) hx hb d_Insp_hasFitText_51 (by decide) (fun cc51 => ?_) (fun cc51 => ?_)
          · have hE := hE.2 cc51
            exact J58  v3 _ (lv_sub hl [0, 1, 2, 3] rfl) hE
          · have hE := hE.1 cc51
            refine lv_iconst (v := 1) hx hb d_Insp_hasFitText_54 (by decide) ?_
            refine lv_goto (tgt := 59) hx hb d_Insp_hasFitText_55 (by decide) ?_
            exact J59  v3 1 _ (lv_sub hl [0, 1, 2, 3] rfl) hE
  unfold w_Insp_hasFitText at hE
  refine lv_aload_nQ hx hb d_Insp_hasFitText_0 rfl (lv_at hl 2 rfl) ?_
  refine lv_sipush (v := 256) hx hb d_Insp_hasFitText_1 (by decide) ?_
  obtain ⟨k4, rfl, hk4, hE⟩ := hE
  refine ro_V (b0 := wE w k4) (As := [.int 256]) (rest := []) ⟨hx, hb, hml, hown, hta⟩ (f_Kind_says l w k4 256 hk4) ok_Insp_76 ⟨Nat.le_of_ble_eq_true rfl, Nat.le_of_ble_eq_true rfl⟩ blind_cW (k_recv hC hS hk4) (cW_of hC hS) rfl hl.1 rfl (Nat.le_of_ble_eq_true rfl) d_Insp_hasFitText_4 ⟨Nat.zero_le _, Nat.zero_le _⟩ (fun r4 hrr => ?_)
  subst hrr
  refine lv_if_eq (tgt := 12) hx hb d_Insp_hasFitText_7 (by decide) (fun cc7 => ?_) (fun cc7 => ?_)
  · have hE := hE.1 cc7
    refine lv_iload_n hx hb d_Insp_hasFitText_12 rfl (lv_at hl 1 rfl) ?_
    refine lv_iconst (v := 1) hx hb d_Insp_hasFitText_13 (by decide) ?_
    refine lv_iadd hx hb d_Insp_hasFitText_14 ?_
    refine lv_istore_n (lv' := [(3, .int (x0 + 1)), (0, .ref (wA w 14)), (1, .int x0), (2, va_re (wE w) (some k4))]) hx hb d_Insp_hasFitText_15 rfl hl (by decide) rfl (fun ls hl => ?_)
    obtain ⟨n16, hE⟩ := hE
    exact L16 x0 (some k4) n16 (x0 + 1) _ (lv_sub hl [1, 2, 3, 0] rfl) hE
  · have hE := hE.2 cc7
    refine lv_iconst (v := 1) hx hb d_Insp_hasFitText_10 (by decide) ?_
    exact W.zret (v := 1) hx hb hr rfl (fun t ht hW => ⟨_, rfl, hE, ht⟩) (fun q h => by cases h) d_Insp_hasFitText_11
theorem ok_Insp_57 : okV "PlainPages$Inspector" 57 R_Book y_Book_attributeNamed b_Book_attributeNamed 6 (some .int) 2 := ⟨aW_in 800 (by decide +kernel) rfl, aW_in 801 (by decide +kernel) rfl, aW_in 802 (by decide +kernel) rfl, aW_in 87 (by decide +kernel) rfl, cd_Book_attributeNamed, rfl, by decide +kernel, by decide +kernel, by decide +kernel⟩
theorem ok_Insp_15 : okV "PlainPages$Inspector" 15 R_Book y_Book_size b_Book_size 1 (some .int) 0 := ⟨aW_in 712 (by decide +kernel) rfl, aW_in 325 (by decide +kernel) rfl, aW_in 326 (by decide +kernel) rfl, aW_in 87 (by decide +kernel) rfl, cd_Book_size, rfl, by decide +kernel, by decide +kernel, by decide +kernel⟩
theorem d_Insp_isLed_0 : decode b_Insp_isLed 0 = .ok (.aload_n 0, 1) := by decide +kernel
theorem d_Insp_isLed_1 : decode b_Insp_isLed 1 = .ok (.getfield 9, 3) := by decide +kernel
theorem d_Insp_isLed_4 : decode b_Insp_isLed 4 = .ok (.iload_n 1, 1) := by decide +kernel
theorem d_Insp_isLed_5 : decode b_Insp_isLed 5 = .ok (.ldc 55, 2) := by decide +kernel
theorem d_Insp_isLed_7 : decode b_Insp_isLed 7 = .ok (.invokevirtual 57, 3) := by decide +kernel
theorem d_Insp_isLed_10 : decode b_Insp_isLed 10 = .ok (.istore_n 2, 1) := by decide +kernel
theorem d_Insp_isLed_11 : decode b_Insp_isLed 11 = .ok (.aload_n 0, 1) := by decide +kernel
theorem d_Insp_isLed_12 : decode b_Insp_isLed 12 = .ok (.getfield 9, 3) := by decide +kernel
theorem d_Insp_isLed_15 : decode b_Insp_isLed 15 = .ok (.iload_n 2, 1) := by decide +kernel
theorem d_Insp_isLed_16 : decode b_Insp_isLed 16 = .ok (.iconst 4, 1) := by decide +kernel
theorem d_Insp_isLed_17 : decode b_Insp_isLed 17 = .ok (.invokevirtual 61, 3) := by decide +kernel
theorem d_Insp_isLed_20 : decode b_Insp_isLed 20 = .ok (.istore_n 3, 1) := by decide +kernel
theorem d_Insp_isLed_21 : decode b_Insp_isLed 21 = .ok (.aload_n 0, 1) := by decide +kernel
theorem d_Insp_isLed_22 : decode b_Insp_isLed 22 = .ok (.getfield 9, 3) := by decide +kernel
theorem d_Insp_isLed_25 : decode b_Insp_isLed 25 = .ok (.iload_n 3, 1) := by decide +kernel
theorem d_Insp_isLed_26 : decode b_Insp_isLed 26 = .ok (.aload_n 0, 1) := by decide +kernel
theorem d_Insp_isLed_27 : decode b_Insp_isLed 27 = .ok (.getfield 9, 3) := by decide +kernel
theorem d_Insp_isLed_30 : decode b_Insp_isLed 30 = .ok (.iload_n 2, 1) := by decide +kernel
theorem d_Insp_isLed_31 : decode b_Insp_isLed 31 = .ok (.iconst 1, 1) := by decide +kernel
theorem d_Insp_isLed_32 : decode b_Insp_isLed 32 = .ok (.invokevirtual 61, 3) := by decide +kernel
theorem d_Insp_isLed_35 : decode b_Insp_isLed 35 = .ok (.iconst 0, 1) := by decide +kernel
theorem d_Insp_isLed_36 : decode b_Insp_isLed 36 = .ok (.invokevirtual 64, 3) := by decide +kernel
theorem d_Insp_isLed_39 : decode b_Insp_isLed 39 = .ok (.bipush 35, 2) := by decide +kernel
theorem d_Insp_isLed_41 : decode b_Insp_isLed 41 = .ok (.if_icmp .eq 5, 3) := by decide +kernel
theorem d_Insp_isLed_44 : decode b_Insp_isLed 44 = .ok (.iconst 1, 1) := by decide +kernel
theorem d_Insp_isLed_45 : decode b_Insp_isLed 45 = .ok (.ireturn, 1) := by decide +kernel
theorem d_Insp_isLed_46 : decode b_Insp_isLed 46 = .ok (.aload_n 0, 1) := by decide +kernel
theorem d_Insp_isLed_47 : decode b_Insp_isLed 47 = .ok (.iload_n 2, 1) := by decide +kernel
theorem d_Insp_isLed_48 : decode b_Insp_isLed 48 = .ok (.iconst 1, 1) := by decide +kernel
theorem d_Insp_isLed_49 : decode b_Insp_isLed 49 = .ok (.aload_n 0, 1) := by decide +kernel
theorem d_Insp_isLed_50 : decode b_Insp_isLed 50 = .ok (.getfield 9, 3) := by decide +kernel
theorem d_Insp_isLed_53 : decode b_Insp_isLed 53 = .ok (.invokevirtual 15, 3) := by decide +kernel
theorem d_Insp_isLed_56 : decode b_Insp_isLed 56 = .ok (.invokevirtual 68, 3) := by decide +kernel
theorem d_Insp_isLed_59 : decode b_Insp_isLed 59 = .ok (.ireturn, 1) := by decide +kernel
def w_Insp_isLed  (σ : PPS) (x0 : Int32) (post : Int32 → Prop) : Prop := w_Book_attributeNamed σ x0 10 (fun r7 => (((bLet σ (tGet 5 (pAt σ) r7 4) (tGet 5 (pAt σ) r7 1) 0) = 35 → w_Insp_isIdAhead σ r7 1 ((pNd σ).1) (fun r56 => (narrow .boolean (.int r56) = .int r56 ∧ post r56))) ∧ (¬ (bLet σ (tGet 5 (pAt σ) r7 4) (tGet 5 (pAt σ) r7 1) 0) = 35 → post 1)))
set_option maxHeartbeats 4000000 in
set_option maxRecDepth 100000 in
theorem c_Insp_isLed (l : Launch) (w : WD) (σ : PPS) (x0 : Int32)  (post : Int32 → Prop) (hI : inv σ) (hE : w_Insp_isLed σ x0 post) : Met l y_Insp_isLed ws_Insp_isLed { frames := 7, cells := 0, slots := 0, locals := 156 } (va_Pc [.ref (wA w 14), .int x0] (fW w σ)) (vp_Si post) 0 0 (fun _ => False) := by
  refine Met.ofW (cc := b_Insp_isLed) (maxL := 4) (ret := (some .boolean)) (by decide) rfl ?_
  intro p e s m args below meth c s₁ B hml hv
  obtain ⟨rfl, hP, hK, hC⟩ := hv
  have hS : va_S (fun _ : Nat => False) s.heap s.heap [] := va_S.rf
  have hx := B.exec
  have hb := B.bytes
  have hr := B.returns
  have hta : ∀ w ∈ aW, w.before _ s = true := fun w h => atoms_spec (ws := ws_Insp_isLed) B.pre w (List.mem_cons_of_mem _ h)
  have hown : s.vm.findClass R_Insp = some m.cls := findClass_of_methodNamed B.named
  have hlocks := B.notSynchronized
  have hl := lv_entry ([.ref (wA w 14), .int x0]) (n := 4) (Nat.le_of_ble_eq_true rfl)
  rw [lg_entry_eq]
  generalize (lg_sl ([.ref (wA w 14), .int x0]) ++ List.replicate (4 - (lg_sl ([.ref (wA w 14), .int x0])).length) Slot.unset).toArray = ls at hl ⊢
  have hl : lv_has ls 4 [(0, .ref (wA w 14)), (1, .int x0)] := hl
  unfold w_Insp_isLed at hE
  refine lv_aload_n hx hb d_Insp_isLed_0 rfl (lv_at hl 0 rfl) ?_
  refine va_get (D := (wG w)) (ci := 5) (v := .ref (wA w 6)) (C := R_Insp) (T := F_Insp) (N := 1) hx hb hta i_Insp hown hK hP 14 rfl rfl 0 (by decide) (hta _ fl_Insp_9) (fun _ h9 => h9) rfl d_Insp_isLed_1 ?_
  refine lv_iload_n hx hb d_Insp_isLed_4 rfl (lv_at hl 1 rfl) ?_
  refine t_ldc (i := 10) hx hb hC (by decide) rfl hown d_Insp_isLed_5 ?_
  refine ro_V (b0 := (wA w 6)) (As := [.int x0, .ref (wK w 10)]) (rest := []) ⟨hx, hb, hml, hown, hta⟩ (c_Book_attributeNamed l w σ x0 10  _ hI hE) ok_Insp_57 ⟨Nat.le_of_ble_eq_true rfl, Nat.le_of_ble_eq_true rfl⟩ blind_fW (va_recv hK hP (ci := 3) (q0 := 6) rfl rfl) (fW_of hP hK hC hS) rfl hl.1 rfl (Nat.le_of_ble_eq_true rfl) d_Insp_isLed_7 ⟨Nat.zero_le _, Nat.zero_le _⟩ (fun r7 hE => ?_)
  refine lv_istore_n (lv' := [(2, .int r7), (0, .ref (wA w 14)), (1, .int x0)]) hx hb d_Insp_isLed_10 rfl hl (by decide) rfl (fun ls hl => ?_)
  refine lv_aload_n hx hb d_Insp_isLed_11 rfl (lv_at hl 1 rfl) ?_
  refine va_get (D := (wG w)) (ci := 5) (v := .ref (wA w 6)) (C := R_Insp) (T := F_Insp) (N := 1) hx hb hta i_Insp hown hK hP 14 rfl rfl 0 (by decide) (hta _ fl_Insp_9) (fun _ h9 => h9) rfl d_Insp_isLed_12 ?_
  refine lv_iload_n hx hb d_Insp_isLed_15 rfl (lv_at hl 0 rfl) ?_
  refine lv_iconst (v := 4) hx hb d_Insp_isLed_16 (by decide) ?_
  refine ro_V (b0 := (wA w 6)) (As := [.int r7, .int 4]) (rest := []) ⟨hx, hb, hml, hown, hta⟩ (f_Book_ofAttribute l w σ r7 4 hI) ok_Insp_61 ⟨Nat.le_of_ble_eq_true rfl, Nat.le_of_ble_eq_true rfl⟩ blind_fW (va_recv hK hP (ci := 3) (q0 := 6) rfl rfl) (fW_of hP hK hC hS) rfl hl.1 rfl (Nat.le_of_ble_eq_true rfl) d_Insp_isLed_17 ⟨Nat.zero_le _, Nat.zero_le _⟩ (fun r17 hrr => ?_)
  subst hrr
  refine lv_istore_n (lv' := [(3, .int (tGet 5 (pAt σ) r7 4)), (2, .int r7), (0, .ref (wA w 14)), (1, .int x0)]) hx hb d_Insp_isLed_20 rfl hl (by decide) rfl (fun ls hl => ?_)
  refine lv_aload_n hx hb d_Insp_isLed_21 rfl (lv_at hl 2 rfl) ?_
  refine va_get (D := (wG w)) (ci := 5) (v := .ref (wA w 6)) (C := R_Insp) (T := F_Insp) (N := 1) hx hb hta i_Insp hown hK hP 14 rfl rfl 0 (by decide) (hta _ fl_Insp_9) (fun _ h9 => h9) rfl d_Insp_isLed_22 ?_
  refine lv_iload_n hx hb d_Insp_isLed_25 rfl (lv_at hl 0 rfl) ?_
  refine lv_aload_n hx hb d_Insp_isLed_26 rfl (lv_at hl 2 rfl) ?_
  refine va_get (D := (wG w)) (ci := 5) (v := .ref (wA w 6)) (C := R_Insp) (T := F_Insp) (N := 1) hx hb hta i_Insp hown hK hP 14 rfl rfl 0 (by decide) (hta _ fl_Insp_9) (fun _ h9 => h9) rfl d_Insp_isLed_27 ?_
  refine lv_iload_n hx hb d_Insp_isLed_30 rfl (lv_at hl 1 rfl) ?_
  refine lv_iconst (v := 1) hx hb d_Insp_isLed_31 (by decide) ?_
  refine ro_V (b0 := (wA w 6)) (As := [.int r7, .int 1]) (rest := [.int (tGet 5 (pAt σ) r7 4), .ref (wA w 6)]) ⟨hx, hb, hml, hown, hta⟩ (f_Book_ofAttribute l w σ r7 1 hI) ok_Insp_61 ⟨Nat.le_of_ble_eq_true rfl, Nat.le_of_ble_eq_true rfl⟩ blind_fW (va_recv hK hP (ci := 3) (q0 := 6) rfl rfl) (fW_of hP hK hC hS) rfl hl.1 rfl (Nat.le_of_ble_eq_true rfl) d_Insp_isLed_32 ⟨Nat.zero_le _, Nat.zero_le _⟩ (fun r32 hrr => ?_)
  subst hrr
  refine lv_iconst (v := 0) hx hb d_Insp_isLed_35 (by decide) ?_
  refine ro_V (b0 := (wA w 6)) (As := [.int (tGet 5 (pAt σ) r7 4), .int (tGet 5 (pAt σ) r7 1), .int 0]) (rest := []) ⟨hx, hb, hml, hown, hta⟩ (f_Book_letterAt l w σ (tGet 5 (pAt σ) r7 4) (tGet 5 (pAt σ) r7 1) 0 hI) ok_Insp_64 ⟨Nat.le_of_ble_eq_true rfl, Nat.le_of_ble_eq_true rfl⟩ blind_fW (va_recv hK hP (ci := 3) (q0 := 6) rfl rfl) (fW_of hP hK hC hS) rfl hl.1 rfl (Nat.le_of_ble_eq_true rfl) d_Insp_isLed_36 ⟨Nat.zero_le _, Nat.zero_le _⟩ (fun r36 hrr => ?_)
  subst hrr
  refine lv_bipush (v := 35) hx hb d_Insp_isLed_39 (by decide) ?_
  refine lv_icmp_eq (tgt := 46) hx hb d_Insp_isLed_41 (by decide) (fun cc41 => ?_) (fun cc41 => ?_)
  · have hE := hE.1 cc41
    refine lv_aload_n hx hb d_Insp_isLed_46 rfl (lv_at hl 2 rfl) ?_
    refine lv_iload_n hx hb d_Insp_isLed_47 rfl (lv_at hl 1 rfl) ?_
    refine lv_iconst (v := 1) hx hb d_Insp_isLed_48 (by decide) ?_
    refine lv_aload_n hx hb d_Insp_isLed_49 rfl (lv_at hl 2 rfl) ?_
    refine va_get (D := (wG w)) (ci := 5) (v := .ref (wA w 6)) (C := R_Insp) (T := F_Insp) (N := 1) hx hb hta i_Insp hown hK hP 14 rfl rfl 0 (by decide) (hta _ fl_Insp_9) (fun _ h9 => h9) rfl d_Insp_isLed_50 ?_
    refine ro_V (b0 := (wA w 6)) (As := []) (rest := [.int 1, .int r7, .ref (wA w 14)]) ⟨hx, hb, hml, hown, hta⟩ (f_Book_size l w σ  hI) ok_Insp_15 ⟨Nat.le_of_ble_eq_true rfl, Nat.le_of_ble_eq_true rfl⟩ blind_fW (va_recv hK hP (ci := 3) (q0 := 6) rfl rfl) (fW_of hP hK hC hS) rfl hl.1 rfl (Nat.le_of_ble_eq_true rfl) d_Insp_isLed_53 ⟨Nat.zero_le _, Nat.zero_le _⟩ (fun r53 hrr => ?_)
    subst hrr
    refine ro_V (b0 := (wA w 14)) (As := [.int r7, .int 1, .int ((pNd σ).1)]) (rest := []) ⟨hx, hb, hml, hown, hta⟩ (c_Insp_isIdAhead l w σ r7 1 ((pNd σ).1)  _ hI hE) ok_Insp_68 ⟨Nat.le_of_ble_eq_true rfl, Nat.le_of_ble_eq_true rfl⟩ blind_fW (va_recv hK hP (ci := 5) (q0 := 14) rfl rfl) (fW_of hP hK hC hS) rfl hl.1 rfl (Nat.le_of_ble_eq_true rfl) d_Insp_isLed_56 ⟨Nat.zero_le _, Nat.zero_le _⟩ (fun r56 hE => ?_)
    obtain ⟨hN, hE⟩ := hE
    exact W.zret (v := r56) hx hb hr hN (fun t ht hW => ⟨_, rfl, hE, ht⟩) (fun q h => by cases h) d_Insp_isLed_59
  · have hE := hE.2 cc41
    refine lv_iconst (v := 1) hx hb d_Insp_isLed_44 (by decide) ?_
    exact W.zret (v := 1) hx hb hr rfl (fun t ht hW => ⟨_, rfl, hE, ht⟩) (fun q h => by cases h) d_Insp_isLed_45
theorem ok_Insp_25 : okV "PlainPages$Inspector" 25 R_Insp y_Insp_mayBeThere b_Insp_mayBeThere 5 (some .boolean) 2 := ⟨aW_in 717 (by decide +kernel) rfl, aW_in 719 (by decide +kernel) rfl, aW_in 24 (by decide +kernel) rfl, aW_in 90 (by decide +kernel) rfl, cd_Insp_mayBeThere, rfl, by decide +kernel, by decide +kernel, by decide +kernel⟩
theorem ok_Insp_29 : okV "PlainPages$Inspector" 29 R_Insp y_Insp_hasFitAttributes b_Insp_hasFitAttributes 7 (some .boolean) 2 := ⟨aW_in 732 (by decide +kernel) rfl, aW_in 734 (by decide +kernel) rfl, aW_in 26 (by decide +kernel) rfl, aW_in 90 (by decide +kernel) rfl, cd_Insp_hasFitAttributes, rfl, by decide +kernel, by decide +kernel, by decide +kernel⟩
theorem ok_Insp_32 : okV "PlainPages$Inspector" 32 R_Insp y_Insp_holdsWhatItMust b_Insp_holdsWhatItMust 7 (some .boolean) 2 := ⟨aW_in 768 (by decide +kernel) rfl, aW_in 770 (by decide +kernel) rfl, aW_in 30 (by decide +kernel) rfl, aW_in 90 (by decide +kernel) rfl, cd_Insp_holdsWhatItMust, rfl, by decide +kernel, by decide +kernel, by decide +kernel⟩
theorem ok_Insp_35 : okV "PlainPages$Inspector" 35 R_Insp y_Insp_hasFitText b_Insp_hasFitText 5 (some .boolean) 2 := ⟨aW_in 776 (by decide +kernel) rfl, aW_in 778 (by decide +kernel) rfl, aW_in 31 (by decide +kernel) rfl, aW_in 90 (by decide +kernel) rfl, cd_Insp_hasFitText, rfl, by decide +kernel, by decide +kernel, by decide +kernel⟩
theorem d_Insp_firstUnfit_0 : decode b_Insp_firstUnfit 0 = .ok (.iconst 0, 1) := by decide +kernel
theorem d_Insp_firstUnfit_1 : decode b_Insp_firstUnfit 1 = .ok (.istore_n 1, 1) := by decide +kernel
theorem d_Insp_firstUnfit_2 : decode b_Insp_firstUnfit 2 = .ok (.iload_n 1, 1) := by decide +kernel
theorem d_Insp_firstUnfit_3 : decode b_Insp_firstUnfit 3 = .ok (.aload_n 0, 1) := by decide +kernel
theorem d_Insp_firstUnfit_4 : decode b_Insp_firstUnfit 4 = .ok (.getfield 9, 3) := by decide +kernel
theorem d_Insp_firstUnfit_7 : decode b_Insp_firstUnfit 7 = .ok (.invokevirtual 15, 3) := by decide +kernel
theorem d_Insp_firstUnfit_10 : decode b_Insp_firstUnfit 10 = .ok (.if_icmp .ge 89, 3) := by decide +kernel
theorem d_Insp_firstUnfit_13 : decode b_Insp_firstUnfit 13 = .ok (.aload_n 0, 1) := by decide +kernel
theorem d_Insp_firstUnfit_14 : decode b_Insp_firstUnfit 14 = .ok (.getfield 9, 3) := by decide +kernel
theorem d_Insp_firstUnfit_17 : decode b_Insp_firstUnfit 17 = .ok (.iload_n 1, 1) := by decide +kernel
theorem d_Insp_firstUnfit_18 : decode b_Insp_firstUnfit 18 = .ok (.invokevirtual 21, 3) := by decide +kernel
theorem d_Insp_firstUnfit_21 : decode b_Insp_firstUnfit 21 = .ok (.astore_n 2, 1) := by decide +kernel
theorem d_Insp_firstUnfit_22 : decode b_Insp_firstUnfit 22 = .ok (.aload_n 2, 1) := by decide +kernel
theorem d_Insp_firstUnfit_23 : decode b_Insp_firstUnfit 23 = .ok (.ifnull 43, 3) := by decide +kernel
theorem d_Insp_firstUnfit_26 : decode b_Insp_firstUnfit 26 = .ok (.aload_n 0, 1) := by decide +kernel
theorem d_Insp_firstUnfit_27 : decode b_Insp_firstUnfit 27 = .ok (.iload_n 1, 1) := by decide +kernel
theorem d_Insp_firstUnfit_28 : decode b_Insp_firstUnfit 28 = .ok (.aload_n 2, 1) := by decide +kernel
theorem d_Insp_firstUnfit_29 : decode b_Insp_firstUnfit 29 = .ok (.invokevirtual 25, 3) := by decide +kernel
theorem d_Insp_firstUnfit_32 : decode b_Insp_firstUnfit 32 = .ok (.ifCond .eq 34, 3) := by decide +kernel
theorem d_Insp_firstUnfit_35 : decode b_Insp_firstUnfit 35 = .ok (.aload_n 0, 1) := by decide +kernel
theorem d_Insp_firstUnfit_36 : decode b_Insp_firstUnfit 36 = .ok (.iload_n 1, 1) := by decide +kernel
theorem d_Insp_firstUnfit_37 : decode b_Insp_firstUnfit 37 = .ok (.aload_n 2, 1) := by decide +kernel
theorem d_Insp_firstUnfit_38 : decode b_Insp_firstUnfit 38 = .ok (.invokevirtual 29, 3) := by decide +kernel
theorem d_Insp_firstUnfit_41 : decode b_Insp_firstUnfit 41 = .ok (.ifCond .eq 25, 3) := by decide +kernel
theorem d_Insp_firstUnfit_44 : decode b_Insp_firstUnfit 44 = .ok (.aload_n 0, 1) := by decide +kernel
theorem d_Insp_firstUnfit_45 : decode b_Insp_firstUnfit 45 = .ok (.iload_n 1, 1) := by decide +kernel
theorem d_Insp_firstUnfit_46 : decode b_Insp_firstUnfit 46 = .ok (.aload_n 2, 1) := by decide +kernel
theorem d_Insp_firstUnfit_47 : decode b_Insp_firstUnfit 47 = .ok (.invokevirtual 32, 3) := by decide +kernel
theorem d_Insp_firstUnfit_50 : decode b_Insp_firstUnfit 50 = .ok (.ifCond .eq 16, 3) := by decide +kernel
theorem d_Insp_firstUnfit_53 : decode b_Insp_firstUnfit 53 = .ok (.aload_n 0, 1) := by decide +kernel
theorem d_Insp_firstUnfit_54 : decode b_Insp_firstUnfit 54 = .ok (.iload_n 1, 1) := by decide +kernel
theorem d_Insp_firstUnfit_55 : decode b_Insp_firstUnfit 55 = .ok (.aload_n 2, 1) := by decide +kernel
theorem d_Insp_firstUnfit_56 : decode b_Insp_firstUnfit 56 = .ok (.invokevirtual 35, 3) := by decide +kernel
theorem d_Insp_firstUnfit_59 : decode b_Insp_firstUnfit 59 = .ok (.ifCond .eq 7, 3) := by decide +kernel
theorem d_Insp_firstUnfit_62 : decode b_Insp_firstUnfit 62 = .ok (.iconst 1, 1) := by decide +kernel
theorem d_Insp_firstUnfit_63 : decode b_Insp_firstUnfit 63 = .ok (.goto 4, 3) := by decide +kernel
theorem d_Insp_firstUnfit_66 : decode b_Insp_firstUnfit 66 = .ok (.iconst 0, 1) := by decide +kernel
theorem d_Insp_firstUnfit_67 : decode b_Insp_firstUnfit 67 = .ok (.istore_n 3, 1) := by decide +kernel
theorem d_Insp_firstUnfit_68 : decode b_Insp_firstUnfit 68 = .ok (.aload_n 0, 1) := by decide +kernel
theorem d_Insp_firstUnfit_69 : decode b_Insp_firstUnfit 69 = .ok (.getfield 9, 3) := by decide +kernel
theorem d_Insp_firstUnfit_72 : decode b_Insp_firstUnfit 72 = .ok (.iload_n 1, 1) := by decide +kernel
theorem d_Insp_firstUnfit_73 : decode b_Insp_firstUnfit 73 = .ok (.invokevirtual 38, 3) := by decide +kernel
theorem d_Insp_firstUnfit_76 : decode b_Insp_firstUnfit 76 = .ok (.ifCond .eq 17, 3) := by decide +kernel
theorem d_Insp_firstUnfit_79 : decode b_Insp_firstUnfit 79 = .ok (.iload_n 3, 1) := by decide +kernel
theorem d_Insp_firstUnfit_80 : decode b_Insp_firstUnfit 80 = .ok (.ifCond .ne 13, 3) := by decide +kernel
theorem d_Insp_firstUnfit_83 : decode b_Insp_firstUnfit 83 = .ok (.aload_n 0, 1) := by decide +kernel
theorem d_Insp_firstUnfit_84 : decode b_Insp_firstUnfit 84 = .ok (.getfield 9, 3) := by decide +kernel
theorem d_Insp_firstUnfit_87 : decode b_Insp_firstUnfit 87 = .ok (.iload_n 1, 1) := by decide +kernel
theorem d_Insp_firstUnfit_88 : decode b_Insp_firstUnfit 88 = .ok (.iconst 2, 1) := by decide +kernel
theorem d_Insp_firstUnfit_89 : decode b_Insp_firstUnfit 89 = .ok (.invokevirtual 42, 3) := by decide +kernel
theorem d_Insp_firstUnfit_92 : decode b_Insp_firstUnfit 92 = .ok (.ireturn, 1) := by decide +kernel
theorem d_Insp_firstUnfit_93 : decode b_Insp_firstUnfit 93 = .ok (.iinc 1 1, 3) := by decide +kernel
theorem d_Insp_firstUnfit_96 : decode b_Insp_firstUnfit 96 = .ok (.goto (-94), 3) := by decide +kernel
theorem d_Insp_firstUnfit_99 : decode b_Insp_firstUnfit 99 = .ok (.iconst (-1), 1) := by decide +kernel
theorem d_Insp_firstUnfit_100 : decode b_Insp_firstUnfit 100 = .ok (.ireturn, 1) := by decide +kernel
def w_Insp_firstUnfit_J93  (σ : PPS) (K2 : Int32 → Prop) (post : Int32 → Prop) (v1 : Int32) : Prop := K2 (v1 + 1)
def w_Insp_firstUnfit_J67  (σ : PPS) (K2 : Int32 → Prop) (post : Int32 → Prop) (v1 : Int32) (t0 : Int32) : Prop := (((b2i (bEle σ v1)) = 0 → w_Insp_firstUnfit_J93 σ (K2) post v1) ∧ (¬ (b2i (bEle σ v1)) = 0 → ((t0 = 0 → post (tGet 14 (pNd σ) v1 2)) ∧ (¬ t0 = 0 → w_Insp_firstUnfit_J93 σ (K2) post v1))))
def w_Insp_firstUnfit_J66  (σ : PPS) (K2 : Int32 → Prop) (post : Int32 → Prop) (v1 : Int32) : Prop := w_Insp_firstUnfit_J67 σ (K2) post v1 0
def w_Insp_firstUnfit_L2  (σ : PPS) (post : Int32 → Prop) : Nat → Int32 → Prop
  | 0, _ => False
  | n2 + 1, v1 => ((((pNd σ).1) ≤ v1 → post (-1)) ∧ (¬ ((pNd σ).1) ≤ v1 → (∀ r18, r18 = bKind σ v1 → ((r18 = none → w_Insp_firstUnfit_J66 σ (w_Insp_firstUnfit_L2 σ post n2) post v1) ∧ (¬ r18 = none → w_Insp_mayBeThere σ v1 r18 (fun r29 => ((r29 = 0 → w_Insp_firstUnfit_J66 σ (w_Insp_firstUnfit_L2 σ post n2) post v1) ∧ (¬ r29 = 0 → w_Insp_hasFitAttributes σ v1 r18 (fun r38 => ((r38 = 0 → w_Insp_firstUnfit_J66 σ (w_Insp_firstUnfit_L2 σ post n2) post v1) ∧ (¬ r38 = 0 → w_Insp_holdsWhatItMust σ v1 r18 (fun r47 => ((r47 = 0 → w_Insp_firstUnfit_J66 σ (w_Insp_firstUnfit_L2 σ post n2) post v1) ∧ (¬ r47 = 0 → w_Insp_hasFitText σ v1 r18 (fun r56 => ((r56 = 0 → w_Insp_firstUnfit_J66 σ (w_Insp_firstUnfit_L2 σ post n2) post v1) ∧ (¬ r56 = 0 → w_Insp_firstUnfit_J67 σ (w_Insp_firstUnfit_L2 σ post n2) post v1 1)))))))))))))))))
def w_Insp_firstUnfit  (σ : PPS)  (post : Int32 → Prop) : Prop := (∃ n2, w_Insp_firstUnfit_L2 σ post n2 0)
set_option maxHeartbeats 4000000 in
set_option maxRecDepth 100000 in
theorem c_Insp_firstUnfit (l : Launch) (w : WD) (σ : PPS)   (post : Int32 → Prop) (hI : inv σ) (hE : w_Insp_firstUnfit σ post) : Met l y_Insp_firstUnfit ws_Insp_firstUnfit { frames := 8, cells := 0, slots := 0, locals := 178 } (va_Pc [.ref (wA w 14)] (fW w σ)) (vp_Si post) 0 0 (fun _ => False) := by
  refine Met.ofW (cc := b_Insp_firstUnfit) (maxL := 4) (ret := (some .int)) (by decide) rfl ?_
  intro p e s m args below meth c s₁ B hml hv
  obtain ⟨rfl, hP, hK, hC⟩ := hv
  have hS : va_S (fun _ : Nat => False) s.heap s.heap [] := va_S.rf
  have hx := B.exec
  have hb := B.bytes
  have hr := B.returns
  have hta : ∀ w ∈ aW, w.before _ s = true := fun w h => atoms_spec (ws := ws_Insp_firstUnfit) B.pre w (List.mem_cons_of_mem _ h)
  have hown : s.vm.findClass R_Insp = some m.cls := findClass_of_methodNamed B.named
  have hlocks := B.notSynchronized
  have hl := lv_entry ([.ref (wA w 14)]) (n := 4) (Nat.le_of_ble_eq_true rfl)
  rw [lg_entry_eq]
  generalize (lg_sl ([.ref (wA w 14)]) ++ List.replicate (4 - (lg_sl ([.ref (wA w 14)])).length) Slot.unset).toArray = ls at hl ⊢
  have hl : lv_has ls 4 [(0, .ref (wA w 14))] := hl
  have L2 : ∀ (n2 : Nat) (v1 : Int32) (ls : Array Slot) (hl : lv_has ls 4 [(0, .ref (wA w 14)), (1, .int v1)]) (hE : w_Insp_firstUnfit_L2 σ post n2 v1), W p l e (headSpec ws_Insp_firstUnfit { frames := 8, cells := 0, slots := 0, locals := 178 }).room s m ([.ref (wA w 14)] : List Value).toArray below meth c s.heap [] 0 0 (MQ below (vp_Si post) ([.ref (wA w 14)] : List Value).toArray s 0 0 (fun _ => False)) (F0 m 2 ls []) := by
    intro n2
    induction n2 with
    | zero => intro v1 ls hl hE; exact hE.elim
    | succ n2 ih2 =>
      have J93 : ∀ (v1 : Int32) (ls : Array Slot) (hl : lv_has ls 4 [(0, .ref (wA w 14)), (1, .int v1)]) (hE : w_Insp_firstUnfit_J93 σ (w_Insp_firstUnfit_L2 σ post n2) post v1), W p l e (headSpec ws_Insp_firstUnfit { frames := 8, cells := 0, slots := 0, locals := 178 }).room s m ([.ref (wA w 14)] : List Value).toArray below meth c s.heap [] 0 0 (MQ below (vp_Si post) ([.ref (wA w 14)] : List Value).toArray s 0 0 (fun _ => False)) (F0 m 93 ls []) := by
        intro  v1 ls hl hE
        unfold w_Insp_firstUnfit_J93 at hE
        refine lv_iinc (v := v1 + 1) (lv' := [(1, .int (v1 + 1)), (0, .ref (wA w 14))]) hx hb d_Insp_firstUnfit_93 hl (k := 1) rfl rfl (by decide) rfl (fun ls hl => ?_)
        refine lv_goto (tgt := 2) hx hb d_Insp_firstUnfit_96 (by decide) ?_
        exact ih2 (v1 + 1) _ (lv_sub hl [1, 0] rfl) hE
      have J67 : ∀ (v1 : Int32) (t0 : Int32) (ls : Array Slot) (hl : lv_has ls 4 [(0, .ref (wA w 14)), (1, .int v1)]) (hE : w_Insp_firstUnfit_J67 σ (w_Insp_firstUnfit_L2 σ post n2) post v1 t0), W p l e (headSpec ws_Insp_firstUnfit { frames := 8, cells := 0, slots := 0, locals := 178 }).room s m ([.ref (wA w 14)] : List Value).toArray below meth c s.heap [] 0 0 (MQ below (vp_Si post) ([.ref (wA w 14)] : List Value).toArray s 0 0 (fun _ => False)) (F0 m 67 ls [.int t0]) := by
        intro  v1 t0 ls hl hE
        unfold w_Insp_firstUnfit_J67 at hE
        refine lv_istore_n (lv' := [(3, .int t0), (0, .ref (wA w 14)), (1, .int v1)]) hx hb d_Insp_firstUnfit_67 rfl hl (by decide) rfl (fun ls hl => ?_)
        refine lv_aload_n hx hb d_Insp_firstUnfit_68 rfl (lv_at hl 1 rfl) ?_
        refine va_get (D := (wG w)) (ci := 5) (v := .ref (wA w 6)) (C := R_Insp) (T := F_Insp) (N := 1) hx hb hta i_Insp hown hK hP 14 rfl rfl 0 (by decide) (hta _ fl_Insp_9) (fun _ h9 => h9) rfl d_Insp_firstUnfit_69 ?_
        refine lv_iload_n hx hb d_Insp_firstUnfit_72 rfl (lv_at hl 2 rfl) ?_
        refine ro_V (b0 := (wA w 6)) (As := [.int v1]) (rest := []) ⟨hx, hb, hml, hown, hta⟩ (f_Book_isElement l w σ v1 hI) ok_Insp_38 ⟨Nat.le_of_ble_eq_true rfl, Nat.le_of_ble_eq_true rfl⟩ blind_fW (va_recv hK hP (ci := 3) (q0 := 6) rfl rfl) (fW_of hP hK hC hS) rfl hl.1 rfl (Nat.le_of_ble_eq_true rfl) d_Insp_firstUnfit_73 ⟨Nat.zero_le _, Nat.zero_le _⟩ (fun r73 hrr => ?_)
        subst hrr
        refine lv_if_eq (tgt := 93) hx hb d_Insp_firstUnfit_76 (by decide) (fun cc76 => ?_) (fun cc76 => ?_)
        · have hE := hE.1 cc76
          exact J93  v1 _ (lv_sub hl [1, 2] rfl) hE
        · have hE := hE.2 cc76
          refine lv_iload_n hx hb d_Insp_firstUnfit_79 rfl (lv_at hl 0 rfl) ?_
          refine lv_if_ne (tgt := 93) hx hb d_Insp_firstUnfit_80 (by decide) (fun cc80 => ?_) (fun cc80 => ?_)
          · have hE := hE.2 cc80
            exact J93  v1 _ (lv_sub hl [1, 2] rfl) hE
          · have hE := hE.1 cc80
            refine lv_aload_n hx hb d_Insp_firstUnfit_83 rfl (lv_at hl 1 rfl) ?_
            refine va_get (D := (wG w)) (ci := 5) (v := .ref (wA w 6)) (C := R_Insp) (T := F_Insp) (N := 1) hx hb hta i_Insp hown hK hP 14 rfl rfl 0 (by decide) (hta _ fl_Insp_9) (fun _ h9 => h9) rfl d_Insp_firstUnfit_84 ?_
            refine lv_iload_n hx hb d_Insp_firstUnfit_87 rfl (lv_at hl 2 rfl) ?_
            refine lv_iconst (v := 2) hx hb d_Insp_firstUnfit_88 (by decide) ?_
            refine ro_V (b0 := (wA w 6)) (As := [.int v1, .int 2]) (rest := []) ⟨hx, hb, hml, hown, hta⟩ (f_Book_ofNode l w σ v1 2 hI) ok_Insp_42 ⟨Nat.le_of_ble_eq_true rfl, Nat.le_of_ble_eq_true rfl⟩ blind_fW (va_recv hK hP (ci := 3) (q0 := 6) rfl rfl) (fW_of hP hK hC hS) rfl hl.1 rfl (Nat.le_of_ble_eq_true rfl) d_Insp_firstUnfit_89 ⟨Nat.zero_le _, Nat.zero_le _⟩ (fun r89 hrr => ?_)
            subst hrr
            exact W.iret (v := tGet 14 (pNd σ) v1 2) hx hb hr (fun t ht hW => ⟨_, rfl, hE, ht⟩) (fun q h => by cases h) d_Insp_firstUnfit_92
      have J66 : ∀ (v1 : Int32) (ls : Array Slot) (hl : lv_has ls 4 [(0, .ref (wA w 14)), (1, .int v1)]) (hE : w_Insp_firstUnfit_J66 σ (w_Insp_firstUnfit_L2 σ post n2) post v1), W p l e (headSpec ws_Insp_firstUnfit { frames := 8, cells := 0, slots := 0, locals := 178 }).room s m ([.ref (wA w 14)] : List Value).toArray below meth c s.heap [] 0 0 (MQ below (vp_Si post) ([.ref (wA w 14)] : List Value).toArray s 0 0 (fun _ => False)) (F0 m 66 ls []) := by
        intro  v1 ls hl hE
        unfold w_Insp_firstUnfit_J66 at hE
        refine lv_iconst (v := 0) hx hb d_Insp_firstUnfit_66 (by decide) ?_
        exact J67  v1 0 _ (lv_sub hl [0, 1] rfl) hE
      intro v1 ls hl hE
      unfold w_Insp_firstUnfit_L2 at hE
      refine lv_iload_n hx hb d_Insp_firstUnfit_2 rfl (lv_at hl 1 rfl) ?_
      refine lv_aload_n hx hb d_Insp_firstUnfit_3 rfl (lv_at hl 0 rfl) ?_
      refine va_get (D := (wG w)) (ci := 5) (v := .ref (wA w 6)) (C := R_Insp) (T := F_Insp) (N := 1) hx hb hta i_Insp hown hK hP 14 rfl rfl 0 (by decide) (hta _ fl_Insp_9) (fun _ h9 => h9) rfl d_Insp_firstUnfit_4 ?_
      refine ro_V (b0 := (wA w 6)) (As := []) (rest := [.int v1]) ⟨hx, hb, hml, hown, hta⟩ (f_Book_size l w σ  hI) ok_Insp_15 ⟨Nat.le_of_ble_eq_true rfl, Nat.le_of_ble_eq_true rfl⟩ blind_fW (va_recv hK hP (ci := 3) (q0 := 6) rfl rfl) (fW_of hP hK hC hS) rfl hl.1 rfl (Nat.le_of_ble_eq_true rfl) d_Insp_firstUnfit_7 ⟨Nat.zero_le _, Nat.zero_le _⟩ (fun r7 hrr => ?_)
      subst hrr
      refine lv_icmp_ge (tgt := 99) hx hb d_Insp_firstUnfit_10 (by decide) (fun cc10 => ?_) (fun cc10 => ?_)
      · have hE := hE.1 cc10
        refine lv_iconst (v := -1) hx hb d_Insp_firstUnfit_99 (by decide) ?_
        exact W.iret (v := (-1)) hx hb hr (fun t ht hW => ⟨_, rfl, hE, ht⟩) (fun q h => by cases h) d_Insp_firstUnfit_100
      · have hE := hE.2 cc10
        refine lv_aload_n hx hb d_Insp_firstUnfit_13 rfl (lv_at hl 0 rfl) ?_
        refine va_get (D := (wG w)) (ci := 5) (v := .ref (wA w 6)) (C := R_Insp) (T := F_Insp) (N := 1) hx hb hta i_Insp hown hK hP 14 rfl rfl 0 (by decide) (hta _ fl_Insp_9) (fun _ h9 => h9) rfl d_Insp_firstUnfit_14 ?_
        refine lv_iload_n hx hb d_Insp_firstUnfit_17 rfl (lv_at hl 1 rfl) ?_
        refine roQ_V (b0 := (wA w 6)) (As := [.int v1]) (rest := []) ⟨hx, hb, hml, hown, hta⟩ (f_Book_kindOf l w σ v1 hI) ok_Insp_21 ⟨Nat.le_of_ble_eq_true rfl, Nat.le_of_ble_eq_true rfl⟩ blind_fW (va_recv hK hP (ci := 3) (q0 := 6) rfl rfl) (fW_of hP hK hC hS) rfl hl.1 rfl (Nat.le_of_ble_eq_true rfl) d_Insp_firstUnfit_18 ⟨Nat.zero_le _, Nat.zero_le _⟩ (fun r18 hrr => ?_)
        have hE := hE r18 hrr
        refine lv_astore_nQ (lv' := [(2, va_re (wE w) r18), (0, .ref (wA w 14)), (1, .int v1)]) hx hb d_Insp_firstUnfit_21 rfl hl (by decide) rfl (fun ls hl => ?_)
        refine lv_aload_nQ hx hb d_Insp_firstUnfit_22 rfl (lv_at hl 0 rfl) ?_
        refine lv_ifnullQ (tgt := 66) hx hb d_Insp_firstUnfit_23 (by decide) (fun cc23 => ?_) (fun cc23 => ?_)
        · have hE := hE.1 cc23
          exact J66  v1 _ (lv_sub hl [1, 2] rfl) hE
        · have hE := hE.2 cc23
          refine lv_aload_n hx hb d_Insp_firstUnfit_26 rfl (lv_at hl 1 rfl) ?_
          refine lv_iload_n hx hb d_Insp_firstUnfit_27 rfl (lv_at hl 2 rfl) ?_
          refine lv_aload_nQ hx hb d_Insp_firstUnfit_28 rfl (lv_at hl 0 rfl) ?_
          refine ro_V (b0 := (wA w 14)) (As := [.int v1, va_re (wE w) r18]) (rest := []) ⟨hx, hb, hml, hown, hta⟩ (c_Insp_mayBeThere l w σ v1 r18  _ hI hE) ok_Insp_25 ⟨Nat.le_of_ble_eq_true rfl, Nat.le_of_ble_eq_true rfl⟩ blind_fW (va_recv hK hP (ci := 5) (q0 := 14) rfl rfl) (fW_of hP hK hC hS) rfl hl.1 rfl (Nat.le_of_ble_eq_true rfl) d_Insp_firstUnfit_29 ⟨Nat.zero_le _, Nat.zero_le _⟩ (fun r29 hE => ?_)
          refine lv_if_eq (tgt := 66) hx hb d_Insp_firstUnfit_32 (by decide) (fun cc32 => ?_) (fun cc32 => ?_)
          · have hE := hE.1 cc32
            exact J66  v1 _ (lv_sub hl [1, 2] rfl) hE
          · have hE := hE.2 cc32
            refine lv_aload_n hx hb d_Insp_firstUnfit_35 rfl (lv_at hl 1 rfl) ?_
            refine lv_iload_n hx hb d_Insp_firstUnfit_36 rfl (lv_at hl 2 rfl) ?_
            refine lv_aload_nQ hx hb d_Insp_firstUnfit_37 rfl (lv_at hl 0 rfl) ?_
            refine ro_V (b0 := (wA w 14)) (As := [.int v1, va_re (wE w) r18]) (rest := []) ⟨hx, hb, hml, hown, hta⟩ (c_Insp_hasFitAttributes l w σ v1 r18  _ hI hE) ok_Insp_29 ⟨Nat.le_of_ble_eq_true rfl, Nat.le_of_ble_eq_true rfl⟩ blind_fW (va_recv hK hP (ci := 5) (q0 := 14) rfl rfl) (fW_of hP hK hC hS) rfl hl.1 rfl (Nat.le_of_ble_eq_true rfl) d_Insp_firstUnfit_38 ⟨Nat.zero_le _, Nat.zero_le _⟩ (fun r38 hE => ?_)
            refine lv_if_eq (tgt := 66) hx hb d_Insp_firstUnfit_41 (by decide) (fun cc41 => ?_) (fun cc41 => ?_)
            · have hE := hE.1 cc41
              exact J66  v1 _ (lv_sub hl [1, 2] rfl) hE
            · have hE := hE.2 cc41
              refine lv_aload_n hx hb d_Insp_firstUnfit_44 rfl (lv_at hl 1 rfl) ?_
              refine lv_iload_n hx hb d_Insp_firstUnfit_45 rfl (lv_at hl 2 rfl) ?_
              refine lv_aload_nQ hx hb d_Insp_firstUnfit_46 rfl (lv_at hl 0 rfl) ?_
              refine ro_V (b0 := (wA w 14)) (As := [.int v1, va_re (wE w) r18]) (rest := []) ⟨hx, hb, hml, hown, hta⟩ (c_Insp_holdsWhatItMust l w σ v1 r18  _ hI hE) ok_Insp_32 ⟨Nat.le_of_ble_eq_true rfl, Nat.le_of_ble_eq_true rfl⟩ blind_fW (va_recv hK hP (ci := 5) (q0 := 14) rfl rfl) (fW_of hP hK hC hS) rfl hl.1 rfl (Nat.le_of_ble_eq_true rfl) d_Insp_firstUnfit_47 ⟨Nat.zero_le _, Nat.zero_le _⟩ (fun r47 hE => ?_)
              refine lv_if_eq (tgt := 66) hx hb d_Insp_firstUnfit_50 (by decide) (fun cc50 => ?_) (fun cc50 => ?_)
              · have hE := hE.1 cc50
                exact J66  v1 _ (lv_sub hl [1, 2] rfl) hE
              · have hE := hE.2 cc50
                refine lv_aload_n hx hb d_Insp_firstUnfit_53 rfl (lv_at hl 1 rfl) ?_
                refine lv_iload_n hx hb d_Insp_firstUnfit_54 rfl (lv_at hl 2 rfl) ?_
                refine lv_aload_nQ hx hb d_Insp_firstUnfit_55 rfl (lv_at hl 0 rfl) ?_
                refine ro_V (b0 := (wA w 14)) (As := [.int v1, va_re (wE w) r18]) (rest := []) ⟨hx, hb, hml, hown, hta⟩ (c_Insp_hasFitText l w σ v1 r18  _ hI hE) ok_Insp_35 ⟨Nat.le_of_ble_eq_true rfl, Nat.le_of_ble_eq_true rfl⟩ blind_fW (va_recv hK hP (ci := 5) (q0 := 14) rfl rfl) (fW_of hP hK hC hS) rfl hl.1 rfl (Nat.le_of_ble_eq_true rfl) d_Insp_firstUnfit_56 ⟨Nat.zero_le _, Nat.zero_le _⟩ (fun r56 hE => ?_)
                refine lv_if_eq (tgt := 66) hx hb d_Insp_firstUnfit_59 (by decide) (fun cc59 => ?_) (fun cc59 => ?_)
                · have hE := hE.1 cc59
                  exact J66  v1 _ (lv_sub hl [1, 2] rfl) hE
                · have hE := hE.2 cc59
                  refine lv_iconst (v := 1) hx hb d_Insp_firstUnfit_62 (by decide) ?_
                  refine lv_goto (tgt := 67) hx hb d_Insp_firstUnfit_63 (by decide) ?_
                  exact J67  v1 1 _ (lv_sub hl [1, 2] rfl) hE
  unfold w_Insp_firstUnfit at hE
  refine lv_iconst (v := 0) hx hb d_Insp_firstUnfit_0 (by decide) ?_
  refine lv_istore_n (lv' := [(1, .int 0), (0, .ref (wA w 14))]) hx hb d_Insp_firstUnfit_1 rfl hl (by decide) rfl (fun ls hl => ?_)
  obtain ⟨n2, hE⟩ := hE
  exact L2  n2 0 _ (lv_sub hl [1, 0] rfl) hE
theorem ok_Insp_52 : okV "PlainPages$Inspector" 52 R_Insp y_Insp_isLed b_Insp_isLed 4 (some .boolean) 1 := ⟨aW_in 796 (by decide +kernel) rfl, aW_in 798 (by decide +kernel) rfl, aW_in 33 (by decide +kernel) rfl, aW_in 90 (by decide +kernel) rfl, cd_Insp_isLed, rfl, by decide +kernel, by decide +kernel, by decide +kernel⟩
theorem d_Insp_firstAstray_0 : decode b_Insp_firstAstray 0 = .ok (.iconst 0, 1) := by decide +kernel
theorem d_Insp_firstAstray_1 : decode b_Insp_firstAstray 1 = .ok (.istore_n 1, 1) := by decide +kernel
theorem d_Insp_firstAstray_2 : decode b_Insp_firstAstray 2 = .ok (.iload_n 1, 1) := by decide +kernel
theorem d_Insp_firstAstray_3 : decode b_Insp_firstAstray 3 = .ok (.aload_n 0, 1) := by decide +kernel
theorem d_Insp_firstAstray_4 : decode b_Insp_firstAstray 4 = .ok (.getfield 9, 3) := by decide +kernel
theorem d_Insp_firstAstray_7 : decode b_Insp_firstAstray 7 = .ok (.invokevirtual 15, 3) := by decide +kernel
theorem d_Insp_firstAstray_10 : decode b_Insp_firstAstray 10 = .ok (.if_icmp .ge 41, 3) := by decide +kernel
theorem d_Insp_firstAstray_13 : decode b_Insp_firstAstray 13 = .ok (.aload_n 0, 1) := by decide +kernel
theorem d_Insp_firstAstray_14 : decode b_Insp_firstAstray 14 = .ok (.getfield 9, 3) := by decide +kernel
theorem d_Insp_firstAstray_17 : decode b_Insp_firstAstray 17 = .ok (.iload_n 1, 1) := by decide +kernel
theorem d_Insp_firstAstray_18 : decode b_Insp_firstAstray 18 = .ok (.invokevirtual 21, 3) := by decide +kernel
theorem d_Insp_firstAstray_21 : decode b_Insp_firstAstray 21 = .ok (.getstatic 46, 3) := by decide +kernel
theorem d_Insp_firstAstray_24 : decode b_Insp_firstAstray 24 = .ok (.if_acmp .ne 21, 3) := by decide +kernel
theorem d_Insp_firstAstray_27 : decode b_Insp_firstAstray 27 = .ok (.aload_n 0, 1) := by decide +kernel
theorem d_Insp_firstAstray_28 : decode b_Insp_firstAstray 28 = .ok (.iload_n 1, 1) := by decide +kernel
theorem d_Insp_firstAstray_29 : decode b_Insp_firstAstray 29 = .ok (.invokevirtual 52, 3) := by decide +kernel
theorem d_Insp_firstAstray_32 : decode b_Insp_firstAstray 32 = .ok (.ifCond .ne 13, 3) := by decide +kernel
theorem d_Insp_firstAstray_35 : decode b_Insp_firstAstray 35 = .ok (.aload_n 0, 1) := by decide +kernel
theorem d_Insp_firstAstray_36 : decode b_Insp_firstAstray 36 = .ok (.getfield 9, 3) := by decide +kernel
theorem d_Insp_firstAstray_39 : decode b_Insp_firstAstray 39 = .ok (.iload_n 1, 1) := by decide +kernel
theorem d_Insp_firstAstray_40 : decode b_Insp_firstAstray 40 = .ok (.iconst 2, 1) := by decide +kernel
theorem d_Insp_firstAstray_41 : decode b_Insp_firstAstray 41 = .ok (.invokevirtual 42, 3) := by decide +kernel
theorem d_Insp_firstAstray_44 : decode b_Insp_firstAstray 44 = .ok (.ireturn, 1) := by decide +kernel
theorem d_Insp_firstAstray_45 : decode b_Insp_firstAstray 45 = .ok (.iinc 1 1, 3) := by decide +kernel
theorem d_Insp_firstAstray_48 : decode b_Insp_firstAstray 48 = .ok (.goto (-46), 3) := by decide +kernel
theorem d_Insp_firstAstray_51 : decode b_Insp_firstAstray 51 = .ok (.iconst (-1), 1) := by decide +kernel
theorem d_Insp_firstAstray_52 : decode b_Insp_firstAstray 52 = .ok (.ireturn, 1) := by decide +kernel
def w_Insp_firstAstray_J45  (σ : PPS) (K2 : Int32 → Prop) (post : Int32 → Prop) (v1 : Int32) : Prop := K2 (v1 + 1)
def w_Insp_firstAstray_L2  (σ : PPS) (post : Int32 → Prop) : Nat → Int32 → Prop
  | 0, _ => False
  | n2 + 1, v1 => ((((pNd σ).1) ≤ v1 → post (-1)) ∧ (¬ ((pNd σ).1) ≤ v1 → (∀ r18, r18 = bKind σ v1 → (kOk r18 ∧ ((r18 = (some 17) → w_Insp_isLed σ v1 (fun r29 => ((r29 = 0 → post (tGet 14 (pNd σ) v1 2)) ∧ (¬ r29 = 0 → w_Insp_firstAstray_J45 σ (w_Insp_firstAstray_L2 σ post n2) post v1)))) ∧ (¬ r18 = (some 17) → w_Insp_firstAstray_J45 σ (w_Insp_firstAstray_L2 σ post n2) post v1))))))
def w_Insp_firstAstray  (σ : PPS)  (post : Int32 → Prop) : Prop := (∃ n2, w_Insp_firstAstray_L2 σ post n2 0)
set_option maxHeartbeats 4000000 in
set_option maxRecDepth 100000 in
theorem c_Insp_firstAstray (l : Launch) (w : WD) (σ : PPS)   (post : Int32 → Prop) (hI : inv σ) (hE : w_Insp_firstAstray σ post) : Met l y_Insp_firstAstray ws_Insp_firstAstray { frames := 8, cells := 0, slots := 0, locals := 179 } (va_Pc [.ref (wA w 14)] (fW w σ)) (vp_Si post) 0 0 (fun _ => False) := by
  refine Met.ofW (cc := b_Insp_firstAstray) (maxL := 2) (ret := (some .int)) (by decide) rfl ?_
  intro p e s m args below meth c s₁ B hml hv
  obtain ⟨rfl, hP, hK, hC⟩ := hv
  have hS : va_S (fun _ : Nat => False) s.heap s.heap [] := va_S.rf
  have hx := B.exec
  have hb := B.bytes
  have hr := B.returns
  have hta : ∀ w ∈ aW, w.before _ s = true := fun w h => atoms_spec (ws := ws_Insp_firstAstray) B.pre w (List.mem_cons_of_mem _ h)
  have hown : s.vm.findClass R_Insp = some m.cls := findClass_of_methodNamed B.named
  have hlocks := B.notSynchronized
  have hl := lv_entry ([.ref (wA w 14)]) (n := 2) (Nat.le_of_ble_eq_true rfl)
  rw [lg_entry_eq]
  generalize (lg_sl ([.ref (wA w 14)]) ++ List.replicate (2 - (lg_sl ([.ref (wA w 14)])).length) Slot.unset).toArray = ls at hl ⊢
  have hl : lv_has ls 2 [(0, .ref (wA w 14))] := hl
  have L2 : ∀ (n2 : Nat) (v1 : Int32) (ls : Array Slot) (hl : lv_has ls 2 [(0, .ref (wA w 14)), (1, .int v1)]) (hE : w_Insp_firstAstray_L2 σ post n2 v1), W p l e (headSpec ws_Insp_firstAstray { frames := 8, cells := 0, slots := 0, locals := 179 }).room s m ([.ref (wA w 14)] : List Value).toArray below meth c s.heap [] 0 0 (MQ below (vp_Si post) ([.ref (wA w 14)] : List Value).toArray s 0 0 (fun _ => False)) (F0 m 2 ls []) := by
    intro n2
    induction n2 with
    | zero => intro v1 ls hl hE; exact hE.elim
    | succ n2 ih2 =>
      have J45 : ∀ (v1 : Int32) (ls : Array Slot) (hl : lv_has ls 2 [(0, .ref (wA w 14)), (1, .int v1)]) (hE : w_Insp_firstAstray_J45 σ (w_Insp_firstAstray_L2 σ post n2) post v1), W p l e (headSpec ws_Insp_firstAstray { frames := 8, cells := 0, slots := 0, locals := 179 }).room s m ([.ref (wA w 14)] : List Value).toArray below meth c s.heap [] 0 0 (MQ below (vp_Si post) ([.ref (wA w 14)] : List Value).toArray s 0 0 (fun _ => False)) (F0 m 45 ls []) := by
        intro  v1 ls hl hE
        unfold w_Insp_firstAstray_J45 at hE
        refine lv_iinc (v := v1 + 1) (lv' := [(1, .int (v1 + 1)), (0, .ref (wA w 14))]) hx hb d_Insp_firstAstray_45 hl (k := 1) rfl rfl (by decide) rfl (fun ls hl => ?_)
        refine lv_goto (tgt := 2) hx hb d_Insp_firstAstray_48 (by decide) ?_
        exact ih2 (v1 + 1) _ (lv_sub hl [1, 0] rfl) hE
      intro v1 ls hl hE
      unfold w_Insp_firstAstray_L2 at hE
      refine lv_iload_n hx hb d_Insp_firstAstray_2 rfl (lv_at hl 1 rfl) ?_
      refine lv_aload_n hx hb d_Insp_firstAstray_3 rfl (lv_at hl 0 rfl) ?_
      refine va_get (D := (wG w)) (ci := 5) (v := .ref (wA w 6)) (C := R_Insp) (T := F_Insp) (N := 1) hx hb hta i_Insp hown hK hP 14 rfl rfl 0 (by decide) (hta _ fl_Insp_9) (fun _ h9 => h9) rfl d_Insp_firstAstray_4 ?_
      refine ro_V (b0 := (wA w 6)) (As := []) (rest := [.int v1]) ⟨hx, hb, hml, hown, hta⟩ (f_Book_size l w σ  hI) ok_Insp_15 ⟨Nat.le_of_ble_eq_true rfl, Nat.le_of_ble_eq_true rfl⟩ blind_fW (va_recv hK hP (ci := 3) (q0 := 6) rfl rfl) (fW_of hP hK hC hS) rfl hl.1 rfl (Nat.le_of_ble_eq_true rfl) d_Insp_firstAstray_7 ⟨Nat.zero_le _, Nat.zero_le _⟩ (fun r7 hrr => ?_)
      subst hrr
      refine lv_icmp_ge (tgt := 51) hx hb d_Insp_firstAstray_10 (by decide) (fun cc10 => ?_) (fun cc10 => ?_)
      · have hE := hE.1 cc10
        refine lv_iconst (v := -1) hx hb d_Insp_firstAstray_51 (by decide) ?_
        exact W.iret (v := (-1)) hx hb hr (fun t ht hW => ⟨_, rfl, hE, ht⟩) (fun q h => by cases h) d_Insp_firstAstray_52
      · have hE := hE.2 cc10
        refine lv_aload_n hx hb d_Insp_firstAstray_13 rfl (lv_at hl 0 rfl) ?_
        refine va_get (D := (wG w)) (ci := 5) (v := .ref (wA w 6)) (C := R_Insp) (T := F_Insp) (N := 1) hx hb hta i_Insp hown hK hP 14 rfl rfl 0 (by decide) (hta _ fl_Insp_9) (fun _ h9 => h9) rfl d_Insp_firstAstray_14 ?_
        refine lv_iload_n hx hb d_Insp_firstAstray_17 rfl (lv_at hl 1 rfl) ?_
        refine roQ_V (b0 := (wA w 6)) (As := [.int v1]) (rest := []) ⟨hx, hb, hml, hown, hta⟩ (f_Book_kindOf l w σ v1 hI) ok_Insp_21 ⟨Nat.le_of_ble_eq_true rfl, Nat.le_of_ble_eq_true rfl⟩ blind_fW (va_recv hK hP (ci := 3) (q0 := 6) rfl rfl) (fW_of hP hK hC hS) rfl hl.1 rfl (Nat.le_of_ble_eq_true rfl) d_Insp_firstAstray_18 ⟨Nat.zero_le _, Nat.zero_le _⟩ (fun r18 hrr => ?_)
        have hE := hE r18 hrr
        refine k_sta (k := 17) hx hb hC (by decide) rfl hS hown (hta _ fl_Insp_46) d_Insp_firstAstray_21 ?_
        obtain ⟨hkx, hE⟩ := hE
        refine lv_acmpE_ne hC.1.2 hkx (fun _ h => by cases h; first | assumption | decide) (tgt := 45) hx hb d_Insp_firstAstray_24 (by decide) (fun cc24 => ?_) (fun cc24 => ?_)
        · have hE := hE.2 cc24
          exact J45  v1 _ (lv_sub hl [0, 1] rfl) hE
        · have hE := hE.1 cc24
          refine lv_aload_n hx hb d_Insp_firstAstray_27 rfl (lv_at hl 0 rfl) ?_
          refine lv_iload_n hx hb d_Insp_firstAstray_28 rfl (lv_at hl 1 rfl) ?_
          refine ro_V (b0 := (wA w 14)) (As := [.int v1]) (rest := []) ⟨hx, hb, hml, hown, hta⟩ (c_Insp_isLed l w σ v1  _ hI hE) ok_Insp_52 ⟨Nat.le_of_ble_eq_true rfl, Nat.le_of_ble_eq_true rfl⟩ blind_fW (va_recv hK hP (ci := 5) (q0 := 14) rfl rfl) (fW_of hP hK hC hS) rfl hl.1 rfl (Nat.le_of_ble_eq_true rfl) d_Insp_firstAstray_29 ⟨Nat.zero_le _, Nat.zero_le _⟩ (fun r29 hE => ?_)
          refine lv_if_ne (tgt := 45) hx hb d_Insp_firstAstray_32 (by decide) (fun cc32 => ?_) (fun cc32 => ?_)
          · have hE := hE.2 cc32
            exact J45  v1 _ (lv_sub hl [0, 1] rfl) hE
          · have hE := hE.1 cc32
            refine lv_aload_n hx hb d_Insp_firstAstray_35 rfl (lv_at hl 0 rfl) ?_
            refine va_get (D := (wG w)) (ci := 5) (v := .ref (wA w 6)) (C := R_Insp) (T := F_Insp) (N := 1) hx hb hta i_Insp hown hK hP 14 rfl rfl 0 (by decide) (hta _ fl_Insp_9) (fun _ h9 => h9) rfl d_Insp_firstAstray_36 ?_
            refine lv_iload_n hx hb d_Insp_firstAstray_39 rfl (lv_at hl 1 rfl) ?_
            refine lv_iconst (v := 2) hx hb d_Insp_firstAstray_40 (by decide) ?_
            refine ro_V (b0 := (wA w 6)) (As := [.int v1, .int 2]) (rest := []) ⟨hx, hb, hml, hown, hta⟩ (f_Book_ofNode l w σ v1 2 hI) ok_Insp_42 ⟨Nat.le_of_ble_eq_true rfl, Nat.le_of_ble_eq_true rfl⟩ blind_fW (va_recv hK hP (ci := 3) (q0 := 6) rfl rfl) (fW_of hP hK hC hS) rfl hl.1 rfl (Nat.le_of_ble_eq_true rfl) d_Insp_firstAstray_41 ⟨Nat.zero_le _, Nat.zero_le _⟩ (fun r41 hrr => ?_)
            subst hrr
            exact W.iret (v := tGet 14 (pNd σ) v1 2) hx hb hr (fun t ht hW => ⟨_, rfl, hE, ht⟩) (fun q h => by cases h) d_Insp_firstAstray_44
  unfold w_Insp_firstAstray at hE
  refine lv_iconst (v := 0) hx hb d_Insp_firstAstray_0 (by decide) ?_
  refine lv_istore_n (lv' := [(1, .int 0), (0, .ref (wA w 14))]) hx hb d_Insp_firstAstray_1 rfl hl (by decide) rfl (fun ls hl => ?_)
  obtain ⟨n2, hE⟩ := hE
  exact L2  n2 0 _ (lv_sub hl [1, 0] rfl) hE
