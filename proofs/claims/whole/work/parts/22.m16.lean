-- printed by wip/gen: the reference
theorem ok_M_330 : okV "PlainPagesModel" 330 R_M y_M_characterIn b_M_characterIn 7 (some .int) 3 := ⟨aW_in 1255 (by decide +kernel) rfl, aW_in 1257 (by decide +kernel) rfl, aW_in 73 (by decide +kernel) rfl, aW_in 92 (by decide +kernel) rfl, cd_M_characterIn, rfl, by decide +kernel, by decide +kernel, by decide +kernel⟩
theorem d_M_letter_0 : decode b_M_letter 0 = .ok (.aload_n 0, 1) := by decide +kernel
theorem d_M_letter_1 : decode b_M_letter 1 = .ok (.iconst 0, 1) := by decide +kernel
theorem d_M_letter_2 : decode b_M_letter 2 = .ok (.putfield 70, 3) := by decide +kernel
theorem d_M_letter_5 : decode b_M_letter 5 = .ok (.aload_n 0, 1) := by decide +kernel
theorem d_M_letter_6 : decode b_M_letter 6 = .ok (.iload_n 1, 1) := by decide +kernel
theorem d_M_letter_7 : decode b_M_letter 7 = .ok (.invokevirtual 323, 3) := by decide +kernel
theorem d_M_letter_10 : decode b_M_letter 10 = .ok (.ifCond .eq 7, 3) := by decide +kernel
theorem d_M_letter_13 : decode b_M_letter 13 = .ok (.iload_n 2, 1) := by decide +kernel
theorem d_M_letter_14 : decode b_M_letter 14 = .ok (.ifCond .ge 5, 3) := by decide +kernel
theorem d_M_letter_17 : decode b_M_letter 17 = .ok (.iconst (-1), 1) := by decide +kernel
theorem d_M_letter_18 : decode b_M_letter 18 = .ok (.ireturn, 1) := by decide +kernel
theorem d_M_letter_19 : decode b_M_letter 19 = .ok (.aload_n 0, 1) := by decide +kernel
theorem d_M_letter_20 : decode b_M_letter 20 = .ok (.getfield 36, 3) := by decide +kernel
theorem d_M_letter_23 : decode b_M_letter 23 = .ok (.iload_n 1, 1) := by decide +kernel
theorem d_M_letter_24 : decode b_M_letter 24 = .ok (.baload, 1) := by decide +kernel
theorem d_M_letter_25 : decode b_M_letter 25 = .ok (.ifCond .eq 33, 3) := by decide +kernel
theorem d_M_letter_28 : decode b_M_letter 28 = .ok (.iload_n 2, 1) := by decide +kernel
theorem d_M_letter_29 : decode b_M_letter 29 = .ok (.aload_n 0, 1) := by decide +kernel
theorem d_M_letter_30 : decode b_M_letter 30 = .ok (.iload_n 1, 1) := by decide +kernel
theorem d_M_letter_31 : decode b_M_letter 31 = .ok (.invokevirtual 221, 3) := by decide +kernel
theorem d_M_letter_34 : decode b_M_letter 34 = .ok (.if_icmp .ge 20, 3) := by decide +kernel
theorem d_M_letter_37 : decode b_M_letter 37 = .ok (.aload_n 0, 1) := by decide +kernel
theorem d_M_letter_38 : decode b_M_letter 38 = .ok (.aload_n 0, 1) := by decide +kernel
theorem d_M_letter_39 : decode b_M_letter 39 = .ok (.getfield 40, 3) := by decide +kernel
theorem d_M_letter_42 : decode b_M_letter 42 = .ok (.iload_n 1, 1) := by decide +kernel
theorem d_M_letter_43 : decode b_M_letter 43 = .ok (.iaload, 1) := by decide +kernel
theorem d_M_letter_44 : decode b_M_letter 44 = .ok (.iconst 1, 1) := by decide +kernel
theorem d_M_letter_45 : decode b_M_letter 45 = .ok (.iadd, 1) := by decide +kernel
theorem d_M_letter_46 : decode b_M_letter 46 = .ok (.iload_n 2, 1) := by decide +kernel
theorem d_M_letter_47 : decode b_M_letter 47 = .ok (.iadd, 1) := by decide +kernel
theorem d_M_letter_48 : decode b_M_letter 48 = .ok (.invokevirtual 95, 3) := by decide +kernel
theorem d_M_letter_51 : decode b_M_letter 51 = .ok (.goto 24, 3) := by decide +kernel
theorem d_M_letter_54 : decode b_M_letter 54 = .ok (.iconst (-1), 1) := by decide +kernel
theorem d_M_letter_55 : decode b_M_letter 55 = .ok (.goto 20, 3) := by decide +kernel
theorem d_M_letter_58 : decode b_M_letter 58 = .ok (.aload_n 0, 1) := by decide +kernel
theorem d_M_letter_59 : decode b_M_letter 59 = .ok (.aload_n 0, 1) := by decide +kernel
theorem d_M_letter_60 : decode b_M_letter 60 = .ok (.getfield 40, 3) := by decide +kernel
theorem d_M_letter_63 : decode b_M_letter 63 = .ok (.iload_n 1, 1) := by decide +kernel
theorem d_M_letter_64 : decode b_M_letter 64 = .ok (.iaload, 1) := by decide +kernel
theorem d_M_letter_65 : decode b_M_letter 65 = .ok (.aload_n 0, 1) := by decide +kernel
theorem d_M_letter_66 : decode b_M_letter 66 = .ok (.getfield 43, 3) := by decide +kernel
theorem d_M_letter_69 : decode b_M_letter 69 = .ok (.iload_n 1, 1) := by decide +kernel
theorem d_M_letter_70 : decode b_M_letter 70 = .ok (.iaload, 1) := by decide +kernel
theorem d_M_letter_71 : decode b_M_letter 71 = .ok (.iload_n 2, 1) := by decide +kernel
theorem d_M_letter_72 : decode b_M_letter 72 = .ok (.invokevirtual 330, 3) := by decide +kernel
theorem d_M_letter_75 : decode b_M_letter 75 = .ok (.ireturn, 1) := by decide +kernel
def w_M_letter  (σ : MPS) (x0 : Int32) (x1 : Int32) (post : Int32 → MPS → Prop) : Prop := (∀ σ2 : MPS, σ2 = ms_thrown σ 0 → w_M_isNode σ2 x0 (fun r7 => ((r7 = 0 → post (-1) σ2) ∧ (¬ r7 = 0 → ((0 ≤ x1 → (vp_in x0 1000 ∧ ((((mp_isElement σ2) x0.toNatClampNeg) = 0 → (vp_in x0 1000 ∧ (vp_in x0 1000 ∧ w_M_characterIn σ2 ((mp_begins σ2) x0.toNatClampNeg) ((mp_ends σ2) x0.toNatClampNeg) x1 (fun r72 σ72 => post r72 σ72)))) ∧ (¬ ((mp_isElement σ2) x0.toNatClampNeg) = 0 → w_M_nameSize σ2 x0 (fun r31 => ((r31 ≤ x1 → post (-1) σ2) ∧ (¬ r31 ≤ x1 → (vp_in x0 1000 ∧ (mXk σ2 ((((mp_begins σ2) x0.toNatClampNeg) + 1) + x1) ∧ post (mX σ2 ((((mp_begins σ2) x0.toNatClampNeg) + 1) + x1)) σ2))))))))) ∧ (¬ 0 ≤ x1 → post (-1) σ2))))))
set_option maxHeartbeats 4000000 in
set_option maxRecDepth 100000 in
theorem c_M_letter (l : Launch) (md : MD) (sz : Nat) (σ : MPS) (x0 : Int32) (x1 : Int32)  (post : Int32 → MPS → Prop) (hE : w_M_letter σ x0 x1 post) : Met l y_M_letter ws_M_letter { frames := 4, cells := 0, slots := 0, locals := 99 } (va_Pc [.ref (mA md 0), .int x0, .int x1] (gM md σ sz)) (va_Qi post (eM md (va_A (MW md σ) sz)) (va_A (MW md σ) sz)) 0 0 (va_A (MW md σ) sz) := by
  refine Met.ofW (cc := b_M_letter) (maxL := 3) (ret := (some .int)) (by decide) rfl ?_
  intro p e s m args below meth c s₁ B hml hv
  obtain ⟨rfl, hsz, hP, hK, hD0⟩ := hv
  have hx := B.exec
  have hb := B.bytes
  have hr := B.returns
  have hta : ∀ w ∈ aW, w.before _ s = true := fun w h => atoms_spec (ws := ws_M_letter) B.pre w (List.mem_cons_of_mem _ h)
  have hown : s.vm.findClass R_M = some m.cls := findClass_of_methodNamed B.named
  have hlocks := B.notSynchronized
  subst hsz
  have hD := hD0.self (sz := s.heap.size)
  generalize hAe : va_A (MW md σ) s.heap.size = A at hD ⊢
  have hA : ∀ q : Nat, s.heap.size ≤ q → A q := fun q h => by rw [← hAe]; exact Or.inr h
  have hS : va_S A s.heap s.heap [] := va_S.rf
  have hP : va_P (mG md) classes (MW md σ) s.heap := hP
  have hl := lv_entry ([.ref (mA md 0), .int x0, .int x1]) (n := 3) (Nat.le_of_ble_eq_true rfl)
  rw [lg_entry_eq]
  generalize (lg_sl ([.ref (mA md 0), .int x0, .int x1]) ++ List.replicate (3 - (lg_sl ([.ref (mA md 0), .int x0, .int x1])).length) Slot.unset).toArray = ls at hl ⊢
  have hl : lv_has ls 3 [(0, .ref (mA md 0)), (1, .int x0), (2, .int x1)] := hl
  unfold w_M_letter at hE
  refine lv_aload_n hx hb d_M_letter_0 rfl (lv_at hl 0 rfl) ?_
  refine lv_iconst (v := 0) hx hb d_M_letter_1 (by decide) ?_
  refine va_put (D := (mG md)) (ci := 7) (v := .int 0) (ty := .int) (C := R_M) (T := F_M) (N := 37) hx hb hta i_M t_M t_M_ok n_M hown hK hP hD hS 0 rfl rfl 0 (by decide) (hta _ fl_M_70) (fun _ h9 => h9) rfl (by decide +kernel) rfl rfl (Nat.le_of_ble_eq_true rfl) d_M_letter_2 (fun H locs hP hD hS => ?_)
  have hP := mwP_thrown hP
  have hD := mwD_thrown hD
  have hE := hE _ rfl
  generalize (ms_thrown σ 0 : MPS) = σ2 at hP hD hE
  refine lv_aload_n hx hb d_M_letter_5 rfl (lv_at hl 0 rfl) ?_
  refine lv_iload_n hx hb d_M_letter_6 rfl (lv_at hl 1 rfl) ?_
  refine ro_V (b0 := (mA md 0)) (As := [.int x0]) (rest := []) ⟨hx, hb, hml, hown, hta⟩ (c_M_isNode l md σ2 x0  _ hE) ok_M_323 ⟨Nat.le_of_ble_eq_true rfl, Nat.le_of_ble_eq_true rfl⟩ blind_rM (va_recv hK hP (ci := 7) (q0 := 0) rfl rfl) (rM_of hP hK) rfl hl.1 rfl (Nat.le_of_ble_eq_true rfl) d_M_letter_7 ⟨Nat.zero_le _, Nat.zero_le _⟩ (fun r7 hE => ?_)
  refine lv_if_eq (tgt := 17) hx hb d_M_letter_10 (by decide) (fun cc10 => ?_) (fun cc10 => ?_)
  · have hE := hE.1 cc10
    refine lv_iconst (v := -1) hx hb d_M_letter_17 (by decide) ?_
    exact W.iret (v := (-1)) hx hb hr (fun t ht hW => ⟨⟨_, σ2, rfl, hE, by rw [ht]; exact hP, va_K.moved hW.alike hK, hD⟩, hS.F ht⟩) hS.2.2 d_M_letter_18
  · have hE := hE.2 cc10
    refine lv_iload_n hx hb d_M_letter_13 rfl (lv_at hl 2 rfl) ?_
    refine lv_if_ge (tgt := 19) hx hb d_M_letter_14 (by decide) (fun cc14 => ?_) (fun cc14 => ?_)
    · have hE := hE.1 cc14
      refine lv_aload_n hx hb d_M_letter_19 rfl (lv_at hl 0 rfl) ?_
      refine va_get (D := (mG md)) (ci := 7) (v := .ref (mA md 8)) (C := R_M) (T := F_M) (N := 37) hx hb hta i_M hown hK hP 0 rfl rfl 23 (by decide) (hta _ fl_M_36) (fun _ h9 => h9) rfl d_M_letter_20 ?_
      refine lv_iload_n hx hb d_M_letter_23 rfl (lv_at hl 1 rfl) ?_
      obtain ⟨hI24, hE⟩ := hE
      refine va_zald (D := (mG md)) (f := mp_isElement σ2) hx hb hK hP 8 2 rfl rfl hI24 d_M_letter_24 ?_
      refine lv_if_eq (tgt := 58) hx hb d_M_letter_25 (by decide) (fun cc25 => ?_) (fun cc25 => ?_)
      · have hE := hE.1 cc25
        refine lv_aload_n hx hb d_M_letter_58 rfl (lv_at hl 0 rfl) ?_
        refine lv_aload_n hx hb d_M_letter_59 rfl (lv_at hl 0 rfl) ?_
        refine va_get (D := (mG md)) (ci := 7) (v := .ref (mA md 9)) (C := R_M) (T := F_M) (N := 37) hx hb hta i_M hown hK hP 0 rfl rfl 24 (by decide) (hta _ fl_M_40) (fun _ h9 => h9) rfl d_M_letter_60 ?_
        refine lv_iload_n hx hb d_M_letter_63 rfl (lv_at hl 1 rfl) ?_
        obtain ⟨hI64, hE⟩ := hE
        refine va_iald (D := (mG md)) (f := mp_begins σ2) hx hb hK hP 9 0 rfl rfl hI64 d_M_letter_64 ?_
        refine lv_aload_n hx hb d_M_letter_65 rfl (lv_at hl 0 rfl) ?_
        refine va_get (D := (mG md)) (ci := 7) (v := .ref (mA md 10)) (C := R_M) (T := F_M) (N := 37) hx hb hta i_M hown hK hP 0 rfl rfl 25 (by decide) (hta _ fl_M_43) (fun _ h9 => h9) rfl d_M_letter_66 ?_
        refine lv_iload_n hx hb d_M_letter_69 rfl (lv_at hl 1 rfl) ?_
        obtain ⟨hI70, hE⟩ := hE
        refine va_iald (D := (mG md)) (f := mp_ends σ2) hx hb hK hP 10 0 rfl rfl hI70 d_M_letter_70 ?_
        refine lv_iload_n hx hb d_M_letter_71 rfl (lv_at hl 2 rfl) ?_
        refine mm_i (b0 := (mA md 0)) (As := [.int ((mp_begins σ2) x0.toNatClampNeg), .int ((mp_ends σ2) x0.toNatClampNeg), .int x1]) (rest := []) ⟨hx, hb, hml, hown, hta⟩ (c_M_characterIn l md _ σ2 ((mp_begins σ2) x0.toNatClampNeg) ((mp_ends σ2) x0.toNatClampNeg) x1 _ hE) ok_M_330 ⟨Nat.le_of_ble_eq_true rfl, Nat.le_of_ble_eq_true rfl⟩ (va_recv hK hP (ci := 7) (q0 := 0) rfl rfl) hP hK hD hS hA rfl hl.1 rfl (Nat.le_of_ble_eq_true rfl) d_M_letter_72 ⟨Nat.zero_le _, Nat.zero_le _⟩ (fun r72 σ72 H locs hE hP hD hS => ?_)
        exact W.iret (v := r72) hx hb hr (fun t ht hW => ⟨⟨_, σ72, rfl, hE, by rw [ht]; exact hP, va_K.moved hW.alike hK, hD⟩, hS.F ht⟩) hS.2.2 d_M_letter_75
      · have hE := hE.2 cc25
        refine lv_iload_n hx hb d_M_letter_28 rfl (lv_at hl 2 rfl) ?_
        refine lv_aload_n hx hb d_M_letter_29 rfl (lv_at hl 0 rfl) ?_
        refine lv_iload_n hx hb d_M_letter_30 rfl (lv_at hl 1 rfl) ?_
        refine ro_V (b0 := (mA md 0)) (As := [.int x0]) (rest := [.int x1]) ⟨hx, hb, hml, hown, hta⟩ (c_M_nameSize l md σ2 x0  _ hE) ok_M_221 ⟨Nat.le_of_ble_eq_true rfl, Nat.le_of_ble_eq_true rfl⟩ blind_rM (va_recv hK hP (ci := 7) (q0 := 0) rfl rfl) (rM_of hP hK) rfl hl.1 rfl (Nat.le_of_ble_eq_true rfl) d_M_letter_31 ⟨Nat.zero_le _, Nat.zero_le _⟩ (fun r31 hE => ?_)
        refine lv_icmp_ge (tgt := 54) hx hb d_M_letter_34 (by decide) (fun cc34 => ?_) (fun cc34 => ?_)
        · have hE := hE.1 cc34
          refine lv_iconst (v := -1) hx hb d_M_letter_54 (by decide) ?_
          refine lv_goto (tgt := 75) hx hb d_M_letter_55 (by decide) ?_
          exact W.iret (v := (-1)) hx hb hr (fun t ht hW => ⟨⟨_, σ2, rfl, hE, by rw [ht]; exact hP, va_K.moved hW.alike hK, hD⟩, hS.F ht⟩) hS.2.2 d_M_letter_75
        · have hE := hE.2 cc34
          refine lv_aload_n hx hb d_M_letter_37 rfl (lv_at hl 0 rfl) ?_
          refine lv_aload_n hx hb d_M_letter_38 rfl (lv_at hl 0 rfl) ?_
          refine va_get (D := (mG md)) (ci := 7) (v := .ref (mA md 9)) (C := R_M) (T := F_M) (N := 37) hx hb hta i_M hown hK hP 0 rfl rfl 24 (by decide) (hta _ fl_M_40) (fun _ h9 => h9) rfl d_M_letter_39 ?_
          refine lv_iload_n hx hb d_M_letter_42 rfl (lv_at hl 1 rfl) ?_
          obtain ⟨hI43, hE⟩ := hE
          refine va_iald (D := (mG md)) (f := mp_begins σ2) hx hb hK hP 9 0 rfl rfl hI43 d_M_letter_43 ?_
          refine lv_iconst (v := 1) hx hb d_M_letter_44 (by decide) ?_
          refine lv_iadd hx hb d_M_letter_45 ?_
          refine lv_iload_n hx hb d_M_letter_46 rfl (lv_at hl 2 rfl) ?_
          refine lv_iadd hx hb d_M_letter_47 ?_
          obtain ⟨hc48_0, hE⟩ := hE
          refine ro_V (b0 := (mA md 0)) (As := [.int ((((mp_begins σ2) x0.toNatClampNeg) + 1) + x1)]) (rest := []) ⟨hx, hb, hml, hown, hta⟩ (f_M_x l md σ2 ((((mp_begins σ2) x0.toNatClampNeg) + 1) + x1) hc48_0) ok_M_95 ⟨Nat.le_of_ble_eq_true rfl, Nat.le_of_ble_eq_true rfl⟩ blind_rM (va_recv hK hP (ci := 7) (q0 := 0) rfl rfl) (rM_of hP hK) rfl hl.1 rfl (Nat.le_of_ble_eq_true rfl) d_M_letter_48 ⟨Nat.zero_le _, Nat.zero_le _⟩ (fun r48 hrr => ?_)
          subst hrr
          refine lv_goto (tgt := 75) hx hb d_M_letter_51 (by decide) ?_
          exact W.iret (v := mX σ2 ((((mp_begins σ2) x0.toNatClampNeg) + 1) + x1)) hx hb hr (fun t ht hW => ⟨⟨_, σ2, rfl, hE, by rw [ht]; exact hP, va_K.moved hW.alike hK, hD⟩, hS.F ht⟩) hS.2.2 d_M_letter_75
    · have hE := hE.2 cc14
      refine lv_iconst (v := -1) hx hb d_M_letter_17 (by decide) ?_
      exact W.iret (v := (-1)) hx hb hr (fun t ht hW => ⟨⟨_, σ2, rfl, hE, by rw [ht]; exact hP, va_K.moved hW.alike hK, hD⟩, hS.F ht⟩) hS.2.2 d_M_letter_18

theorem d_M_hasNumber_0 : decode b_M_hasNumber 0 = .ok (.aload_n 0, 1) := by decide +kernel
theorem d_M_hasNumber_1 : decode b_M_hasNumber 1 = .ok (.iload_n 1, 1) := by decide +kernel
theorem d_M_hasNumber_2 : decode b_M_hasNumber 2 = .ok (.invokevirtual 323, 3) := by decide +kernel
theorem d_M_hasNumber_5 : decode b_M_hasNumber 5 = .ok (.ifCond .eq 16, 3) := by decide +kernel
theorem d_M_hasNumber_8 : decode b_M_hasNumber 8 = .ok (.aload_n 0, 1) := by decide +kernel
theorem d_M_hasNumber_9 : decode b_M_hasNumber 9 = .ok (.getfield 36, 3) := by decide +kernel
theorem d_M_hasNumber_12 : decode b_M_hasNumber 12 = .ok (.iload_n 1, 1) := by decide +kernel
theorem d_M_hasNumber_13 : decode b_M_hasNumber 13 = .ok (.baload, 1) := by decide +kernel
theorem d_M_hasNumber_14 : decode b_M_hasNumber 14 = .ok (.ifCond .eq 7, 3) := by decide +kernel
theorem d_M_hasNumber_17 : decode b_M_hasNumber 17 = .ok (.iload_n 2, 1) := by decide +kernel
theorem d_M_hasNumber_18 : decode b_M_hasNumber 18 = .ok (.ifCond .ge 5, 3) := by decide +kernel
theorem d_M_hasNumber_21 : decode b_M_hasNumber 21 = .ok (.iconst 0, 1) := by decide +kernel
theorem d_M_hasNumber_22 : decode b_M_hasNumber 22 = .ok (.ireturn, 1) := by decide +kernel
theorem d_M_hasNumber_23 : decode b_M_hasNumber 23 = .ok (.aload_n 0, 1) := by decide +kernel
theorem d_M_hasNumber_24 : decode b_M_hasNumber 24 = .ok (.aload_n 0, 1) := by decide +kernel
theorem d_M_hasNumber_25 : decode b_M_hasNumber 25 = .ok (.getfield 40, 3) := by decide +kernel
theorem d_M_hasNumber_28 : decode b_M_hasNumber 28 = .ok (.iload_n 1, 1) := by decide +kernel
theorem d_M_hasNumber_29 : decode b_M_hasNumber 29 = .ok (.iaload, 1) := by decide +kernel
theorem d_M_hasNumber_30 : decode b_M_hasNumber 30 = .ok (.invokevirtual 154, 3) := by decide +kernel
theorem d_M_hasNumber_33 : decode b_M_hasNumber 33 = .ok (.istore_n 3, 1) := by decide +kernel
theorem d_M_hasNumber_34 : decode b_M_hasNumber 34 = .ok (.iconst 0, 1) := by decide +kernel
theorem d_M_hasNumber_35 : decode b_M_hasNumber 35 = .ok (.istore 4, 2) := by decide +kernel
theorem d_M_hasNumber_37 : decode b_M_hasNumber 37 = .ok (.iload 4, 2) := by decide +kernel
theorem d_M_hasNumber_39 : decode b_M_hasNumber 39 = .ok (.iload_n 2, 1) := by decide +kernel
theorem d_M_hasNumber_40 : decode b_M_hasNumber 40 = .ok (.if_icmp .gt 30, 3) := by decide +kernel
theorem d_M_hasNumber_43 : decode b_M_hasNumber 43 = .ok (.aload_n 0, 1) := by decide +kernel
theorem d_M_hasNumber_44 : decode b_M_hasNumber 44 = .ok (.iload_n 3, 1) := by decide +kernel
theorem d_M_hasNumber_45 : decode b_M_hasNumber 45 = .ok (.aload_n 0, 1) := by decide +kernel
theorem d_M_hasNumber_46 : decode b_M_hasNumber 46 = .ok (.getfield 92, 3) := by decide +kernel
theorem d_M_hasNumber_49 : decode b_M_hasNumber 49 = .ok (.invokevirtual 157, 3) := by decide +kernel
theorem d_M_hasNumber_52 : decode b_M_hasNumber 52 = .ok (.ifCond .ne 5, 3) := by decide +kernel
theorem d_M_hasNumber_55 : decode b_M_hasNumber 55 = .ok (.iconst 0, 1) := by decide +kernel
theorem d_M_hasNumber_56 : decode b_M_hasNumber 56 = .ok (.ireturn, 1) := by decide +kernel
theorem d_M_hasNumber_57 : decode b_M_hasNumber 57 = .ok (.aload_n 0, 1) := by decide +kernel
theorem d_M_hasNumber_58 : decode b_M_hasNumber 58 = .ok (.getfield 151, 3) := by decide +kernel
theorem d_M_hasNumber_61 : decode b_M_hasNumber 61 = .ok (.iconst 1, 1) := by decide +kernel
theorem d_M_hasNumber_62 : decode b_M_hasNumber 62 = .ok (.iadd, 1) := by decide +kernel
theorem d_M_hasNumber_63 : decode b_M_hasNumber 63 = .ok (.istore_n 3, 1) := by decide +kernel
theorem d_M_hasNumber_64 : decode b_M_hasNumber 64 = .ok (.iinc 4 1, 3) := by decide +kernel
theorem d_M_hasNumber_67 : decode b_M_hasNumber 67 = .ok (.goto (-30), 3) := by decide +kernel
theorem d_M_hasNumber_70 : decode b_M_hasNumber 70 = .ok (.iconst 1, 1) := by decide +kernel
theorem d_M_hasNumber_71 : decode b_M_hasNumber 71 = .ok (.ireturn, 1) := by decide +kernel
def w_M_hasNumber_L37  (v2 : Int32) (post : Int32 → MPS → Prop) : Nat → Int32 → Int32 → MPS → Prop
  | 0, _, _, _ => False
  | n37 + 1, v3, v4, σ => ((v2 < v4 → post 1 σ) ∧ (¬ v2 < v4 → w_M_nextAttribute σ v3 (mp_size σ) (fun r49 σ49 => ((r49 = 0 → post 0 σ49) ∧ (¬ r49 = 0 → w_M_hasNumber_L37 v2 post n37 ((mp_valueEnd σ49) + 1) (v4 + 1) σ49)))))
def w_M_hasNumber  (σ : MPS) (x0 : Int32) (x1 : Int32) (post : Int32 → MPS → Prop) : Prop := w_M_isNode σ x0 (fun r2 => ((r2 = 0 → post 0 σ) ∧ (¬ r2 = 0 → (vp_in x0 1000 ∧ ((((mp_isElement σ) x0.toNatClampNeg) = 0 → post 0 σ) ∧ (¬ ((mp_isElement σ) x0.toNatClampNeg) = 0 → ((0 ≤ x1 → (vp_in x0 1000 ∧ w_M_behindName σ ((mp_begins σ) x0.toNatClampNeg) (fun r30 => (∃ n37, w_M_hasNumber_L37 x1 post n37 r30 0 σ)))) ∧ (¬ 0 ≤ x1 → post 0 σ))))))))
set_option maxHeartbeats 4000000 in
set_option maxRecDepth 100000 in
theorem c_M_hasNumber (l : Launch) (md : MD) (sz : Nat) (σ : MPS) (x0 : Int32) (x1 : Int32)  (post : Int32 → MPS → Prop) (hE : w_M_hasNumber σ x0 x1 post) : Met l y_M_hasNumber ws_M_hasNumber { frames := 3, cells := 0, slots := 0, locals := 64 } (va_Pc [.ref (mA md 0), .int x0, .int x1] (gM md σ sz)) (va_Qi post (eM md (va_A (MW md σ) sz)) (va_A (MW md σ) sz)) 0 0 (va_A (MW md σ) sz) := by
  refine Met.ofW (cc := b_M_hasNumber) (maxL := 5) (ret := (some .boolean)) (by decide) rfl ?_
  intro p e s m args below meth c s₁ B hml hv
  obtain ⟨rfl, hsz, hP, hK, hD0⟩ := hv
  have hx := B.exec
  have hb := B.bytes
  have hr := B.returns
  have hta : ∀ w ∈ aW, w.before _ s = true := fun w h => atoms_spec (ws := ws_M_hasNumber) B.pre w (List.mem_cons_of_mem _ h)
  have hown : s.vm.findClass R_M = some m.cls := findClass_of_methodNamed B.named
  have hlocks := B.notSynchronized
  subst hsz
  have hD := hD0.self (sz := s.heap.size)
  generalize hAe : va_A (MW md σ) s.heap.size = A at hD ⊢
  have hA : ∀ q : Nat, s.heap.size ≤ q → A q := fun q h => by rw [← hAe]; exact Or.inr h
  have hS : va_S A s.heap s.heap [] := va_S.rf
  have hP : va_P (mG md) classes (MW md σ) s.heap := hP
  have hl := lv_entry ([.ref (mA md 0), .int x0, .int x1]) (n := 5) (Nat.le_of_ble_eq_true rfl)
  rw [lg_entry_eq]
  generalize (lg_sl ([.ref (mA md 0), .int x0, .int x1]) ++ List.replicate (5 - (lg_sl ([.ref (mA md 0), .int x0, .int x1])).length) Slot.unset).toArray = ls at hl ⊢
  have hl : lv_has ls 5 [(0, .ref (mA md 0)), (1, .int x0), (2, .int x1)] := hl
  have L37 : ∀ (v2 : Int32) (n37 : Nat) (v3 : Int32) (v4 : Int32) (σ : MPS) (H : Heap) (locs : List Loc) (hP : va_P (mG md) classes (MW md σ) H) (hD : va_D A (MW md σ)) (hS : va_S A s.heap H locs) (ls : Array Slot) (hl : lv_has ls 5 [(0, .ref (mA md 0)), (2, .int v2), (3, .int v3), (4, .int v4)]) (hE : w_M_hasNumber_L37 v2 post n37 v3 v4 σ), W p l e (headSpec ws_M_hasNumber { frames := 3, cells := 0, slots := 0, locals := 64 }).room s m ([.ref (mA md 0), .int x0, .int x1] : List Value).toArray below meth c H locs 0 0 (MQ below (va_Qi post (eM md A) A) ([.ref (mA md 0), .int x0, .int x1] : List Value).toArray s 0 0 A) (F0 m 37 ls []) := by
    intro v2 n37
    induction n37 with
    | zero => intro v3 v4 σ H locs hP hD hS ls hl hE; exact hE.elim
    | succ n37 ih37 =>
      intro v3 v4 σ H locs hP hD hS ls hl hE
      unfold w_M_hasNumber_L37 at hE
      refine lv_iload hx hb d_M_hasNumber_37 (lv_at hl 3 rfl) ?_
      refine lv_iload_n hx hb d_M_hasNumber_39 rfl (lv_at hl 1 rfl) ?_
      refine lv_icmp_gt (tgt := 70) hx hb d_M_hasNumber_40 (by decide) (fun cc40 => ?_) (fun cc40 => ?_)
      · have hE := hE.1 cc40
        refine lv_iconst (v := 1) hx hb d_M_hasNumber_70 (by decide) ?_
        exact W.zret (v := 1) hx hb hr rfl (fun t ht hW => ⟨⟨_, σ, rfl, hE, by rw [ht]; exact hP, va_K.moved hW.alike hK, hD⟩, hS.F ht⟩) hS.2.2 d_M_hasNumber_71
      · have hE := hE.2 cc40
        refine lv_aload_n hx hb d_M_hasNumber_43 rfl (lv_at hl 0 rfl) ?_
        refine lv_iload_n hx hb d_M_hasNumber_44 rfl (lv_at hl 2 rfl) ?_
        refine lv_aload_n hx hb d_M_hasNumber_45 rfl (lv_at hl 0 rfl) ?_
        refine va_get (D := (mG md)) (ci := 7) (v := .int (mp_size σ)) (C := R_M) (T := F_M) (N := 37) hx hb hta i_M hown hK hP 0 rfl rfl 7 (by decide) (hta _ fl_M_92) (fun _ h9 => h9) rfl d_M_hasNumber_46 ?_
        refine mm_i (b0 := (mA md 0)) (As := [.int v3, .int (mp_size σ)]) (rest := []) ⟨hx, hb, hml, hown, hta⟩ (c_M_nextAttribute l md _ σ v3 (mp_size σ) _ hE) ok_M_157 ⟨Nat.le_of_ble_eq_true rfl, Nat.le_of_ble_eq_true rfl⟩ (va_recv hK hP (ci := 7) (q0 := 0) rfl rfl) hP hK hD hS hA rfl hl.1 rfl (Nat.le_of_ble_eq_true rfl) d_M_hasNumber_49 ⟨Nat.zero_le _, Nat.zero_le _⟩ (fun r49 σ49 H locs hE hP hD hS => ?_)
        refine lv_if_ne (tgt := 57) hx hb d_M_hasNumber_52 (by decide) (fun cc52 => ?_) (fun cc52 => ?_)
        · have hE := hE.2 cc52
          refine lv_aload_n hx hb d_M_hasNumber_57 rfl (lv_at hl 0 rfl) ?_
          refine va_get (D := (mG md)) (ci := 7) (v := .int (mp_valueEnd σ49)) (C := R_M) (T := F_M) (N := 37) hx hb hta i_M hown hK hP 0 rfl rfl 22 (by decide) (hta _ fl_M_151) (fun _ h9 => h9) rfl d_M_hasNumber_58 ?_
          refine lv_iconst (v := 1) hx hb d_M_hasNumber_61 (by decide) ?_
          refine lv_iadd hx hb d_M_hasNumber_62 ?_
          refine lv_istore_n (lv' := [(3, .int ((mp_valueEnd σ49) + 1)), (0, .ref (mA md 0)), (2, .int v2), (4, .int v4)]) hx hb d_M_hasNumber_63 rfl hl (by decide) rfl (fun ls hl => ?_)
          refine lv_iinc (v := v4 + 1) (lv' := [(4, .int (v4 + 1)), (3, .int ((mp_valueEnd σ49) + 1)), (0, .ref (mA md 0)), (2, .int v2)]) hx hb d_M_hasNumber_64 hl (k := 3) rfl rfl (by decide) rfl (fun ls hl => ?_)
          refine lv_goto (tgt := 37) hx hb d_M_hasNumber_67 (by decide) ?_
          exact ih37 ((mp_valueEnd σ49) + 1) (v4 + 1) σ49 _ _ hP hD hS _ (lv_sub hl [2, 3, 1, 0] rfl) hE
        · have hE := hE.1 cc52
          refine lv_iconst (v := 0) hx hb d_M_hasNumber_55 (by decide) ?_
          exact W.zret (v := 0) hx hb hr rfl (fun t ht hW => ⟨⟨_, σ49, rfl, hE, by rw [ht]; exact hP, va_K.moved hW.alike hK, hD⟩, hS.F ht⟩) hS.2.2 d_M_hasNumber_56
  unfold w_M_hasNumber at hE
  refine lv_aload_n hx hb d_M_hasNumber_0 rfl (lv_at hl 0 rfl) ?_
  refine lv_iload_n hx hb d_M_hasNumber_1 rfl (lv_at hl 1 rfl) ?_
  refine ro_V (b0 := (mA md 0)) (As := [.int x0]) (rest := []) ⟨hx, hb, hml, hown, hta⟩ (c_M_isNode l md σ x0  _ hE) ok_M_323 ⟨Nat.le_of_ble_eq_true rfl, Nat.le_of_ble_eq_true rfl⟩ blind_rM (va_recv hK hP (ci := 7) (q0 := 0) rfl rfl) (rM_of hP hK) rfl hl.1 rfl (Nat.le_of_ble_eq_true rfl) d_M_hasNumber_2 ⟨Nat.zero_le _, Nat.zero_le _⟩ (fun r2 hE => ?_)
  refine lv_if_eq (tgt := 21) hx hb d_M_hasNumber_5 (by decide) (fun cc5 => ?_) (fun cc5 => ?_)
  · have hE := hE.1 cc5
    refine lv_iconst (v := 0) hx hb d_M_hasNumber_21 (by decide) ?_
    exact W.zret (v := 0) hx hb hr rfl (fun t ht hW => ⟨⟨_, σ, rfl, hE, by rw [ht]; exact hP, va_K.moved hW.alike hK, hD⟩, hS.F ht⟩) hS.2.2 d_M_hasNumber_22
  · have hE := hE.2 cc5
    refine lv_aload_n hx hb d_M_hasNumber_8 rfl (lv_at hl 0 rfl) ?_
    refine va_get (D := (mG md)) (ci := 7) (v := .ref (mA md 8)) (C := R_M) (T := F_M) (N := 37) hx hb hta i_M hown hK hP 0 rfl rfl 23 (by decide) (hta _ fl_M_36) (fun _ h9 => h9) rfl d_M_hasNumber_9 ?_
    refine lv_iload_n hx hb d_M_hasNumber_12 rfl (lv_at hl 1 rfl) ?_
    obtain ⟨hI13, hE⟩ := hE
    refine va_zald (D := (mG md)) (f := mp_isElement σ) hx hb hK hP 8 2 rfl rfl hI13 d_M_hasNumber_13 ?_
    refine lv_if_eq (tgt := 21) hx hb d_M_hasNumber_14 (by decide) (fun cc14 => ?_) (fun cc14 => ?_)
    · have hE := hE.1 cc14
      refine lv_iconst (v := 0) hx hb d_M_hasNumber_21 (by decide) ?_
      exact W.zret (v := 0) hx hb hr rfl (fun t ht hW => ⟨⟨_, σ, rfl, hE, by rw [ht]; exact hP, va_K.moved hW.alike hK, hD⟩, hS.F ht⟩) hS.2.2 d_M_hasNumber_22
    · have hE := hE.2 cc14
      refine lv_iload_n hx hb d_M_hasNumber_17 rfl (lv_at hl 2 rfl) ?_
      refine lv_if_ge (tgt := 23) hx hb d_M_hasNumber_18 (by decide) (fun cc18 => ?_) (fun cc18 => ?_)
      · have hE := hE.1 cc18
        refine lv_aload_n hx hb d_M_hasNumber_23 rfl (lv_at hl 0 rfl) ?_
        refine lv_aload_n hx hb d_M_hasNumber_24 rfl (lv_at hl 0 rfl) ?_
        refine va_get (D := (mG md)) (ci := 7) (v := .ref (mA md 9)) (C := R_M) (T := F_M) (N := 37) hx hb hta i_M hown hK hP 0 rfl rfl 24 (by decide) (hta _ fl_M_40) (fun _ h9 => h9) rfl d_M_hasNumber_25 ?_
        refine lv_iload_n hx hb d_M_hasNumber_28 rfl (lv_at hl 1 rfl) ?_
        obtain ⟨hI29, hE⟩ := hE
        refine va_iald (D := (mG md)) (f := mp_begins σ) hx hb hK hP 9 0 rfl rfl hI29 d_M_hasNumber_29 ?_
        refine ro_V (b0 := (mA md 0)) (As := [.int ((mp_begins σ) x0.toNatClampNeg)]) (rest := []) ⟨hx, hb, hml, hown, hta⟩ (c_M_behindName l md σ ((mp_begins σ) x0.toNatClampNeg)  _ hE) ok_M_154 ⟨Nat.le_of_ble_eq_true rfl, Nat.le_of_ble_eq_true rfl⟩ blind_rM (va_recv hK hP (ci := 7) (q0 := 0) rfl rfl) (rM_of hP hK) rfl hl.1 rfl (Nat.le_of_ble_eq_true rfl) d_M_hasNumber_30 ⟨Nat.zero_le _, Nat.zero_le _⟩ (fun r30 hE => ?_)
        refine lv_istore_n (lv' := [(3, .int r30), (0, .ref (mA md 0)), (1, .int x0), (2, .int x1)]) hx hb d_M_hasNumber_33 rfl hl (by decide) rfl (fun ls hl => ?_)
        refine lv_iconst (v := 0) hx hb d_M_hasNumber_34 (by decide) ?_
        refine lv_istore (lv' := [(4, .int 0), (3, .int r30), (0, .ref (mA md 0)), (1, .int x0), (2, .int x1)]) hx hb d_M_hasNumber_35 hl (by decide) rfl (fun ls hl => ?_)
        obtain ⟨n37, hE⟩ := hE
        exact L37 x1 n37 r30 0 σ _ _ hP hD hS _ (lv_sub hl [2, 4, 1, 0] rfl) hE
      · have hE := hE.2 cc18
        refine lv_iconst (v := 0) hx hb d_M_hasNumber_21 (by decide) ?_
        exact W.zret (v := 0) hx hb hr rfl (fun t ht hW => ⟨⟨_, σ, rfl, hE, by rw [ht]; exact hP, va_K.moved hW.alike hK, hD⟩, hS.F ht⟩) hS.2.2 d_M_hasNumber_22
theorem ok_M_334 : okV "PlainPagesModel" 334 R_M y_M_hasNumber b_M_hasNumber 5 (some .boolean) 2 := ⟨aW_in 1263 (by decide +kernel) rfl, aW_in 1265 (by decide +kernel) rfl, aW_in 74 (by decide +kernel) rfl, aW_in 92 (by decide +kernel) rfl, cd_M_hasNumber, rfl, by decide +kernel, by decide +kernel, by decide +kernel⟩
theorem d_M_attribute_0 : decode b_M_attribute 0 = .ok (.aload_n 0, 1) := by decide +kernel
theorem d_M_attribute_1 : decode b_M_attribute 1 = .ok (.iconst 0, 1) := by decide +kernel
theorem d_M_attribute_2 : decode b_M_attribute 2 = .ok (.putfield 70, 3) := by decide +kernel
theorem d_M_attribute_5 : decode b_M_attribute 5 = .ok (.aload_n 0, 1) := by decide +kernel
theorem d_M_attribute_6 : decode b_M_attribute 6 = .ok (.iload_n 1, 1) := by decide +kernel
theorem d_M_attribute_7 : decode b_M_attribute 7 = .ok (.iload_n 2, 1) := by decide +kernel
theorem d_M_attribute_8 : decode b_M_attribute 8 = .ok (.invokevirtual 334, 3) := by decide +kernel
theorem d_M_attribute_11 : decode b_M_attribute 11 = .ok (.ifCond .ne 5, 3) := by decide +kernel
theorem d_M_attribute_14 : decode b_M_attribute 14 = .ok (.iconst (-1), 1) := by decide +kernel
theorem d_M_attribute_15 : decode b_M_attribute 15 = .ok (.ireturn, 1) := by decide +kernel
theorem d_M_attribute_16 : decode b_M_attribute 16 = .ok (.iload_n 3, 1) := by decide +kernel
theorem d_M_attribute_17 : decode b_M_attribute 17 = .ok (.ifCond .ne 10, 3) := by decide +kernel
theorem d_M_attribute_20 : decode b_M_attribute 20 = .ok (.aload_n 0, 1) := by decide +kernel
theorem d_M_attribute_21 : decode b_M_attribute 21 = .ok (.getfield 145, 3) := by decide +kernel
theorem d_M_attribute_24 : decode b_M_attribute 24 = .ok (.goto 36, 3) := by decide +kernel
theorem d_M_attribute_27 : decode b_M_attribute 27 = .ok (.iload_n 3, 1) := by decide +kernel
theorem d_M_attribute_28 : decode b_M_attribute 28 = .ok (.iconst 1, 1) := by decide +kernel
theorem d_M_attribute_29 : decode b_M_attribute 29 = .ok (.if_icmp .ne 18, 3) := by decide +kernel
theorem d_M_attribute_32 : decode b_M_attribute 32 = .ok (.aload_n 0, 1) := by decide +kernel
theorem d_M_attribute_33 : decode b_M_attribute 33 = .ok (.aload_n 0, 1) := by decide +kernel
theorem d_M_attribute_34 : decode b_M_attribute 34 = .ok (.getfield 148, 3) := by decide +kernel
theorem d_M_attribute_37 : decode b_M_attribute 37 = .ok (.aload_n 0, 1) := by decide +kernel
theorem d_M_attribute_38 : decode b_M_attribute 38 = .ok (.getfield 151, 3) := by decide +kernel
theorem d_M_attribute_41 : decode b_M_attribute 41 = .ok (.invokevirtual 326, 3) := by decide +kernel
theorem d_M_attribute_44 : decode b_M_attribute 44 = .ok (.goto 16, 3) := by decide +kernel
theorem d_M_attribute_47 : decode b_M_attribute 47 = .ok (.iload_n 3, 1) := by decide +kernel
theorem d_M_attribute_48 : decode b_M_attribute 48 = .ok (.iconst 2, 1) := by decide +kernel
theorem d_M_attribute_49 : decode b_M_attribute 49 = .ok (.if_icmp .ne 10, 3) := by decide +kernel
theorem d_M_attribute_52 : decode b_M_attribute 52 = .ok (.aload_n 0, 1) := by decide +kernel
theorem d_M_attribute_53 : decode b_M_attribute 53 = .ok (.getfield 142, 3) := by decide +kernel
theorem d_M_attribute_56 : decode b_M_attribute 56 = .ok (.goto 4, 3) := by decide +kernel
theorem d_M_attribute_59 : decode b_M_attribute 59 = .ok (.iconst (-1), 1) := by decide +kernel
theorem d_M_attribute_60 : decode b_M_attribute 60 = .ok (.ireturn, 1) := by decide +kernel
def w_M_attribute  (σ : MPS) (x0 : Int32) (x1 : Int32) (x2 : Int32) (post : Int32 → MPS → Prop) : Prop := (∀ σ2 : MPS, σ2 = ms_thrown σ 0 → w_M_hasNumber σ2 x0 x1 (fun r8 σ8 => ((r8 = 0 → post (-1) σ8) ∧ (¬ r8 = 0 → ((x2 = 0 → post (mp_nameMany σ8) σ8) ∧ (¬ x2 = 0 → ((x2 = 1 → w_M_characters σ8 (mp_valueAt σ8) (mp_valueEnd σ8) (fun r41 σ41 => post r41 σ41)) ∧ (¬ x2 = 1 → ((x2 = 2 → post (mp_nameAt σ8) σ8) ∧ (¬ x2 = 2 → post (-1) σ8))))))))))
set_option maxHeartbeats 4000000 in
set_option maxRecDepth 100000 in
theorem c_M_attribute (l : Launch) (md : MD) (sz : Nat) (σ : MPS) (x0 : Int32) (x1 : Int32) (x2 : Int32)  (post : Int32 → MPS → Prop) (hE : w_M_attribute σ x0 x1 x2 post) : Met l y_M_attribute ws_M_attribute { frames := 4, cells := 0, slots := 0, locals := 98 } (va_Pc [.ref (mA md 0), .int x0, .int x1, .int x2] (gM md σ sz)) (va_Qi post (eM md (va_A (MW md σ) sz)) (va_A (MW md σ) sz)) 0 0 (va_A (MW md σ) sz) := by
  refine Met.ofW (cc := b_M_attribute) (maxL := 4) (ret := (some .int)) (by decide) rfl ?_
  intro p e s m args below meth c s₁ B hml hv
  obtain ⟨rfl, hsz, hP, hK, hD0⟩ := hv
  have hx := B.exec
  have hb := B.bytes
  have hr := B.returns
  have hta : ∀ w ∈ aW, w.before _ s = true := fun w h => atoms_spec (ws := ws_M_attribute) B.pre w (List.mem_cons_of_mem _ h)
  have hown : s.vm.findClass R_M = some m.cls := findClass_of_methodNamed B.named
  have hlocks := B.notSynchronized
  subst hsz
  have hD := hD0.self (sz := s.heap.size)
  generalize hAe : va_A (MW md σ) s.heap.size = A at hD ⊢
  have hA : ∀ q : Nat, s.heap.size ≤ q → A q := fun q h => by rw [← hAe]; exact Or.inr h
  have hS : va_S A s.heap s.heap [] := va_S.rf
  have hP : va_P (mG md) classes (MW md σ) s.heap := hP
  have hl := lv_entry ([.ref (mA md 0), .int x0, .int x1, .int x2]) (n := 4) (Nat.le_of_ble_eq_true rfl)
  rw [lg_entry_eq]
  generalize (lg_sl ([.ref (mA md 0), .int x0, .int x1, .int x2]) ++ List.replicate (4 - (lg_sl ([.ref (mA md 0), .int x0, .int x1, .int x2])).length) Slot.unset).toArray = ls at hl ⊢
  have hl : lv_has ls 4 [(0, .ref (mA md 0)), (1, .int x0), (2, .int x1), (3, .int x2)] := hl
  unfold w_M_attribute at hE
  refine lv_aload_n hx hb d_M_attribute_0 rfl (lv_at hl 0 rfl) ?_
  refine lv_iconst (v := 0) hx hb d_M_attribute_1 (by decide) ?_
  refine va_put (D := (mG md)) (ci := 7) (v := .int 0) (ty := .int) (C := R_M) (T := F_M) (N := 37) hx hb hta i_M t_M t_M_ok n_M hown hK hP hD hS 0 rfl rfl 0 (by decide) (hta _ fl_M_70) (fun _ h9 => h9) rfl (by decide +kernel) rfl rfl (Nat.le_of_ble_eq_true rfl) d_M_attribute_2 (fun H locs hP hD hS => ?_)
  have hP := mwP_thrown hP
  have hD := mwD_thrown hD
  have hE := hE _ rfl
  generalize (ms_thrown σ 0 : MPS) = σ2 at hP hD hE
  refine lv_aload_n hx hb d_M_attribute_5 rfl (lv_at hl 0 rfl) ?_
  refine lv_iload_n hx hb d_M_attribute_6 rfl (lv_at hl 1 rfl) ?_
  refine lv_iload_n hx hb d_M_attribute_7 rfl (lv_at hl 2 rfl) ?_
  refine mm_i (b0 := (mA md 0)) (As := [.int x0, .int x1]) (rest := []) ⟨hx, hb, hml, hown, hta⟩ (c_M_hasNumber l md _ σ2 x0 x1 _ hE) ok_M_334 ⟨Nat.le_of_ble_eq_true rfl, Nat.le_of_ble_eq_true rfl⟩ (va_recv hK hP (ci := 7) (q0 := 0) rfl rfl) hP hK hD hS hA rfl hl.1 rfl (Nat.le_of_ble_eq_true rfl) d_M_attribute_8 ⟨Nat.zero_le _, Nat.zero_le _⟩ (fun r8 σ8 H locs hE hP hD hS => ?_)
  refine lv_if_ne (tgt := 16) hx hb d_M_attribute_11 (by decide) (fun cc11 => ?_) (fun cc11 => ?_)
  · have hE := hE.2 cc11
    refine lv_iload_n hx hb d_M_attribute_16 rfl (lv_at hl 3 rfl) ?_
    refine lv_if_ne (tgt := 27) hx hb d_M_attribute_17 (by decide) (fun cc17 => ?_) (fun cc17 => ?_)
    · have hE := hE.2 cc17
      refine lv_iload_n hx hb d_M_attribute_27 rfl (lv_at hl 3 rfl) ?_
      refine lv_iconst (v := 1) hx hb d_M_attribute_28 (by decide) ?_
      refine lv_icmp_ne (tgt := 47) hx hb d_M_attribute_29 (by decide) (fun cc29 => ?_) (fun cc29 => ?_)
      · have hE := hE.2 cc29
        refine lv_iload_n hx hb d_M_attribute_47 rfl (lv_at hl 3 rfl) ?_
        refine lv_iconst (v := 2) hx hb d_M_attribute_48 (by decide) ?_
        refine lv_icmp_ne (tgt := 59) hx hb d_M_attribute_49 (by decide) (fun cc49 => ?_) (fun cc49 => ?_)
        · have hE := hE.2 cc49
          refine lv_iconst (v := -1) hx hb d_M_attribute_59 (by decide) ?_
          exact W.iret (v := (-1)) hx hb hr (fun t ht hW => ⟨⟨_, σ8, rfl, hE, by rw [ht]; exact hP, va_K.moved hW.alike hK, hD⟩, hS.F ht⟩) hS.2.2 d_M_attribute_60
        · have hE := hE.1 cc49
          refine lv_aload_n hx hb d_M_attribute_52 rfl (lv_at hl 0 rfl) ?_
          refine va_get (D := (mG md)) (ci := 7) (v := .int (mp_nameAt σ8)) (C := R_M) (T := F_M) (N := 37) hx hb hta i_M hown hK hP 0 rfl rfl 19 (by decide) (hta _ fl_M_142) (fun _ h9 => h9) rfl d_M_attribute_53 ?_
          refine lv_goto (tgt := 60) hx hb d_M_attribute_56 (by decide) ?_
          exact W.iret (v := mp_nameAt σ8) hx hb hr (fun t ht hW => ⟨⟨_, σ8, rfl, hE, by rw [ht]; exact hP, va_K.moved hW.alike hK, hD⟩, hS.F ht⟩) hS.2.2 d_M_attribute_60
      · have hE := hE.1 cc29
        refine lv_aload_n hx hb d_M_attribute_32 rfl (lv_at hl 0 rfl) ?_
        refine lv_aload_n hx hb d_M_attribute_33 rfl (lv_at hl 0 rfl) ?_
        refine va_get (D := (mG md)) (ci := 7) (v := .int (mp_valueAt σ8)) (C := R_M) (T := F_M) (N := 37) hx hb hta i_M hown hK hP 0 rfl rfl 21 (by decide) (hta _ fl_M_148) (fun _ h9 => h9) rfl d_M_attribute_34 ?_
        refine lv_aload_n hx hb d_M_attribute_37 rfl (lv_at hl 0 rfl) ?_
        refine va_get (D := (mG md)) (ci := 7) (v := .int (mp_valueEnd σ8)) (C := R_M) (T := F_M) (N := 37) hx hb hta i_M hown hK hP 0 rfl rfl 22 (by decide) (hta _ fl_M_151) (fun _ h9 => h9) rfl d_M_attribute_38 ?_
        refine mm_i (b0 := (mA md 0)) (As := [.int (mp_valueAt σ8), .int (mp_valueEnd σ8)]) (rest := []) ⟨hx, hb, hml, hown, hta⟩ (c_M_characters l md _ σ8 (mp_valueAt σ8) (mp_valueEnd σ8) _ hE) ok_M_326 ⟨Nat.le_of_ble_eq_true rfl, Nat.le_of_ble_eq_true rfl⟩ (va_recv hK hP (ci := 7) (q0 := 0) rfl rfl) hP hK hD hS hA rfl hl.1 rfl (Nat.le_of_ble_eq_true rfl) d_M_attribute_41 ⟨Nat.zero_le _, Nat.zero_le _⟩ (fun r41 σ41 H locs hE hP hD hS => ?_)
        refine lv_goto (tgt := 60) hx hb d_M_attribute_44 (by decide) ?_
        exact W.iret (v := r41) hx hb hr (fun t ht hW => ⟨⟨_, σ41, rfl, hE, by rw [ht]; exact hP, va_K.moved hW.alike hK, hD⟩, hS.F ht⟩) hS.2.2 d_M_attribute_60
    · have hE := hE.1 cc17
      refine lv_aload_n hx hb d_M_attribute_20 rfl (lv_at hl 0 rfl) ?_
      refine va_get (D := (mG md)) (ci := 7) (v := .int (mp_nameMany σ8)) (C := R_M) (T := F_M) (N := 37) hx hb hta i_M hown hK hP 0 rfl rfl 20 (by decide) (hta _ fl_M_145) (fun _ h9 => h9) rfl d_M_attribute_21 ?_
      refine lv_goto (tgt := 60) hx hb d_M_attribute_24 (by decide) ?_
      exact W.iret (v := mp_nameMany σ8) hx hb hr (fun t ht hW => ⟨⟨_, σ8, rfl, hE, by rw [ht]; exact hP, va_K.moved hW.alike hK, hD⟩, hS.F ht⟩) hS.2.2 d_M_attribute_60
  · have hE := hE.1 cc11
    refine lv_iconst (v := -1) hx hb d_M_attribute_14 (by decide) ?_
    exact W.iret (v := (-1)) hx hb hr (fun t ht hW => ⟨⟨_, σ8, rfl, hE, by rw [ht]; exact hP, va_K.moved hW.alike hK, hD⟩, hS.F ht⟩) hS.2.2 d_M_attribute_15

theorem d_M_sign_0 : decode b_M_sign 0 = .ok (.aload_n 0, 1) := by decide +kernel
theorem d_M_sign_1 : decode b_M_sign 1 = .ok (.iconst 0, 1) := by decide +kernel
theorem d_M_sign_2 : decode b_M_sign 2 = .ok (.putfield 70, 3) := by decide +kernel
theorem d_M_sign_5 : decode b_M_sign 5 = .ok (.aload_n 0, 1) := by decide +kernel
theorem d_M_sign_6 : decode b_M_sign 6 = .ok (.iload_n 1, 1) := by decide +kernel
theorem d_M_sign_7 : decode b_M_sign 7 = .ok (.iload_n 2, 1) := by decide +kernel
theorem d_M_sign_8 : decode b_M_sign 8 = .ok (.invokevirtual 334, 3) := by decide +kernel
theorem d_M_sign_11 : decode b_M_sign 11 = .ok (.ifCond .eq 8, 3) := by decide +kernel
theorem d_M_sign_14 : decode b_M_sign 14 = .ok (.iload 4, 2) := by decide +kernel
theorem d_M_sign_16 : decode b_M_sign 16 = .ok (.ifCond .ge 5, 3) := by decide +kernel
theorem d_M_sign_19 : decode b_M_sign 19 = .ok (.iconst (-1), 1) := by decide +kernel
theorem d_M_sign_20 : decode b_M_sign 20 = .ok (.ireturn, 1) := by decide +kernel
theorem d_M_sign_21 : decode b_M_sign 21 = .ok (.iload_n 3, 1) := by decide +kernel
theorem d_M_sign_22 : decode b_M_sign 22 = .ok (.ifCond .eq 20, 3) := by decide +kernel
theorem d_M_sign_25 : decode b_M_sign 25 = .ok (.aload_n 0, 1) := by decide +kernel
theorem d_M_sign_26 : decode b_M_sign 26 = .ok (.aload_n 0, 1) := by decide +kernel
theorem d_M_sign_27 : decode b_M_sign 27 = .ok (.getfield 148, 3) := by decide +kernel
theorem d_M_sign_30 : decode b_M_sign 30 = .ok (.aload_n 0, 1) := by decide +kernel
theorem d_M_sign_31 : decode b_M_sign 31 = .ok (.getfield 151, 3) := by decide +kernel
theorem d_M_sign_34 : decode b_M_sign 34 = .ok (.iload 4, 2) := by decide +kernel
theorem d_M_sign_36 : decode b_M_sign 36 = .ok (.invokevirtual 330, 3) := by decide +kernel
theorem d_M_sign_39 : decode b_M_sign 39 = .ok (.goto 27, 3) := by decide +kernel
theorem d_M_sign_42 : decode b_M_sign 42 = .ok (.iload 4, 2) := by decide +kernel
theorem d_M_sign_44 : decode b_M_sign 44 = .ok (.aload_n 0, 1) := by decide +kernel
theorem d_M_sign_45 : decode b_M_sign 45 = .ok (.getfield 145, 3) := by decide +kernel
theorem d_M_sign_48 : decode b_M_sign 48 = .ok (.if_icmp .ge 17, 3) := by decide +kernel
theorem d_M_sign_51 : decode b_M_sign 51 = .ok (.aload_n 0, 1) := by decide +kernel
theorem d_M_sign_52 : decode b_M_sign 52 = .ok (.aload_n 0, 1) := by decide +kernel
theorem d_M_sign_53 : decode b_M_sign 53 = .ok (.getfield 142, 3) := by decide +kernel
theorem d_M_sign_56 : decode b_M_sign 56 = .ok (.iload 4, 2) := by decide +kernel
theorem d_M_sign_58 : decode b_M_sign 58 = .ok (.iadd, 1) := by decide +kernel
theorem d_M_sign_59 : decode b_M_sign 59 = .ok (.invokevirtual 95, 3) := by decide +kernel
theorem d_M_sign_62 : decode b_M_sign 62 = .ok (.goto 4, 3) := by decide +kernel
theorem d_M_sign_65 : decode b_M_sign 65 = .ok (.iconst (-1), 1) := by decide +kernel
theorem d_M_sign_66 : decode b_M_sign 66 = .ok (.ireturn, 1) := by decide +kernel
def w_M_sign  (σ : MPS) (x0 : Int32) (x1 : Int32) (x2 : Int32) (x3 : Int32) (post : Int32 → MPS → Prop) : Prop := (∀ σ2 : MPS, σ2 = ms_thrown σ 0 → w_M_hasNumber σ2 x0 x1 (fun r8 σ8 => ((r8 = 0 → post (-1) σ8) ∧ (¬ r8 = 0 → ((0 ≤ x3 → ((x2 = 0 → (((mp_nameMany σ8) ≤ x3 → post (-1) σ8) ∧ (¬ (mp_nameMany σ8) ≤ x3 → (mXk σ8 ((mp_nameAt σ8) + x3) ∧ post (mX σ8 ((mp_nameAt σ8) + x3)) σ8)))) ∧ (¬ x2 = 0 → w_M_characterIn σ8 (mp_valueAt σ8) (mp_valueEnd σ8) x3 (fun r36 σ36 => post r36 σ36)))) ∧ (¬ 0 ≤ x3 → post (-1) σ8))))))
set_option maxHeartbeats 4000000 in
set_option maxRecDepth 100000 in
theorem c_M_sign (l : Launch) (md : MD) (sz : Nat) (σ : MPS) (x0 : Int32) (x1 : Int32) (x2 : Int32) (x3 : Int32)  (post : Int32 → MPS → Prop) (hE : w_M_sign σ x0 x1 x2 x3 post) : Met l y_M_sign ws_M_sign { frames := 4, cells := 0, slots := 0, locals := 99 } (va_Pc [.ref (mA md 0), .int x0, .int x1, .int x2, .int x3] (gM md σ sz)) (va_Qi post (eM md (va_A (MW md σ) sz)) (va_A (MW md σ) sz)) 0 0 (va_A (MW md σ) sz) := by
  refine Met.ofW (cc := b_M_sign) (maxL := 5) (ret := (some .int)) (by decide) rfl ?_
  intro p e s m args below meth c s₁ B hml hv
  obtain ⟨rfl, hsz, hP, hK, hD0⟩ := hv
  have hx := B.exec
  have hb := B.bytes
  have hr := B.returns
  have hta : ∀ w ∈ aW, w.before _ s = true := fun w h => atoms_spec (ws := ws_M_sign) B.pre w (List.mem_cons_of_mem _ h)
  have hown : s.vm.findClass R_M = some m.cls := findClass_of_methodNamed B.named
  have hlocks := B.notSynchronized
  subst hsz
  have hD := hD0.self (sz := s.heap.size)
  generalize hAe : va_A (MW md σ) s.heap.size = A at hD ⊢
  have hA : ∀ q : Nat, s.heap.size ≤ q → A q := fun q h => by rw [← hAe]; exact Or.inr h
  have hS : va_S A s.heap s.heap [] := va_S.rf
  have hP : va_P (mG md) classes (MW md σ) s.heap := hP
  have hl := lv_entry ([.ref (mA md 0), .int x0, .int x1, .int x2, .int x3]) (n := 5) (Nat.le_of_ble_eq_true rfl)
  rw [lg_entry_eq]
  generalize (lg_sl ([.ref (mA md 0), .int x0, .int x1, .int x2, .int x3]) ++ List.replicate (5 - (lg_sl ([.ref (mA md 0), .int x0, .int x1, .int x2, .int x3])).length) Slot.unset).toArray = ls at hl ⊢
  have hl : lv_has ls 5 [(0, .ref (mA md 0)), (1, .int x0), (2, .int x1), (3, .int x2), (4, .int x3)] := hl
  unfold w_M_sign at hE
  refine lv_aload_n hx hb d_M_sign_0 rfl (lv_at hl 0 rfl) ?_
  refine lv_iconst (v := 0) hx hb d_M_sign_1 (by decide) ?_
  refine va_put (D := (mG md)) (ci := 7) (v := .int 0) (ty := .int) (C := R_M) (T := F_M) (N := 37) hx hb hta i_M t_M t_M_ok n_M hown hK hP hD hS 0 rfl rfl 0 (by decide) (hta _ fl_M_70) (fun _ h9 => h9) rfl (by decide +kernel) rfl rfl (Nat.le_of_ble_eq_true rfl) d_M_sign_2 (fun H locs hP hD hS => ?_)
  have hP := mwP_thrown hP
  have hD := mwD_thrown hD
  have hE := hE _ rfl
  generalize (ms_thrown σ 0 : MPS) = σ2 at hP hD hE
  refine lv_aload_n hx hb d_M_sign_5 rfl (lv_at hl 0 rfl) ?_
  refine lv_iload_n hx hb d_M_sign_6 rfl (lv_at hl 1 rfl) ?_
  refine lv_iload_n hx hb d_M_sign_7 rfl (lv_at hl 2 rfl) ?_
  refine mm_i (b0 := (mA md 0)) (As := [.int x0, .int x1]) (rest := []) ⟨hx, hb, hml, hown, hta⟩ (c_M_hasNumber l md _ σ2 x0 x1 _ hE) ok_M_334 ⟨Nat.le_of_ble_eq_true rfl, Nat.le_of_ble_eq_true rfl⟩ (va_recv hK hP (ci := 7) (q0 := 0) rfl rfl) hP hK hD hS hA rfl hl.1 rfl (Nat.le_of_ble_eq_true rfl) d_M_sign_8 ⟨Nat.zero_le _, Nat.zero_le _⟩ (fun r8 σ8 H locs hE hP hD hS => ?_)
  refine lv_if_eq (tgt := 19) hx hb d_M_sign_11 (by decide) (fun cc11 => ?_) (fun cc11 => ?_)
  · have hE := hE.1 cc11
    refine lv_iconst (v := -1) hx hb d_M_sign_19 (by decide) ?_
    exact W.iret (v := (-1)) hx hb hr (fun t ht hW => ⟨⟨_, σ8, rfl, hE, by rw [ht]; exact hP, va_K.moved hW.alike hK, hD⟩, hS.F ht⟩) hS.2.2 d_M_sign_20
  · have hE := hE.2 cc11
    refine lv_iload hx hb d_M_sign_14 (lv_at hl 4 rfl) ?_
    refine lv_if_ge (tgt := 21) hx hb d_M_sign_16 (by decide) (fun cc16 => ?_) (fun cc16 => ?_)
    · have hE := hE.1 cc16
      refine lv_iload_n hx hb d_M_sign_21 rfl (lv_at hl 3 rfl) ?_
      refine lv_if_eq (tgt := 42) hx hb d_M_sign_22 (by decide) (fun cc22 => ?_) (fun cc22 => ?_)
      · have hE := hE.1 cc22
        refine lv_iload hx hb d_M_sign_42 (lv_at hl 4 rfl) ?_
        refine lv_aload_n hx hb d_M_sign_44 rfl (lv_at hl 0 rfl) ?_
        refine va_get (D := (mG md)) (ci := 7) (v := .int (mp_nameMany σ8)) (C := R_M) (T := F_M) (N := 37) hx hb hta i_M hown hK hP 0 rfl rfl 20 (by decide) (hta _ fl_M_145) (fun _ h9 => h9) rfl d_M_sign_45 ?_
        refine lv_icmp_ge (tgt := 65) hx hb d_M_sign_48 (by decide) (fun cc48 => ?_) (fun cc48 => ?_)
        · have hE := hE.1 cc48
          refine lv_iconst (v := -1) hx hb d_M_sign_65 (by decide) ?_
          exact W.iret (v := (-1)) hx hb hr (fun t ht hW => ⟨⟨_, σ8, rfl, hE, by rw [ht]; exact hP, va_K.moved hW.alike hK, hD⟩, hS.F ht⟩) hS.2.2 d_M_sign_66
        · have hE := hE.2 cc48
          refine lv_aload_n hx hb d_M_sign_51 rfl (lv_at hl 0 rfl) ?_
          refine lv_aload_n hx hb d_M_sign_52 rfl (lv_at hl 0 rfl) ?_
          refine va_get (D := (mG md)) (ci := 7) (v := .int (mp_nameAt σ8)) (C := R_M) (T := F_M) (N := 37) hx hb hta i_M hown hK hP 0 rfl rfl 19 (by decide) (hta _ fl_M_142) (fun _ h9 => h9) rfl d_M_sign_53 ?_
          refine lv_iload hx hb d_M_sign_56 (lv_at hl 4 rfl) ?_
          refine lv_iadd hx hb d_M_sign_58 ?_
          obtain ⟨hc59_0, hE⟩ := hE
          refine ro_V (b0 := (mA md 0)) (As := [.int ((mp_nameAt σ8) + x3)]) (rest := []) ⟨hx, hb, hml, hown, hta⟩ (f_M_x l md σ8 ((mp_nameAt σ8) + x3) hc59_0) ok_M_95 ⟨Nat.le_of_ble_eq_true rfl, Nat.le_of_ble_eq_true rfl⟩ blind_rM (va_recv hK hP (ci := 7) (q0 := 0) rfl rfl) (rM_of hP hK) rfl hl.1 rfl (Nat.le_of_ble_eq_true rfl) d_M_sign_59 ⟨Nat.zero_le _, Nat.zero_le _⟩ (fun r59 hrr => ?_)
          subst hrr
          refine lv_goto (tgt := 66) hx hb d_M_sign_62 (by decide) ?_
          exact W.iret (v := mX σ8 ((mp_nameAt σ8) + x3)) hx hb hr (fun t ht hW => ⟨⟨_, σ8, rfl, hE, by rw [ht]; exact hP, va_K.moved hW.alike hK, hD⟩, hS.F ht⟩) hS.2.2 d_M_sign_66
      · have hE := hE.2 cc22
        refine lv_aload_n hx hb d_M_sign_25 rfl (lv_at hl 0 rfl) ?_
        refine lv_aload_n hx hb d_M_sign_26 rfl (lv_at hl 0 rfl) ?_
        refine va_get (D := (mG md)) (ci := 7) (v := .int (mp_valueAt σ8)) (C := R_M) (T := F_M) (N := 37) hx hb hta i_M hown hK hP 0 rfl rfl 21 (by decide) (hta _ fl_M_148) (fun _ h9 => h9) rfl d_M_sign_27 ?_
        refine lv_aload_n hx hb d_M_sign_30 rfl (lv_at hl 0 rfl) ?_
        refine va_get (D := (mG md)) (ci := 7) (v := .int (mp_valueEnd σ8)) (C := R_M) (T := F_M) (N := 37) hx hb hta i_M hown hK hP 0 rfl rfl 22 (by decide) (hta _ fl_M_151) (fun _ h9 => h9) rfl d_M_sign_31 ?_
        refine lv_iload hx hb d_M_sign_34 (lv_at hl 4 rfl) ?_
        refine mm_i (b0 := (mA md 0)) (As := [.int (mp_valueAt σ8), .int (mp_valueEnd σ8), .int x3]) (rest := []) ⟨hx, hb, hml, hown, hta⟩ (c_M_characterIn l md _ σ8 (mp_valueAt σ8) (mp_valueEnd σ8) x3 _ hE) ok_M_330 ⟨Nat.le_of_ble_eq_true rfl, Nat.le_of_ble_eq_true rfl⟩ (va_recv hK hP (ci := 7) (q0 := 0) rfl rfl) hP hK hD hS hA rfl hl.1 rfl (Nat.le_of_ble_eq_true rfl) d_M_sign_36 ⟨Nat.zero_le _, Nat.zero_le _⟩ (fun r36 σ36 H locs hE hP hD hS => ?_)
        refine lv_goto (tgt := 66) hx hb d_M_sign_39 (by decide) ?_
        exact W.iret (v := r36) hx hb hr (fun t ht hW => ⟨⟨_, σ36, rfl, hE, by rw [ht]; exact hP, va_K.moved hW.alike hK, hD⟩, hS.F ht⟩) hS.2.2 d_M_sign_66
    · have hE := hE.2 cc16
      refine lv_iconst (v := -1) hx hb d_M_sign_19 (by decide) ?_
      exact W.iret (v := (-1)) hx hb hr (fun t ht hW => ⟨⟨_, σ8, rfl, hE, by rw [ht]; exact hP, va_K.moved hW.alike hK, hD⟩, hS.F ht⟩) hS.2.2 d_M_sign_20

theorem d_M_find_0 : decode b_M_find 0 = .ok (.aload_n 0, 1) := by decide +kernel
theorem d_M_find_1 : decode b_M_find 1 = .ok (.iconst 0, 1) := by decide +kernel
theorem d_M_find_2 : decode b_M_find 2 = .ok (.putfield 70, 3) := by decide +kernel
theorem d_M_find_5 : decode b_M_find 5 = .ok (.aload_n 0, 1) := by decide +kernel
theorem d_M_find_6 : decode b_M_find 6 = .ok (.getfield 214, 3) := by decide +kernel
theorem d_M_find_9 : decode b_M_find 9 = .ok (.ifCond .ne 5, 3) := by decide +kernel
theorem d_M_find_12 : decode b_M_find 12 = .ok (.iconst (-1), 1) := by decide +kernel
theorem d_M_find_13 : decode b_M_find 13 = .ok (.ireturn, 1) := by decide +kernel
theorem d_M_find_14 : decode b_M_find 14 = .ok (.aload_n 0, 1) := by decide +kernel
theorem d_M_find_15 : decode b_M_find 15 = .ok (.iconst 0, 1) := by decide +kernel
theorem d_M_find_16 : decode b_M_find 16 = .ok (.putfield 280, 3) := by decide +kernel
theorem d_M_find_19 : decode b_M_find 19 = .ok (.iconst 0, 1) := by decide +kernel
theorem d_M_find_20 : decode b_M_find 20 = .ok (.istore_n 1, 1) := by decide +kernel
theorem d_M_find_21 : decode b_M_find 21 = .ok (.iload_n 1, 1) := by decide +kernel
theorem d_M_find_22 : decode b_M_find 22 = .ok (.aload_n 0, 1) := by decide +kernel
theorem d_M_find_23 : decode b_M_find 23 = .ok (.getfield 73, 3) := by decide +kernel
theorem d_M_find_26 : decode b_M_find 26 = .ok (.if_icmp .ge 53, 3) := by decide +kernel
theorem d_M_find_29 : decode b_M_find 29 = .ok (.aload_n 0, 1) := by decide +kernel
theorem d_M_find_30 : decode b_M_find 30 = .ok (.aload_n 0, 1) := by decide +kernel
theorem d_M_find_31 : decode b_M_find 31 = .ok (.getfield 7, 3) := by decide +kernel
theorem d_M_find_34 : decode b_M_find 34 = .ok (.iload_n 1, 1) := by decide +kernel
theorem d_M_find_35 : decode b_M_find 35 = .ok (.aload_n 0, 1) := by decide +kernel
theorem d_M_find_36 : decode b_M_find 36 = .ok (.getfield 73, 3) := by decide +kernel
theorem d_M_find_39 : decode b_M_find 39 = .ok (.invokevirtual 115, 3) := by decide +kernel
theorem d_M_find_42 : decode b_M_find 42 = .ok (.istore_n 2, 1) := by decide +kernel
theorem d_M_find_43 : decode b_M_find 43 = .ok (.iload_n 2, 1) := by decide +kernel
theorem d_M_find_44 : decode b_M_find 44 = .ok (.ifCond .ge 5, 3) := by decide +kernel
theorem d_M_find_47 : decode b_M_find 47 = .ok (.iconst (-1), 1) := by decide +kernel
theorem d_M_find_48 : decode b_M_find 48 = .ok (.ireturn, 1) := by decide +kernel
theorem d_M_find_49 : decode b_M_find 49 = .ok (.aload_n 0, 1) := by decide +kernel
theorem d_M_find_50 : decode b_M_find 50 = .ok (.getfield 67, 3) := by decide +kernel
theorem d_M_find_53 : decode b_M_find 53 = .ok (.aload_n 0, 1) := by decide +kernel
theorem d_M_find_54 : decode b_M_find 54 = .ok (.getfield 280, 3) := by decide +kernel
theorem d_M_find_57 : decode b_M_find 57 = .ok (.iload_n 2, 1) := by decide +kernel
theorem d_M_find_58 : decode b_M_find 58 = .ok (.iastore, 1) := by decide +kernel
theorem d_M_find_59 : decode b_M_find 59 = .ok (.aload_n 0, 1) := by decide +kernel
theorem d_M_find_60 : decode b_M_find 60 = .ok (.dup, 1) := by decide +kernel
theorem d_M_find_61 : decode b_M_find 61 = .ok (.getfield 280, 3) := by decide +kernel
theorem d_M_find_64 : decode b_M_find 64 = .ok (.iconst 1, 1) := by decide +kernel
theorem d_M_find_65 : decode b_M_find 65 = .ok (.iadd, 1) := by decide +kernel
theorem d_M_find_66 : decode b_M_find 66 = .ok (.putfield 280, 3) := by decide +kernel
theorem d_M_find_69 : decode b_M_find 69 = .ok (.iload_n 1, 1) := by decide +kernel
theorem d_M_find_70 : decode b_M_find 70 = .ok (.aload_n 0, 1) := by decide +kernel
theorem d_M_find_71 : decode b_M_find 71 = .ok (.getfield 76, 3) := by decide +kernel
theorem d_M_find_74 : decode b_M_find 74 = .ok (.iadd, 1) := by decide +kernel
theorem d_M_find_75 : decode b_M_find 75 = .ok (.istore_n 1, 1) := by decide +kernel
theorem d_M_find_76 : decode b_M_find 76 = .ok (.goto (-55), 3) := by decide +kernel
theorem d_M_find_79 : decode b_M_find 79 = .ok (.aload_n 0, 1) := by decide +kernel
theorem d_M_find_80 : decode b_M_find 80 = .ok (.aload_n 0, 1) := by decide +kernel
theorem d_M_find_81 : decode b_M_find 81 = .ok (.getfield 175, 3) := by decide +kernel
theorem d_M_find_84 : decode b_M_find 84 = .ok (.invokevirtual 286, 3) := by decide +kernel
theorem d_M_find_87 : decode b_M_find 87 = .ok (.ireturn, 1) := by decide +kernel
def w_M_find_L21   (post : Int32 → MPS → Prop) : Nat → Int32 → MPS → Prop
  | 0, _, _ => False
  | n21 + 1, v1, σ => (((mp_taped σ) ≤ v1 → w_M_withId σ (mp_nodes σ) (fun r84 σ84 => post r84 σ84)) ∧ (¬ (mp_taped σ) ≤ v1 → w_M_characterAt_t σ v1 (mp_taped σ) (fun r39 σ39 => ((0 ≤ r39 → (vp_in (mp_wantedMany σ39) 4000 ∧ (∀ σ58 : MPS, σ58 = ms_wanted σ39 (upd (mp_wanted σ39) (mp_wantedMany σ39).toNatClampNeg r39) → (∀ σ66 : MPS, σ66 = ms_wantedMany σ58 ((mp_wantedMany σ58) + 1) → w_M_find_L21 post n21 (v1 + (mp_width σ66)) σ66)))) ∧ (¬ 0 ≤ r39 → post (-1) σ39)))))
def w_M_find  (σ : MPS)  (post : Int32 → MPS → Prop) : Prop := (∀ σ2 : MPS, σ2 = ms_thrown σ 0 → (((mp_known σ2) = 0 → post (-1) σ2) ∧ (¬ (mp_known σ2) = 0 → (∀ σ16 : MPS, σ16 = ms_wantedMany σ2 0 → (∃ n21, w_M_find_L21 post n21 0 σ16)))))
set_option maxHeartbeats 4000000 in
set_option maxRecDepth 100000 in
theorem c_M_find (l : Launch) (md : MD) (sz : Nat) (σ : MPS)   (post : Int32 → MPS → Prop) (hE : w_M_find σ post) : Met l y_M_find ws_M_find { frames := 5, cells := 0, slots := 0, locals := 119 } (va_Pc [.ref (mA md 0)] (gM md σ sz)) (va_Qi post (eM md (va_A (MW md σ) sz)) (va_A (MW md σ) sz)) 0 0 (va_A (MW md σ) sz) := by
  refine Met.ofW (cc := b_M_find) (maxL := 3) (ret := (some .int)) (by decide) rfl ?_
  intro p e s m args below meth c s₁ B hml hv
  obtain ⟨rfl, hsz, hP, hK, hD0⟩ := hv
  have hx := B.exec
  have hb := B.bytes
  have hr := B.returns
  have hta : ∀ w ∈ aW, w.before _ s = true := fun w h => atoms_spec (ws := ws_M_find) B.pre w (List.mem_cons_of_mem _ h)
  have hown : s.vm.findClass R_M = some m.cls := findClass_of_methodNamed B.named
  have hlocks := B.notSynchronized
  subst hsz
  have hD := hD0.self (sz := s.heap.size)
  generalize hAe : va_A (MW md σ) s.heap.size = A at hD ⊢
  have hA : ∀ q : Nat, s.heap.size ≤ q → A q := fun q h => by rw [← hAe]; exact Or.inr h
  have hS : va_S A s.heap s.heap [] := va_S.rf
  have hP : va_P (mG md) classes (MW md σ) s.heap := hP
  have hl := lv_entry ([.ref (mA md 0)]) (n := 3) (Nat.le_of_ble_eq_true rfl)
  rw [lg_entry_eq]
  generalize (lg_sl ([.ref (mA md 0)]) ++ List.replicate (3 - (lg_sl ([.ref (mA md 0)])).length) Slot.unset).toArray = ls at hl ⊢
  have hl : lv_has ls 3 [(0, .ref (mA md 0))] := hl
  have L21 : ∀ (n21 : Nat) (v1 : Int32) (σ : MPS) (H : Heap) (locs : List Loc) (hP : va_P (mG md) classes (MW md σ) H) (hD : va_D A (MW md σ)) (hS : va_S A s.heap H locs) (ls : Array Slot) (hl : lv_has ls 3 [(0, .ref (mA md 0)), (1, .int v1)]) (hE : w_M_find_L21 post n21 v1 σ), W p l e (headSpec ws_M_find { frames := 5, cells := 0, slots := 0, locals := 119 }).room s m ([.ref (mA md 0)] : List Value).toArray below meth c H locs 0 0 (MQ below (va_Qi post (eM md A) A) ([.ref (mA md 0)] : List Value).toArray s 0 0 A) (F0 m 21 ls []) := by
    intro n21
    induction n21 with
    | zero => intro v1 σ H locs hP hD hS ls hl hE; exact hE.elim
    | succ n21 ih21 =>
      intro v1 σ H locs hP hD hS ls hl hE
      unfold w_M_find_L21 at hE
      refine lv_iload_n hx hb d_M_find_21 rfl (lv_at hl 1 rfl) ?_
      refine lv_aload_n hx hb d_M_find_22 rfl (lv_at hl 0 rfl) ?_
      refine va_get (D := (mG md)) (ci := 7) (v := .int (mp_taped σ)) (C := R_M) (T := F_M) (N := 37) hx hb hta i_M hown hK hP 0 rfl rfl 6 (by decide) (hta _ fl_M_73) (fun _ h9 => h9) rfl d_M_find_23 ?_
      refine lv_icmp_ge (tgt := 79) hx hb d_M_find_26 (by decide) (fun cc26 => ?_) (fun cc26 => ?_)
      · have hE := hE.1 cc26
        refine lv_aload_n hx hb d_M_find_79 rfl (lv_at hl 0 rfl) ?_
        refine lv_aload_n hx hb d_M_find_80 rfl (lv_at hl 0 rfl) ?_
        refine va_get (D := (mG md)) (ci := 7) (v := .int (mp_nodes σ)) (C := R_M) (T := F_M) (N := 37) hx hb hta i_M hown hK hP 0 rfl rfl 32 (by decide) (hta _ fl_M_175) (fun _ h9 => h9) rfl d_M_find_81 ?_
        refine mm_i (b0 := (mA md 0)) (As := [.int (mp_nodes σ)]) (rest := []) ⟨hx, hb, hml, hown, hta⟩ (c_M_withId l md _ σ (mp_nodes σ) _ hE) ok_M_286 ⟨Nat.le_of_ble_eq_true rfl, Nat.le_of_ble_eq_true rfl⟩ (va_recv hK hP (ci := 7) (q0 := 0) rfl rfl) hP hK hD hS hA rfl hl.1 rfl (Nat.le_of_ble_eq_true rfl) d_M_find_84 ⟨Nat.zero_le _, Nat.zero_le _⟩ (fun r84 σ84 H locs hE hP hD hS => ?_)
        exact W.iret (v := r84) hx hb hr (fun t ht hW => ⟨⟨_, σ84, rfl, hE, by rw [ht]; exact hP, va_K.moved hW.alike hK, hD⟩, hS.F ht⟩) hS.2.2 d_M_find_87
      · have hE := hE.2 cc26
        refine lv_aload_n hx hb d_M_find_29 rfl (lv_at hl 0 rfl) ?_
        refine lv_aload_n hx hb d_M_find_30 rfl (lv_at hl 0 rfl) ?_
        refine va_get (D := (mG md)) (ci := 7) (v := .ref (mA md 1)) (C := R_M) (T := F_M) (N := 37) hx hb hta i_M hown hK hP 0 rfl rfl 1 (by decide) (hta _ fl_M_7) (fun _ h9 => h9) rfl d_M_find_31 ?_
        refine lv_iload_n hx hb d_M_find_34 rfl (lv_at hl 1 rfl) ?_
        refine lv_aload_n hx hb d_M_find_35 rfl (lv_at hl 0 rfl) ?_
        refine va_get (D := (mG md)) (ci := 7) (v := .int (mp_taped σ)) (C := R_M) (T := F_M) (N := 37) hx hb hta i_M hown hK hP 0 rfl rfl 6 (by decide) (hta _ fl_M_73) (fun _ h9 => h9) rfl d_M_find_36 ?_
        refine mm_i (b0 := (mA md 0)) (As := [.ref (mA md 1), .int v1, .int (mp_taped σ)]) (rest := []) ⟨hx, hb, hml, hown, hta⟩ (c_M_characterAt_t l md _ σ v1 (mp_taped σ) _ hE) ok_M_115 ⟨Nat.le_of_ble_eq_true rfl, Nat.le_of_ble_eq_true rfl⟩ (va_recv hK hP (ci := 7) (q0 := 0) rfl rfl) hP hK hD hS hA rfl hl.1 rfl (Nat.le_of_ble_eq_true rfl) d_M_find_39 ⟨Nat.zero_le _, Nat.zero_le _⟩ (fun r39 σ39 H locs hE hP hD hS => ?_)
        refine lv_istore_n (lv' := [(2, .int r39), (0, .ref (mA md 0)), (1, .int v1)]) hx hb d_M_find_42 rfl hl (by decide) rfl (fun ls hl => ?_)
        refine lv_iload_n hx hb d_M_find_43 rfl (lv_at hl 0 rfl) ?_
        refine lv_if_ge (tgt := 49) hx hb d_M_find_44 (by decide) (fun cc44 => ?_) (fun cc44 => ?_)
        · have hE := hE.1 cc44
          refine lv_aload_n hx hb d_M_find_49 rfl (lv_at hl 1 rfl) ?_
          refine va_get (D := (mG md)) (ci := 7) (v := .ref (mA md 18)) (C := R_M) (T := F_M) (N := 37) hx hb hta i_M hown hK hP 0 rfl rfl 34 (by decide) (hta _ fl_M_67) (fun _ h9 => h9) rfl d_M_find_50 ?_
          refine lv_aload_n hx hb d_M_find_53 rfl (lv_at hl 1 rfl) ?_
          refine va_get (D := (mG md)) (ci := 7) (v := .int (mp_wantedMany σ39)) (C := R_M) (T := F_M) (N := 37) hx hb hta i_M hown hK hP 0 rfl rfl 36 (by decide) (hta _ fl_M_280) (fun _ h9 => h9) rfl d_M_find_54 ?_
          refine lv_iload_n hx hb d_M_find_57 rfl (lv_at hl 0 rfl) ?_
          obtain ⟨hI58, hE⟩ := hE
          refine va_iast (D := (mG md)) (f := mp_wanted σ39) hx hb hK hP hD hS 18 0 rfl rfl hI58 d_M_find_58 (fun H locs hP hD hS => ?_)
          have hP := mwP_wanted hP
          have hD := mwD_wanted hD
          have hE := hE _ rfl
          generalize (ms_wanted σ39 (upd (mp_wanted σ39) (mp_wantedMany σ39).toNatClampNeg r39) : MPS) = σ58 at hP hD hE
          refine lv_aload_n hx hb d_M_find_59 rfl (lv_at hl 1 rfl) ?_
          refine lv_dup hx hb d_M_find_60 rfl ?_
          refine va_get (D := (mG md)) (ci := 7) (v := .int (mp_wantedMany σ58)) (C := R_M) (T := F_M) (N := 37) hx hb hta i_M hown hK hP 0 rfl rfl 36 (by decide) (hta _ fl_M_280) (fun _ h9 => h9) rfl d_M_find_61 ?_
          refine lv_iconst (v := 1) hx hb d_M_find_64 (by decide) ?_
          refine lv_iadd hx hb d_M_find_65 ?_
          refine va_put (D := (mG md)) (ci := 7) (v := .int ((mp_wantedMany σ58) + 1)) (ty := .int) (C := R_M) (T := F_M) (N := 37) hx hb hta i_M t_M t_M_ok n_M hown hK hP hD hS 0 rfl rfl 36 (by decide) (hta _ fl_M_280) (fun _ h9 => h9) rfl (by decide +kernel) rfl rfl (Nat.le_of_ble_eq_true rfl) d_M_find_66 (fun H locs hP hD hS => ?_)
          have hP := mwP_wantedMany hP
          have hD := mwD_wantedMany hD
          have hE := hE _ rfl
          generalize (ms_wantedMany σ58 ((mp_wantedMany σ58) + 1) : MPS) = σ66 at hP hD hE
          refine lv_iload_n hx hb d_M_find_69 rfl (lv_at hl 2 rfl) ?_
          refine lv_aload_n hx hb d_M_find_70 rfl (lv_at hl 1 rfl) ?_
          refine va_get (D := (mG md)) (ci := 7) (v := .int (mp_width σ66)) (C := R_M) (T := F_M) (N := 37) hx hb hta i_M hown hK hP 0 rfl rfl 12 (by decide) (hta _ fl_M_76) (fun _ h9 => h9) rfl d_M_find_71 ?_
          refine lv_iadd hx hb d_M_find_74 ?_
          refine lv_istore_n (lv' := [(1, .int (v1 + (mp_width σ66))), (2, .int r39), (0, .ref (mA md 0))]) hx hb d_M_find_75 rfl hl (by decide) rfl (fun ls hl => ?_)
          refine lv_goto (tgt := 21) hx hb d_M_find_76 (by decide) ?_
          exact ih21 (v1 + (mp_width σ66)) σ66 _ _ hP hD hS _ (lv_sub hl [2, 0] rfl) hE
        · have hE := hE.2 cc44
          refine lv_iconst (v := -1) hx hb d_M_find_47 (by decide) ?_
          exact W.iret (v := (-1)) hx hb hr (fun t ht hW => ⟨⟨_, σ39, rfl, hE, by rw [ht]; exact hP, va_K.moved hW.alike hK, hD⟩, hS.F ht⟩) hS.2.2 d_M_find_48
  unfold w_M_find at hE
  refine lv_aload_n hx hb d_M_find_0 rfl (lv_at hl 0 rfl) ?_
  refine lv_iconst (v := 0) hx hb d_M_find_1 (by decide) ?_
  refine va_put (D := (mG md)) (ci := 7) (v := .int 0) (ty := .int) (C := R_M) (T := F_M) (N := 37) hx hb hta i_M t_M t_M_ok n_M hown hK hP hD hS 0 rfl rfl 0 (by decide) (hta _ fl_M_70) (fun _ h9 => h9) rfl (by decide +kernel) rfl rfl (Nat.le_of_ble_eq_true rfl) d_M_find_2 (fun H locs hP hD hS => ?_)
  have hP := mwP_thrown hP
  have hD := mwD_thrown hD
  have hE := hE _ rfl
  generalize (ms_thrown σ 0 : MPS) = σ2 at hP hD hE
  refine lv_aload_n hx hb d_M_find_5 rfl (lv_at hl 0 rfl) ?_
  refine va_get (D := (mG md)) (ci := 7) (v := .int (mp_known σ2)) (C := R_M) (T := F_M) (N := 37) hx hb hta i_M hown hK hP 0 rfl rfl 11 (by decide) (hta _ fl_M_214) (fun _ h9 => h9) rfl d_M_find_6 ?_
  refine lv_if_ne (tgt := 14) hx hb d_M_find_9 (by decide) (fun cc9 => ?_) (fun cc9 => ?_)
  · have hE := hE.2 cc9
    refine lv_aload_n hx hb d_M_find_14 rfl (lv_at hl 0 rfl) ?_
    refine lv_iconst (v := 0) hx hb d_M_find_15 (by decide) ?_
    refine va_put (D := (mG md)) (ci := 7) (v := .int 0) (ty := .int) (C := R_M) (T := F_M) (N := 37) hx hb hta i_M t_M t_M_ok n_M hown hK hP hD hS 0 rfl rfl 36 (by decide) (hta _ fl_M_280) (fun _ h9 => h9) rfl (by decide +kernel) rfl rfl (Nat.le_of_ble_eq_true rfl) d_M_find_16 (fun H locs hP hD hS => ?_)
    have hP := mwP_wantedMany hP
    have hD := mwD_wantedMany hD
    have hE := hE _ rfl
    generalize (ms_wantedMany σ2 0 : MPS) = σ16 at hP hD hE
    refine lv_iconst (v := 0) hx hb d_M_find_19 (by decide) ?_
    refine lv_istore_n (lv' := [(1, .int 0), (0, .ref (mA md 0))]) hx hb d_M_find_20 rfl hl (by decide) rfl (fun ls hl => ?_)
    obtain ⟨n21, hE⟩ := hE
    exact L21  n21 0 σ16 _ _ hP hD hS _ (lv_sub hl [1, 0] rfl) hE
  · have hE := hE.1 cc9
    refine lv_iconst (v := -1) hx hb d_M_find_12 (by decide) ?_
    exact W.iret (v := (-1)) hx hb hr (fun t ht hW => ⟨⟨_, σ2, rfl, hE, by rw [ht]; exact hP, va_K.moved hW.alike hK, hD⟩, hS.F ht⟩) hS.2.2 d_M_find_13
