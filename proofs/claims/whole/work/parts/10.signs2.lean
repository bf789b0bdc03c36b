-- printed by wip/gen
theorem ok_Signs_27 : okV "PlainPages$Signs" 27 R_Strip y_Strip_get b_Strip_get 2 (some .int) 1 := ⟨aW_in 339 (by decide +kernel) rfl, aW_in 301 (by decide +kernel) rfl, aW_in 302 (by decide +kernel) rfl, aW_in 85 (by decide +kernel) rfl, cd_Strip_get, rfl, by decide +kernel, by decide +kernel, by decide +kernel⟩
theorem ok_Signs_33 : okS "PlainPages$Signs" 33 y_Signs_isCharacter b_Signs_isCharacter 1 (some .boolean) 1 := ⟨aW_in 340 (by decide +kernel) rfl, aW_in 341 (by decide +kernel) rfl, aW_in 97 (by decide +kernel) rfl, cd_Signs_isCharacter, by decide +kernel, by decide +kernel, by decide +kernel⟩
theorem ok_Signs_36 : okS "PlainPages$Signs" 36 y_Signs_bytesOf b_Signs_bytesOf 1 (some .int) 1 := ⟨aW_in 346 (by decide +kernel) rfl, aW_in 347 (by decide +kernel) rfl, aW_in 97 (by decide +kernel) rfl, cd_Signs_bytesOf, by decide +kernel, by decide +kernel, by decide +kernel⟩
theorem d_Signs_characterAt_0 : decode b_Signs_characterAt 0 = .ok (.aload_n 0, 1) := by decide +kernel
theorem d_Signs_characterAt_1 : decode b_Signs_characterAt 1 = .ok (.iload_n 1, 1) := by decide +kernel
theorem d_Signs_characterAt_2 : decode b_Signs_characterAt 2 = .ok (.invokevirtual 27, 3) := by decide +kernel
theorem d_Signs_characterAt_5 : decode b_Signs_characterAt 5 = .ok (.istore_n 2, 1) := by decide +kernel
theorem d_Signs_characterAt_6 : decode b_Signs_characterAt 6 = .ok (.iload_n 2, 1) := by decide +kernel
theorem d_Signs_characterAt_7 : decode b_Signs_characterAt 7 = .ok (.sipush 128, 3) := by decide +kernel
theorem d_Signs_characterAt_10 : decode b_Signs_characterAt 10 = .ok (.if_icmp .ge 5, 3) := by decide +kernel
theorem d_Signs_characterAt_13 : decode b_Signs_characterAt 13 = .ok (.iload_n 2, 1) := by decide +kernel
theorem d_Signs_characterAt_14 : decode b_Signs_characterAt 14 = .ok (.ireturn, 1) := by decide +kernel
theorem d_Signs_characterAt_15 : decode b_Signs_characterAt 15 = .ok (.iload_n 2, 1) := by decide +kernel
theorem d_Signs_characterAt_16 : decode b_Signs_characterAt 16 = .ok (.sipush 192, 3) := by decide +kernel
theorem d_Signs_characterAt_19 : decode b_Signs_characterAt 19 = .ok (.if_icmp .lt 10, 3) := by decide +kernel
theorem d_Signs_characterAt_22 : decode b_Signs_characterAt 22 = .ok (.iload_n 2, 1) := by decide +kernel
theorem d_Signs_characterAt_23 : decode b_Signs_characterAt 23 = .ok (.sipush 248, 3) := by decide +kernel
theorem d_Signs_characterAt_26 : decode b_Signs_characterAt 26 = .ok (.if_icmp .lt 5, 3) := by decide +kernel
theorem d_Signs_characterAt_29 : decode b_Signs_characterAt 29 = .ok (.iconst (-1), 1) := by decide +kernel
theorem d_Signs_characterAt_30 : decode b_Signs_characterAt 30 = .ok (.ireturn, 1) := by decide +kernel
theorem d_Signs_characterAt_31 : decode b_Signs_characterAt 31 = .ok (.iload_n 2, 1) := by decide +kernel
theorem d_Signs_characterAt_32 : decode b_Signs_characterAt 32 = .ok (.sipush 224, 3) := by decide +kernel
theorem d_Signs_characterAt_35 : decode b_Signs_characterAt 35 = .ok (.if_icmp .ge 7, 3) := by decide +kernel
theorem d_Signs_characterAt_38 : decode b_Signs_characterAt 38 = .ok (.iconst 2, 1) := by decide +kernel
theorem d_Signs_characterAt_39 : decode b_Signs_characterAt 39 = .ok (.goto 15, 3) := by decide +kernel
theorem d_Signs_characterAt_42 : decode b_Signs_characterAt 42 = .ok (.iload_n 2, 1) := by decide +kernel
theorem d_Signs_characterAt_43 : decode b_Signs_characterAt 43 = .ok (.sipush 240, 3) := by decide +kernel
theorem d_Signs_characterAt_46 : decode b_Signs_characterAt 46 = .ok (.if_icmp .ge 7, 3) := by decide +kernel
theorem d_Signs_characterAt_49 : decode b_Signs_characterAt 49 = .ok (.iconst 3, 1) := by decide +kernel
theorem d_Signs_characterAt_50 : decode b_Signs_characterAt 50 = .ok (.goto 4, 3) := by decide +kernel
theorem d_Signs_characterAt_53 : decode b_Signs_characterAt 53 = .ok (.iconst 4, 1) := by decide +kernel
theorem d_Signs_characterAt_54 : decode b_Signs_characterAt 54 = .ok (.istore_n 3, 1) := by decide +kernel
theorem d_Signs_characterAt_55 : decode b_Signs_characterAt 55 = .ok (.iload_n 2, 1) := by decide +kernel
theorem d_Signs_characterAt_56 : decode b_Signs_characterAt 56 = .ok (.bipush 127, 2) := by decide +kernel
theorem d_Signs_characterAt_58 : decode b_Signs_characterAt 58 = .ok (.iload_n 3, 1) := by decide +kernel
theorem d_Signs_characterAt_59 : decode b_Signs_characterAt 59 = .ok (.ishr, 1) := by decide +kernel
theorem d_Signs_characterAt_60 : decode b_Signs_characterAt 60 = .ok (.iand, 1) := by decide +kernel
theorem d_Signs_characterAt_61 : decode b_Signs_characterAt 61 = .ok (.istore 4, 2) := by decide +kernel
theorem d_Signs_characterAt_63 : decode b_Signs_characterAt 63 = .ok (.iconst 1, 1) := by decide +kernel
theorem d_Signs_characterAt_64 : decode b_Signs_characterAt 64 = .ok (.istore 5, 2) := by decide +kernel
theorem d_Signs_characterAt_66 : decode b_Signs_characterAt 66 = .ok (.iload 5, 2) := by decide +kernel
theorem d_Signs_characterAt_68 : decode b_Signs_characterAt 68 = .ok (.iload_n 3, 1) := by decide +kernel
theorem d_Signs_characterAt_69 : decode b_Signs_characterAt 69 = .ok (.if_icmp .ge 46, 3) := by decide +kernel
theorem d_Signs_characterAt_72 : decode b_Signs_characterAt 72 = .ok (.aload_n 0, 1) := by decide +kernel
theorem d_Signs_characterAt_73 : decode b_Signs_characterAt 73 = .ok (.iload_n 1, 1) := by decide +kernel
theorem d_Signs_characterAt_74 : decode b_Signs_characterAt 74 = .ok (.iload 5, 2) := by decide +kernel
theorem d_Signs_characterAt_76 : decode b_Signs_characterAt 76 = .ok (.iadd, 1) := by decide +kernel
theorem d_Signs_characterAt_77 : decode b_Signs_characterAt 77 = .ok (.invokevirtual 27, 3) := by decide +kernel
theorem d_Signs_characterAt_80 : decode b_Signs_characterAt 80 = .ok (.istore 6, 2) := by decide +kernel
theorem d_Signs_characterAt_82 : decode b_Signs_characterAt 82 = .ok (.iload 6, 2) := by decide +kernel
theorem d_Signs_characterAt_84 : decode b_Signs_characterAt 84 = .ok (.sipush 192, 3) := by decide +kernel
theorem d_Signs_characterAt_87 : decode b_Signs_characterAt 87 = .ok (.iand, 1) := by decide +kernel
theorem d_Signs_characterAt_88 : decode b_Signs_characterAt 88 = .ok (.sipush 128, 3) := by decide +kernel
theorem d_Signs_characterAt_91 : decode b_Signs_characterAt 91 = .ok (.if_icmp .eq 5, 3) := by decide +kernel
theorem d_Signs_characterAt_94 : decode b_Signs_characterAt 94 = .ok (.iconst (-1), 1) := by decide +kernel
theorem d_Signs_characterAt_95 : decode b_Signs_characterAt 95 = .ok (.ireturn, 1) := by decide +kernel
theorem d_Signs_characterAt_96 : decode b_Signs_characterAt 96 = .ok (.iload 4, 2) := by decide +kernel
theorem d_Signs_characterAt_98 : decode b_Signs_characterAt 98 = .ok (.bipush 6, 2) := by decide +kernel
theorem d_Signs_characterAt_100 : decode b_Signs_characterAt 100 = .ok (.ishl, 1) := by decide +kernel
theorem d_Signs_characterAt_101 : decode b_Signs_characterAt 101 = .ok (.iload 6, 2) := by decide +kernel
theorem d_Signs_characterAt_103 : decode b_Signs_characterAt 103 = .ok (.bipush 63, 2) := by decide +kernel
theorem d_Signs_characterAt_105 : decode b_Signs_characterAt 105 = .ok (.iand, 1) := by decide +kernel
theorem d_Signs_characterAt_106 : decode b_Signs_characterAt 106 = .ok (.ior, 1) := by decide +kernel
theorem d_Signs_characterAt_107 : decode b_Signs_characterAt 107 = .ok (.istore 4, 2) := by decide +kernel
theorem d_Signs_characterAt_109 : decode b_Signs_characterAt 109 = .ok (.iinc 5 1, 3) := by decide +kernel
theorem d_Signs_characterAt_112 : decode b_Signs_characterAt 112 = .ok (.goto (-46), 3) := by decide +kernel
theorem d_Signs_characterAt_115 : decode b_Signs_characterAt 115 = .ok (.iload 4, 2) := by decide +kernel
theorem d_Signs_characterAt_117 : decode b_Signs_characterAt 117 = .ok (.invokestatic 33, 3) := by decide +kernel
theorem d_Signs_characterAt_120 : decode b_Signs_characterAt 120 = .ok (.ifCond .eq 17, 3) := by decide +kernel
theorem d_Signs_characterAt_123 : decode b_Signs_characterAt 123 = .ok (.iload 4, 2) := by decide +kernel
theorem d_Signs_characterAt_125 : decode b_Signs_characterAt 125 = .ok (.invokestatic 36, 3) := by decide +kernel
theorem d_Signs_characterAt_128 : decode b_Signs_characterAt 128 = .ok (.iload_n 3, 1) := by decide +kernel
theorem d_Signs_characterAt_129 : decode b_Signs_characterAt 129 = .ok (.if_icmp .ne 8, 3) := by decide +kernel
theorem d_Signs_characterAt_132 : decode b_Signs_characterAt 132 = .ok (.iload 4, 2) := by decide +kernel
theorem d_Signs_characterAt_134 : decode b_Signs_characterAt 134 = .ok (.goto 4, 3) := by decide +kernel
theorem d_Signs_characterAt_137 : decode b_Signs_characterAt 137 = .ok (.iconst (-1), 1) := by decide +kernel
theorem d_Signs_characterAt_138 : decode b_Signs_characterAt 138 = .ok (.ireturn, 1) := by decide +kernel
def w_Signs_characterAt_L66  (σ : PPS) (v1 : Int32) (v3 : Int32) (post : Int32 → Prop) : Nat → Int32 → Int32 → Prop
  | 0, _, _ => False
  | n66 + 1, v4, v5 => ((v3 ≤ v5 → (((b2i (cCh v4)) = 0 → post (-1)) ∧ (¬ (b2i (cCh v4)) = 0 → (((cBy v4) = v3 → post v4) ∧ (¬ (cBy v4) = v3 → post (-1)))))) ∧ (¬ v3 ≤ v5 → ((((sGet (pTp σ) (v1 + v5)) &&& 192) = 128 → w_Signs_characterAt_L66 σ v1 v3 post n66 ((v4 <<< (6 &&& 31)) ||| ((sGet (pTp σ) (v1 + v5)) &&& 63)) (v5 + 1)) ∧ (¬ ((sGet (pTp σ) (v1 + v5)) &&& 192) = 128 → post (-1)))))
def w_Signs_characterAt_J54  (σ : PPS) (post : Int32 → Prop) (v1 : Int32) (v2 : Int32) (t0 : Int32) : Prop := (∃ n66, w_Signs_characterAt_L66 σ v1 t0 post n66 (v2 &&& (127 >>> (t0 &&& 31))) 1)
def w_Signs_characterAt  (σ : PPS) (x1 : Int32) (post : Int32 → Prop) : Prop := ((128 ≤ (sGet (pTp σ) x1) → (((sGet (pTp σ) x1) < 192 → post (-1)) ∧ (¬ (sGet (pTp σ) x1) < 192 → (((sGet (pTp σ) x1) < 248 → ((224 ≤ (sGet (pTp σ) x1) → ((240 ≤ (sGet (pTp σ) x1) → w_Signs_characterAt_J54 σ post x1 (sGet (pTp σ) x1) 4) ∧ (¬ 240 ≤ (sGet (pTp σ) x1) → w_Signs_characterAt_J54 σ post x1 (sGet (pTp σ) x1) 3))) ∧ (¬ 224 ≤ (sGet (pTp σ) x1) → w_Signs_characterAt_J54 σ post x1 (sGet (pTp σ) x1) 2))) ∧ (¬ (sGet (pTp σ) x1) < 248 → post (-1)))))) ∧ (¬ 128 ≤ (sGet (pTp σ) x1) → post (sGet (pTp σ) x1)))
set_option maxHeartbeats 4000000 in
set_option maxRecDepth 100000 in
theorem c_Signs_characterAt (l : Launch) (w : WD) (σ : PPS) (x1 : Int32)  (post : Int32 → Prop) (hI : inv σ) (hE : w_Signs_characterAt σ x1 post) : Met l y_Signs_characterAt ws_Signs_characterAt { frames := 1, cells := 0, slots := 0, locals := 21 } (va_Pc [.ref (wA w 2), .int x1] (fW w σ)) (vp_Si post) 0 0 (fun _ => False) := by
  refine Met.ofW (cc := b_Signs_characterAt) (maxL := 7) (ret := (some .int)) (by decide) rfl ?_
  intro p e s m args below meth c s₁ B hml hv
  obtain ⟨rfl, hP, hK, hC⟩ := hv
  have hS : va_S (fun _ : Nat => False) s.heap s.heap [] := va_S.rf
  have hx := B.exec
  have hb := B.bytes
  have hr := B.returns
  have hta : ∀ w ∈ aW, w.before _ s = true := fun w h => atoms_spec (ws := ws_Signs_characterAt) B.pre w (List.mem_cons_of_mem _ h)
  have hown : s.vm.findClass R_Signs = some m.cls := findClass_of_methodNamed B.named
  have hlocks := B.notSynchronized
  have hl := lv_entry ([.ref (wA w 2), .int x1]) (n := 7) (Nat.le_of_ble_eq_true rfl)
  rw [lg_entry_eq]
  generalize (lg_sl ([.ref (wA w 2), .int x1]) ++ List.replicate (7 - (lg_sl ([.ref (wA w 2), .int x1])).length) Slot.unset).toArray = ls at hl ⊢
  have hl : lv_has ls 7 [(0, .ref (wA w 2)), (1, .int x1)] := hl
  have L66 : ∀ (v1 : Int32) (v3 : Int32) (n66 : Nat) (v4 : Int32) (v5 : Int32) (ls : Array Slot) (hl : lv_has ls 7 [(0, .ref (wA w 2)), (1, .int v1), (3, .int v3), (4, .int v4), (5, .int v5)]) (hE : w_Signs_characterAt_L66 σ v1 v3 post n66 v4 v5), W p l e (headSpec ws_Signs_characterAt { frames := 1, cells := 0, slots := 0, locals := 21 }).room s m ([.ref (wA w 2), .int x1] : List Value).toArray below meth c s.heap [] 0 0 (MQ below (vp_Si post) ([.ref (wA w 2), .int x1] : List Value).toArray s 0 0 (fun _ => False)) (F0 m 66 ls []) := by
    intro v1 v3 n66
    induction n66 with
    | zero => intro v4 v5 ls hl hE; exact hE.elim
    | succ n66 ih66 =>
      intro v4 v5 ls hl hE
      unfold w_Signs_characterAt_L66 at hE
      refine lv_iload hx hb d_Signs_characterAt_66 (lv_at hl 4 rfl) ?_
      refine lv_iload_n hx hb d_Signs_characterAt_68 rfl (lv_at hl 2 rfl) ?_
      refine lv_icmp_ge (tgt := 115) hx hb d_Signs_characterAt_69 (by decide) (fun cc69 => ?_) (fun cc69 => ?_)
      · have hE := hE.1 cc69
        refine lv_iload hx hb d_Signs_characterAt_115 (lv_at hl 3 rfl) ?_
        refine ro_S  (As := [.int v4]) (rest := []) ⟨hx, hb, hml, hown, hta⟩ (f_Signs_isCharacter l v4) ok_Signs_33 ⟨Nat.le_of_ble_eq_true rfl, Nat.le_of_ble_eq_true rfl⟩ blind_true  (fun _ _ _ => trivial) rfl hl.1 rfl (Nat.le_of_ble_eq_true rfl) d_Signs_characterAt_117 ⟨Nat.zero_le _, Nat.zero_le _⟩ (fun r117 hrr => ?_)
        subst hrr
        refine lv_if_eq (tgt := 137) hx hb d_Signs_characterAt_120 (by decide) (fun cc120 => ?_) (fun cc120 => ?_)
        · have hE := hE.1 cc120
          refine lv_iconst (v := -1) hx hb d_Signs_characterAt_137 (by decide) ?_
          exact W.iret (v := (-1)) hx hb hr (fun t ht hW => ⟨_, rfl, hE, ht⟩) (fun q h => by cases h) d_Signs_characterAt_138
        · have hE := hE.2 cc120
          refine lv_iload hx hb d_Signs_characterAt_123 (lv_at hl 3 rfl) ?_
          refine ro_S  (As := [.int v4]) (rest := []) ⟨hx, hb, hml, hown, hta⟩ (f_Signs_bytesOf l v4) ok_Signs_36 ⟨Nat.le_of_ble_eq_true rfl, Nat.le_of_ble_eq_true rfl⟩ blind_true  (fun _ _ _ => trivial) rfl hl.1 rfl (Nat.le_of_ble_eq_true rfl) d_Signs_characterAt_125 ⟨Nat.zero_le _, Nat.zero_le _⟩ (fun r125 hrr => ?_)
          subst hrr
          refine lv_iload_n hx hb d_Signs_characterAt_128 rfl (lv_at hl 2 rfl) ?_
          refine lv_icmp_ne (tgt := 137) hx hb d_Signs_characterAt_129 (by decide) (fun cc129 => ?_) (fun cc129 => ?_)
          · have hE := hE.2 cc129
            refine lv_iconst (v := -1) hx hb d_Signs_characterAt_137 (by decide) ?_
            exact W.iret (v := (-1)) hx hb hr (fun t ht hW => ⟨_, rfl, hE, ht⟩) (fun q h => by cases h) d_Signs_characterAt_138
          · have hE := hE.1 cc129
            refine lv_iload hx hb d_Signs_characterAt_132 (lv_at hl 3 rfl) ?_
            refine lv_goto (tgt := 138) hx hb d_Signs_characterAt_134 (by decide) ?_
            exact W.iret (v := v4) hx hb hr (fun t ht hW => ⟨_, rfl, hE, ht⟩) (fun q h => by cases h) d_Signs_characterAt_138
      · have hE := hE.2 cc69
        refine lv_aload_n hx hb d_Signs_characterAt_72 rfl (lv_at hl 0 rfl) ?_
        refine lv_iload_n hx hb d_Signs_characterAt_73 rfl (lv_at hl 1 rfl) ?_
        refine lv_iload hx hb d_Signs_characterAt_74 (lv_at hl 4 rfl) ?_
        refine lv_iadd hx hb d_Signs_characterAt_76 ?_
        refine ro_V (b0 := (wA w 2)) (As := [.int (v1 + v5)]) (rest := []) ⟨hx, hb, hml, hown, hta⟩ (c_Strip_get l (wG w) (wA w 2) (wA w 3) (wI w) 4000 (pTp σ) (v1 + v5) (fun r => r = sGet (pTp σ) (v1 + v5)) (l_Strip_get (by decide) (inv.Tp hI) (v1 + v5))) ok_Signs_27 ⟨Nat.le_of_ble_eq_true rfl, Nat.le_of_ble_eq_true rfl⟩ blind_rW (va_recv hK hP (ci := 1) (q0 := 2) rfl rfl) (fun U h1 h2 => ⟨by rw [h1]; exact hP.sub [2, 3] rfl, va_K.moved h2.alike hK⟩) rfl hl.1 rfl (Nat.le_of_ble_eq_true rfl) d_Signs_characterAt_77 ⟨Nat.zero_le _, Nat.zero_le _⟩ (fun r77 hrr => ?_)
        subst hrr
        refine lv_istore (lv' := [(6, .int (sGet (pTp σ) (v1 + v5))), (0, .ref (wA w 2)), (1, .int v1), (3, .int v3), (4, .int v4), (5, .int v5)]) hx hb d_Signs_characterAt_80 hl (by decide) rfl (fun ls hl => ?_)
        refine lv_iload hx hb d_Signs_characterAt_82 (lv_at hl 0 rfl) ?_
        refine lv_sipush (v := 192) hx hb d_Signs_characterAt_84 (by decide) ?_
        refine lv_iand hx hb d_Signs_characterAt_87 ?_
        refine lv_sipush (v := 128) hx hb d_Signs_characterAt_88 (by decide) ?_
        refine lv_icmp_eq (tgt := 96) hx hb d_Signs_characterAt_91 (by decide) (fun cc91 => ?_) (fun cc91 => ?_)
        · have hE := hE.1 cc91
          refine lv_iload hx hb d_Signs_characterAt_96 (lv_at hl 4 rfl) ?_
          refine lv_bipush (v := 6) hx hb d_Signs_characterAt_98 (by decide) ?_
          refine lv_ishl hx hb d_Signs_characterAt_100 ?_
          refine lv_iload hx hb d_Signs_characterAt_101 (lv_at hl 0 rfl) ?_
          refine lv_bipush (v := 63) hx hb d_Signs_characterAt_103 (by decide) ?_
          refine lv_iand hx hb d_Signs_characterAt_105 ?_
          refine lv_ior hx hb d_Signs_characterAt_106 ?_
          refine lv_istore (lv' := [(4, .int ((v4 <<< (6 &&& 31)) ||| ((sGet (pTp σ) (v1 + v5)) &&& 63))), (6, .int (sGet (pTp σ) (v1 + v5))), (0, .ref (wA w 2)), (1, .int v1), (3, .int v3), (5, .int v5)]) hx hb d_Signs_characterAt_107 hl (by decide) rfl (fun ls hl => ?_)
          refine lv_iinc (v := v5 + 1) (lv' := [(5, .int (v5 + 1)), (4, .int ((v4 <<< (6 &&& 31)) ||| ((sGet (pTp σ) (v1 + v5)) &&& 63))), (6, .int (sGet (pTp σ) (v1 + v5))), (0, .ref (wA w 2)), (1, .int v1), (3, .int v3)]) hx hb d_Signs_characterAt_109 hl (k := 5) rfl rfl (by decide) rfl (fun ls hl => ?_)
          refine lv_goto (tgt := 66) hx hb d_Signs_characterAt_112 (by decide) ?_
          exact ih66 ((v4 <<< (6 &&& 31)) ||| ((sGet (pTp σ) (v1 + v5)) &&& 63)) (v5 + 1) _ (lv_sub hl [3, 4, 5, 1, 0] rfl) hE
        · have hE := hE.2 cc91
          refine lv_iconst (v := -1) hx hb d_Signs_characterAt_94 (by decide) ?_
          exact W.iret (v := (-1)) hx hb hr (fun t ht hW => ⟨_, rfl, hE, ht⟩) (fun q h => by cases h) d_Signs_characterAt_95
  have J54 : ∀ (v1 : Int32) (v2 : Int32) (t0 : Int32) (ls : Array Slot) (hl : lv_has ls 7 [(0, .ref (wA w 2)), (1, .int v1), (2, .int v2)]) (hE : w_Signs_characterAt_J54 σ post v1 v2 t0), W p l e (headSpec ws_Signs_characterAt { frames := 1, cells := 0, slots := 0, locals := 21 }).room s m ([.ref (wA w 2), .int x1] : List Value).toArray below meth c s.heap [] 0 0 (MQ below (vp_Si post) ([.ref (wA w 2), .int x1] : List Value).toArray s 0 0 (fun _ => False)) (F0 m 54 ls [.int t0]) := by
    intro  v1 v2 t0 ls hl hE
    unfold w_Signs_characterAt_J54 at hE
    refine lv_istore_n (lv' := [(3, .int t0), (0, .ref (wA w 2)), (1, .int v1), (2, .int v2)]) hx hb d_Signs_characterAt_54 rfl hl (by decide) rfl (fun ls hl => ?_)
    refine lv_iload_n hx hb d_Signs_characterAt_55 rfl (lv_at hl 3 rfl) ?_
    refine lv_bipush (v := 127) hx hb d_Signs_characterAt_56 (by decide) ?_
    refine lv_iload_n hx hb d_Signs_characterAt_58 rfl (lv_at hl 0 rfl) ?_
    refine lv_ishr hx hb d_Signs_characterAt_59 ?_
    refine lv_iand hx hb d_Signs_characterAt_60 ?_
    refine lv_istore (lv' := [(4, .int (v2 &&& (127 >>> (t0 &&& 31)))), (3, .int t0), (0, .ref (wA w 2)), (1, .int v1), (2, .int v2)]) hx hb d_Signs_characterAt_61 hl (by decide) rfl (fun ls hl => ?_)
    refine lv_iconst (v := 1) hx hb d_Signs_characterAt_63 (by decide) ?_
    refine lv_istore (lv' := [(5, .int 1), (4, .int (v2 &&& (127 >>> (t0 &&& 31)))), (3, .int t0), (0, .ref (wA w 2)), (1, .int v1), (2, .int v2)]) hx hb d_Signs_characterAt_64 hl (by decide) rfl (fun ls hl => ?_)
    obtain ⟨n66, hE⟩ := hE
    exact L66 v1 t0 n66 (v2 &&& (127 >>> (t0 &&& 31))) 1 _ (lv_sub hl [3, 4, 2, 1, 0] rfl) hE
  unfold w_Signs_characterAt at hE
  refine lv_aload_n hx hb d_Signs_characterAt_0 rfl (lv_at hl 0 rfl) ?_
  refine lv_iload_n hx hb d_Signs_characterAt_1 rfl (lv_at hl 1 rfl) ?_
  refine ro_V (b0 := (wA w 2)) (As := [.int x1]) (rest := []) ⟨hx, hb, hml, hown, hta⟩ (c_Strip_get l (wG w) (wA w 2) (wA w 3) (wI w) 4000 (pTp σ) x1 (fun r => r = sGet (pTp σ) x1) (l_Strip_get (by decide) (inv.Tp hI) x1)) ok_Signs_27 ⟨Nat.le_of_ble_eq_true rfl, Nat.le_of_ble_eq_true rfl⟩ blind_rW (va_recv hK hP (ci := 1) (q0 := 2) rfl rfl) (fun U h1 h2 => ⟨by rw [h1]; exact hP.sub [2, 3] rfl, va_K.moved h2.alike hK⟩) rfl hl.1 rfl (Nat.le_of_ble_eq_true rfl) d_Signs_characterAt_2 ⟨Nat.zero_le _, Nat.zero_le _⟩ (fun r2 hrr => ?_)
  subst hrr
  refine lv_istore_n (lv' := [(2, .int (sGet (pTp σ) x1)), (0, .ref (wA w 2)), (1, .int x1)]) hx hb d_Signs_characterAt_5 rfl hl (by decide) rfl (fun ls hl => ?_)
  refine lv_iload_n hx hb d_Signs_characterAt_6 rfl (lv_at hl 0 rfl) ?_
  refine lv_sipush (v := 128) hx hb d_Signs_characterAt_7 (by decide) ?_
  refine lv_icmp_ge (tgt := 15) hx hb d_Signs_characterAt_10 (by decide) (fun cc10 => ?_) (fun cc10 => ?_)
  · have hE := hE.1 cc10
    refine lv_iload_n hx hb d_Signs_characterAt_15 rfl (lv_at hl 0 rfl) ?_
    refine lv_sipush (v := 192) hx hb d_Signs_characterAt_16 (by decide) ?_
    refine lv_icmp_lt (tgt := 29) hx hb d_Signs_characterAt_19 (by decide) (fun cc19 => ?_) (fun cc19 => ?_)
    · have hE := hE.1 cc19
      refine lv_iconst (v := -1) hx hb d_Signs_characterAt_29 (by decide) ?_
      exact W.iret (v := (-1)) hx hb hr (fun t ht hW => ⟨_, rfl, hE, ht⟩) (fun q h => by cases h) d_Signs_characterAt_30
    · have hE := hE.2 cc19
      refine lv_iload_n hx hb d_Signs_characterAt_22 rfl (lv_at hl 0 rfl) ?_
      refine lv_sipush (v := 248) hx hb d_Signs_characterAt_23 (by decide) ?_
      refine lv_icmp_lt (tgt := 31) hx hb d_Signs_characterAt_26 (by decide) (fun cc26 => ?_) (fun cc26 => ?_)
      · have hE := hE.1 cc26
        refine lv_iload_n hx hb d_Signs_characterAt_31 rfl (lv_at hl 0 rfl) ?_
        refine lv_sipush (v := 224) hx hb d_Signs_characterAt_32 (by decide) ?_
        refine lv_icmp_ge (tgt := 42) hx hb d_Signs_characterAt_35 (by decide) (fun cc35 => ?_) (fun cc35 => ?_)
        · have hE := hE.1 cc35
          refine lv_iload_n hx hb d_Signs_characterAt_42 rfl (lv_at hl 0 rfl) ?_
          refine lv_sipush (v := 240) hx hb d_Signs_characterAt_43 (by decide) ?_
          refine lv_icmp_ge (tgt := 53) hx hb d_Signs_characterAt_46 (by decide) (fun cc46 => ?_) (fun cc46 => ?_)
          · have hE := hE.1 cc46
            refine lv_iconst (v := 4) hx hb d_Signs_characterAt_53 (by decide) ?_
            exact J54  x1 (sGet (pTp σ) x1) 4 _ (lv_sub hl [1, 2, 0] rfl) hE
          · have hE := hE.2 cc46
            refine lv_iconst (v := 3) hx hb d_Signs_characterAt_49 (by decide) ?_
            refine lv_goto (tgt := 54) hx hb d_Signs_characterAt_50 (by decide) ?_
            exact J54  x1 (sGet (pTp σ) x1) 3 _ (lv_sub hl [1, 2, 0] rfl) hE
        · have hE := hE.2 cc35
          refine lv_iconst (v := 2) hx hb d_Signs_characterAt_38 (by decide) ?_
          refine lv_goto (tgt := 54) hx hb d_Signs_characterAt_39 (by decide) ?_
          exact J54  x1 (sGet (pTp σ) x1) 2 _ (lv_sub hl [1, 2, 0] rfl) hE
      · have hE := hE.2 cc26
        refine lv_iconst (v := -1) hx hb d_Signs_characterAt_29 (by decide) ?_
        exact W.iret (v := (-1)) hx hb hr (fun t ht hW => ⟨_, rfl, hE, ht⟩) (fun q h => by cases h) d_Signs_characterAt_30
  · have hE := hE.2 cc10
    refine lv_iload_n hx hb d_Signs_characterAt_13 rfl (lv_at hl 0 rfl) ?_
    exact W.iret (v := sGet (pTp σ) x1) hx hb hr (fun t ht hW => ⟨_, rfl, hE, ht⟩) (fun q h => by cases h) d_Signs_characterAt_14
theorem ct_Signs_43 : Cond.constant "PlainPages$Signs" 43 (65280) ∈ aW := aW_in 858 (by decide +kernel) rfl
theorem ok_Signs_39 : okV "PlainPages$Signs" 39 R_Strip y_Strip_add b_Strip_add 2 none 1 := ⟨aW_in 857 (by decide +kernel) rfl, aW_in 265 (by decide +kernel) rfl, aW_in 266 (by decide +kernel) rfl, aW_in 85 (by decide +kernel) rfl, cd_Strip_add, rfl, by decide +kernel, by decide +kernel, by decide +kernel⟩
theorem d_Signs_addCharacter_0 : decode b_Signs_addCharacter 0 = .ok (.iload_n 1, 1) := by decide +kernel
theorem d_Signs_addCharacter_1 : decode b_Signs_addCharacter 1 = .ok (.invokestatic 36, 3) := by decide +kernel
theorem d_Signs_addCharacter_4 : decode b_Signs_addCharacter 4 = .ok (.istore_n 2, 1) := by decide +kernel
theorem d_Signs_addCharacter_5 : decode b_Signs_addCharacter 5 = .ok (.iload_n 2, 1) := by decide +kernel
theorem d_Signs_addCharacter_6 : decode b_Signs_addCharacter 6 = .ok (.iconst 1, 1) := by decide +kernel
theorem d_Signs_addCharacter_7 : decode b_Signs_addCharacter 7 = .ok (.if_icmp .ne 9, 3) := by decide +kernel
theorem d_Signs_addCharacter_10 : decode b_Signs_addCharacter 10 = .ok (.aload_n 0, 1) := by decide +kernel
theorem d_Signs_addCharacter_11 : decode b_Signs_addCharacter 11 = .ok (.iload_n 1, 1) := by decide +kernel
theorem d_Signs_addCharacter_12 : decode b_Signs_addCharacter 12 = .ok (.invokevirtual 39, 3) := by decide +kernel
theorem d_Signs_addCharacter_15 : decode b_Signs_addCharacter 15 = .ok (.return_, 1) := by decide +kernel
theorem d_Signs_addCharacter_16 : decode b_Signs_addCharacter 16 = .ok (.aload_n 0, 1) := by decide +kernel
theorem d_Signs_addCharacter_17 : decode b_Signs_addCharacter 17 = .ok (.ldc 43, 2) := by decide +kernel
theorem d_Signs_addCharacter_19 : decode b_Signs_addCharacter 19 = .ok (.iload_n 2, 1) := by decide +kernel
theorem d_Signs_addCharacter_20 : decode b_Signs_addCharacter 20 = .ok (.ishr, 1) := by decide +kernel
theorem d_Signs_addCharacter_21 : decode b_Signs_addCharacter 21 = .ok (.sipush 255, 3) := by decide +kernel
theorem d_Signs_addCharacter_24 : decode b_Signs_addCharacter 24 = .ok (.iand, 1) := by decide +kernel
theorem d_Signs_addCharacter_25 : decode b_Signs_addCharacter 25 = .ok (.iload_n 1, 1) := by decide +kernel
theorem d_Signs_addCharacter_26 : decode b_Signs_addCharacter 26 = .ok (.bipush 6, 2) := by decide +kernel
theorem d_Signs_addCharacter_28 : decode b_Signs_addCharacter 28 = .ok (.iload_n 2, 1) := by decide +kernel
theorem d_Signs_addCharacter_29 : decode b_Signs_addCharacter 29 = .ok (.iconst 1, 1) := by decide +kernel
theorem d_Signs_addCharacter_30 : decode b_Signs_addCharacter 30 = .ok (.isub, 1) := by decide +kernel
theorem d_Signs_addCharacter_31 : decode b_Signs_addCharacter 31 = .ok (.imul, 1) := by decide +kernel
theorem d_Signs_addCharacter_32 : decode b_Signs_addCharacter 32 = .ok (.ishr, 1) := by decide +kernel
theorem d_Signs_addCharacter_33 : decode b_Signs_addCharacter 33 = .ok (.ior, 1) := by decide +kernel
theorem d_Signs_addCharacter_34 : decode b_Signs_addCharacter 34 = .ok (.invokevirtual 39, 3) := by decide +kernel
theorem d_Signs_addCharacter_37 : decode b_Signs_addCharacter 37 = .ok (.iload_n 2, 1) := by decide +kernel
theorem d_Signs_addCharacter_38 : decode b_Signs_addCharacter 38 = .ok (.iconst 2, 1) := by decide +kernel
theorem d_Signs_addCharacter_39 : decode b_Signs_addCharacter 39 = .ok (.isub, 1) := by decide +kernel
theorem d_Signs_addCharacter_40 : decode b_Signs_addCharacter 40 = .ok (.istore_n 3, 1) := by decide +kernel
theorem d_Signs_addCharacter_41 : decode b_Signs_addCharacter 41 = .ok (.iload_n 3, 1) := by decide +kernel
theorem d_Signs_addCharacter_42 : decode b_Signs_addCharacter 42 = .ok (.ifCond .lt 26, 3) := by decide +kernel
theorem d_Signs_addCharacter_45 : decode b_Signs_addCharacter 45 = .ok (.aload_n 0, 1) := by decide +kernel
theorem d_Signs_addCharacter_46 : decode b_Signs_addCharacter 46 = .ok (.sipush 128, 3) := by decide +kernel
theorem d_Signs_addCharacter_49 : decode b_Signs_addCharacter 49 = .ok (.iload_n 1, 1) := by decide +kernel
theorem d_Signs_addCharacter_50 : decode b_Signs_addCharacter 50 = .ok (.bipush 6, 2) := by decide +kernel
theorem d_Signs_addCharacter_52 : decode b_Signs_addCharacter 52 = .ok (.iload_n 3, 1) := by decide +kernel
theorem d_Signs_addCharacter_53 : decode b_Signs_addCharacter 53 = .ok (.imul, 1) := by decide +kernel
theorem d_Signs_addCharacter_54 : decode b_Signs_addCharacter 54 = .ok (.ishr, 1) := by decide +kernel
theorem d_Signs_addCharacter_55 : decode b_Signs_addCharacter 55 = .ok (.bipush 63, 2) := by decide +kernel
theorem d_Signs_addCharacter_57 : decode b_Signs_addCharacter 57 = .ok (.iand, 1) := by decide +kernel
theorem d_Signs_addCharacter_58 : decode b_Signs_addCharacter 58 = .ok (.ior, 1) := by decide +kernel
theorem d_Signs_addCharacter_59 : decode b_Signs_addCharacter 59 = .ok (.invokevirtual 39, 3) := by decide +kernel
theorem d_Signs_addCharacter_62 : decode b_Signs_addCharacter 62 = .ok (.iinc 3 (-1), 3) := by decide +kernel
theorem d_Signs_addCharacter_65 : decode b_Signs_addCharacter 65 = .ok (.goto (-24), 3) := by decide +kernel
theorem d_Signs_addCharacter_68 : decode b_Signs_addCharacter 68 = .ok (.return_, 1) := by decide +kernel
def w_Signs_addCharacter_L41  (v1 : Int32) (post : PPS → Prop) : Nat → Int32 → PPS → Prop
  | 0, _, _ => False
  | n41 + 1, v3, σ => ((v3 < 0 → post σ) ∧ (¬ v3 < 0 → (∀ σ59 : PPS, σ59 = sSh σ (sAdd 24000 (pSh σ) ((128 : Int32) ||| ((v1 >>> ((6 * v3) &&& 31)) &&& 63))) → w_Signs_addCharacter_L41 v1 post n41 (v3 + (-1)) σ59)))
def w_Signs_addCharacter  (σ : PPS) (x1 : Int32) (post : PPS → Prop) : Prop := (((cBy x1) = 1 → (∀ σ12 : PPS, σ12 = sSh σ (sAdd 24000 (pSh σ) x1) → post σ12)) ∧ (¬ (cBy x1) = 1 → (∀ σ34 : PPS, σ34 = sSh σ (sAdd 24000 (pSh σ) (((65280 >>> ((cBy x1) &&& 31)) &&& 255) ||| (x1 >>> ((6 * ((cBy x1) - 1)) &&& 31)))) → (∃ n41, w_Signs_addCharacter_L41 x1 post n41 ((cBy x1) - 2) σ34))))
set_option maxHeartbeats 4000000 in
set_option maxRecDepth 100000 in
theorem c_Signs_addCharacter (l : Launch) (w : WD) (sz : Nat) (σ : PPS) (x1 : Int32)  (post : PPS → Prop) (hI : inv σ) (hE : w_Signs_addCharacter σ x1 post) : Met l y_Signs_addCharacter ws_Signs_addCharacter { frames := 1, cells := 0, slots := 0, locals := 21 } (va_Pc [.ref (wA w 4), .int x1] (gW w σ sz)) (va_Qv (fun u => post u ∧ inv u) (mB (wG w) (WW w) (wI w) (va_A (WW w σ) sz)) (va_A (WW w σ) sz)) 0 0 (va_A (WW w σ) sz) := by
  refine Met.ofW (cc := b_Signs_addCharacter) (maxL := 4) (ret := none) (by decide) rfl ?_
  intro p e s m args below meth c s₁ B hml hv
  obtain ⟨rfl, hsz, hP, hK, hD0, hC⟩ := hv
  have hx := B.exec
  have hb := B.bytes
  have hr := B.returns
  have hta : ∀ w ∈ aW, w.before _ s = true := fun w h => atoms_spec (ws := ws_Signs_addCharacter) B.pre w (List.mem_cons_of_mem _ h)
  have hown : s.vm.findClass R_Signs = some m.cls := findClass_of_methodNamed B.named
  have hlocks := B.notSynchronized
  subst hsz
  have hD := hD0.self (sz := s.heap.size)
  generalize hAe : va_A (WW w σ) s.heap.size = A at hD hC ⊢
  have hA : ∀ q : Nat, s.heap.size ≤ q → A q := fun q h => by rw [← hAe]; exact Or.inr h
  have hS : va_S A s.heap s.heap [] := va_S.rf
  have hP : va_P (wG w) classes (WW w σ) s.heap := hP
  have hl := lv_entry ([.ref (wA w 4), .int x1]) (n := 4) (Nat.le_of_ble_eq_true rfl)
  rw [lg_entry_eq]
  generalize (lg_sl ([.ref (wA w 4), .int x1]) ++ List.replicate (4 - (lg_sl ([.ref (wA w 4), .int x1])).length) Slot.unset).toArray = ls at hl ⊢
  have hl : lv_has ls 4 [(0, .ref (wA w 4)), (1, .int x1)] := hl
  have L41 : ∀ (v1 : Int32) (n41 : Nat) (v3 : Int32) (σ : PPS) (H : Heap) (locs : List Loc) (hP : va_P (wG w) classes (WW w σ) H) (hD : va_D A (WW w σ)) (hS : va_S A s.heap H locs) (hI : inv σ) (ls : Array Slot) (hl : lv_has ls 4 [(0, .ref (wA w 4)), (1, .int v1), (3, .int v3)]) (hE : w_Signs_addCharacter_L41 v1 post n41 v3 σ), W p l e (headSpec ws_Signs_addCharacter { frames := 1, cells := 0, slots := 0, locals := 21 }).room s m ([.ref (wA w 4), .int x1] : List Value).toArray below meth c H locs 0 0 (MQ below (va_Qv (fun u => post u ∧ inv u) (mB (wG w) (WW w) (wI w) A) A) ([.ref (wA w 4), .int x1] : List Value).toArray s 0 0 A) (F0 m 41 ls []) := by
    intro v1 n41
    induction n41 with
    | zero => intro v3 σ H locs hP hD hS hI ls hl hE; exact hE.elim
    | succ n41 ih41 =>
      intro v3 σ H locs hP hD hS hI ls hl hE
      unfold w_Signs_addCharacter_L41 at hE
      refine lv_iload_n hx hb d_Signs_addCharacter_41 rfl (lv_at hl 2 rfl) ?_
      refine lv_if_lt (tgt := 68) hx hb d_Signs_addCharacter_42 (by decide) (fun cc42 => ?_) (fun cc42 => ?_)
      · have hE := hE.1 cc42
        exact W.vret hx hb hr (fun t ht hW => ⟨⟨σ, rfl, ⟨hE, hI⟩, by rw [ht]; exact hP, va_K.moved hW.alike hK, hD⟩, hS.F ht⟩) hS.2.2 d_Signs_addCharacter_68
      · have hE := hE.2 cc42
        refine lv_aload_n hx hb d_Signs_addCharacter_45 rfl (lv_at hl 0 rfl) ?_
        refine lv_sipush (v := 128) hx hb d_Signs_addCharacter_46 (by decide) ?_
        refine lv_iload_n hx hb d_Signs_addCharacter_49 rfl (lv_at hl 1 rfl) ?_
        refine lv_bipush (v := 6) hx hb d_Signs_addCharacter_50 (by decide) ?_
        refine lv_iload_n hx hb d_Signs_addCharacter_52 rfl (lv_at hl 2 rfl) ?_
        refine lv_imul hx hb d_Signs_addCharacter_53 ?_
        refine lv_ishr hx hb d_Signs_addCharacter_54 ?_
        refine lv_bipush (v := 63) hx hb d_Signs_addCharacter_55 (by decide) ?_
        refine lv_iand hx hb d_Signs_addCharacter_57 ?_
        refine lv_ior hx hb d_Signs_addCharacter_58 ?_
        refine cSh_v (As := [.int ((128 : Int32) ||| ((v1 >>> ((6 * v3) &&& 31)) &&& 63))]) (rest := []) ⟨hx, hb, hml, hown, hta⟩ (c_Strip_add l (wG w) (wA w 4) (wA w 5) (wI w) 24000 _ (pSh σ) ((128 : Int32) ||| ((v1 >>> ((6 * v3) &&& 31)) &&& 63)) (fun u => u = sAdd 24000 (pSh σ) ((128 : Int32) ||| ((v1 >>> ((6 * v3) &&& 31)) &&& 63))) (l_Strip_add (by decide) (inv.Sh hI) ((128 : Int32) ||| ((v1 >>> ((6 * v3) &&& 31)) &&& 63)))) ok_Signs_39 ⟨Nat.le_of_ble_eq_true rfl, Nat.le_of_ble_eq_true rfl⟩ hP hK hD hS hA rfl hl.1 rfl (Nat.le_of_ble_eq_true rfl) d_Signs_addCharacter_59 ⟨Nat.zero_le _, Nat.zero_le _⟩ (fun u H locs hrr hP hD hS => ?_)
        subst hrr
        have hP : va_P (wG w) classes (WW w (sSh σ (sAdd 24000 (pSh σ) ((128 : Int32) ||| ((v1 >>> ((6 * v3) &&& 31)) &&& 63))))) H := hP
        have hD : va_D A (WW w (sSh σ (sAdd 24000 (pSh σ) ((128 : Int32) ||| ((v1 >>> ((6 * v3) &&& 31)) &&& 63))))) := hD
        have hI : inv (sSh σ (sAdd 24000 (pSh σ) ((128 : Int32) ||| ((v1 >>> ((6 * v3) &&& 31)) &&& 63)))) := (inv.sSh hI (sOk_add (by decide) (inv.Sh hI) _))
        have hE := hE _ rfl
        generalize (sSh σ (sAdd 24000 (pSh σ) ((128 : Int32) ||| ((v1 >>> ((6 * v3) &&& 31)) &&& 63))) : PPS) = σ59 at hP hD hI hE
        refine lv_iinc (v := v3 + (-1)) (lv' := [(3, .int (v3 + (-1))), (0, .ref (wA w 4)), (1, .int v1)]) hx hb d_Signs_addCharacter_62 hl (k := 2) rfl rfl (by decide) rfl (fun ls hl => ?_)
        refine lv_goto (tgt := 41) hx hb d_Signs_addCharacter_65 (by decide) ?_
        exact ih41 (v3 + (-1)) σ59 _ _ hP hD hS hI _ (lv_sub hl [1, 2, 0] rfl) hE
  unfold w_Signs_addCharacter at hE
  refine lv_iload_n hx hb d_Signs_addCharacter_0 rfl (lv_at hl 1 rfl) ?_
  refine ro_S  (As := [.int x1]) (rest := []) ⟨hx, hb, hml, hown, hta⟩ (f_Signs_bytesOf l x1) ok_Signs_36 ⟨Nat.le_of_ble_eq_true rfl, Nat.le_of_ble_eq_true rfl⟩ blind_true  (fun _ _ _ => trivial) rfl hl.1 rfl (Nat.le_of_ble_eq_true rfl) d_Signs_addCharacter_1 ⟨Nat.zero_le _, Nat.zero_le _⟩ (fun r1 hrr => ?_)
  subst hrr
  refine lv_istore_n (lv' := [(2, .int (cBy x1)), (0, .ref (wA w 4)), (1, .int x1)]) hx hb d_Signs_addCharacter_4 rfl hl (by decide) rfl (fun ls hl => ?_)
  refine lv_iload_n hx hb d_Signs_addCharacter_5 rfl (lv_at hl 0 rfl) ?_
  refine lv_iconst (v := 1) hx hb d_Signs_addCharacter_6 (by decide) ?_
  refine lv_icmp_ne (tgt := 16) hx hb d_Signs_addCharacter_7 (by decide) (fun cc7 => ?_) (fun cc7 => ?_)
  · have hE := hE.2 cc7
    refine lv_aload_n hx hb d_Signs_addCharacter_16 rfl (lv_at hl 1 rfl) ?_
    refine lv_ldc hx hb hown (hta _ ct_Signs_43) d_Signs_addCharacter_17 ?_
    refine lv_iload_n hx hb d_Signs_addCharacter_19 rfl (lv_at hl 0 rfl) ?_
    refine lv_ishr hx hb d_Signs_addCharacter_20 ?_
    refine lv_sipush (v := 255) hx hb d_Signs_addCharacter_21 (by decide) ?_
    refine lv_iand hx hb d_Signs_addCharacter_24 ?_
    refine lv_iload_n hx hb d_Signs_addCharacter_25 rfl (lv_at hl 2 rfl) ?_
    refine lv_bipush (v := 6) hx hb d_Signs_addCharacter_26 (by decide) ?_
    refine lv_iload_n hx hb d_Signs_addCharacter_28 rfl (lv_at hl 0 rfl) ?_
    refine lv_iconst (v := 1) hx hb d_Signs_addCharacter_29 (by decide) ?_
    refine lv_isub hx hb d_Signs_addCharacter_30 ?_
    refine lv_imul hx hb d_Signs_addCharacter_31 ?_
    refine lv_ishr hx hb d_Signs_addCharacter_32 ?_
    refine lv_ior hx hb d_Signs_addCharacter_33 ?_
    refine cSh_v (As := [.int (((65280 >>> ((cBy x1) &&& 31)) &&& 255) ||| (x1 >>> ((6 * ((cBy x1) - 1)) &&& 31)))]) (rest := []) ⟨hx, hb, hml, hown, hta⟩ (c_Strip_add l (wG w) (wA w 4) (wA w 5) (wI w) 24000 _ (pSh σ) (((65280 >>> ((cBy x1) &&& 31)) &&& 255) ||| (x1 >>> ((6 * ((cBy x1) - 1)) &&& 31))) (fun u => u = sAdd 24000 (pSh σ) (((65280 >>> ((cBy x1) &&& 31)) &&& 255) ||| (x1 >>> ((6 * ((cBy x1) - 1)) &&& 31)))) (l_Strip_add (by decide) (inv.Sh hI) (((65280 >>> ((cBy x1) &&& 31)) &&& 255) ||| (x1 >>> ((6 * ((cBy x1) - 1)) &&& 31))))) ok_Signs_39 ⟨Nat.le_of_ble_eq_true rfl, Nat.le_of_ble_eq_true rfl⟩ hP hK hD hS hA rfl hl.1 rfl (Nat.le_of_ble_eq_true rfl) d_Signs_addCharacter_34 ⟨Nat.zero_le _, Nat.zero_le _⟩ (fun u H locs hrr hP hD hS => ?_)
    subst hrr
    have hP : va_P (wG w) classes (WW w (sSh σ (sAdd 24000 (pSh σ) (((65280 >>> ((cBy x1) &&& 31)) &&& 255) ||| (x1 >>> ((6 * ((cBy x1) - 1)) &&& 31)))))) H := hP
    have hD : va_D A (WW w (sSh σ (sAdd 24000 (pSh σ) (((65280 >>> ((cBy x1) &&& 31)) &&& 255) ||| (x1 >>> ((6 * ((cBy x1) - 1)) &&& 31)))))) := hD
    have hI : inv (sSh σ (sAdd 24000 (pSh σ) (((65280 >>> ((cBy x1) &&& 31)) &&& 255) ||| (x1 >>> ((6 * ((cBy x1) - 1)) &&& 31))))) := (inv.sSh hI (sOk_add (by decide) (inv.Sh hI) _))
    have hE := hE _ rfl
    generalize (sSh σ (sAdd 24000 (pSh σ) (((65280 >>> ((cBy x1) &&& 31)) &&& 255) ||| (x1 >>> ((6 * ((cBy x1) - 1)) &&& 31)))) : PPS) = σ34 at hP hD hI hE
    refine lv_iload_n hx hb d_Signs_addCharacter_37 rfl (lv_at hl 0 rfl) ?_
    refine lv_iconst (v := 2) hx hb d_Signs_addCharacter_38 (by decide) ?_
    refine lv_isub hx hb d_Signs_addCharacter_39 ?_
    refine lv_istore_n (lv' := [(3, .int ((cBy x1) - 2)), (2, .int (cBy x1)), (0, .ref (wA w 4)), (1, .int x1)]) hx hb d_Signs_addCharacter_40 rfl hl (by decide) rfl (fun ls hl => ?_)
    obtain ⟨n41, hE⟩ := hE
    exact L41 x1 n41 ((cBy x1) - 2) σ34 _ _ hP hD hS hI _ (lv_sub hl [2, 3, 0] rfl) hE
  · have hE := hE.1 cc7
    refine lv_aload_n hx hb d_Signs_addCharacter_10 rfl (lv_at hl 1 rfl) ?_
    refine lv_iload_n hx hb d_Signs_addCharacter_11 rfl (lv_at hl 2 rfl) ?_
    refine cSh_v (As := [.int x1]) (rest := []) ⟨hx, hb, hml, hown, hta⟩ (c_Strip_add l (wG w) (wA w 4) (wA w 5) (wI w) 24000 _ (pSh σ) x1 (fun u => u = sAdd 24000 (pSh σ) x1) (l_Strip_add (by decide) (inv.Sh hI) x1)) ok_Signs_39 ⟨Nat.le_of_ble_eq_true rfl, Nat.le_of_ble_eq_true rfl⟩ hP hK hD hS hA rfl hl.1 rfl (Nat.le_of_ble_eq_true rfl) d_Signs_addCharacter_12 ⟨Nat.zero_le _, Nat.zero_le _⟩ (fun u H locs hrr hP hD hS => ?_)
    subst hrr
    have hP : va_P (wG w) classes (WW w (sSh σ (sAdd 24000 (pSh σ) x1))) H := hP
    have hD : va_D A (WW w (sSh σ (sAdd 24000 (pSh σ) x1))) := hD
    have hI : inv (sSh σ (sAdd 24000 (pSh σ) x1)) := (inv.sSh hI (sOk_add (by decide) (inv.Sh hI) _))
    have hE := hE _ rfl
    generalize (sSh σ (sAdd 24000 (pSh σ) x1) : PPS) = σ12 at hP hD hI hE
    exact W.vret hx hb hr (fun t ht hW => ⟨⟨σ12, rfl, ⟨hE, hI⟩, by rw [ht]; exact hP, va_K.moved hW.alike hK, hD⟩, hS.F ht⟩) hS.2.2 d_Signs_addCharacter_15
