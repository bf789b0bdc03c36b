-- printed by wip/gen: the reference
theorem ct_M_83 : Cond.constant "PlainPagesModel" 83 (65534) ∈ aW := aW_in 1116 (by decide +kernel) rfl
theorem ct_M_84 : Cond.constant "PlainPagesModel" 84 (65535) ∈ aW := aW_in 1117 (by decide +kernel) rfl
theorem d_M_isForbidden_0 : decode b_M_isForbidden 0 = .ok (.iload_n 0, 1) := by decide +kernel
theorem d_M_isForbidden_1 : decode b_M_isForbidden 1 = .ok (.bipush 32, 2) := by decide +kernel
theorem d_M_isForbidden_3 : decode b_M_isForbidden 3 = .ok (.if_icmp .ge 21, 3) := by decide +kernel
theorem d_M_isForbidden_6 : decode b_M_isForbidden 6 = .ok (.iload_n 0, 1) := by decide +kernel
theorem d_M_isForbidden_7 : decode b_M_isForbidden 7 = .ok (.bipush 9, 2) := by decide +kernel
theorem d_M_isForbidden_9 : decode b_M_isForbidden 9 = .ok (.if_icmp .eq 15, 3) := by decide +kernel
theorem d_M_isForbidden_12 : decode b_M_isForbidden 12 = .ok (.iload_n 0, 1) := by decide +kernel
theorem d_M_isForbidden_13 : decode b_M_isForbidden 13 = .ok (.bipush 10, 2) := by decide +kernel
theorem d_M_isForbidden_15 : decode b_M_isForbidden 15 = .ok (.if_icmp .eq 9, 3) := by decide +kernel
theorem d_M_isForbidden_18 : decode b_M_isForbidden 18 = .ok (.iload_n 0, 1) := by decide +kernel
theorem d_M_isForbidden_19 : decode b_M_isForbidden 19 = .ok (.bipush 13, 2) := by decide +kernel
theorem d_M_isForbidden_21 : decode b_M_isForbidden 21 = .ok (.if_icmp .ne 15, 3) := by decide +kernel
theorem d_M_isForbidden_24 : decode b_M_isForbidden 24 = .ok (.iload_n 0, 1) := by decide +kernel
theorem d_M_isForbidden_25 : decode b_M_isForbidden 25 = .ok (.ldc 83, 2) := by decide +kernel
theorem d_M_isForbidden_27 : decode b_M_isForbidden 27 = .ok (.if_icmp .eq 9, 3) := by decide +kernel
theorem d_M_isForbidden_30 : decode b_M_isForbidden 30 = .ok (.iload_n 0, 1) := by decide +kernel
theorem d_M_isForbidden_31 : decode b_M_isForbidden 31 = .ok (.ldc 84, 2) := by decide +kernel
theorem d_M_isForbidden_33 : decode b_M_isForbidden 33 = .ok (.if_icmp .ne 7, 3) := by decide +kernel
theorem d_M_isForbidden_36 : decode b_M_isForbidden 36 = .ok (.iconst 1, 1) := by decide +kernel
theorem d_M_isForbidden_37 : decode b_M_isForbidden 37 = .ok (.goto 4, 3) := by decide +kernel
theorem d_M_isForbidden_40 : decode b_M_isForbidden 40 = .ok (.iconst 0, 1) := by decide +kernel
theorem d_M_isForbidden_41 : decode b_M_isForbidden 41 = .ok (.ireturn, 1) := by decide +kernel
def w_M_isForbidden_J36   (post : Int32 → Prop)  : Prop := post 1
def w_M_isForbidden_J24   (post : Int32 → Prop) (v0 : Int32) : Prop := ((v0 = 65534 → w_M_isForbidden_J36 post ) ∧ (¬ v0 = 65534 → ((v0 = 65535 → w_M_isForbidden_J36 post ) ∧ (¬ v0 = 65535 → post 0))))
def w_M_isForbidden   (x0 : Int32) (post : Int32 → Prop) : Prop := ((32 ≤ x0 → w_M_isForbidden_J24 post x0) ∧ (¬ 32 ≤ x0 → ((x0 = 9 → w_M_isForbidden_J24 post x0) ∧ (¬ x0 = 9 → ((x0 = 10 → w_M_isForbidden_J24 post x0) ∧ (¬ x0 = 10 → ((x0 = 13 → w_M_isForbidden_J24 post x0) ∧ (¬ x0 = 13 → w_M_isForbidden_J36 post ))))))))
set_option maxHeartbeats 4000000 in
set_option maxRecDepth 100000 in
theorem c_M_isForbidden (l : Launch)   (x0 : Int32)  (post : Int32 → Prop) (hE : w_M_isForbidden x0 post) : Met l y_M_isForbidden ws_M_isForbidden { frames := 0, cells := 0, slots := 0, locals := 0 } (va_Pc [.int x0] (fun _ => True)) (vp_Si post) 0 0 (fun _ => False) := by
  refine Met.ofW (cc := b_M_isForbidden) (maxL := 1) (ret := (some .boolean)) (by decide) rfl ?_
  intro p e s m args below meth c s₁ B hml hv
  obtain ⟨rfl, -⟩ := hv
  have hS : va_S (fun _ : Nat => False) s.heap s.heap [] := va_S.rf
  have hx := B.exec
  have hb := B.bytes
  have hr := B.returns
  have hta : ∀ w ∈ aW, w.before _ s = true := fun w h => atoms_spec (ws := ws_M_isForbidden) B.pre w (List.mem_cons_of_mem _ h)
  have hown : s.vm.findClass R_M = some m.cls := findClass_of_methodNamed B.named
  have hlocks := B.notSynchronized
  have hl := lv_entry ([.int x0]) (n := 1) (Nat.le_of_ble_eq_true rfl)
  rw [lg_entry_eq]
  generalize (lg_sl ([.int x0]) ++ List.replicate (1 - (lg_sl ([.int x0])).length) Slot.unset).toArray = ls at hl ⊢
  have hl : lv_has ls 1 [(0, .int x0)] := hl
  have J36 : ∀ (ls : Array Slot) (hl : lv_has ls 1 []) (hE : w_M_isForbidden_J36 post ), W p l e (headSpec ws_M_isForbidden { frames := 0, cells := 0, slots := 0, locals := 0 }).room s m ([.int x0] : List Value).toArray below meth c s.heap [] 0 0 (MQ below (vp_Si post) ([.int x0] : List Value).toArray s 0 0 (fun _ => False)) (F0 m 36 ls []) := by
    intro  ls hl hE
    unfold w_M_isForbidden_J36 at hE
    refine lv_iconst (v := 1) hx hb d_M_isForbidden_36 (by decide) ?_
    refine lv_goto (tgt := 41) hx hb d_M_isForbidden_37 (by decide) ?_
    exact W.zret (v := 1) hx hb hr rfl (fun t ht hW => ⟨_, rfl, hE, ht⟩) (fun q h => by cases h) d_M_isForbidden_41
  have J24 : ∀ (v0 : Int32) (ls : Array Slot) (hl : lv_has ls 1 [(0, .int v0)]) (hE : w_M_isForbidden_J24 post v0), W p l e (headSpec ws_M_isForbidden { frames := 0, cells := 0, slots := 0, locals := 0 }).room s m ([.int x0] : List Value).toArray below meth c s.heap [] 0 0 (MQ below (vp_Si post) ([.int x0] : List Value).toArray s 0 0 (fun _ => False)) (F0 m 24 ls []) := by
    intro  v0 ls hl hE
    unfold w_M_isForbidden_J24 at hE
    refine lv_iload_n hx hb d_M_isForbidden_24 rfl (lv_at hl 0 rfl) ?_
    refine lv_ldc hx hb hown (hta _ ct_M_83) d_M_isForbidden_25 ?_
    refine lv_icmp_eq (tgt := 36) hx hb d_M_isForbidden_27 (by decide) (fun cc27 => ?_) (fun cc27 => ?_)
    · have hE := hE.1 cc27
      exact J36   _ (lv_sub hl [] rfl) hE
    · have hE := hE.2 cc27
      refine lv_iload_n hx hb d_M_isForbidden_30 rfl (lv_at hl 0 rfl) ?_
      refine lv_ldc hx hb hown (hta _ ct_M_84) d_M_isForbidden_31 ?_
      refine lv_icmp_ne (tgt := 40) hx hb d_M_isForbidden_33 (by decide) (fun cc33 => ?_) (fun cc33 => ?_)
      · have hE := hE.2 cc33
        refine lv_iconst (v := 0) hx hb d_M_isForbidden_40 (by decide) ?_
        exact W.zret (v := 0) hx hb hr rfl (fun t ht hW => ⟨_, rfl, hE, ht⟩) (fun q h => by cases h) d_M_isForbidden_41
      · have hE := hE.1 cc33
        exact J36   _ (lv_sub hl [] rfl) hE
  unfold w_M_isForbidden at hE
  refine lv_iload_n hx hb d_M_isForbidden_0 rfl (lv_at hl 0 rfl) ?_
  refine lv_bipush (v := 32) hx hb d_M_isForbidden_1 (by decide) ?_
  refine lv_icmp_ge (tgt := 24) hx hb d_M_isForbidden_3 (by decide) (fun cc3 => ?_) (fun cc3 => ?_)
  · have hE := hE.1 cc3
    exact J24  x0 _ (lv_sub hl [0] rfl) hE
  · have hE := hE.2 cc3
    refine lv_iload_n hx hb d_M_isForbidden_6 rfl (lv_at hl 0 rfl) ?_
    refine lv_bipush (v := 9) hx hb d_M_isForbidden_7 (by decide) ?_
    refine lv_icmp_eq (tgt := 24) hx hb d_M_isForbidden_9 (by decide) (fun cc9 => ?_) (fun cc9 => ?_)
    · have hE := hE.1 cc9
      exact J24  x0 _ (lv_sub hl [0] rfl) hE
    · have hE := hE.2 cc9
      refine lv_iload_n hx hb d_M_isForbidden_12 rfl (lv_at hl 0 rfl) ?_
      refine lv_bipush (v := 10) hx hb d_M_isForbidden_13 (by decide) ?_
      refine lv_icmp_eq (tgt := 24) hx hb d_M_isForbidden_15 (by decide) (fun cc15 => ?_) (fun cc15 => ?_)
      · have hE := hE.1 cc15
        exact J24  x0 _ (lv_sub hl [0] rfl) hE
      · have hE := hE.2 cc15
        refine lv_iload_n hx hb d_M_isForbidden_18 rfl (lv_at hl 0 rfl) ?_
        refine lv_bipush (v := 13) hx hb d_M_isForbidden_19 (by decide) ?_
        refine lv_icmp_ne (tgt := 36) hx hb d_M_isForbidden_21 (by decide) (fun cc21 => ?_) (fun cc21 => ?_)
        · have hE := hE.2 cc21
          exact J36   _ (lv_sub hl [] rfl) hE
        · have hE := hE.1 cc21
          exact J24  x0 _ (lv_sub hl [0] rfl) hE
theorem lM_isForbidden (x : Int32) : w_M_isForbidden x (fun r => r = b2i (cFb x)) := by
  unfold w_M_isForbidden w_M_isForbidden_J24 w_M_isForbidden_J36
  repeat' (refine br_c (fun _ => ?_) (fun _ => ?_))
  all_goals simp_all [cFb, cWh, b2i, Int32.not_lt, Int32.not_le]
  all_goals (simp only [Int32.le_iff_toInt_le, Int32.lt_iff_toInt_lt, Int32.reduceToInt] at *; first | omega | (intro h9; omega) | (intro h9; subst h9; simp at *))
theorem f_M_isForbidden (l : Launch)   (x0 : Int32)   : Met l y_M_isForbidden ws_M_isForbidden { frames := 0, cells := 0, slots := 0, locals := 0 } (va_Pc [.int x0] (fun _ => True)) (vp_Si (fun r => r = b2i (cFb x0))) 0 0 (fun _ => False) := c_M_isForbidden l   x0 _  (lM_isForbidden  x0 )

theorem d_M_isWhite_0 : decode b_M_isWhite 0 = .ok (.iload_n 0, 1) := by decide +kernel
theorem d_M_isWhite_1 : decode b_M_isWhite 1 = .ok (.bipush 9, 2) := by decide +kernel
theorem d_M_isWhite_3 : decode b_M_isWhite 3 = .ok (.if_icmp .eq 21, 3) := by decide +kernel
theorem d_M_isWhite_6 : decode b_M_isWhite 6 = .ok (.iload_n 0, 1) := by decide +kernel
theorem d_M_isWhite_7 : decode b_M_isWhite 7 = .ok (.bipush 10, 2) := by decide +kernel
theorem d_M_isWhite_9 : decode b_M_isWhite 9 = .ok (.if_icmp .eq 15, 3) := by decide +kernel
theorem d_M_isWhite_12 : decode b_M_isWhite 12 = .ok (.iload_n 0, 1) := by decide +kernel
theorem d_M_isWhite_13 : decode b_M_isWhite 13 = .ok (.bipush 13, 2) := by decide +kernel
theorem d_M_isWhite_15 : decode b_M_isWhite 15 = .ok (.if_icmp .eq 9, 3) := by decide +kernel
theorem d_M_isWhite_18 : decode b_M_isWhite 18 = .ok (.iload_n 0, 1) := by decide +kernel
theorem d_M_isWhite_19 : decode b_M_isWhite 19 = .ok (.bipush 32, 2) := by decide +kernel
theorem d_M_isWhite_21 : decode b_M_isWhite 21 = .ok (.if_icmp .ne 7, 3) := by decide +kernel
theorem d_M_isWhite_24 : decode b_M_isWhite 24 = .ok (.iconst 1, 1) := by decide +kernel
theorem d_M_isWhite_25 : decode b_M_isWhite 25 = .ok (.goto 4, 3) := by decide +kernel
theorem d_M_isWhite_28 : decode b_M_isWhite 28 = .ok (.iconst 0, 1) := by decide +kernel
theorem d_M_isWhite_29 : decode b_M_isWhite 29 = .ok (.ireturn, 1) := by decide +kernel
def w_M_isWhite_J24   (post : Int32 → Prop)  : Prop := post 1
def w_M_isWhite   (x0 : Int32) (post : Int32 → Prop) : Prop := ((x0 = 9 → w_M_isWhite_J24 post ) ∧ (¬ x0 = 9 → ((x0 = 10 → w_M_isWhite_J24 post ) ∧ (¬ x0 = 10 → ((x0 = 13 → w_M_isWhite_J24 post ) ∧ (¬ x0 = 13 → ((x0 = 32 → w_M_isWhite_J24 post ) ∧ (¬ x0 = 32 → post 0))))))))
set_option maxHeartbeats 4000000 in
set_option maxRecDepth 100000 in
theorem c_M_isWhite (l : Launch)   (x0 : Int32)  (post : Int32 → Prop) (hE : w_M_isWhite x0 post) : Met l y_M_isWhite ws_M_isWhite { frames := 0, cells := 0, slots := 0, locals := 0 } (va_Pc [.int x0] (fun _ => True)) (vp_Si post) 0 0 (fun _ => False) := by
  refine Met.ofW (cc := b_M_isWhite) (maxL := 1) (ret := (some .boolean)) (by decide) rfl ?_
  intro p e s m args below meth c s₁ B hml hv
  obtain ⟨rfl, -⟩ := hv
  have hS : va_S (fun _ : Nat => False) s.heap s.heap [] := va_S.rf
  have hx := B.exec
  have hb := B.bytes
  have hr := B.returns
  have hta : ∀ w ∈ aW, w.before _ s = true := fun w h => atoms_spec (ws := ws_M_isWhite) B.pre w (List.mem_cons_of_mem _ h)
  have hown : s.vm.findClass R_M = some m.cls := findClass_of_methodNamed B.named
  have hlocks := B.notSynchronized
  have hl := lv_entry ([.int x0]) (n := 1) (Nat.le_of_ble_eq_true rfl)
  rw [lg_entry_eq]
  generalize (lg_sl ([.int x0]) ++ List.replicate (1 - (lg_sl ([.int x0])).length) Slot.unset).toArray = ls at hl ⊢
  have hl : lv_has ls 1 [(0, .int x0)] := hl
  have J24 : ∀ (ls : Array Slot) (hl : lv_has ls 1 []) (hE : w_M_isWhite_J24 post ), W p l e (headSpec ws_M_isWhite { frames := 0, cells := 0, slots := 0, locals := 0 }).room s m ([.int x0] : List Value).toArray below meth c s.heap [] 0 0 (MQ below (vp_Si post) ([.int x0] : List Value).toArray s 0 0 (fun _ => False)) (F0 m 24 ls []) := by
    intro  ls hl hE
    unfold w_M_isWhite_J24 at hE
    refine lv_iconst (v := 1) hx hb d_M_isWhite_24 (by decide) ?_
    refine lv_goto (tgt := 29) hx hb d_M_isWhite_25 (by decide) ?_
    exact W.zret (v := 1) hx hb hr rfl (fun t ht hW => ⟨_, rfl, hE, ht⟩) (fun q h => by cases h) d_M_isWhite_29
  unfold w_M_isWhite at hE
  refine lv_iload_n hx hb d_M_isWhite_0 rfl (lv_at hl 0 rfl) ?_
  refine lv_bipush (v := 9) hx hb d_M_isWhite_1 (by decide) ?_
  refine lv_icmp_eq (tgt := 24) hx hb d_M_isWhite_3 (by decide) (fun cc3 => ?_) (fun cc3 => ?_)
  · have hE := hE.1 cc3
    exact J24   _ (lv_sub hl [] rfl) hE
  · have hE := hE.2 cc3
    refine lv_iload_n hx hb d_M_isWhite_6 rfl (lv_at hl 0 rfl) ?_
    refine lv_bipush (v := 10) hx hb d_M_isWhite_7 (by decide) ?_
    refine lv_icmp_eq (tgt := 24) hx hb d_M_isWhite_9 (by decide) (fun cc9 => ?_) (fun cc9 => ?_)
    · have hE := hE.1 cc9
      exact J24   _ (lv_sub hl [] rfl) hE
    · have hE := hE.2 cc9
      refine lv_iload_n hx hb d_M_isWhite_12 rfl (lv_at hl 0 rfl) ?_
      refine lv_bipush (v := 13) hx hb d_M_isWhite_13 (by decide) ?_
      refine lv_icmp_eq (tgt := 24) hx hb d_M_isWhite_15 (by decide) (fun cc15 => ?_) (fun cc15 => ?_)
      · have hE := hE.1 cc15
        exact J24   _ (lv_sub hl [] rfl) hE
      · have hE := hE.2 cc15
        refine lv_iload_n hx hb d_M_isWhite_18 rfl (lv_at hl 0 rfl) ?_
        refine lv_bipush (v := 32) hx hb d_M_isWhite_19 (by decide) ?_
        refine lv_icmp_ne (tgt := 28) hx hb d_M_isWhite_21 (by decide) (fun cc21 => ?_) (fun cc21 => ?_)
        · have hE := hE.2 cc21
          refine lv_iconst (v := 0) hx hb d_M_isWhite_28 (by decide) ?_
          exact W.zret (v := 0) hx hb hr rfl (fun t ht hW => ⟨_, rfl, hE, ht⟩) (fun q h => by cases h) d_M_isWhite_29
        · have hE := hE.1 cc21
          exact J24   _ (lv_sub hl [] rfl) hE
theorem lM_isWhite (x : Int32) : w_M_isWhite x (fun r => r = b2i (cWh x)) := by
  unfold w_M_isWhite w_M_isWhite_J24
  repeat' (refine br_c (fun _ => ?_) (fun _ => ?_))
  all_goals simp_all [cWh, b2i]
theorem f_M_isWhite (l : Launch)   (x0 : Int32)   : Met l y_M_isWhite ws_M_isWhite { frames := 0, cells := 0, slots := 0, locals := 0 } (va_Pc [.int x0] (fun _ => True)) (vp_Si (fun r => r = b2i (cWh x0))) 0 0 (fun _ => False) := c_M_isWhite l   x0 _  (lM_isWhite  x0 )

theorem d_M_isLetter_0 : decode b_M_isLetter 0 = .ok (.iload_n 0, 1) := by decide +kernel
theorem d_M_isLetter_1 : decode b_M_isLetter 1 = .ok (.bipush 65, 2) := by decide +kernel
theorem d_M_isLetter_3 : decode b_M_isLetter 3 = .ok (.if_icmp .lt 9, 3) := by decide +kernel
theorem d_M_isLetter_6 : decode b_M_isLetter 6 = .ok (.iload_n 0, 1) := by decide +kernel
theorem d_M_isLetter_7 : decode b_M_isLetter 7 = .ok (.bipush 90, 2) := by decide +kernel
theorem d_M_isLetter_9 : decode b_M_isLetter 9 = .ok (.if_icmp .le 15, 3) := by decide +kernel
theorem d_M_isLetter_12 : decode b_M_isLetter 12 = .ok (.iload_n 0, 1) := by decide +kernel
theorem d_M_isLetter_13 : decode b_M_isLetter 13 = .ok (.bipush 97, 2) := by decide +kernel
theorem d_M_isLetter_15 : decode b_M_isLetter 15 = .ok (.if_icmp .lt 13, 3) := by decide +kernel
theorem d_M_isLetter_18 : decode b_M_isLetter 18 = .ok (.iload_n 0, 1) := by decide +kernel
theorem d_M_isLetter_19 : decode b_M_isLetter 19 = .ok (.bipush 122, 2) := by decide +kernel
theorem d_M_isLetter_21 : decode b_M_isLetter 21 = .ok (.if_icmp .gt 7, 3) := by decide +kernel
theorem d_M_isLetter_24 : decode b_M_isLetter 24 = .ok (.iconst 1, 1) := by decide +kernel
theorem d_M_isLetter_25 : decode b_M_isLetter 25 = .ok (.goto 4, 3) := by decide +kernel
theorem d_M_isLetter_28 : decode b_M_isLetter 28 = .ok (.iconst 0, 1) := by decide +kernel
theorem d_M_isLetter_29 : decode b_M_isLetter 29 = .ok (.ireturn, 1) := by decide +kernel
def w_M_isLetter_J24   (post : Int32 → Prop)  : Prop := post 1
def w_M_isLetter_J12   (post : Int32 → Prop) (v0 : Int32) : Prop := ((v0 < 97 → post 0) ∧ (¬ v0 < 97 → ((122 < v0 → post 0) ∧ (¬ 122 < v0 → w_M_isLetter_J24 post ))))
def w_M_isLetter   (x0 : Int32) (post : Int32 → Prop) : Prop := ((x0 < 65 → w_M_isLetter_J12 post x0) ∧ (¬ x0 < 65 → ((x0 ≤ 90 → w_M_isLetter_J24 post ) ∧ (¬ x0 ≤ 90 → w_M_isLetter_J12 post x0))))
set_option maxHeartbeats 4000000 in
set_option maxRecDepth 100000 in
theorem c_M_isLetter (l : Launch)   (x0 : Int32)  (post : Int32 → Prop) (hE : w_M_isLetter x0 post) : Met l y_M_isLetter ws_M_isLetter { frames := 0, cells := 0, slots := 0, locals := 0 } (va_Pc [.int x0] (fun _ => True)) (vp_Si post) 0 0 (fun _ => False) := by
  refine Met.ofW (cc := b_M_isLetter) (maxL := 1) (ret := (some .boolean)) (by decide) rfl ?_
  intro p e s m args below meth c s₁ B hml hv
  obtain ⟨rfl, -⟩ := hv
  have hS : va_S (fun _ : Nat => False) s.heap s.heap [] := va_S.rf
  have hx := B.exec
  have hb := B.bytes
  have hr := B.returns
  have hta : ∀ w ∈ aW, w.before _ s = true := fun w h => atoms_spec (ws := ws_M_isLetter) B.pre w (List.mem_cons_of_mem _ h)
  have hown : s.vm.findClass R_M = some m.cls := findClass_of_methodNamed B.named
  have hlocks := B.notSynchronized
  have hl := lv_entry ([.int x0]) (n := 1) (Nat.le_of_ble_eq_true rfl)
  rw [lg_entry_eq]
  generalize (lg_sl ([.int x0]) ++ List.replicate (1 - (lg_sl ([.int x0])).length) Slot.unset).toArray = ls at hl ⊢
  have hl : lv_has ls 1 [(0, .int x0)] := hl
  have J24 : ∀ (ls : Array Slot) (hl : lv_has ls 1 []) (hE : w_M_isLetter_J24 post ), W p l e (headSpec ws_M_isLetter { frames := 0, cells := 0, slots := 0, locals := 0 }).room s m ([.int x0] : List Value).toArray below meth c s.heap [] 0 0 (MQ below (vp_Si post) ([.int x0] : List Value).toArray s 0 0 (fun _ => False)) (F0 m 24 ls []) := by
    intro  ls hl hE
    unfold w_M_isLetter_J24 at hE
    refine lv_iconst (v := 1) hx hb d_M_isLetter_24 (by decide) ?_
    refine lv_goto (tgt := 29) hx hb d_M_isLetter_25 (by decide) ?_
    exact W.zret (v := 1) hx hb hr rfl (fun t ht hW => ⟨_, rfl, hE, ht⟩) (fun q h => by cases h) d_M_isLetter_29
  have J12 : ∀ (v0 : Int32) (ls : Array Slot) (hl : lv_has ls 1 [(0, .int v0)]) (hE : w_M_isLetter_J12 post v0), W p l e (headSpec ws_M_isLetter { frames := 0, cells := 0, slots := 0, locals := 0 }).room s m ([.int x0] : List Value).toArray below meth c s.heap [] 0 0 (MQ below (vp_Si post) ([.int x0] : List Value).toArray s 0 0 (fun _ => False)) (F0 m 12 ls []) := by
    intro  v0 ls hl hE
    unfold w_M_isLetter_J12 at hE
    refine lv_iload_n hx hb d_M_isLetter_12 rfl (lv_at hl 0 rfl) ?_
    refine lv_bipush (v := 97) hx hb d_M_isLetter_13 (by decide) ?_
    refine lv_icmp_lt (tgt := 28) hx hb d_M_isLetter_15 (by decide) (fun cc15 => ?_) (fun cc15 => ?_)
    · have hE := hE.1 cc15
      refine lv_iconst (v := 0) hx hb d_M_isLetter_28 (by decide) ?_
      exact W.zret (v := 0) hx hb hr rfl (fun t ht hW => ⟨_, rfl, hE, ht⟩) (fun q h => by cases h) d_M_isLetter_29
    · have hE := hE.2 cc15
      refine lv_iload_n hx hb d_M_isLetter_18 rfl (lv_at hl 0 rfl) ?_
      refine lv_bipush (v := 122) hx hb d_M_isLetter_19 (by decide) ?_
      refine lv_icmp_gt (tgt := 28) hx hb d_M_isLetter_21 (by decide) (fun cc21 => ?_) (fun cc21 => ?_)
      · have hE := hE.1 cc21
        refine lv_iconst (v := 0) hx hb d_M_isLetter_28 (by decide) ?_
        exact W.zret (v := 0) hx hb hr rfl (fun t ht hW => ⟨_, rfl, hE, ht⟩) (fun q h => by cases h) d_M_isLetter_29
      · have hE := hE.2 cc21
        exact J24   _ (lv_sub hl [] rfl) hE
  unfold w_M_isLetter at hE
  refine lv_iload_n hx hb d_M_isLetter_0 rfl (lv_at hl 0 rfl) ?_
  refine lv_bipush (v := 65) hx hb d_M_isLetter_1 (by decide) ?_
  refine lv_icmp_lt (tgt := 12) hx hb d_M_isLetter_3 (by decide) (fun cc3 => ?_) (fun cc3 => ?_)
  · have hE := hE.1 cc3
    exact J12  x0 _ (lv_sub hl [0] rfl) hE
  · have hE := hE.2 cc3
    refine lv_iload_n hx hb d_M_isLetter_6 rfl (lv_at hl 0 rfl) ?_
    refine lv_bipush (v := 90) hx hb d_M_isLetter_7 (by decide) ?_
    refine lv_icmp_le (tgt := 24) hx hb d_M_isLetter_9 (by decide) (fun cc9 => ?_) (fun cc9 => ?_)
    · have hE := hE.1 cc9
      exact J24   _ (lv_sub hl [] rfl) hE
    · have hE := hE.2 cc9
      exact J12  x0 _ (lv_sub hl [0] rfl) hE
def cLt (x : Int32) : Bool := (decide (65 ≤ x) && decide (x ≤ 90)) || (decide (97 ≤ x) && decide (x ≤ 122))
theorem lM_isLetter (x : Int32) : w_M_isLetter x (fun r => r = b2i (cLt x)) := by
  unfold w_M_isLetter w_M_isLetter_J12 w_M_isLetter_J24
  repeat' (refine br_c (fun _ => ?_) (fun _ => ?_))
  all_goals simp_all [cLt, b2i, Int32.not_lt, Int32.not_le]
  all_goals (simp only [Int32.le_iff_toInt_le, Int32.lt_iff_toInt_lt, Int32.reduceToInt] at *; omega)
theorem f_M_isLetter (l : Launch)   (x0 : Int32)   : Met l y_M_isLetter ws_M_isLetter { frames := 0, cells := 0, slots := 0, locals := 0 } (va_Pc [.int x0] (fun _ => True)) (vp_Si (fun r => r = b2i (cLt x0))) 0 0 (fun _ => False) := c_M_isLetter l   x0 _  (lM_isLetter  x0 )

theorem d_M_isDigit_0 : decode b_M_isDigit 0 = .ok (.iload_n 0, 1) := by decide +kernel
theorem d_M_isDigit_1 : decode b_M_isDigit 1 = .ok (.bipush 48, 2) := by decide +kernel
theorem d_M_isDigit_3 : decode b_M_isDigit 3 = .ok (.if_icmp .lt 13, 3) := by decide +kernel
theorem d_M_isDigit_6 : decode b_M_isDigit 6 = .ok (.iload_n 0, 1) := by decide +kernel
theorem d_M_isDigit_7 : decode b_M_isDigit 7 = .ok (.bipush 57, 2) := by decide +kernel
theorem d_M_isDigit_9 : decode b_M_isDigit 9 = .ok (.if_icmp .gt 7, 3) := by decide +kernel
theorem d_M_isDigit_12 : decode b_M_isDigit 12 = .ok (.iconst 1, 1) := by decide +kernel
theorem d_M_isDigit_13 : decode b_M_isDigit 13 = .ok (.goto 4, 3) := by decide +kernel
theorem d_M_isDigit_16 : decode b_M_isDigit 16 = .ok (.iconst 0, 1) := by decide +kernel
theorem d_M_isDigit_17 : decode b_M_isDigit 17 = .ok (.ireturn, 1) := by decide +kernel
def w_M_isDigit   (x0 : Int32) (post : Int32 → Prop) : Prop := ((x0 < 48 → post 0) ∧ (¬ x0 < 48 → ((57 < x0 → post 0) ∧ (¬ 57 < x0 → post 1))))
set_option maxHeartbeats 4000000 in
set_option maxRecDepth 100000 in
theorem c_M_isDigit (l : Launch)   (x0 : Int32)  (post : Int32 → Prop) (hE : w_M_isDigit x0 post) : Met l y_M_isDigit ws_M_isDigit { frames := 0, cells := 0, slots := 0, locals := 0 } (va_Pc [.int x0] (fun _ => True)) (vp_Si post) 0 0 (fun _ => False) := by
  refine Met.ofW (cc := b_M_isDigit) (maxL := 1) (ret := (some .boolean)) (by decide) rfl ?_
  intro p e s m args below meth c s₁ B hml hv
  obtain ⟨rfl, -⟩ := hv
  have hS : va_S (fun _ : Nat => False) s.heap s.heap [] := va_S.rf
  have hx := B.exec
  have hb := B.bytes
  have hr := B.returns
  have hta : ∀ w ∈ aW, w.before _ s = true := fun w h => atoms_spec (ws := ws_M_isDigit) B.pre w (List.mem_cons_of_mem _ h)
  have hown : s.vm.findClass R_M = some m.cls := findClass_of_methodNamed B.named
  have hlocks := B.notSynchronized
  have hl := lv_entry ([.int x0]) (n := 1) (Nat.le_of_ble_eq_true rfl)
  rw [lg_entry_eq]
  generalize (lg_sl ([.int x0]) ++ List.replicate (1 - (lg_sl ([.int x0])).length) Slot.unset).toArray = ls at hl ⊢
  have hl : lv_has ls 1 [(0, .int x0)] := hl
  unfold w_M_isDigit at hE
  refine lv_iload_n hx hb d_M_isDigit_0 rfl (lv_at hl 0 rfl) ?_
  refine lv_bipush (v := 48) hx hb d_M_isDigit_1 (by decide) ?_
  refine lv_icmp_lt (tgt := 16) hx hb d_M_isDigit_3 (by decide) (fun cc3 => ?_) (fun cc3 => ?_)
  · have hE := hE.1 cc3
    refine lv_iconst (v := 0) hx hb d_M_isDigit_16 (by decide) ?_
    exact W.zret (v := 0) hx hb hr rfl (fun t ht hW => ⟨_, rfl, hE, ht⟩) (fun q h => by cases h) d_M_isDigit_17
  · have hE := hE.2 cc3
    refine lv_iload_n hx hb d_M_isDigit_6 rfl (lv_at hl 0 rfl) ?_
    refine lv_bipush (v := 57) hx hb d_M_isDigit_7 (by decide) ?_
    refine lv_icmp_gt (tgt := 16) hx hb d_M_isDigit_9 (by decide) (fun cc9 => ?_) (fun cc9 => ?_)
    · have hE := hE.1 cc9
      refine lv_iconst (v := 0) hx hb d_M_isDigit_16 (by decide) ?_
      exact W.zret (v := 0) hx hb hr rfl (fun t ht hW => ⟨_, rfl, hE, ht⟩) (fun q h => by cases h) d_M_isDigit_17
    · have hE := hE.2 cc9
      refine lv_iconst (v := 1) hx hb d_M_isDigit_12 (by decide) ?_
      refine lv_goto (tgt := 17) hx hb d_M_isDigit_13 (by decide) ?_
      exact W.zret (v := 1) hx hb hr rfl (fun t ht hW => ⟨_, rfl, hE, ht⟩) (fun q h => by cases h) d_M_isDigit_17
theorem lM_isDigit (x : Int32) : w_M_isDigit x (fun r => r = b2i (cDg x)) := by
  unfold w_M_isDigit
  repeat' (refine br_c (fun _ => ?_) (fun _ => ?_))
  all_goals simp_all [cDg, b2i, Int32.not_lt, Int32.not_le]
  all_goals (simp only [Int32.le_iff_toInt_le, Int32.lt_iff_toInt_lt, Int32.reduceToInt] at *; omega)
theorem f_M_isDigit (l : Launch)   (x0 : Int32)   : Met l y_M_isDigit ws_M_isDigit { frames := 0, cells := 0, slots := 0, locals := 0 } (va_Pc [.int x0] (fun _ => True)) (vp_Si (fun r => r = b2i (cDg x0))) 0 0 (fun _ => False) := c_M_isDigit l   x0 _  (lM_isDigit  x0 )
theorem ok_M_85 : okS "PlainPagesModel" 85 y_M_isDigit b_M_isDigit 1 (some .boolean) 1 := ⟨aW_in 1070 (by decide +kernel) rfl, aW_in 1071 (by decide +kernel) rfl, aW_in 92 (by decide +kernel) rfl, cd_M_isDigit, by decide +kernel, by decide +kernel, by decide +kernel⟩
theorem d_M_hex_0 : decode b_M_hex 0 = .ok (.iload_n 0, 1) := by decide +kernel
theorem d_M_hex_1 : decode b_M_hex 1 = .ok (.invokestatic 85, 3) := by decide +kernel
theorem d_M_hex_4 : decode b_M_hex 4 = .ok (.ifCond .eq 10, 3) := by decide +kernel
theorem d_M_hex_7 : decode b_M_hex 7 = .ok (.iload_n 0, 1) := by decide +kernel
theorem d_M_hex_8 : decode b_M_hex 8 = .ok (.bipush 48, 2) := by decide +kernel
theorem d_M_hex_10 : decode b_M_hex 10 = .ok (.isub, 1) := by decide +kernel
theorem d_M_hex_11 : decode b_M_hex 11 = .ok (.goto 42, 3) := by decide +kernel
theorem d_M_hex_14 : decode b_M_hex 14 = .ok (.iload_n 0, 1) := by decide +kernel
theorem d_M_hex_15 : decode b_M_hex 15 = .ok (.bipush 97, 2) := by decide +kernel
theorem d_M_hex_17 : decode b_M_hex 17 = .ok (.if_icmp .lt 16, 3) := by decide +kernel
theorem d_M_hex_20 : decode b_M_hex 20 = .ok (.iload_n 0, 1) := by decide +kernel
theorem d_M_hex_21 : decode b_M_hex 21 = .ok (.bipush 102, 2) := by decide +kernel
theorem d_M_hex_23 : decode b_M_hex 23 = .ok (.if_icmp .gt 10, 3) := by decide +kernel
theorem d_M_hex_26 : decode b_M_hex 26 = .ok (.iload_n 0, 1) := by decide +kernel
theorem d_M_hex_27 : decode b_M_hex 27 = .ok (.bipush 87, 2) := by decide +kernel
theorem d_M_hex_29 : decode b_M_hex 29 = .ok (.isub, 1) := by decide +kernel
theorem d_M_hex_30 : decode b_M_hex 30 = .ok (.goto 23, 3) := by decide +kernel
theorem d_M_hex_33 : decode b_M_hex 33 = .ok (.iload_n 0, 1) := by decide +kernel
theorem d_M_hex_34 : decode b_M_hex 34 = .ok (.bipush 65, 2) := by decide +kernel
theorem d_M_hex_36 : decode b_M_hex 36 = .ok (.if_icmp .lt 16, 3) := by decide +kernel
theorem d_M_hex_39 : decode b_M_hex 39 = .ok (.iload_n 0, 1) := by decide +kernel
theorem d_M_hex_40 : decode b_M_hex 40 = .ok (.bipush 70, 2) := by decide +kernel
theorem d_M_hex_42 : decode b_M_hex 42 = .ok (.if_icmp .gt 10, 3) := by decide +kernel
theorem d_M_hex_45 : decode b_M_hex 45 = .ok (.iload_n 0, 1) := by decide +kernel
theorem d_M_hex_46 : decode b_M_hex 46 = .ok (.bipush 55, 2) := by decide +kernel
theorem d_M_hex_48 : decode b_M_hex 48 = .ok (.isub, 1) := by decide +kernel
theorem d_M_hex_49 : decode b_M_hex 49 = .ok (.goto 4, 3) := by decide +kernel
theorem d_M_hex_52 : decode b_M_hex 52 = .ok (.iconst (-1), 1) := by decide +kernel
theorem d_M_hex_53 : decode b_M_hex 53 = .ok (.ireturn, 1) := by decide +kernel
def w_M_hex_J33   (post : Int32 → Prop) (v0 : Int32) : Prop := ((v0 < 65 → post (-1)) ∧ (¬ v0 < 65 → ((70 < v0 → post (-1)) ∧ (¬ 70 < v0 → post (v0 - 55)))))
def w_M_hex   (x0 : Int32) (post : Int32 → Prop) : Prop := (((b2i (cDg x0)) = 0 → ((x0 < 97 → w_M_hex_J33 post x0) ∧ (¬ x0 < 97 → ((102 < x0 → w_M_hex_J33 post x0) ∧ (¬ 102 < x0 → post (x0 - 87)))))) ∧ (¬ (b2i (cDg x0)) = 0 → post (x0 - 48)))
set_option maxHeartbeats 4000000 in
set_option maxRecDepth 100000 in
theorem c_M_hex (l : Launch)   (x0 : Int32)  (post : Int32 → Prop) (hE : w_M_hex x0 post) : Met l y_M_hex ws_M_hex { frames := 1, cells := 0, slots := 0, locals := 20 } (va_Pc [.int x0] (fun _ => True)) (vp_Si post) 0 0 (fun _ => False) := by
  refine Met.ofW (cc := b_M_hex) (maxL := 1) (ret := (some .int)) (by decide) rfl ?_
  intro p e s m args below meth c s₁ B hml hv
  obtain ⟨rfl, -⟩ := hv
  have hS : va_S (fun _ : Nat => False) s.heap s.heap [] := va_S.rf
  have hx := B.exec
  have hb := B.bytes
  have hr := B.returns
  have hta : ∀ w ∈ aW, w.before _ s = true := fun w h => atoms_spec (ws := ws_M_hex) B.pre w (List.mem_cons_of_mem _ h)
  have hown : s.vm.findClass R_M = some m.cls := findClass_of_methodNamed B.named
  have hlocks := B.notSynchronized
  have hl := lv_entry ([.int x0]) (n := 1) (Nat.le_of_ble_eq_true rfl)
  rw [lg_entry_eq]
  generalize (lg_sl ([.int x0]) ++ List.replicate (1 - (lg_sl ([.int x0])).length) Slot.unset).toArray = ls at hl ⊢
  have hl : lv_has ls 1 [(0, .int x0)] := hl
  have J33 : ∀ (v0 : Int32) (ls : Array Slot) (hl : lv_has ls 1 [(0, .int v0)]) (hE : w_M_hex_J33 post v0), W p l e (headSpec ws_M_hex { frames := 1, cells := 0, slots := 0, locals := 20 }).room s m ([.int x0] : List Value).toArray below meth c s.heap [] 0 0 (MQ below (vp_Si post) ([.int x0] : List Value).toArray s 0 0 (fun _ => False)) (F0 m 33 ls []) := by
    intro  v0 ls hl hE
    unfold w_M_hex_J33 at hE
    refine lv_iload_n hx hb d_M_hex_33 rfl (lv_at hl 0 rfl) ?_
    refine lv_bipush (v := 65) hx hb d_M_hex_34 (by decide) ?_
    refine lv_icmp_lt (tgt := 52) hx hb d_M_hex_36 (by decide) (fun cc36 => ?_) (fun cc36 => ?_)
    · have hE := hE.1 cc36
      refine lv_iconst (v := -1) hx hb d_M_hex_52 (by decide) ?_
      exact W.iret (v := (-1)) hx hb hr (fun t ht hW => ⟨_, rfl, hE, ht⟩) (fun q h => by cases h) d_M_hex_53
    · have hE := hE.2 cc36
      refine lv_iload_n hx hb d_M_hex_39 rfl (lv_at hl 0 rfl) ?_
      refine lv_bipush (v := 70) hx hb d_M_hex_40 (by decide) ?_
      refine lv_icmp_gt (tgt := 52) hx hb d_M_hex_42 (by decide) (fun cc42 => ?_) (fun cc42 => ?_)
      · have hE := hE.1 cc42
        refine lv_iconst (v := -1) hx hb d_M_hex_52 (by decide) ?_
        exact W.iret (v := (-1)) hx hb hr (fun t ht hW => ⟨_, rfl, hE, ht⟩) (fun q h => by cases h) d_M_hex_53
      · have hE := hE.2 cc42
        refine lv_iload_n hx hb d_M_hex_45 rfl (lv_at hl 0 rfl) ?_
        refine lv_bipush (v := 55) hx hb d_M_hex_46 (by decide) ?_
        refine lv_isub hx hb d_M_hex_48 ?_
        refine lv_goto (tgt := 53) hx hb d_M_hex_49 (by decide) ?_
        exact W.iret (v := v0 - 55) hx hb hr (fun t ht hW => ⟨_, rfl, hE, ht⟩) (fun q h => by cases h) d_M_hex_53
  unfold w_M_hex at hE
  refine lv_iload_n hx hb d_M_hex_0 rfl (lv_at hl 0 rfl) ?_
  refine ro_S  (As := [.int x0]) (rest := []) ⟨hx, hb, hml, hown, hta⟩ (f_M_isDigit l x0) ok_M_85 ⟨Nat.le_of_ble_eq_true rfl, Nat.le_of_ble_eq_true rfl⟩ blind_true  (fun _ _ _ => trivial) rfl hl.1 rfl (Nat.le_of_ble_eq_true rfl) d_M_hex_1 ⟨Nat.zero_le _, Nat.zero_le _⟩ (fun r1 hrr => ?_)
  subst hrr
  refine lv_if_eq (tgt := 14) hx hb d_M_hex_4 (by decide) (fun cc4 => ?_) (fun cc4 => ?_)
  · have hE := hE.1 cc4
    refine lv_iload_n hx hb d_M_hex_14 rfl (lv_at hl 0 rfl) ?_
    refine lv_bipush (v := 97) hx hb d_M_hex_15 (by decide) ?_
    refine lv_icmp_lt (tgt := 33) hx hb d_M_hex_17 (by decide) (fun cc17 => ?_) (fun cc17 => ?_)
    · have hE := hE.1 cc17
      exact J33  x0 _ (lv_sub hl [0] rfl) hE
    · have hE := hE.2 cc17
      refine lv_iload_n hx hb d_M_hex_20 rfl (lv_at hl 0 rfl) ?_
      refine lv_bipush (v := 102) hx hb d_M_hex_21 (by decide) ?_
      refine lv_icmp_gt (tgt := 33) hx hb d_M_hex_23 (by decide) (fun cc23 => ?_) (fun cc23 => ?_)
      · have hE := hE.1 cc23
        exact J33  x0 _ (lv_sub hl [0] rfl) hE
      · have hE := hE.2 cc23
        refine lv_iload_n hx hb d_M_hex_26 rfl (lv_at hl 0 rfl) ?_
        refine lv_bipush (v := 87) hx hb d_M_hex_27 (by decide) ?_
        refine lv_isub hx hb d_M_hex_29 ?_
        refine lv_goto (tgt := 53) hx hb d_M_hex_30 (by decide) ?_
        exact W.iret (v := x0 - 87) hx hb hr (fun t ht hW => ⟨_, rfl, hE, ht⟩) (fun q h => by cases h) d_M_hex_53
  · have hE := hE.2 cc4
    refine lv_iload_n hx hb d_M_hex_7 rfl (lv_at hl 0 rfl) ?_
    refine lv_bipush (v := 48) hx hb d_M_hex_8 (by decide) ?_
    refine lv_isub hx hb d_M_hex_10 ?_
    refine lv_goto (tgt := 53) hx hb d_M_hex_11 (by decide) ?_
    exact W.iret (v := x0 - 48) hx hb hr (fun t ht hW => ⟨_, rfl, hE, ht⟩) (fun q h => by cases h) d_M_hex_53
def cHx (x : Int32) : Int32 := if cDg x then x - 48 else if 97 ≤ x ∧ x ≤ 102 then x - 87 else if 65 ≤ x ∧ x ≤ 70 then x - 55 else -1
theorem lM_hex (x : Int32) : w_M_hex x (fun r => r = cHx x) := by
  unfold w_M_hex w_M_hex_J33 cHx
  refine br_c (fun h1 => ?_) (fun h1 => by rw [if_pos (b2i_n0.mp h1)])
  rw [if_neg (by rw [b2i_0.mp h1]; decide)]
  have J : ((x < 65 → -1 = (if 65 ≤ x ∧ x ≤ 70 then x - 55 else -1)) ∧ (¬ x < 65 → ((70 < x → -1 = (if 65 ≤ x ∧ x ≤ 70 then x - 55 else -1)) ∧ (¬ 70 < x → x - 55 = (if 65 ≤ x ∧ x ≤ 70 then x - 55 else -1))))) :=
    br_c (fun h2 => by rw [if_neg (fun z => i_nlt.mpr z.1 h2)]) (fun h2 => br_c (fun h3 => by rw [if_neg (fun z => i_nle.mpr h3 z.2)]) (fun h3 => by rw [if_pos ⟨i_nlt.mp h2, i_nlt.mp h3⟩]))
  refine br_c (fun h2 => ?_) (fun h2 => br_c (fun h3 => ?_) (fun h3 => ?_))
  · rw [if_neg (fun z => i_nlt.mpr z.1 h2)]; exact J
  · rw [if_neg (fun z => i_nle.mpr h3 z.2)]; exact J
  · rw [if_pos ⟨i_nlt.mp h2, i_nlt.mp h3⟩]
theorem f_M_hex (l : Launch)   (x0 : Int32)   : Met l y_M_hex ws_M_hex { frames := 1, cells := 0, slots := 0, locals := 20 } (va_Pc [.int x0] (fun _ => True)) (vp_Si (fun r => r = cHx x0)) 0 0 (fun _ => False) := c_M_hex l   x0 _  (lM_hex  x0 )
theorem ok_M_89 : okS "PlainPagesModel" 89 y_M_isLetter b_M_isLetter 1 (some .boolean) 1 := ⟨aW_in 1067 (by decide +kernel) rfl, aW_in 1068 (by decide +kernel) rfl, aW_in 92 (by decide +kernel) rfl, cd_M_isLetter, by decide +kernel, by decide +kernel, by decide +kernel⟩
theorem d_M_isNameSign_0 : decode b_M_isNameSign 0 = .ok (.iload_n 0, 1) := by decide +kernel
theorem d_M_isNameSign_1 : decode b_M_isNameSign 1 = .ok (.invokestatic 89, 3) := by decide +kernel
theorem d_M_isNameSign_4 : decode b_M_isNameSign 4 = .ok (.ifCond .ne 38, 3) := by decide +kernel
theorem d_M_isNameSign_7 : decode b_M_isNameSign 7 = .ok (.iload_n 0, 1) := by decide +kernel
theorem d_M_isNameSign_8 : decode b_M_isNameSign 8 = .ok (.bipush 95, 2) := by decide +kernel
theorem d_M_isNameSign_10 : decode b_M_isNameSign 10 = .ok (.if_icmp .eq 32, 3) := by decide +kernel
theorem d_M_isNameSign_13 : decode b_M_isNameSign 13 = .ok (.iload_n 1, 1) := by decide +kernel
theorem d_M_isNameSign_14 : decode b_M_isNameSign 14 = .ok (.ifCond .ne 32, 3) := by decide +kernel
theorem d_M_isNameSign_17 : decode b_M_isNameSign 17 = .ok (.iload_n 0, 1) := by decide +kernel
theorem d_M_isNameSign_18 : decode b_M_isNameSign 18 = .ok (.invokestatic 85, 3) := by decide +kernel
theorem d_M_isNameSign_21 : decode b_M_isNameSign 21 = .ok (.ifCond .ne 21, 3) := by decide +kernel
theorem d_M_isNameSign_24 : decode b_M_isNameSign 24 = .ok (.iload_n 0, 1) := by decide +kernel
theorem d_M_isNameSign_25 : decode b_M_isNameSign 25 = .ok (.bipush 45, 2) := by decide +kernel
theorem d_M_isNameSign_27 : decode b_M_isNameSign 27 = .ok (.if_icmp .eq 15, 3) := by decide +kernel
theorem d_M_isNameSign_30 : decode b_M_isNameSign 30 = .ok (.iload_n 0, 1) := by decide +kernel
theorem d_M_isNameSign_31 : decode b_M_isNameSign 31 = .ok (.bipush 46, 2) := by decide +kernel
theorem d_M_isNameSign_33 : decode b_M_isNameSign 33 = .ok (.if_icmp .eq 9, 3) := by decide +kernel
theorem d_M_isNameSign_36 : decode b_M_isNameSign 36 = .ok (.iload_n 0, 1) := by decide +kernel
theorem d_M_isNameSign_37 : decode b_M_isNameSign 37 = .ok (.bipush 58, 2) := by decide +kernel
theorem d_M_isNameSign_39 : decode b_M_isNameSign 39 = .ok (.if_icmp .ne 7, 3) := by decide +kernel
theorem d_M_isNameSign_42 : decode b_M_isNameSign 42 = .ok (.iconst 1, 1) := by decide +kernel
theorem d_M_isNameSign_43 : decode b_M_isNameSign 43 = .ok (.goto 4, 3) := by decide +kernel
theorem d_M_isNameSign_46 : decode b_M_isNameSign 46 = .ok (.iconst 0, 1) := by decide +kernel
theorem d_M_isNameSign_47 : decode b_M_isNameSign 47 = .ok (.ireturn, 1) := by decide +kernel
def w_M_isNameSign_J42   (post : Int32 → Prop)  : Prop := post 1
def w_M_isNameSign   (x0 : Int32) (x1 : Int32) (post : Int32 → Prop) : Prop := (((b2i (cLt x0)) = 0 → ((x0 = 95 → w_M_isNameSign_J42 post ) ∧ (¬ x0 = 95 → ((x1 = 0 → (((b2i (cDg x0)) = 0 → ((x0 = 45 → w_M_isNameSign_J42 post ) ∧ (¬ x0 = 45 → ((x0 = 46 → w_M_isNameSign_J42 post ) ∧ (¬ x0 = 46 → ((x0 = 58 → w_M_isNameSign_J42 post ) ∧ (¬ x0 = 58 → post 0))))))) ∧ (¬ (b2i (cDg x0)) = 0 → w_M_isNameSign_J42 post ))) ∧ (¬ x1 = 0 → post 0))))) ∧ (¬ (b2i (cLt x0)) = 0 → w_M_isNameSign_J42 post ))
set_option maxHeartbeats 4000000 in
set_option maxRecDepth 100000 in
theorem c_M_isNameSign (l : Launch)   (x0 : Int32) (x1 : Int32)  (post : Int32 → Prop) (hE : w_M_isNameSign x0 x1 post) : Met l y_M_isNameSign ws_M_isNameSign { frames := 1, cells := 0, slots := 0, locals := 20 } (va_Pc [.int x0, .int x1] (fun _ => True)) (vp_Si post) 0 0 (fun _ => False) := by
  refine Met.ofW (cc := b_M_isNameSign) (maxL := 2) (ret := (some .boolean)) (by decide) rfl ?_
  intro p e s m args below meth c s₁ B hml hv
  obtain ⟨rfl, -⟩ := hv
  have hS : va_S (fun _ : Nat => False) s.heap s.heap [] := va_S.rf
  have hx := B.exec
  have hb := B.bytes
  have hr := B.returns
  have hta : ∀ w ∈ aW, w.before _ s = true := fun w h => atoms_spec (ws := ws_M_isNameSign) B.pre w (List.mem_cons_of_mem _ h)
  have hown : s.vm.findClass R_M = some m.cls := findClass_of_methodNamed B.named
  have hlocks := B.notSynchronized
  have hl := lv_entry ([.int x0, .int x1]) (n := 2) (Nat.le_of_ble_eq_true rfl)
  rw [lg_entry_eq]
  generalize (lg_sl ([.int x0, .int x1]) ++ List.replicate (2 - (lg_sl ([.int x0, .int x1])).length) Slot.unset).toArray = ls at hl ⊢
  have hl : lv_has ls 2 [(0, .int x0), (1, .int x1)] := hl
  have J42 : ∀ (ls : Array Slot) (hl : lv_has ls 2 []) (hE : w_M_isNameSign_J42 post ), W p l e (headSpec ws_M_isNameSign { frames := 1, cells := 0, slots := 0, locals := 20 }).room s m ([.int x0, .int x1] : List Value).toArray below meth c s.heap [] 0 0 (MQ below (vp_Si post) ([.int x0, .int x1] : List Value).toArray s 0 0 (fun _ => False)) (F0 m 42 ls []) := by
    intro  ls hl hE
    unfold w_M_isNameSign_J42 at hE
    refine lv_iconst (v := 1) hx hb d_M_isNameSign_42 (by decide) ?_
    refine lv_goto (tgt := 47) hx hb d_M_isNameSign_43 (by decide) ?_
    exact W.zret (v := 1) hx hb hr rfl (fun t ht hW => ⟨_, rfl, hE, ht⟩) (fun q h => by cases h) d_M_isNameSign_47
  unfold w_M_isNameSign at hE
  refine lv_iload_n hx hb d_M_isNameSign_0 rfl (lv_at hl 0 rfl) ?_
  refine ro_S  (As := [.int x0]) (rest := []) ⟨hx, hb, hml, hown, hta⟩ (f_M_isLetter l x0) ok_M_89 ⟨Nat.le_of_ble_eq_true rfl, Nat.le_of_ble_eq_true rfl⟩ blind_true  (fun _ _ _ => trivial) rfl hl.1 rfl (Nat.le_of_ble_eq_true rfl) d_M_isNameSign_1 ⟨Nat.zero_le _, Nat.zero_le _⟩ (fun r1 hrr => ?_)
  subst hrr
  refine lv_if_ne (tgt := 42) hx hb d_M_isNameSign_4 (by decide) (fun cc4 => ?_) (fun cc4 => ?_)
  · have hE := hE.2 cc4
    exact J42   _ (lv_sub hl [] rfl) hE
  · have hE := hE.1 cc4
    refine lv_iload_n hx hb d_M_isNameSign_7 rfl (lv_at hl 0 rfl) ?_
    refine lv_bipush (v := 95) hx hb d_M_isNameSign_8 (by decide) ?_
    refine lv_icmp_eq (tgt := 42) hx hb d_M_isNameSign_10 (by decide) (fun cc10 => ?_) (fun cc10 => ?_)
    · have hE := hE.1 cc10
      exact J42   _ (lv_sub hl [] rfl) hE
    · have hE := hE.2 cc10
      refine lv_iload_n hx hb d_M_isNameSign_13 rfl (lv_at hl 1 rfl) ?_
      refine lv_if_ne (tgt := 46) hx hb d_M_isNameSign_14 (by decide) (fun cc14 => ?_) (fun cc14 => ?_)
      · have hE := hE.2 cc14
        refine lv_iconst (v := 0) hx hb d_M_isNameSign_46 (by decide) ?_
        exact W.zret (v := 0) hx hb hr rfl (fun t ht hW => ⟨_, rfl, hE, ht⟩) (fun q h => by cases h) d_M_isNameSign_47
      · have hE := hE.1 cc14
        refine lv_iload_n hx hb d_M_isNameSign_17 rfl (lv_at hl 0 rfl) ?_
        refine ro_S  (As := [.int x0]) (rest := []) ⟨hx, hb, hml, hown, hta⟩ (f_M_isDigit l x0) ok_M_85 ⟨Nat.le_of_ble_eq_true rfl, Nat.le_of_ble_eq_true rfl⟩ blind_true  (fun _ _ _ => trivial) rfl hl.1 rfl (Nat.le_of_ble_eq_true rfl) d_M_isNameSign_18 ⟨Nat.zero_le _, Nat.zero_le _⟩ (fun r18 hrr => ?_)
        subst hrr
        refine lv_if_ne (tgt := 42) hx hb d_M_isNameSign_21 (by decide) (fun cc21 => ?_) (fun cc21 => ?_)
        · have hE := hE.2 cc21
          exact J42   _ (lv_sub hl [] rfl) hE
        · have hE := hE.1 cc21
          refine lv_iload_n hx hb d_M_isNameSign_24 rfl (lv_at hl 0 rfl) ?_
          refine lv_bipush (v := 45) hx hb d_M_isNameSign_25 (by decide) ?_
          refine lv_icmp_eq (tgt := 42) hx hb d_M_isNameSign_27 (by decide) (fun cc27 => ?_) (fun cc27 => ?_)
          · have hE := hE.1 cc27
            exact J42   _ (lv_sub hl [] rfl) hE
          · have hE := hE.2 cc27
            refine lv_iload_n hx hb d_M_isNameSign_30 rfl (lv_at hl 0 rfl) ?_
            refine lv_bipush (v := 46) hx hb d_M_isNameSign_31 (by decide) ?_
            refine lv_icmp_eq (tgt := 42) hx hb d_M_isNameSign_33 (by decide) (fun cc33 => ?_) (fun cc33 => ?_)
            · have hE := hE.1 cc33
              exact J42   _ (lv_sub hl [] rfl) hE
            · have hE := hE.2 cc33
              refine lv_iload_n hx hb d_M_isNameSign_36 rfl (lv_at hl 0 rfl) ?_
              refine lv_bipush (v := 58) hx hb d_M_isNameSign_37 (by decide) ?_
              refine lv_icmp_ne (tgt := 46) hx hb d_M_isNameSign_39 (by decide) (fun cc39 => ?_) (fun cc39 => ?_)
              · have hE := hE.2 cc39
                refine lv_iconst (v := 0) hx hb d_M_isNameSign_46 (by decide) ?_
                exact W.zret (v := 0) hx hb hr rfl (fun t ht hW => ⟨_, rfl, hE, ht⟩) (fun q h => by cases h) d_M_isNameSign_47
              · have hE := hE.1 cc39
                exact J42   _ (lv_sub hl [] rfl) hE
def cNs (x first : Int32) : Bool := cLt x || decide (x = 95) || (decide (first = 0) && (cDg x || decide (x = 45) || decide (x = 46) || decide (x = 58)))
theorem lM_isNameSign (x f : Int32) : w_M_isNameSign x f (fun r => r = b2i (cNs x f)) := by
  unfold w_M_isNameSign w_M_isNameSign_J42
  simp only [b2i_0]
  repeat' (refine br_c (fun _ => ?_) (fun _ => ?_))
  all_goals simp_all [cNs, b2i]
theorem f_M_isNameSign (l : Launch)   (x0 : Int32) (x1 : Int32)   : Met l y_M_isNameSign ws_M_isNameSign { frames := 1, cells := 0, slots := 0, locals := 20 } (va_Pc [.int x0, .int x1] (fun _ => True)) (vp_Si (fun r => r = b2i (cNs x0 x1))) 0 0 (fun _ => False) := c_M_isNameSign l   x0 x1 _  (lM_isNameSign  x0 x1 )

theorem d_M_isBlockKind_0 : decode b_M_isBlockKind 0 = .ok (.iload_n 0, 1) := by decide +kernel
theorem d_M_isBlockKind_1 : decode b_M_isBlockKind 1 = .ok (.bipush 9, 2) := by decide +kernel
theorem d_M_isBlockKind_3 : decode b_M_isBlockKind 3 = .ok (.if_icmp .eq 44, 3) := by decide +kernel
theorem d_M_isBlockKind_6 : decode b_M_isBlockKind 6 = .ok (.iload_n 0, 1) := by decide +kernel
theorem d_M_isBlockKind_7 : decode b_M_isBlockKind 7 = .ok (.bipush 10, 2) := by decide +kernel
theorem d_M_isBlockKind_9 : decode b_M_isBlockKind 9 = .ok (.if_icmp .lt 9, 3) := by decide +kernel
theorem d_M_isBlockKind_12 : decode b_M_isBlockKind 12 = .ok (.iload_n 0, 1) := by decide +kernel
theorem d_M_isBlockKind_13 : decode b_M_isBlockKind 13 = .ok (.bipush 15, 2) := by decide +kernel
theorem d_M_isBlockKind_15 : decode b_M_isBlockKind 15 = .ok (.if_icmp .le 32, 3) := by decide +kernel
theorem d_M_isBlockKind_18 : decode b_M_isBlockKind 18 = .ok (.iload_n 0, 1) := by decide +kernel
theorem d_M_isBlockKind_19 : decode b_M_isBlockKind 19 = .ok (.bipush 21, 2) := by decide +kernel
theorem d_M_isBlockKind_21 : decode b_M_isBlockKind 21 = .ok (.if_icmp .eq 26, 3) := by decide +kernel
theorem d_M_isBlockKind_24 : decode b_M_isBlockKind 24 = .ok (.iload_n 0, 1) := by decide +kernel
theorem d_M_isBlockKind_25 : decode b_M_isBlockKind 25 = .ok (.bipush 19, 2) := by decide +kernel
theorem d_M_isBlockKind_27 : decode b_M_isBlockKind 27 = .ok (.if_icmp .eq 20, 3) := by decide +kernel
theorem d_M_isBlockKind_30 : decode b_M_isBlockKind 30 = .ok (.iload_n 0, 1) := by decide +kernel
theorem d_M_isBlockKind_31 : decode b_M_isBlockKind 31 = .ok (.iconst 5, 1) := by decide +kernel
theorem d_M_isBlockKind_32 : decode b_M_isBlockKind 32 = .ok (.if_icmp .eq 15, 3) := by decide +kernel
theorem d_M_isBlockKind_35 : decode b_M_isBlockKind 35 = .ok (.iload_n 0, 1) := by decide +kernel
theorem d_M_isBlockKind_36 : decode b_M_isBlockKind 36 = .ok (.bipush 6, 2) := by decide +kernel
theorem d_M_isBlockKind_38 : decode b_M_isBlockKind 38 = .ok (.if_icmp .eq 9, 3) := by decide +kernel
theorem d_M_isBlockKind_41 : decode b_M_isBlockKind 41 = .ok (.iload_n 0, 1) := by decide +kernel
theorem d_M_isBlockKind_42 : decode b_M_isBlockKind 42 = .ok (.bipush 7, 2) := by decide +kernel
theorem d_M_isBlockKind_44 : decode b_M_isBlockKind 44 = .ok (.if_icmp .ne 7, 3) := by decide +kernel
theorem d_M_isBlockKind_47 : decode b_M_isBlockKind 47 = .ok (.iconst 1, 1) := by decide +kernel
theorem d_M_isBlockKind_48 : decode b_M_isBlockKind 48 = .ok (.goto 4, 3) := by decide +kernel
theorem d_M_isBlockKind_51 : decode b_M_isBlockKind 51 = .ok (.iconst 0, 1) := by decide +kernel
theorem d_M_isBlockKind_52 : decode b_M_isBlockKind 52 = .ok (.ireturn, 1) := by decide +kernel
def w_M_isBlockKind_J47   (post : Int32 → Prop)  : Prop := post 1
def w_M_isBlockKind_J18   (post : Int32 → Prop) (v0 : Int32) : Prop := ((v0 = 21 → w_M_isBlockKind_J47 post ) ∧ (¬ v0 = 21 → ((v0 = 19 → w_M_isBlockKind_J47 post ) ∧ (¬ v0 = 19 → ((v0 = 5 → w_M_isBlockKind_J47 post ) ∧ (¬ v0 = 5 → ((v0 = 6 → w_M_isBlockKind_J47 post ) ∧ (¬ v0 = 6 → ((v0 = 7 → w_M_isBlockKind_J47 post ) ∧ (¬ v0 = 7 → post 0))))))))))
def w_M_isBlockKind   (x0 : Int32) (post : Int32 → Prop) : Prop := ((x0 = 9 → w_M_isBlockKind_J47 post ) ∧ (¬ x0 = 9 → ((x0 < 10 → w_M_isBlockKind_J18 post x0) ∧ (¬ x0 < 10 → ((x0 ≤ 15 → w_M_isBlockKind_J47 post ) ∧ (¬ x0 ≤ 15 → w_M_isBlockKind_J18 post x0))))))
set_option maxHeartbeats 4000000 in
set_option maxRecDepth 100000 in
theorem c_M_isBlockKind (l : Launch)   (x0 : Int32)  (post : Int32 → Prop) (hE : w_M_isBlockKind x0 post) : Met l y_M_isBlockKind ws_M_isBlockKind { frames := 0, cells := 0, slots := 0, locals := 0 } (va_Pc [.int x0] (fun _ => True)) (vp_Si post) 0 0 (fun _ => False) := by
  refine Met.ofW (cc := b_M_isBlockKind) (maxL := 1) (ret := (some .boolean)) (by decide) rfl ?_
  intro p e s m args below meth c s₁ B hml hv
  obtain ⟨rfl, -⟩ := hv
  have hS : va_S (fun _ : Nat => False) s.heap s.heap [] := va_S.rf
  have hx := B.exec
  have hb := B.bytes
  have hr := B.returns
  have hta : ∀ w ∈ aW, w.before _ s = true := fun w h => atoms_spec (ws := ws_M_isBlockKind) B.pre w (List.mem_cons_of_mem _ h)
  have hown : s.vm.findClass R_M = some m.cls := findClass_of_methodNamed B.named
  have hlocks := B.notSynchronized
  have hl := lv_entry ([.int x0]) (n := 1) (Nat.le_of_ble_eq_true rfl)
  rw [lg_entry_eq]
  generalize (lg_sl ([.int x0]) ++ List.replicate (1 - (lg_sl ([.int x0])).length) Slot.unset).toArray = ls at hl ⊢
  have hl : lv_has ls 1 [(0, .int x0)] := hl
  have J47 : ∀ (ls : Array Slot) (hl : lv_has ls 1 []) (hE : w_M_isBlockKind_J47 post ), W p l e (headSpec ws_M_isBlockKind { frames := 0, cells := 0, slots := 0, locals := 0 }).room s m ([.int x0] : List Value).toArray below meth c s.heap [] 0 0 (MQ below (vp_Si post) ([.int x0] : List Value).toArray s 0 0 (fun _ => False)) (F0 m 47 ls []) := by
    intro  ls hl hE
    unfold w_M_isBlockKind_J47 at hE
    refine lv_iconst (v := 1) hx hb d_M_isBlockKind_47 (by decide) ?_
    refine lv_goto (tgt := 52) hx hb d_M_isBlockKind_48 (by decide) ?_
    exact W.zret (v := 1) hx hb hr rfl (fun t ht hW => ⟨_, rfl, hE, ht⟩) (fun q h => by cases h) d_M_isBlockKind_52
  have J18 : ∀ (v0 : Int32) (ls : Array Slot) (hl : lv_has ls 1 [(0, .int v0)]) (hE : w_M_isBlockKind_J18 post v0), W p l e (headSpec ws_M_isBlockKind { frames := 0, cells := 0, slots := 0, locals := 0 }).room s m ([.int x0] : List Value).toArray below meth c s.heap [] 0 0 (MQ below (vp_Si post) ([.int x0] : List Value).toArray s 0 0 (fun _ => False)) (F0 m 18 ls []) := by
    intro  v0 ls hl hE
    unfold w_M_isBlockKind_J18 at hE
    refine lv_iload_n hx hb d_M_isBlockKind_18 rfl (lv_at hl 0 rfl) ?_
    refine lv_bipush (v := 21) hx hb d_M_isBlockKind_19 (by decide) ?_
    refine lv_icmp_eq (tgt := 47) hx hb d_M_isBlockKind_21 (by decide) (fun cc21 => ?_) (fun cc21 => ?_)
    · have hE := hE.1 cc21
      exact J47   _ (lv_sub hl [] rfl) hE
    · have hE := hE.2 cc21
      refine lv_iload_n hx hb d_M_isBlockKind_24 rfl (lv_at hl 0 rfl) ?_
      refine lv_bipush (v := 19) hx hb d_M_isBlockKind_25 (by decide) ?_
      refine lv_icmp_eq (tgt := 47) hx hb d_M_isBlockKind_27 (by decide) (fun cc27 => ?_) (fun cc27 => ?_)
      · have hE := hE.1 cc27
        exact J47   _ (lv_sub hl [] rfl) hE
      · have hE := hE.2 cc27
        refine lv_iload_n hx hb d_M_isBlockKind_30 rfl (lv_at hl 0 rfl) ?_
        refine lv_iconst (v := 5) hx hb d_M_isBlockKind_31 (by decide) ?_
        refine lv_icmp_eq (tgt := 47) hx hb d_M_isBlockKind_32 (by decide) (fun cc32 => ?_) (fun cc32 => ?_)
        · have hE := hE.1 cc32
          exact J47   _ (lv_sub hl [] rfl) hE
        · have hE := hE.2 cc32
          refine lv_iload_n hx hb d_M_isBlockKind_35 rfl (lv_at hl 0 rfl) ?_
          refine lv_bipush (v := 6) hx hb d_M_isBlockKind_36 (by decide) ?_
          refine lv_icmp_eq (tgt := 47) hx hb d_M_isBlockKind_38 (by decide) (fun cc38 => ?_) (fun cc38 => ?_)
          · have hE := hE.1 cc38
            exact J47   _ (lv_sub hl [] rfl) hE
          · have hE := hE.2 cc38
            refine lv_iload_n hx hb d_M_isBlockKind_41 rfl (lv_at hl 0 rfl) ?_
            refine lv_bipush (v := 7) hx hb d_M_isBlockKind_42 (by decide) ?_
            refine lv_icmp_ne (tgt := 51) hx hb d_M_isBlockKind_44 (by decide) (fun cc44 => ?_) (fun cc44 => ?_)
            · have hE := hE.2 cc44
              refine lv_iconst (v := 0) hx hb d_M_isBlockKind_51 (by decide) ?_
              exact W.zret (v := 0) hx hb hr rfl (fun t ht hW => ⟨_, rfl, hE, ht⟩) (fun q h => by cases h) d_M_isBlockKind_52
            · have hE := hE.1 cc44
              exact J47   _ (lv_sub hl [] rfl) hE
  unfold w_M_isBlockKind at hE
  refine lv_iload_n hx hb d_M_isBlockKind_0 rfl (lv_at hl 0 rfl) ?_
  refine lv_bipush (v := 9) hx hb d_M_isBlockKind_1 (by decide) ?_
  refine lv_icmp_eq (tgt := 47) hx hb d_M_isBlockKind_3 (by decide) (fun cc3 => ?_) (fun cc3 => ?_)
  · have hE := hE.1 cc3
    exact J47   _ (lv_sub hl [] rfl) hE
  · have hE := hE.2 cc3
    refine lv_iload_n hx hb d_M_isBlockKind_6 rfl (lv_at hl 0 rfl) ?_
    refine lv_bipush (v := 10) hx hb d_M_isBlockKind_7 (by decide) ?_
    refine lv_icmp_lt (tgt := 18) hx hb d_M_isBlockKind_9 (by decide) (fun cc9 => ?_) (fun cc9 => ?_)
    · have hE := hE.1 cc9
      exact J18  x0 _ (lv_sub hl [0] rfl) hE
    · have hE := hE.2 cc9
      refine lv_iload_n hx hb d_M_isBlockKind_12 rfl (lv_at hl 0 rfl) ?_
      refine lv_bipush (v := 15) hx hb d_M_isBlockKind_13 (by decide) ?_
      refine lv_icmp_le (tgt := 47) hx hb d_M_isBlockKind_15 (by decide) (fun cc15 => ?_) (fun cc15 => ?_)
      · have hE := hE.1 cc15
        exact J47   _ (lv_sub hl [] rfl) hE
      · have hE := hE.2 cc15
        exact J18  x0 _ (lv_sub hl [0] rfl) hE

theorem d_M_isInlineKind_0 : decode b_M_isInlineKind 0 = .ok (.iload_n 0, 1) := by decide +kernel
theorem d_M_isInlineKind_1 : decode b_M_isInlineKind 1 = .ok (.bipush 16, 2) := by decide +kernel
theorem d_M_isInlineKind_3 : decode b_M_isInlineKind 3 = .ok (.if_icmp .eq 33, 3) := by decide +kernel
theorem d_M_isInlineKind_6 : decode b_M_isInlineKind 6 = .ok (.iload_n 0, 1) := by decide +kernel
theorem d_M_isInlineKind_7 : decode b_M_isInlineKind 7 = .ok (.bipush 17, 2) := by decide +kernel
theorem d_M_isInlineKind_9 : decode b_M_isInlineKind 9 = .ok (.if_icmp .eq 27, 3) := by decide +kernel
theorem d_M_isInlineKind_12 : decode b_M_isInlineKind 12 = .ok (.iload_n 0, 1) := by decide +kernel
theorem d_M_isInlineKind_13 : decode b_M_isInlineKind 13 = .ok (.bipush 20, 2) := by decide +kernel
theorem d_M_isInlineKind_15 : decode b_M_isInlineKind 15 = .ok (.if_icmp .eq 21, 3) := by decide +kernel
theorem d_M_isInlineKind_18 : decode b_M_isInlineKind 18 = .ok (.iload_n 0, 1) := by decide +kernel
theorem d_M_isInlineKind_19 : decode b_M_isInlineKind 19 = .ok (.bipush 18, 2) := by decide +kernel
theorem d_M_isInlineKind_21 : decode b_M_isInlineKind 21 = .ok (.if_icmp .eq 15, 3) := by decide +kernel
theorem d_M_isInlineKind_24 : decode b_M_isInlineKind 24 = .ok (.iload_n 0, 1) := by decide +kernel
theorem d_M_isInlineKind_25 : decode b_M_isInlineKind 25 = .ok (.bipush 22, 2) := by decide +kernel
theorem d_M_isInlineKind_27 : decode b_M_isInlineKind 27 = .ok (.if_icmp .eq 9, 3) := by decide +kernel
theorem d_M_isInlineKind_30 : decode b_M_isInlineKind 30 = .ok (.iload_n 0, 1) := by decide +kernel
theorem d_M_isInlineKind_31 : decode b_M_isInlineKind 31 = .ok (.bipush 23, 2) := by decide +kernel
theorem d_M_isInlineKind_33 : decode b_M_isInlineKind 33 = .ok (.if_icmp .ne 7, 3) := by decide +kernel
theorem d_M_isInlineKind_36 : decode b_M_isInlineKind 36 = .ok (.iconst 1, 1) := by decide +kernel
theorem d_M_isInlineKind_37 : decode b_M_isInlineKind 37 = .ok (.goto 4, 3) := by decide +kernel
theorem d_M_isInlineKind_40 : decode b_M_isInlineKind 40 = .ok (.iconst 0, 1) := by decide +kernel
theorem d_M_isInlineKind_41 : decode b_M_isInlineKind 41 = .ok (.ireturn, 1) := by decide +kernel
def w_M_isInlineKind_J36   (post : Int32 → Prop)  : Prop := post 1
def w_M_isInlineKind   (x0 : Int32) (post : Int32 → Prop) : Prop := ((x0 = 16 → w_M_isInlineKind_J36 post ) ∧ (¬ x0 = 16 → ((x0 = 17 → w_M_isInlineKind_J36 post ) ∧ (¬ x0 = 17 → ((x0 = 20 → w_M_isInlineKind_J36 post ) ∧ (¬ x0 = 20 → ((x0 = 18 → w_M_isInlineKind_J36 post ) ∧ (¬ x0 = 18 → ((x0 = 22 → w_M_isInlineKind_J36 post ) ∧ (¬ x0 = 22 → ((x0 = 23 → w_M_isInlineKind_J36 post ) ∧ (¬ x0 = 23 → post 0))))))))))))
set_option maxHeartbeats 4000000 in
set_option maxRecDepth 100000 in
theorem c_M_isInlineKind (l : Launch)   (x0 : Int32)  (post : Int32 → Prop) (hE : w_M_isInlineKind x0 post) : Met l y_M_isInlineKind ws_M_isInlineKind { frames := 0, cells := 0, slots := 0, locals := 0 } (va_Pc [.int x0] (fun _ => True)) (vp_Si post) 0 0 (fun _ => False) := by
  refine Met.ofW (cc := b_M_isInlineKind) (maxL := 1) (ret := (some .boolean)) (by decide) rfl ?_
  intro p e s m args below meth c s₁ B hml hv
  obtain ⟨rfl, -⟩ := hv
  have hS : va_S (fun _ : Nat => False) s.heap s.heap [] := va_S.rf
  have hx := B.exec
  have hb := B.bytes
  have hr := B.returns
  have hta : ∀ w ∈ aW, w.before _ s = true := fun w h => atoms_spec (ws := ws_M_isInlineKind) B.pre w (List.mem_cons_of_mem _ h)
  have hown : s.vm.findClass R_M = some m.cls := findClass_of_methodNamed B.named
  have hlocks := B.notSynchronized
  have hl := lv_entry ([.int x0]) (n := 1) (Nat.le_of_ble_eq_true rfl)
  rw [lg_entry_eq]
  generalize (lg_sl ([.int x0]) ++ List.replicate (1 - (lg_sl ([.int x0])).length) Slot.unset).toArray = ls at hl ⊢
  have hl : lv_has ls 1 [(0, .int x0)] := hl
  have J36 : ∀ (ls : Array Slot) (hl : lv_has ls 1 []) (hE : w_M_isInlineKind_J36 post ), W p l e (headSpec ws_M_isInlineKind { frames := 0, cells := 0, slots := 0, locals := 0 }).room s m ([.int x0] : List Value).toArray below meth c s.heap [] 0 0 (MQ below (vp_Si post) ([.int x0] : List Value).toArray s 0 0 (fun _ => False)) (F0 m 36 ls []) := by
    intro  ls hl hE
    unfold w_M_isInlineKind_J36 at hE
    refine lv_iconst (v := 1) hx hb d_M_isInlineKind_36 (by decide) ?_
    refine lv_goto (tgt := 41) hx hb d_M_isInlineKind_37 (by decide) ?_
    exact W.zret (v := 1) hx hb hr rfl (fun t ht hW => ⟨_, rfl, hE, ht⟩) (fun q h => by cases h) d_M_isInlineKind_41
  unfold w_M_isInlineKind at hE
  refine lv_iload_n hx hb d_M_isInlineKind_0 rfl (lv_at hl 0 rfl) ?_
  refine lv_bipush (v := 16) hx hb d_M_isInlineKind_1 (by decide) ?_
  refine lv_icmp_eq (tgt := 36) hx hb d_M_isInlineKind_3 (by decide) (fun cc3 => ?_) (fun cc3 => ?_)
  · have hE := hE.1 cc3
    exact J36   _ (lv_sub hl [] rfl) hE
  · have hE := hE.2 cc3
    refine lv_iload_n hx hb d_M_isInlineKind_6 rfl (lv_at hl 0 rfl) ?_
    refine lv_bipush (v := 17) hx hb d_M_isInlineKind_7 (by decide) ?_
    refine lv_icmp_eq (tgt := 36) hx hb d_M_isInlineKind_9 (by decide) (fun cc9 => ?_) (fun cc9 => ?_)
    · have hE := hE.1 cc9
      exact J36   _ (lv_sub hl [] rfl) hE
    · have hE := hE.2 cc9
      refine lv_iload_n hx hb d_M_isInlineKind_12 rfl (lv_at hl 0 rfl) ?_
      refine lv_bipush (v := 20) hx hb d_M_isInlineKind_13 (by decide) ?_
      refine lv_icmp_eq (tgt := 36) hx hb d_M_isInlineKind_15 (by decide) (fun cc15 => ?_) (fun cc15 => ?_)
      · have hE := hE.1 cc15
        exact J36   _ (lv_sub hl [] rfl) hE
      · have hE := hE.2 cc15
        refine lv_iload_n hx hb d_M_isInlineKind_18 rfl (lv_at hl 0 rfl) ?_
        refine lv_bipush (v := 18) hx hb d_M_isInlineKind_19 (by decide) ?_
        refine lv_icmp_eq (tgt := 36) hx hb d_M_isInlineKind_21 (by decide) (fun cc21 => ?_) (fun cc21 => ?_)
        · have hE := hE.1 cc21
          exact J36   _ (lv_sub hl [] rfl) hE
        · have hE := hE.2 cc21
          refine lv_iload_n hx hb d_M_isInlineKind_24 rfl (lv_at hl 0 rfl) ?_
          refine lv_bipush (v := 22) hx hb d_M_isInlineKind_25 (by decide) ?_
          refine lv_icmp_eq (tgt := 36) hx hb d_M_isInlineKind_27 (by decide) (fun cc27 => ?_) (fun cc27 => ?_)
          · have hE := hE.1 cc27
            exact J36   _ (lv_sub hl [] rfl) hE
          · have hE := hE.2 cc27
            refine lv_iload_n hx hb d_M_isInlineKind_30 rfl (lv_at hl 0 rfl) ?_
            refine lv_bipush (v := 23) hx hb d_M_isInlineKind_31 (by decide) ?_
            refine lv_icmp_ne (tgt := 40) hx hb d_M_isInlineKind_33 (by decide) (fun cc33 => ?_) (fun cc33 => ?_)
            · have hE := hE.2 cc33
              refine lv_iconst (v := 0) hx hb d_M_isInlineKind_40 (by decide) ?_
              exact W.zret (v := 0) hx hb hr rfl (fun t ht hW => ⟨_, rfl, hE, ht⟩) (fun q h => by cases h) d_M_isInlineKind_41
            · have hE := hE.1 cc33
              exact J36   _ (lv_sub hl [] rfl) hE
theorem ok_M_266 : okS "PlainPagesModel" 266 y_M_isInlineKind b_M_isInlineKind 1 (some .boolean) 1 := ⟨aW_in 1183 (by decide +kernel) rfl, aW_in 1184 (by decide +kernel) rfl, aW_in 92 (by decide +kernel) rfl, cd_M_isInlineKind, by decide +kernel, by decide +kernel, by decide +kernel⟩
theorem ok_M_263 : okS "PlainPagesModel" 263 y_M_isBlockKind b_M_isBlockKind 1 (some .boolean) 1 := ⟨aW_in 1180 (by decide +kernel) rfl, aW_in 1181 (by decide +kernel) rfl, aW_in 92 (by decide +kernel) rfl, cd_M_isBlockKind, by decide +kernel, by decide +kernel, by decide +kernel⟩
theorem d_M_mayHold_0 : decode b_M_mayHold 0 = .ok (.iload_n 0, 1) := by decide +kernel
theorem d_M_mayHold_1 : decode b_M_mayHold 1 = .ok (.tableswitch 191 (-1) 19 #[99, 191, 110, 126, 191, 137, 137, 142, 142, 154, 186, 191, 191, 191, 191, 191, 191, 186, 186, 186, 174], 99) := by decide +kernel
theorem d_M_mayHold_100 : decode b_M_mayHold 100 = .ok (.iload_n 1, 1) := by decide +kernel
theorem d_M_mayHold_101 : decode b_M_mayHold 101 = .ok (.iconst 1, 1) := by decide +kernel
theorem d_M_mayHold_102 : decode b_M_mayHold 102 = .ok (.if_icmp .ne 7, 3) := by decide +kernel
theorem d_M_mayHold_105 : decode b_M_mayHold 105 = .ok (.iconst 1, 1) := by decide +kernel
theorem d_M_mayHold_106 : decode b_M_mayHold 106 = .ok (.goto 4, 3) := by decide +kernel
theorem d_M_mayHold_109 : decode b_M_mayHold 109 = .ok (.iconst 0, 1) := by decide +kernel
theorem d_M_mayHold_110 : decode b_M_mayHold 110 = .ok (.ireturn, 1) := by decide +kernel
theorem d_M_mayHold_111 : decode b_M_mayHold 111 = .ok (.iload_n 1, 1) := by decide +kernel
theorem d_M_mayHold_112 : decode b_M_mayHold 112 = .ok (.iconst 2, 1) := by decide +kernel
theorem d_M_mayHold_113 : decode b_M_mayHold 113 = .ok (.if_icmp .eq 8, 3) := by decide +kernel
theorem d_M_mayHold_116 : decode b_M_mayHold 116 = .ok (.iload_n 1, 1) := by decide +kernel
theorem d_M_mayHold_117 : decode b_M_mayHold 117 = .ok (.iconst 4, 1) := by decide +kernel
theorem d_M_mayHold_118 : decode b_M_mayHold 118 = .ok (.if_icmp .ne 7, 3) := by decide +kernel
theorem d_M_mayHold_121 : decode b_M_mayHold 121 = .ok (.iconst 1, 1) := by decide +kernel
theorem d_M_mayHold_122 : decode b_M_mayHold 122 = .ok (.goto 4, 3) := by decide +kernel
theorem d_M_mayHold_125 : decode b_M_mayHold 125 = .ok (.iconst 0, 1) := by decide +kernel
theorem d_M_mayHold_126 : decode b_M_mayHold 126 = .ok (.ireturn, 1) := by decide +kernel
theorem d_M_mayHold_127 : decode b_M_mayHold 127 = .ok (.iload_n 1, 1) := by decide +kernel
theorem d_M_mayHold_128 : decode b_M_mayHold 128 = .ok (.iconst 3, 1) := by decide +kernel
theorem d_M_mayHold_129 : decode b_M_mayHold 129 = .ok (.if_icmp .ne 7, 3) := by decide +kernel
theorem d_M_mayHold_132 : decode b_M_mayHold 132 = .ok (.iconst 1, 1) := by decide +kernel
theorem d_M_mayHold_133 : decode b_M_mayHold 133 = .ok (.goto 4, 3) := by decide +kernel
theorem d_M_mayHold_136 : decode b_M_mayHold 136 = .ok (.iconst 0, 1) := by decide +kernel
theorem d_M_mayHold_137 : decode b_M_mayHold 137 = .ok (.ireturn, 1) := by decide +kernel
theorem d_M_mayHold_138 : decode b_M_mayHold 138 = .ok (.iload_n 1, 1) := by decide +kernel
theorem d_M_mayHold_139 : decode b_M_mayHold 139 = .ok (.invokestatic 263, 3) := by decide +kernel
theorem d_M_mayHold_142 : decode b_M_mayHold 142 = .ok (.ireturn, 1) := by decide +kernel
theorem d_M_mayHold_143 : decode b_M_mayHold 143 = .ok (.iload_n 1, 1) := by decide +kernel
theorem d_M_mayHold_144 : decode b_M_mayHold 144 = .ok (.bipush 8, 2) := by decide +kernel
theorem d_M_mayHold_146 : decode b_M_mayHold 146 = .ok (.if_icmp .ne 7, 3) := by decide +kernel
theorem d_M_mayHold_149 : decode b_M_mayHold 149 = .ok (.iconst 1, 1) := by decide +kernel
theorem d_M_mayHold_150 : decode b_M_mayHold 150 = .ok (.goto 4, 3) := by decide +kernel
theorem d_M_mayHold_153 : decode b_M_mayHold 153 = .ok (.iconst 0, 1) := by decide +kernel
theorem d_M_mayHold_154 : decode b_M_mayHold 154 = .ok (.ireturn, 1) := by decide +kernel
theorem d_M_mayHold_155 : decode b_M_mayHold 155 = .ok (.iload_n 1, 1) := by decide +kernel
theorem d_M_mayHold_156 : decode b_M_mayHold 156 = .ok (.invokestatic 263, 3) := by decide +kernel
theorem d_M_mayHold_159 : decode b_M_mayHold 159 = .ok (.ifCond .ne 10, 3) := by decide +kernel
theorem d_M_mayHold_162 : decode b_M_mayHold 162 = .ok (.iload_n 1, 1) := by decide +kernel
theorem d_M_mayHold_163 : decode b_M_mayHold 163 = .ok (.invokestatic 266, 3) := by decide +kernel
theorem d_M_mayHold_166 : decode b_M_mayHold 166 = .ok (.ifCond .eq 7, 3) := by decide +kernel
theorem d_M_mayHold_169 : decode b_M_mayHold 169 = .ok (.iconst 1, 1) := by decide +kernel
theorem d_M_mayHold_170 : decode b_M_mayHold 170 = .ok (.goto 4, 3) := by decide +kernel
theorem d_M_mayHold_173 : decode b_M_mayHold 173 = .ok (.iconst 0, 1) := by decide +kernel
theorem d_M_mayHold_174 : decode b_M_mayHold 174 = .ok (.ireturn, 1) := by decide +kernel
theorem d_M_mayHold_175 : decode b_M_mayHold 175 = .ok (.iload_n 1, 1) := by decide +kernel
theorem d_M_mayHold_176 : decode b_M_mayHold 176 = .ok (.bipush 20, 2) := by decide +kernel
theorem d_M_mayHold_178 : decode b_M_mayHold 178 = .ok (.if_icmp .ne 7, 3) := by decide +kernel
theorem d_M_mayHold_181 : decode b_M_mayHold 181 = .ok (.iconst 1, 1) := by decide +kernel
theorem d_M_mayHold_182 : decode b_M_mayHold 182 = .ok (.goto 4, 3) := by decide +kernel
theorem d_M_mayHold_185 : decode b_M_mayHold 185 = .ok (.iconst 0, 1) := by decide +kernel
theorem d_M_mayHold_186 : decode b_M_mayHold 186 = .ok (.ireturn, 1) := by decide +kernel
theorem d_M_mayHold_187 : decode b_M_mayHold 187 = .ok (.iload_n 1, 1) := by decide +kernel
theorem d_M_mayHold_188 : decode b_M_mayHold 188 = .ok (.invokestatic 266, 3) := by decide +kernel
theorem d_M_mayHold_191 : decode b_M_mayHold 191 = .ok (.ireturn, 1) := by decide +kernel
theorem d_M_mayHold_192 : decode b_M_mayHold 192 = .ok (.iload_n 0, 1) := by decide +kernel
theorem d_M_mayHold_193 : decode b_M_mayHold 193 = .ok (.bipush 10, 2) := by decide +kernel
theorem d_M_mayHold_195 : decode b_M_mayHold 195 = .ok (.if_icmp .lt 20, 3) := by decide +kernel
theorem d_M_mayHold_198 : decode b_M_mayHold 198 = .ok (.iload_n 0, 1) := by decide +kernel
theorem d_M_mayHold_199 : decode b_M_mayHold 199 = .ok (.bipush 15, 2) := by decide +kernel
theorem d_M_mayHold_201 : decode b_M_mayHold 201 = .ok (.if_icmp .gt 14, 3) := by decide +kernel
theorem d_M_mayHold_204 : decode b_M_mayHold 204 = .ok (.iload_n 1, 1) := by decide +kernel
theorem d_M_mayHold_205 : decode b_M_mayHold 205 = .ok (.invokestatic 266, 3) := by decide +kernel
theorem d_M_mayHold_208 : decode b_M_mayHold 208 = .ok (.ifCond .eq 7, 3) := by decide +kernel
theorem d_M_mayHold_211 : decode b_M_mayHold 211 = .ok (.iconst 1, 1) := by decide +kernel
theorem d_M_mayHold_212 : decode b_M_mayHold 212 = .ok (.goto 4, 3) := by decide +kernel
theorem d_M_mayHold_215 : decode b_M_mayHold 215 = .ok (.iconst 0, 1) := by decide +kernel
theorem d_M_mayHold_216 : decode b_M_mayHold 216 = .ok (.ireturn, 1) := by decide +kernel
def w_M_mayHold_J169   (post : Int32 → Prop)  : Prop := post 1
def w_M_mayHold_J121   (post : Int32 → Prop)  : Prop := post 1
def w_M_mayHold   (x0 : Int32) (x1 : Int32) (post : Int32 → Prop) : Prop := ((x0 = (-1) → ((x1 = 1 → post 1) ∧ (¬ x1 = 1 → post 0))) ∧ (¬ x0 = (-1) → ((x0 = 0 → ((x0 < 10 → post 0) ∧ (¬ x0 < 10 → ((15 < x0 → post 0) ∧ (¬ 15 < x0 → w_M_isInlineKind  x1 (fun r205 => ((r205 = 0 → post 0) ∧ (¬ r205 = 0 → post 1)))))))) ∧ (¬ x0 = 0 → ((x0 = 1 → ((x1 = 2 → w_M_mayHold_J121 post ) ∧ (¬ x1 = 2 → ((x1 = 4 → w_M_mayHold_J121 post ) ∧ (¬ x1 = 4 → post 0))))) ∧ (¬ x0 = 1 → ((x0 = 2 → ((x1 = 3 → post 1) ∧ (¬ x1 = 3 → post 0))) ∧ (¬ x0 = 2 → ((x0 = 3 → ((x0 < 10 → post 0) ∧ (¬ x0 < 10 → ((15 < x0 → post 0) ∧ (¬ 15 < x0 → w_M_isInlineKind  x1 (fun r205 => ((r205 = 0 → post 0) ∧ (¬ r205 = 0 → post 1)))))))) ∧ (¬ x0 = 3 → ((x0 = 4 → w_M_isBlockKind  x1 (fun r139 => (narrow .boolean (.int r139) = .int r139 ∧ post r139))) ∧ (¬ x0 = 4 → ((x0 = 5 → w_M_isBlockKind  x1 (fun r139 => (narrow .boolean (.int r139) = .int r139 ∧ post r139))) ∧ (¬ x0 = 5 → ((x0 = 6 → ((x1 = 8 → post 1) ∧ (¬ x1 = 8 → post 0))) ∧ (¬ x0 = 6 → ((x0 = 7 → ((x1 = 8 → post 1) ∧ (¬ x1 = 8 → post 0))) ∧ (¬ x0 = 7 → ((x0 = 8 → w_M_isBlockKind  x1 (fun r156 => ((r156 = 0 → w_M_isInlineKind  x1 (fun r163 => ((r163 = 0 → post 0) ∧ (¬ r163 = 0 → w_M_mayHold_J169 post )))) ∧ (¬ r156 = 0 → w_M_mayHold_J169 post )))) ∧ (¬ x0 = 8 → ((x0 = 9 → w_M_isInlineKind  x1 (fun r188 => (narrow .boolean (.int r188) = .int r188 ∧ post r188))) ∧ (¬ x0 = 9 → ((x0 = 10 → ((x0 < 10 → post 0) ∧ (¬ x0 < 10 → ((15 < x0 → post 0) ∧ (¬ 15 < x0 → w_M_isInlineKind  x1 (fun r205 => ((r205 = 0 → post 0) ∧ (¬ r205 = 0 → post 1)))))))) ∧ (¬ x0 = 10 → ((x0 = 11 → ((x0 < 10 → post 0) ∧ (¬ x0 < 10 → ((15 < x0 → post 0) ∧ (¬ 15 < x0 → w_M_isInlineKind  x1 (fun r205 => ((r205 = 0 → post 0) ∧ (¬ r205 = 0 → post 1)))))))) ∧ (¬ x0 = 11 → ((x0 = 12 → ((x0 < 10 → post 0) ∧ (¬ x0 < 10 → ((15 < x0 → post 0) ∧ (¬ 15 < x0 → w_M_isInlineKind  x1 (fun r205 => ((r205 = 0 → post 0) ∧ (¬ r205 = 0 → post 1)))))))) ∧ (¬ x0 = 12 → ((x0 = 13 → ((x0 < 10 → post 0) ∧ (¬ x0 < 10 → ((15 < x0 → post 0) ∧ (¬ 15 < x0 → w_M_isInlineKind  x1 (fun r205 => ((r205 = 0 → post 0) ∧ (¬ r205 = 0 → post 1)))))))) ∧ (¬ x0 = 13 → ((x0 = 14 → ((x0 < 10 → post 0) ∧ (¬ x0 < 10 → ((15 < x0 → post 0) ∧ (¬ 15 < x0 → w_M_isInlineKind  x1 (fun r205 => ((r205 = 0 → post 0) ∧ (¬ r205 = 0 → post 1)))))))) ∧ (¬ x0 = 14 → ((x0 = 15 → ((x0 < 10 → post 0) ∧ (¬ x0 < 10 → ((15 < x0 → post 0) ∧ (¬ 15 < x0 → w_M_isInlineKind  x1 (fun r205 => ((r205 = 0 → post 0) ∧ (¬ r205 = 0 → post 1)))))))) ∧ (¬ x0 = 15 → ((x0 = 16 → w_M_isInlineKind  x1 (fun r188 => (narrow .boolean (.int r188) = .int r188 ∧ post r188))) ∧ (¬ x0 = 16 → ((x0 = 17 → w_M_isInlineKind  x1 (fun r188 => (narrow .boolean (.int r188) = .int r188 ∧ post r188))) ∧ (¬ x0 = 17 → ((x0 = 18 → w_M_isInlineKind  x1 (fun r188 => (narrow .boolean (.int r188) = .int r188 ∧ post r188))) ∧ (¬ x0 = 18 → ((x0 = 19 → ((x1 = 20 → post 1) ∧ (¬ x1 = 20 → post 0))) ∧ (¬ x0 = 19 → ((x0 < 10 → post 0) ∧ (¬ x0 < 10 → ((15 < x0 → post 0) ∧ (¬ 15 < x0 → w_M_isInlineKind  x1 (fun r205 => ((r205 = 0 → post 0) ∧ (¬ r205 = 0 → post 1)))))))))))))))))))))))))))))))))))))))))))))))))
set_option maxHeartbeats 4000000 in
set_option maxRecDepth 100000 in
theorem c_M_mayHold (l : Launch)   (x0 : Int32) (x1 : Int32)  (post : Int32 → Prop) (hE : w_M_mayHold x0 x1 post) : Met l y_M_mayHold ws_M_mayHold { frames := 1, cells := 0, slots := 0, locals := 20 } (va_Pc [.int x0, .int x1] (fun _ => True)) (vp_Si post) 0 0 (fun _ => False) := by
  refine Met.ofW (cc := b_M_mayHold) (maxL := 2) (ret := (some .boolean)) (by decide) rfl ?_
  intro p e s m args below meth c s₁ B hml hv
  obtain ⟨rfl, -⟩ := hv
  have hS : va_S (fun _ : Nat => False) s.heap s.heap [] := va_S.rf
  have hx := B.exec
  have hb := B.bytes
  have hr := B.returns
  have hta : ∀ w ∈ aW, w.before _ s = true := fun w h => atoms_spec (ws := ws_M_mayHold) B.pre w (List.mem_cons_of_mem _ h)
  have hown : s.vm.findClass R_M = some m.cls := findClass_of_methodNamed B.named
  have hlocks := B.notSynchronized
  have hl := lv_entry ([.int x0, .int x1]) (n := 2) (Nat.le_of_ble_eq_true rfl)
  rw [lg_entry_eq]
  generalize (lg_sl ([.int x0, .int x1]) ++ List.replicate (2 - (lg_sl ([.int x0, .int x1])).length) Slot.unset).toArray = ls at hl ⊢
  have hl : lv_has ls 2 [(0, .int x0), (1, .int x1)] := hl
  have J169 : ∀ (ls : Array Slot) (hl : lv_has ls 2 []) (hE : w_M_mayHold_J169 post ), W p l e (headSpec ws_M_mayHold { frames := 1, cells := 0, slots := 0, locals := 20 }).room s m ([.int x0, .int x1] : List Value).toArray below meth c s.heap [] 0 0 (MQ below (vp_Si post) ([.int x0, .int x1] : List Value).toArray s 0 0 (fun _ => False)) (F0 m 169 ls []) := by
    intro  ls hl hE
    unfold w_M_mayHold_J169 at hE
    refine lv_iconst (v := 1) hx hb d_M_mayHold_169 (by decide) ?_
    refine lv_goto (tgt := 174) hx hb d_M_mayHold_170 (by decide) ?_
    exact W.zret (v := 1) hx hb hr rfl (fun t ht hW => ⟨_, rfl, hE, ht⟩) (fun q h => by cases h) d_M_mayHold_174
  have J121 : ∀ (ls : Array Slot) (hl : lv_has ls 2 []) (hE : w_M_mayHold_J121 post ), W p l e (headSpec ws_M_mayHold { frames := 1, cells := 0, slots := 0, locals := 20 }).room s m ([.int x0, .int x1] : List Value).toArray below meth c s.heap [] 0 0 (MQ below (vp_Si post) ([.int x0, .int x1] : List Value).toArray s 0 0 (fun _ => False)) (F0 m 121 ls []) := by
    intro  ls hl hE
    unfold w_M_mayHold_J121 at hE
    refine lv_iconst (v := 1) hx hb d_M_mayHold_121 (by decide) ?_
    refine lv_goto (tgt := 126) hx hb d_M_mayHold_122 (by decide) ?_
    exact W.zret (v := 1) hx hb hr rfl (fun t ht hW => ⟨_, rfl, hE, ht⟩) (fun q h => by cases h) d_M_mayHold_126
  unfold w_M_mayHold at hE
  refine lv_iload_n hx hb d_M_mayHold_0 rfl (lv_at hl 0 rfl) ?_
  by_cases hs1_0 : x0 = (-1)
  · have hE := hE.1 hs1_0
    refine lv_tableIn (off := 99) (tgt := 100) hx hb d_M_mayHold_1 (by rw [hs1_0]; decide) (by rw [hs1_0]; decide) (by rw [hs1_0]; decide) (by decide) ?_
    refine lv_iload_n hx hb d_M_mayHold_100 rfl (lv_at hl 1 rfl) ?_
    refine lv_iconst (v := 1) hx hb d_M_mayHold_101 (by decide) ?_
    refine lv_icmp_ne (tgt := 109) hx hb d_M_mayHold_102 (by decide) (fun cc102 => ?_) (fun cc102 => ?_)
    · have hE := hE.2 cc102
      refine lv_iconst (v := 0) hx hb d_M_mayHold_109 (by decide) ?_
      exact W.zret (v := 0) hx hb hr rfl (fun t ht hW => ⟨_, rfl, hE, ht⟩) (fun q h => by cases h) d_M_mayHold_110
    · have hE := hE.1 cc102
      refine lv_iconst (v := 1) hx hb d_M_mayHold_105 (by decide) ?_
      refine lv_goto (tgt := 110) hx hb d_M_mayHold_106 (by decide) ?_
      exact W.zret (v := 1) hx hb hr rfl (fun t ht hW => ⟨_, rfl, hE, ht⟩) (fun q h => by cases h) d_M_mayHold_110
  · have hE := hE.2 hs1_0
    by_cases hs1_1 : x0 = 0
    · have hE := hE.1 hs1_1
      refine lv_tableIn (off := 191) (tgt := 192) hx hb d_M_mayHold_1 (by rw [hs1_1]; decide) (by rw [hs1_1]; decide) (by rw [hs1_1]; decide) (by decide) ?_
      refine lv_iload_n hx hb d_M_mayHold_192 rfl (lv_at hl 0 rfl) ?_
      refine lv_bipush (v := 10) hx hb d_M_mayHold_193 (by decide) ?_
      refine lv_icmp_lt (tgt := 215) hx hb d_M_mayHold_195 (by decide) (fun cc195 => ?_) (fun cc195 => ?_)
      · have hE := hE.1 cc195
        refine lv_iconst (v := 0) hx hb d_M_mayHold_215 (by decide) ?_
        exact W.zret (v := 0) hx hb hr rfl (fun t ht hW => ⟨_, rfl, hE, ht⟩) (fun q h => by cases h) d_M_mayHold_216
      · have hE := hE.2 cc195
        refine lv_iload_n hx hb d_M_mayHold_198 rfl (lv_at hl 0 rfl) ?_
        refine lv_bipush (v := 15) hx hb d_M_mayHold_199 (by decide) ?_
        refine lv_icmp_gt (tgt := 215) hx hb d_M_mayHold_201 (by decide) (fun cc201 => ?_) (fun cc201 => ?_)
        · have hE := hE.1 cc201
          refine lv_iconst (v := 0) hx hb d_M_mayHold_215 (by decide) ?_
          exact W.zret (v := 0) hx hb hr rfl (fun t ht hW => ⟨_, rfl, hE, ht⟩) (fun q h => by cases h) d_M_mayHold_216
        · have hE := hE.2 cc201
          refine lv_iload_n hx hb d_M_mayHold_204 rfl (lv_at hl 1 rfl) ?_
          refine ro_S  (As := [.int x1]) (rest := []) ⟨hx, hb, hml, hown, hta⟩ (c_M_isInlineKind l x1  _ hE) ok_M_266 ⟨Nat.le_of_ble_eq_true rfl, Nat.le_of_ble_eq_true rfl⟩ blind_true  (fun _ _ _ => trivial) rfl hl.1 rfl (Nat.le_of_ble_eq_true rfl) d_M_mayHold_205 ⟨Nat.zero_le _, Nat.zero_le _⟩ (fun r205 hE => ?_)
          refine lv_if_eq (tgt := 215) hx hb d_M_mayHold_208 (by decide) (fun cc208 => ?_) (fun cc208 => ?_)
          · have hE := hE.1 cc208
            refine lv_iconst (v := 0) hx hb d_M_mayHold_215 (by decide) ?_
            exact W.zret (v := 0) hx hb hr rfl (fun t ht hW => ⟨_, rfl, hE, ht⟩) (fun q h => by cases h) d_M_mayHold_216
          · have hE := hE.2 cc208
            refine lv_iconst (v := 1) hx hb d_M_mayHold_211 (by decide) ?_
            refine lv_goto (tgt := 216) hx hb d_M_mayHold_212 (by decide) ?_
            exact W.zret (v := 1) hx hb hr rfl (fun t ht hW => ⟨_, rfl, hE, ht⟩) (fun q h => by cases h) d_M_mayHold_216
    · have hE := hE.2 hs1_1
      by_cases hs1_2 : x0 = 1
      · have hE := hE.1 hs1_2
        refine lv_tableIn (off := 110) (tgt := 111) hx hb d_M_mayHold_1 (by rw [hs1_2]; decide) (by rw [hs1_2]; decide) (by rw [hs1_2]; decide) (by decide) ?_
        refine lv_iload_n hx hb d_M_mayHold_111 rfl (lv_at hl 1 rfl) ?_
        refine lv_iconst (v := 2) hx hb d_M_mayHold_112 (by decide) ?_
        refine lv_icmp_eq (tgt := 121) hx hb d_M_mayHold_113 (by decide) (fun cc113 => ?_) (fun cc113 => ?_)
        · have hE := hE.1 cc113
          exact J121   _ (lv_sub hl [] rfl) hE
        · have hE := hE.2 cc113
          refine lv_iload_n hx hb d_M_mayHold_116 rfl (lv_at hl 1 rfl) ?_
          refine lv_iconst (v := 4) hx hb d_M_mayHold_117 (by decide) ?_
          refine lv_icmp_ne (tgt := 125) hx hb d_M_mayHold_118 (by decide) (fun cc118 => ?_) (fun cc118 => ?_)
          · have hE := hE.2 cc118
            refine lv_iconst (v := 0) hx hb d_M_mayHold_125 (by decide) ?_
            exact W.zret (v := 0) hx hb hr rfl (fun t ht hW => ⟨_, rfl, hE, ht⟩) (fun q h => by cases h) d_M_mayHold_126
          · have hE := hE.1 cc118
            exact J121   _ (lv_sub hl [] rfl) hE
      · have hE := hE.2 hs1_2
        by_cases hs1_3 : x0 = 2
        · have hE := hE.1 hs1_3
          refine lv_tableIn (off := 126) (tgt := 127) hx hb d_M_mayHold_1 (by rw [hs1_3]; decide) (by rw [hs1_3]; decide) (by rw [hs1_3]; decide) (by decide) ?_
          refine lv_iload_n hx hb d_M_mayHold_127 rfl (lv_at hl 1 rfl) ?_
          refine lv_iconst (v := 3) hx hb d_M_mayHold_128 (by decide) ?_
          refine lv_icmp_ne (tgt := 136) hx hb d_M_mayHold_129 (by decide) (fun cc129 => ?_) (fun cc129 => ?_)
          · have hE := hE.2 cc129
            refine lv_iconst (v := 0) hx hb d_M_mayHold_136 (by decide) ?_
            exact W.zret (v := 0) hx hb hr rfl (fun t ht hW => ⟨_, rfl, hE, ht⟩) (fun q h => by cases h) d_M_mayHold_137
          · have hE := hE.1 cc129
            refine lv_iconst (v := 1) hx hb d_M_mayHold_132 (by decide) ?_
            refine lv_goto (tgt := 137) hx hb d_M_mayHold_133 (by decide) ?_
            exact W.zret (v := 1) hx hb hr rfl (fun t ht hW => ⟨_, rfl, hE, ht⟩) (fun q h => by cases h) d_M_mayHold_137
        · have hE := hE.2 hs1_3
          by_cases hs1_4 : x0 = 3
          · have hE := hE.1 hs1_4
            refine lv_tableIn (off := 191) (tgt := 192) hx hb d_M_mayHold_1 (by rw [hs1_4]; decide) (by rw [hs1_4]; decide) (by rw [hs1_4]; decide) (by decide) ?_
            refine lv_iload_n hx hb d_M_mayHold_192 rfl (lv_at hl 0 rfl) ?_
            refine lv_bipush (v := 10) hx hb d_M_mayHold_193 (by decide) ?_
            refine lv_icmp_lt (tgt := 215) hx hb d_M_mayHold_195 (by decide) (fun cc195 => ?_) (fun cc195 => ?_)
            · have hE := hE.1 cc195
              refine lv_iconst (v := 0) hx hb d_M_mayHold_215 (by decide) ?_
              exact W.zret (v := 0) hx hb hr rfl (fun t ht hW => ⟨_, rfl, hE, ht⟩) (fun q h => by cases h) d_M_mayHold_216
            · have hE := hE.2 cc195
              refine lv_iload_n hx hb d_M_mayHold_198 rfl (lv_at hl 0 rfl) ?_
              refine lv_bipush (v := 15) hx hb d_M_mayHold_199 (by decide) ?_
              refine lv_icmp_gt (tgt := 215) hx hb d_M_mayHold_201 (by decide) (fun cc201 => ?_) (fun cc201 => ?_)
              · have hE := hE.1 cc201
                refine lv_iconst (v := 0) hx hb d_M_mayHold_215 (by decide) ?_
                exact W.zret (v := 0) hx hb hr rfl (fun t ht hW => ⟨_, rfl, hE, ht⟩) (fun q h => by cases h) d_M_mayHold_216
              · have hE := hE.2 cc201
                refine lv_iload_n hx hb d_M_mayHold_204 rfl (lv_at hl 1 rfl) ?_
                refine ro_S  (As := [.int x1]) (rest := []) ⟨hx, hb, hml, hown, hta⟩ (c_M_isInlineKind l x1  _ hE) ok_M_266 ⟨Nat.le_of_ble_eq_true rfl, Nat.le_of_ble_eq_true rfl⟩ blind_true  (fun _ _ _ => trivial) rfl hl.1 rfl (Nat.le_of_ble_eq_true rfl) d_M_mayHold_205 ⟨Nat.zero_le _, Nat.zero_le _⟩ (fun r205 hE => ?_)
                refine lv_if_eq (tgt := 215) hx hb d_M_mayHold_208 (by decide) (fun cc208 => ?_) (fun cc208 => ?_)
                · have hE := hE.1 cc208
                  refine lv_iconst (v := 0) hx hb d_M_mayHold_215 (by decide) ?_
                  exact W.zret (v := 0) hx hb hr rfl (fun t ht hW => ⟨_, rfl, hE, ht⟩) (fun q h => by cases h) d_M_mayHold_216
                · have hE := hE.2 cc208
                  refine lv_iconst (v := 1) hx hb d_M_mayHold_211 (by decide) ?_
                  refine lv_goto (tgt := 216) hx hb d_M_mayHold_212 (by decide) ?_
                  exact W.zret (v := 1) hx hb hr rfl (fun t ht hW => ⟨_, rfl, hE, ht⟩) (fun q h => by cases h) d_M_mayHold_216
          · have hE := hE.2 hs1_4
            by_cases hs1_5 : x0 = 4
            · have hE := hE.1 hs1_5
              refine lv_tableIn (off := 137) (tgt := 138) hx hb d_M_mayHold_1 (by rw [hs1_5]; decide) (by rw [hs1_5]; decide) (by rw [hs1_5]; decide) (by decide) ?_
              refine lv_iload_n hx hb d_M_mayHold_138 rfl (lv_at hl 1 rfl) ?_
              refine ro_S  (As := [.int x1]) (rest := []) ⟨hx, hb, hml, hown, hta⟩ (c_M_isBlockKind l x1  _ hE) ok_M_263 ⟨Nat.le_of_ble_eq_true rfl, Nat.le_of_ble_eq_true rfl⟩ blind_true  (fun _ _ _ => trivial) rfl hl.1 rfl (Nat.le_of_ble_eq_true rfl) d_M_mayHold_139 ⟨Nat.zero_le _, Nat.zero_le _⟩ (fun r139 hE => ?_)
              obtain ⟨hN, hE⟩ := hE
              exact W.zret (v := r139) hx hb hr hN (fun t ht hW => ⟨_, rfl, hE, ht⟩) (fun q h => by cases h) d_M_mayHold_142
            · have hE := hE.2 hs1_5
              by_cases hs1_6 : x0 = 5
              · have hE := hE.1 hs1_6
                refine lv_tableIn (off := 137) (tgt := 138) hx hb d_M_mayHold_1 (by rw [hs1_6]; decide) (by rw [hs1_6]; decide) (by rw [hs1_6]; decide) (by decide) ?_
                refine lv_iload_n hx hb d_M_mayHold_138 rfl (lv_at hl 1 rfl) ?_
                refine ro_S  (As := [.int x1]) (rest := []) ⟨hx, hb, hml, hown, hta⟩ (c_M_isBlockKind l x1  _ hE) ok_M_263 ⟨Nat.le_of_ble_eq_true rfl, Nat.le_of_ble_eq_true rfl⟩ blind_true  (fun _ _ _ => trivial) rfl hl.1 rfl (Nat.le_of_ble_eq_true rfl) d_M_mayHold_139 ⟨Nat.zero_le _, Nat.zero_le _⟩ (fun r139 hE => ?_)
                obtain ⟨hN, hE⟩ := hE
                exact W.zret (v := r139) hx hb hr hN (fun t ht hW => ⟨_, rfl, hE, ht⟩) (fun q h => by cases h) d_M_mayHold_142
              · have hE := hE.2 hs1_6
                by_cases hs1_7 : x0 = 6
                · have hE := hE.1 hs1_7
                  refine lv_tableIn (off := 142) (tgt := 143) hx hb d_M_mayHold_1 (by rw [hs1_7]; decide) (by rw [hs1_7]; decide) (by rw [hs1_7]; decide) (by decide) ?_
                  refine lv_iload_n hx hb d_M_mayHold_143 rfl (lv_at hl 1 rfl) ?_
                  refine lv_bipush (v := 8) hx hb d_M_mayHold_144 (by decide) ?_
                  refine lv_icmp_ne (tgt := 153) hx hb d_M_mayHold_146 (by decide) (fun cc146 => ?_) (fun cc146 => ?_)
                  · have hE := hE.2 cc146
                    refine lv_iconst (v := 0) hx hb d_M_mayHold_153 (by decide) ?_
                    exact W.zret (v := 0) hx hb hr rfl (fun t ht hW => ⟨_, rfl, hE, ht⟩) (fun q h => by cases h) d_M_mayHold_154
                  · have hE := hE.1 cc146
                    refine lv_iconst (v := 1) hx hb d_M_mayHold_149 (by decide) ?_
                    refine lv_goto (tgt := 154) hx hb d_M_mayHold_150 (by decide) ?_
                    exact W.zret (v := 1) hx hb hr rfl (fun t ht hW => ⟨_, rfl, hE, ht⟩) (fun q h => by cases h) d_M_mayHold_154
                · have hE := hE.2 hs1_7
                  by_cases hs1_8 : x0 = 7
                  · have hE := hE.1 hs1_8
                    refine lv_tableIn (off := 142) (tgt := 143) hx hb d_M_mayHold_1 (by rw [hs1_8]; decide) (by rw [hs1_8]; decide) (by rw [hs1_8]; decide) (by decide) ?_
                    refine lv_iload_n hx hb d_M_mayHold_143 rfl (lv_at hl 1 rfl) ?_
                    refine lv_bipush (v := 8) hx hb d_M_mayHold_144 (by decide) ?_
                    refine lv_icmp_ne (tgt := 153) hx hb d_M_mayHold_146 (by decide) (fun cc146 => ?_) (fun cc146 => ?_)
                    · have hE := hE.2 cc146
                      refine lv_iconst (v := 0) hx hb d_M_mayHold_153 (by decide) ?_
                      exact W.zret (v := 0) hx hb hr rfl (fun t ht hW => ⟨_, rfl, hE, ht⟩) (fun q h => by cases h) d_M_mayHold_154
                    · have hE := hE.1 cc146
                      refine lv_iconst (v := 1) hx hb d_M_mayHold_149 (by decide) ?_
                      refine lv_goto (tgt := 154) hx hb d_M_mayHold_150 (by decide) ?_
                      exact W.zret (v := 1) hx hb hr rfl (fun t ht hW => ⟨_, rfl, hE, ht⟩) (fun q h => by cases h) d_M_mayHold_154
                  · have hE := hE.2 hs1_8
                    by_cases hs1_9 : x0 = 8
                    · have hE := hE.1 hs1_9
                      refine lv_tableIn (off := 154) (tgt := 155) hx hb d_M_mayHold_1 (by rw [hs1_9]; decide) (by rw [hs1_9]; decide) (by rw [hs1_9]; decide) (by decide) ?_
                      refine lv_iload_n hx hb d_M_mayHold_155 rfl (lv_at hl 1 rfl) ?_
                      refine ro_S  (As := [.int x1]) (rest := []) ⟨hx, hb, hml, hown, hta⟩ (c_M_isBlockKind l x1  _ hE) ok_M_263 ⟨Nat.le_of_ble_eq_true rfl, Nat.le_of_ble_eq_true rfl⟩ blind_true  (fun _ _ _ => trivial) rfl hl.1 rfl (Nat.le_of_ble_eq_true rfl) d_M_mayHold_156 ⟨Nat.zero_le _, Nat.zero_le _⟩ (fun r156 hE => ?_)
                      refine lv_if_ne (tgt := 169) hx hb d_M_mayHold_159 (by decide) (fun cc159 => ?_) (fun cc159 => ?_)
                      · have hE := hE.2 cc159
                        exact J169   _ (lv_sub hl [] rfl) hE
                      · have hE := hE.1 cc159
                        refine lv_iload_n hx hb d_M_mayHold_162 rfl (lv_at hl 1 rfl) ?_
                        refine ro_S  (As := [.int x1]) (rest := []) ⟨hx, hb, hml, hown, hta⟩ (c_M_isInlineKind l x1  _ hE) ok_M_266 ⟨Nat.le_of_ble_eq_true rfl, Nat.le_of_ble_eq_true rfl⟩ blind_true  (fun _ _ _ => trivial) rfl hl.1 rfl (Nat.le_of_ble_eq_true rfl) d_M_mayHold_163 ⟨Nat.zero_le _, Nat.zero_le _⟩ (fun r163 hE => ?_)
                        refine lv_if_eq (tgt := 173) hx hb d_M_mayHold_166 (by decide) (fun cc166 => ?_) (fun cc166 => ?_)
                        · have hE := hE.1 cc166
                          refine lv_iconst (v := 0) hx hb d_M_mayHold_173 (by decide) ?_
                          exact W.zret (v := 0) hx hb hr rfl (fun t ht hW => ⟨_, rfl, hE, ht⟩) (fun q h => by cases h) d_M_mayHold_174
                        · have hE := hE.2 cc166
                          exact J169   _ (lv_sub hl [] rfl) hE
                    · have hE := hE.2 hs1_9
                      by_cases hs1_10 : x0 = 9
                      · have hE := hE.1 hs1_10
                        refine lv_tableIn (off := 186) (tgt := 187) hx hb d_M_mayHold_1 (by rw [hs1_10]; decide) (by rw [hs1_10]; decide) (by rw [hs1_10]; decide) (by decide) ?_
                        refine lv_iload_n hx hb d_M_mayHold_187 rfl (lv_at hl 1 rfl) ?_
                        refine ro_S  (As := [.int x1]) (rest := []) ⟨hx, hb, hml, hown, hta⟩ (c_M_isInlineKind l x1  _ hE) ok_M_266 ⟨Nat.le_of_ble_eq_true rfl, Nat.le_of_ble_eq_true rfl⟩ blind_true  (fun _ _ _ => trivial) rfl hl.1 rfl (Nat.le_of_ble_eq_true rfl) d_M_mayHold_188 ⟨Nat.zero_le _, Nat.zero_le _⟩ (fun r188 hE => ?_)
                        obtain ⟨hN, hE⟩ := hE
                        exact W.zret (v := r188) hx hb hr hN (fun t ht hW => ⟨_, rfl, hE, ht⟩) (fun q h => by cases h) d_M_mayHold_191
                      · have hE := hE.2 hs1_10
                        by_cases hs1_11 : x0 = 10
                        · have hE := hE.1 hs1_11
                          refine lv_tableIn (off := 191) (tgt := 192) hx hb d_M_mayHold_1 (by rw [hs1_11]; decide) (by rw [hs1_11]; decide) (by rw [hs1_11]; decide) (by decide) ?_
                          refine lv_iload_n hx hb d_M_mayHold_192 rfl (lv_at hl 0 rfl) ?_
                          refine lv_bipush (v := 10) hx hb d_M_mayHold_193 (by decide) ?_
                          refine lv_icmp_lt (tgt := 215) hx hb d_M_mayHold_195 (by decide) (fun cc195 => ?_) (fun cc195 => ?_)
                          · have hE := hE.1 cc195
                            refine lv_iconst (v := 0) hx hb d_M_mayHold_215 (by decide) ?_
                            exact W.zret (v := 0) hx hb hr rfl (fun t ht hW => ⟨_, rfl, hE, ht⟩) (fun q h => by cases h) d_M_mayHold_216
                          · have hE := hE.2 cc195
                            refine lv_iload_n hx hb d_M_mayHold_198 rfl (lv_at hl 0 rfl) ?_
                            refine lv_bipush (v := 15) hx hb d_M_mayHold_199 (by decide) ?_
                            refine lv_icmp_gt (tgt := 215) hx hb d_M_mayHold_201 (by decide) (fun cc201 => ?_) (fun cc201 => ?_)
                            · have hE := hE.1 cc201
                              refine lv_iconst (v := 0) hx hb d_M_mayHold_215 (by decide) ?_
                              exact W.zret (v := 0) hx hb hr rfl (fun t ht hW => ⟨_, rfl, hE, ht⟩) (fun q h => by cases h) d_M_mayHold_216
                            · have hE := hE.2 cc201
                              refine lv_iload_n hx hb d_M_mayHold_204 rfl (lv_at hl 1 rfl) ?_
                              refine ro_S  (As := [.int x1]) (rest := []) ⟨hx, hb, hml, hown, hta⟩ (c_M_isInlineKind l x1  _ hE) ok_M_266 ⟨Nat.le_of_ble_eq_true rfl, Nat.le_of_ble_eq_true rfl⟩ blind_true  (fun _ _ _ => trivial) rfl hl.1 rfl (Nat.le_of_ble_eq_true rfl) d_M_mayHold_205 ⟨Nat.zero_le _, Nat.zero_le _⟩ (fun r205 hE => ?_)
                              refine lv_if_eq (tgt := 215) hx hb d_M_mayHold_208 (by decide) (fun cc208 => ?_) (fun cc208 => ?_)
                              · have hE := hE.1 cc208
                                refine lv_iconst (v := 0) hx hb d_M_mayHold_215 (by decide) ?_
                                exact W.zret (v := 0) hx hb hr rfl (fun t ht hW => ⟨_, rfl, hE, ht⟩) (fun q h => by cases h) d_M_mayHold_216
                              · have hE := hE.2 cc208
                                refine lv_iconst (v := 1) hx hb d_M_mayHold_211 (by decide) ?_
                                refine lv_goto (tgt := 216) hx hb d_M_mayHold_212 (by decide) ?_
                                exact W.zret (v := 1) hx hb hr rfl (fun t ht hW => ⟨_, rfl, hE, ht⟩) (fun q h => by cases h) d_M_mayHold_216
                        · have hE := hE.2 hs1_11
                          by_cases hs1_12 : x0 = 11
                          · have hE := hE.1 hs1_12
                            refine lv_tableIn (off := 191) (tgt := 192) hx hb d_M_mayHold_1 (by rw [hs1_12]; decide) (by rw [hs1_12]; decide) (by rw [hs1_12]; decide) (by decide) ?_
                            refine lv_iload_n hx hb d_M_mayHold_192 rfl (lv_at hl 0 rfl) ?_
                            refine lv_bipush (v := 10) hx hb d_M_mayHold_193 (by decide) ?_
                            refine lv_icmp_lt (tgt := 215) hx hb d_M_mayHold_195 (by decide) (fun cc195 => ?_) (fun cc195 => ?_)
                            · have hE := hE.1 cc195
                              refine lv_iconst (v := 0) hx hb d_M_mayHold_215 (by decide) ?_
                              exact W.zret (v := 0) hx hb hr rfl (fun t ht hW => ⟨_, rfl, hE, ht⟩) (fun q h => by cases h) d_M_mayHold_216
                            · have hE := hE.2 cc195
                              refine lv_iload_n hx hb d_M_mayHold_198 rfl (lv_at hl 0 rfl) ?_
                              refine lv_bipush (v := 15) hx hb d_M_mayHold_199 (by decide) ?_
                              refine lv_icmp_gt (tgt := 215) hx hb d_M_mayHold_201 (by decide) (fun cc201 => ?_) (fun cc201 => ?_)
                              · have hE := hE.1 cc201
                                refine lv_iconst (v := 0) hx hb d_M_mayHold_215 (by decide) ?_
                                exact W.zret (v := 0) hx hb hr rfl (fun t ht hW => ⟨_, rfl, hE, ht⟩) (fun q h => by cases h) d_M_mayHold_216
                              · have hE := hE.2 cc201
                                refine lv_iload_n hx hb d_M_mayHold_204 rfl (lv_at hl 1 rfl) ?_
                                refine ro_S  (As := [.int x1]) (rest := []) ⟨hx, hb, hml, hown, hta⟩ (c_M_isInlineKind l x1  _ hE) ok_M_266 ⟨Nat.le_of_ble_eq_true rfl, Nat.le_of_ble_eq_true rfl⟩ blind_true  (fun _ _ _ => trivial) rfl hl.1 rfl (Nat.le_of_ble_eq_true rfl) d_M_mayHold_205 ⟨Nat.zero_le _, Nat.zero_le _⟩ (fun r205 hE => ?_)
                                refine lv_if_eq (tgt := 215) hx hb d_M_mayHold_208 (by decide) (fun cc208 => ?_) (fun cc208 => ?_)
                                · have hE := hE.1 cc208
                                  refine lv_iconst (v := 0) hx hb d_M_mayHold_215 (by decide) ?_
                                  exact W.zret (v := 0) hx hb hr rfl (fun t ht hW => ⟨_, rfl, hE, ht⟩) (fun q h => by cases h) d_M_mayHold_216
                                · have hE := hE.2 cc208
                                  refine lv_iconst (v := 1) hx hb d_M_mayHold_211 (by decide) ?_
                                  refine lv_goto (tgt := 216) hx hb d_M_mayHold_212 (by decide) ?_
                                  exact W.zret (v := 1) hx hb hr rfl (fun t ht hW => ⟨_, rfl, hE, ht⟩) (fun q h => by cases h) d_M_mayHold_216
                          · have hE := hE.2 hs1_12
                            by_cases hs1_13 : x0 = 12
                            · have hE := hE.1 hs1_13
                              refine lv_tableIn (off := 191) (tgt := 192) hx hb d_M_mayHold_1 (by rw [hs1_13]; decide) (by rw [hs1_13]; decide) (by rw [hs1_13]; decide) (by decide) ?_
                              refine lv_iload_n hx hb d_M_mayHold_192 rfl (lv_at hl 0 rfl) ?_
                              refine lv_bipush (v := 10) hx hb d_M_mayHold_193 (by decide) ?_
                              refine lv_icmp_lt (tgt := 215) hx hb d_M_mayHold_195 (by decide) (fun cc195 => ?_) (fun cc195 => ?_)
                              · have hE := hE.1 cc195
                                refine lv_iconst (v := 0) hx hb d_M_mayHold_215 (by decide) ?_
                                exact W.zret (v := 0) hx hb hr rfl (fun t ht hW => ⟨_, rfl, hE, ht⟩) (fun q h => by cases h) d_M_mayHold_216
                              · have hE := hE.2 cc195
                                refine lv_iload_n hx hb d_M_mayHold_198 rfl (lv_at hl 0 rfl) ?_
                                refine lv_bipush (v := 15) hx hb d_M_mayHold_199 (by decide) ?_
                                refine lv_icmp_gt (tgt := 215) hx hb d_M_mayHold_201 (by decide) (fun cc201 => ?_) (fun cc201 => ?_)
                                · have hE := hE.1 cc201
                                  refine lv_iconst (v := 0) hx hb d_M_mayHold_215 (by decide) ?_
                                  exact W.zret (v := 0) hx hb hr rfl (fun t ht hW => ⟨_, rfl, hE, ht⟩) (fun q h => by cases h) d_M_mayHold_216
                                · have hE := hE.2 cc201
                                  refine lv_iload_n hx hb d_M_mayHold_204 rfl (lv_at hl 1 rfl) ?_
                                  refine ro_S  (As := [.int x1]) (rest := []) ⟨hx, hb, hml, hown, hta⟩ (c_M_isInlineKind l x1  _ hE) ok_M_266 ⟨Nat.le_of_ble_eq_true rfl, Nat.le_of_ble_eq_true rfl⟩ blind_true  (fun _ _ _ => trivial) rfl hl.1 rfl (Nat.le_of_ble_eq_true rfl) d_M_mayHold_205 ⟨Nat.zero_le _, Nat.zero_le _⟩ (fun r205 hE => ?_)
                                  refine lv_if_eq (tgt := 215) hx hb d_M_mayHold_208 (by decide) (fun cc208 => ?_) (fun cc208 => ?_)
                                  · have hE := hE.1 cc208
                                    refine lv_iconst (v := 0) hx hb d_M_mayHold_215 (by decide) ?_
                                    exact W.zret (v := 0) hx hb hr rfl (fun t ht hW => ⟨_, rfl, hE, ht⟩) (fun q h => by cases h) d_M_mayHold_216
                                  · have hE := hE.2 cc208
                                    refine lv_iconst (v := 1) hx hb d_M_mayHold_211 (by decide) ?_
                                    refine lv_goto (tgt := 216) hx hb d_M_mayHold_212 (by decide) ?_
                                    exact W.zret (v := 1) hx hb hr rfl (fun t ht hW => ⟨_, rfl, hE, ht⟩) (fun q h => by cases h) d_M_mayHold_216
                            · have hE := hE.2 hs1_13
                              by_cases hs1_14 : x0 = 13
                              · have hE := hE.1 hs1_14
                                refine lv_tableIn (off := 191) (tgt := 192) hx hb d_M_mayHold_1 (by rw [hs1_14]; decide) (by rw [hs1_14]; decide) (by rw [hs1_14]; decide) (by decide) ?_
                                refine lv_iload_n hx hb d_M_mayHold_192 rfl (lv_at hl 0 rfl) ?_
                                refine lv_bipush (v := 10) hx hb d_M_mayHold_193 (by decide) ?_
                                refine lv_icmp_lt (tgt := 215) hx hb d_M_mayHold_195 (by decide) (fun cc195 => ?_) (fun cc195 => ?_)
                                · have hE := hE.1 cc195
                                  refine lv_iconst (v := 0) hx hb d_M_mayHold_215 (by decide) ?_
                                  exact W.zret (v := 0) hx hb hr rfl (fun t ht hW => ⟨_, rfl, hE, ht⟩) (fun q h => by cases h) d_M_mayHold_216
                                · have hE := hE.2 cc195
                                  refine lv_iload_n hx hb d_M_mayHold_198 rfl (lv_at hl 0 rfl) ?_
                                  refine lv_bipush (v := 15) hx hb d_M_mayHold_199 (by decide) ?_
                                  refine lv_icmp_gt (tgt := 215) hx hb d_M_mayHold_201 (by decide) (fun cc201 => ?_) (fun cc201 => ?_)
                                  · have hE := hE.1 cc201
                                    refine lv_iconst (v := 0) hx hb d_M_mayHold_215 (by decide) ?_
                                    exact W.zret (v := 0) hx hb hr rfl (fun t ht hW => ⟨_, rfl, hE, ht⟩) (fun q h => by cases h) d_M_mayHold_216
                                  · have hE := hE.2 cc201
                                    refine lv_iload_n hx hb d_M_mayHold_204 rfl (lv_at hl 1 rfl) ?_
                                    refine ro_S  (As := [.int x1]) (rest := []) ⟨hx, hb, hml, hown, hta⟩ (c_M_isInlineKind l x1  _ hE) ok_M_266 ⟨Nat.le_of_ble_eq_true rfl, Nat.le_of_ble_eq_true rfl⟩ blind_true  (fun _ _ _ => trivial) rfl hl.1 rfl (Nat.le_of_ble_eq_true rfl) d_M_mayHold_205 ⟨Nat.zero_le _, Nat.zero_le _⟩ (fun r205 hE => ?_)
                                    refine lv_if_eq (tgt := 215) hx hb d_M_mayHold_208 (by decide) (fun cc208 => ?_) (fun cc208 => ?_)
                                    · have hE := hE.1 cc208
                                      refine lv_iconst (v := 0) hx hb d_M_mayHold_215 (by decide) ?_
                                      exact W.zret (v := 0) hx hb hr rfl (fun t ht hW => ⟨_, rfl, hE, ht⟩) (fun q h => by cases h) d_M_mayHold_216
                                    · have hE := hE.2 cc208
                                      refine lv_iconst (v := 1) hx hb d_M_mayHold_211 (by decide) ?_
                                      refine lv_goto (tgt := 216) hx hb d_M_mayHold_212 (by decide) ?_
                                      exact W.zret (v := 1) hx hb hr rfl (fun t ht hW => ⟨_, rfl, hE, ht⟩) (fun q h => by cases h) d_M_mayHold_216
                              · have hE := hE.2 hs1_14
                                by_cases hs1_15 : x0 = 14
                                · have hE := hE.1 hs1_15
                                  refine lv_tableIn (off := 191) (tgt := 192) hx hb d_M_mayHold_1 (by rw [hs1_15]; decide) (by rw [hs1_15]; decide) (by rw [hs1_15]; decide) (by decide) ?_
                                  refine lv_iload_n hx hb d_M_mayHold_192 rfl (lv_at hl 0 rfl) ?_
                                  refine lv_bipush (v := 10) hx hb d_M_mayHold_193 (by decide) ?_
                                  refine lv_icmp_lt (tgt := 215) hx hb d_M_mayHold_195 (by decide) (fun cc195 => ?_) (fun cc195 => ?_)
                                  · have hE := hE.1 cc195
                                    refine lv_iconst (v := 0) hx hb d_M_mayHold_215 (by decide) ?_
                                    exact W.zret (v := 0) hx hb hr rfl (fun t ht hW => ⟨_, rfl, hE, ht⟩) (fun q h => by cases h) d_M_mayHold_216
                                  · have hE := hE.2 cc195
                                    refine lv_iload_n hx hb d_M_mayHold_198 rfl (lv_at hl 0 rfl) ?_
                                    refine lv_bipush (v := 15) hx hb d_M_mayHold_199 (by decide) ?_
                                    refine lv_icmp_gt (tgt := 215) hx hb d_M_mayHold_201 (by decide) (fun cc201 => ?_) (fun cc201 => ?_)
                                    · have hE := hE.1 cc201
                                      refine lv_iconst (v := 0) hx hb d_M_mayHold_215 (by decide) ?_
                                      exact W.zret (v := 0) hx hb hr rfl (fun t ht hW => ⟨_, rfl, hE, ht⟩) (fun q h => by cases h) d_M_mayHold_216
                                    · have hE := hE.2 cc201
                                      refine lv_iload_n hx hb d_M_mayHold_204 rfl (lv_at hl 1 rfl) ?_
                                      refine ro_S  (As := [.int x1]) (rest := []) ⟨hx, hb, hml, hown, hta⟩ (c_M_isInlineKind l x1  _ hE) ok_M_266 ⟨Nat.le_of_ble_eq_true rfl, Nat.le_of_ble_eq_true rfl⟩ blind_true  (fun _ _ _ => trivial) rfl hl.1 rfl (Nat.le_of_ble_eq_true rfl) d_M_mayHold_205 ⟨Nat.zero_le _, Nat.zero_le _⟩ (fun r205 hE => ?_)
                                      refine lv_if_eq (tgt := 215) hx hb d_M_mayHold_208 (by decide) (fun cc208 => ?_) (fun cc208 => ?_)
                                      · have hE := hE.1 cc208
                                        refine lv_iconst (v := 0) hx hb d_M_mayHold_215 (by decide) ?_
                                        exact W.zret (v := 0) hx hb hr rfl (fun t ht hW => ⟨_, rfl, hE, ht⟩) (fun q h => by cases h) d_M_mayHold_216
                                      · have hE := hE.2 cc208
                                        refine lv_iconst (v := 1) hx hb d_M_mayHold_211 (by decide) ?_
                                        refine lv_goto (tgt := 216) hx hb d_M_mayHold_212 (by decide) ?_
                                        exact W.zret (v := 1) hx hb hr rfl (fun t ht hW => ⟨_, rfl, hE, ht⟩) (fun q h => by cases h) d_M_mayHold_216
                                · have hE := hE.2 hs1_15
                                  by_cases hs1_16 : x0 = 15
                                  · have hE := hE.1 hs1_16
                                    refine lv_tableIn (off := 191) (tgt := 192) hx hb d_M_mayHold_1 (by rw [hs1_16]; decide) (by rw [hs1_16]; decide) (by rw [hs1_16]; decide) (by decide) ?_
                                    refine lv_iload_n hx hb d_M_mayHold_192 rfl (lv_at hl 0 rfl) ?_
                                    refine lv_bipush (v := 10) hx hb d_M_mayHold_193 (by decide) ?_
                                    refine lv_icmp_lt (tgt := 215) hx hb d_M_mayHold_195 (by decide) (fun cc195 => ?_) (fun cc195 => ?_)
                                    · have hE := hE.1 cc195
                                      refine lv_iconst (v := 0) hx hb d_M_mayHold_215 (by decide) ?_
                                      exact W.zret (v := 0) hx hb hr rfl (fun t ht hW => ⟨_, rfl, hE, ht⟩) (fun q h => by cases h) d_M_mayHold_216
                                    · have hE := hE.2 cc195
                                      refine lv_iload_n hx hb d_M_mayHold_198 rfl (lv_at hl 0 rfl) ?_
                                      refine lv_bipush (v := 15) hx hb d_M_mayHold_199 (by decide) ?_
                                      refine lv_icmp_gt (tgt := 215) hx hb d_M_mayHold_201 (by decide) (fun cc201 => ?_) (fun cc201 => ?_)
                                      · have hE := hE.1 cc201
                                        refine lv_iconst (v := 0) hx hb d_M_mayHold_215 (by decide) ?_
                                        exact W.zret (v := 0) hx hb hr rfl (fun t ht hW => ⟨_, rfl, hE, ht⟩) (fun q h => by cases h) d_M_mayHold_216
                                      · have hE := hE.2 cc201
                                        refine lv_iload_n hx hb d_M_mayHold_204 rfl (lv_at hl 1 rfl) ?_
                                        refine ro_S  (As := [.int x1]) (rest := []) ⟨hx, hb, hml, hown, hta⟩ (c_M_isInlineKind l x1  _ hE) ok_M_266 ⟨Nat.le_of_ble_eq_true rfl, Nat.le_of_ble_eq_true rfl⟩ blind_true  (fun _ _ _ => trivial) rfl hl.1 rfl (Nat.le_of_ble_eq_true rfl) d_M_mayHold_205 ⟨Nat.zero_le _, Nat.zero_le _⟩ (fun r205 hE => ?_)
                                        refine lv_if_eq (tgt := 215) hx hb d_M_mayHold_208 (by decide) (fun cc208 => ?_) (fun cc208 => ?_)
                                        · have hE := hE.1 cc208
                                          refine lv_iconst (v := 0) hx hb d_M_mayHold_215 (by decide) ?_
                                          exact W.zret (v := 0) hx hb hr rfl (fun t ht hW => ⟨_, rfl, hE, ht⟩) (fun q h => by cases h) d_M_mayHold_216
                                        · have hE := hE.2 cc208
                                          refine lv_iconst (v := 1) hx hb d_M_mayHold_211 (by decide) ?_
                                          refine lv_goto (tgt := 216) hx hb d_M_mayHold_212 (by decide) ?_
                                          exact W.zret (v := 1) hx hb hr rfl (fun t ht hW => ⟨_, rfl, hE, ht⟩) (fun q h => by cases h) d_M_mayHold_216
                                  · have hE := hE.2 hs1_16
                                    by_cases hs1_17 : x0 = 16
                                    · have hE := hE.1 hs1_17
                                      refine lv_tableIn (off := 186) (tgt := 187) hx hb d_M_mayHold_1 (by rw [hs1_17]; decide) (by rw [hs1_17]; decide) (by rw [hs1_17]; decide) (by decide) ?_
                                      refine lv_iload_n hx hb d_M_mayHold_187 rfl (lv_at hl 1 rfl) ?_
                                      refine ro_S  (As := [.int x1]) (rest := []) ⟨hx, hb, hml, hown, hta⟩ (c_M_isInlineKind l x1  _ hE) ok_M_266 ⟨Nat.le_of_ble_eq_true rfl, Nat.le_of_ble_eq_true rfl⟩ blind_true  (fun _ _ _ => trivial) rfl hl.1 rfl (Nat.le_of_ble_eq_true rfl) d_M_mayHold_188 ⟨Nat.zero_le _, Nat.zero_le _⟩ (fun r188 hE => ?_)
                                      obtain ⟨hN, hE⟩ := hE
                                      exact W.zret (v := r188) hx hb hr hN (fun t ht hW => ⟨_, rfl, hE, ht⟩) (fun q h => by cases h) d_M_mayHold_191
                                    · have hE := hE.2 hs1_17
                                      by_cases hs1_18 : x0 = 17
                                      · have hE := hE.1 hs1_18
                                        refine lv_tableIn (off := 186) (tgt := 187) hx hb d_M_mayHold_1 (by rw [hs1_18]; decide) (by rw [hs1_18]; decide) (by rw [hs1_18]; decide) (by decide) ?_
                                        refine lv_iload_n hx hb d_M_mayHold_187 rfl (lv_at hl 1 rfl) ?_
                                        refine ro_S  (As := [.int x1]) (rest := []) ⟨hx, hb, hml, hown, hta⟩ (c_M_isInlineKind l x1  _ hE) ok_M_266 ⟨Nat.le_of_ble_eq_true rfl, Nat.le_of_ble_eq_true rfl⟩ blind_true  (fun _ _ _ => trivial) rfl hl.1 rfl (Nat.le_of_ble_eq_true rfl) d_M_mayHold_188 ⟨Nat.zero_le _, Nat.zero_le _⟩ (fun r188 hE => ?_)
                                        obtain ⟨hN, hE⟩ := hE
                                        exact W.zret (v := r188) hx hb hr hN (fun t ht hW => ⟨_, rfl, hE, ht⟩) (fun q h => by cases h) d_M_mayHold_191
                                      · have hE := hE.2 hs1_18
                                        by_cases hs1_19 : x0 = 18
                                        · have hE := hE.1 hs1_19
                                          refine lv_tableIn (off := 186) (tgt := 187) hx hb d_M_mayHold_1 (by rw [hs1_19]; decide) (by rw [hs1_19]; decide) (by rw [hs1_19]; decide) (by decide) ?_
                                          refine lv_iload_n hx hb d_M_mayHold_187 rfl (lv_at hl 1 rfl) ?_
                                          refine ro_S  (As := [.int x1]) (rest := []) ⟨hx, hb, hml, hown, hta⟩ (c_M_isInlineKind l x1  _ hE) ok_M_266 ⟨Nat.le_of_ble_eq_true rfl, Nat.le_of_ble_eq_true rfl⟩ blind_true  (fun _ _ _ => trivial) rfl hl.1 rfl (Nat.le_of_ble_eq_true rfl) d_M_mayHold_188 ⟨Nat.zero_le _, Nat.zero_le _⟩ (fun r188 hE => ?_)
                                          obtain ⟨hN, hE⟩ := hE
                                          exact W.zret (v := r188) hx hb hr hN (fun t ht hW => ⟨_, rfl, hE, ht⟩) (fun q h => by cases h) d_M_mayHold_191
                                        · have hE := hE.2 hs1_19
                                          by_cases hs1_20 : x0 = 19
                                          · have hE := hE.1 hs1_20
                                            refine lv_tableIn (off := 174) (tgt := 175) hx hb d_M_mayHold_1 (by rw [hs1_20]; decide) (by rw [hs1_20]; decide) (by rw [hs1_20]; decide) (by decide) ?_
                                            refine lv_iload_n hx hb d_M_mayHold_175 rfl (lv_at hl 1 rfl) ?_
                                            refine lv_bipush (v := 20) hx hb d_M_mayHold_176 (by decide) ?_
                                            refine lv_icmp_ne (tgt := 185) hx hb d_M_mayHold_178 (by decide) (fun cc178 => ?_) (fun cc178 => ?_)
                                            · have hE := hE.2 cc178
                                              refine lv_iconst (v := 0) hx hb d_M_mayHold_185 (by decide) ?_
                                              exact W.zret (v := 0) hx hb hr rfl (fun t ht hW => ⟨_, rfl, hE, ht⟩) (fun q h => by cases h) d_M_mayHold_186
                                            · have hE := hE.1 cc178
                                              refine lv_iconst (v := 1) hx hb d_M_mayHold_181 (by decide) ?_
                                              refine lv_goto (tgt := 186) hx hb d_M_mayHold_182 (by decide) ?_
                                              exact W.zret (v := 1) hx hb hr rfl (fun t ht hW => ⟨_, rfl, hE, ht⟩) (fun q h => by cases h) d_M_mayHold_186
                                          · have hE := hE.2 hs1_20
                                            refine lv_tableOut (tgt := 192) hx hb d_M_mayHold_1 (by have hq := And.intro True.intro (And.intro True.intro True.intro); have q0 := lv_neT hs1_0 (a := (-1)) (by decide); have q1 := lv_neT hs1_1 (a := 0) (by decide); have q2 := lv_neT hs1_2 (a := 1) (by decide); have q3 := lv_neT hs1_3 (a := 2) (by decide); have q4 := lv_neT hs1_4 (a := 3) (by decide); have q5 := lv_neT hs1_5 (a := 4) (by decide); have q6 := lv_neT hs1_6 (a := 5) (by decide); have q7 := lv_neT hs1_7 (a := 6) (by decide); have q8 := lv_neT hs1_8 (a := 7) (by decide); have q9 := lv_neT hs1_9 (a := 8) (by decide); have q10 := lv_neT hs1_10 (a := 9) (by decide); have q11 := lv_neT hs1_11 (a := 10) (by decide); have q12 := lv_neT hs1_12 (a := 11) (by decide); have q13 := lv_neT hs1_13 (a := 12) (by decide); have q14 := lv_neT hs1_14 (a := 13) (by decide); have q15 := lv_neT hs1_15 (a := 14) (by decide); have q16 := lv_neT hs1_16 (a := 15) (by decide); have q17 := lv_neT hs1_17 (a := 16) (by decide); have q18 := lv_neT hs1_18 (a := 17) (by decide); have q19 := lv_neT hs1_19 (a := 18) (by decide); have q20 := lv_neT hs1_20 (a := 19) (by decide); omega) (by decide) ?_
                                            refine lv_iload_n hx hb d_M_mayHold_192 rfl (lv_at hl 0 rfl) ?_
                                            refine lv_bipush (v := 10) hx hb d_M_mayHold_193 (by decide) ?_
                                            refine lv_icmp_lt (tgt := 215) hx hb d_M_mayHold_195 (by decide) (fun cc195 => ?_) (fun cc195 => ?_)
                                            · have hE := hE.1 cc195
                                              refine lv_iconst (v := 0) hx hb d_M_mayHold_215 (by decide) ?_
                                              exact W.zret (v := 0) hx hb hr rfl (fun t ht hW => ⟨_, rfl, hE, ht⟩) (fun q h => by cases h) d_M_mayHold_216
                                            · have hE := hE.2 cc195
                                              refine lv_iload_n hx hb d_M_mayHold_198 rfl (lv_at hl 0 rfl) ?_
                                              refine lv_bipush (v := 15) hx hb d_M_mayHold_199 (by decide) ?_
                                              refine lv_icmp_gt (tgt := 215) hx hb d_M_mayHold_201 (by decide) (fun cc201 => ?_) (fun cc201 => ?_)
                                              · have hE := hE.1 cc201
                                                refine lv_iconst (v := 0) hx hb d_M_mayHold_215 (by decide) ?_
                                                exact W.zret (v := 0) hx hb hr rfl (fun t ht hW => ⟨_, rfl, hE, ht⟩) (fun q h => by cases h) d_M_mayHold_216
                                              · have hE := hE.2 cc201
                                                refine lv_iload_n hx hb d_M_mayHold_204 rfl (lv_at hl 1 rfl) ?_
                                                refine ro_S  (As := [.int x1]) (rest := []) ⟨hx, hb, hml, hown, hta⟩ (c_M_isInlineKind l x1  _ hE) ok_M_266 ⟨Nat.le_of_ble_eq_true rfl, Nat.le_of_ble_eq_true rfl⟩ blind_true  (fun _ _ _ => trivial) rfl hl.1 rfl (Nat.le_of_ble_eq_true rfl) d_M_mayHold_205 ⟨Nat.zero_le _, Nat.zero_le _⟩ (fun r205 hE => ?_)
                                                refine lv_if_eq (tgt := 215) hx hb d_M_mayHold_208 (by decide) (fun cc208 => ?_) (fun cc208 => ?_)
                                                · have hE := hE.1 cc208
                                                  refine lv_iconst (v := 0) hx hb d_M_mayHold_215 (by decide) ?_
                                                  exact W.zret (v := 0) hx hb hr rfl (fun t ht hW => ⟨_, rfl, hE, ht⟩) (fun q h => by cases h) d_M_mayHold_216
                                                · have hE := hE.2 cc208
                                                  refine lv_iconst (v := 1) hx hb d_M_mayHold_211 (by decide) ?_
                                                  refine lv_goto (tgt := 216) hx hb d_M_mayHold_212 (by decide) ?_
                                                  exact W.zret (v := 1) hx hb hr rfl (fun t ht hW => ⟨_, rfl, hE, ht⟩) (fun q h => by cases h) d_M_mayHold_216

theorem d_M_mayHaveText_0 : decode b_M_mayHaveText 0 = .ok (.iload_n 0, 1) := by decide +kernel
theorem d_M_mayHaveText_1 : decode b_M_mayHaveText 1 = .ok (.iconst 3, 1) := by decide +kernel
theorem d_M_mayHaveText_2 : decode b_M_mayHaveText 2 = .ok (.if_icmp .eq 51, 3) := by decide +kernel
theorem d_M_mayHaveText_5 : decode b_M_mayHaveText 5 = .ok (.iload_n 0, 1) := by decide +kernel
theorem d_M_mayHaveText_6 : decode b_M_mayHaveText 6 = .ok (.bipush 8, 2) := by decide +kernel
theorem d_M_mayHaveText_8 : decode b_M_mayHaveText 8 = .ok (.if_icmp .eq 45, 3) := by decide +kernel
theorem d_M_mayHaveText_11 : decode b_M_mayHaveText 11 = .ok (.iload_n 0, 1) := by decide +kernel
theorem d_M_mayHaveText_12 : decode b_M_mayHaveText 12 = .ok (.bipush 9, 2) := by decide +kernel
theorem d_M_mayHaveText_14 : decode b_M_mayHaveText 14 = .ok (.if_icmp .eq 39, 3) := by decide +kernel
theorem d_M_mayHaveText_17 : decode b_M_mayHaveText 17 = .ok (.iload_n 0, 1) := by decide +kernel
theorem d_M_mayHaveText_18 : decode b_M_mayHaveText 18 = .ok (.bipush 10, 2) := by decide +kernel
theorem d_M_mayHaveText_20 : decode b_M_mayHaveText 20 = .ok (.if_icmp .lt 9, 3) := by decide +kernel
theorem d_M_mayHaveText_23 : decode b_M_mayHaveText 23 = .ok (.iload_n 0, 1) := by decide +kernel
theorem d_M_mayHaveText_24 : decode b_M_mayHaveText 24 = .ok (.bipush 15, 2) := by decide +kernel
theorem d_M_mayHaveText_26 : decode b_M_mayHaveText 26 = .ok (.if_icmp .le 27, 3) := by decide +kernel
theorem d_M_mayHaveText_29 : decode b_M_mayHaveText 29 = .ok (.iload_n 0, 1) := by decide +kernel
theorem d_M_mayHaveText_30 : decode b_M_mayHaveText 30 = .ok (.bipush 16, 2) := by decide +kernel
theorem d_M_mayHaveText_32 : decode b_M_mayHaveText 32 = .ok (.if_icmp .eq 21, 3) := by decide +kernel
theorem d_M_mayHaveText_35 : decode b_M_mayHaveText 35 = .ok (.iload_n 0, 1) := by decide +kernel
theorem d_M_mayHaveText_36 : decode b_M_mayHaveText 36 = .ok (.bipush 17, 2) := by decide +kernel
theorem d_M_mayHaveText_38 : decode b_M_mayHaveText 38 = .ok (.if_icmp .eq 15, 3) := by decide +kernel
theorem d_M_mayHaveText_41 : decode b_M_mayHaveText 41 = .ok (.iload_n 0, 1) := by decide +kernel
theorem d_M_mayHaveText_42 : decode b_M_mayHaveText 42 = .ok (.bipush 18, 2) := by decide +kernel
theorem d_M_mayHaveText_44 : decode b_M_mayHaveText 44 = .ok (.if_icmp .eq 9, 3) := by decide +kernel
theorem d_M_mayHaveText_47 : decode b_M_mayHaveText 47 = .ok (.iload_n 0, 1) := by decide +kernel
theorem d_M_mayHaveText_48 : decode b_M_mayHaveText 48 = .ok (.bipush 20, 2) := by decide +kernel
theorem d_M_mayHaveText_50 : decode b_M_mayHaveText 50 = .ok (.if_icmp .ne 7, 3) := by decide +kernel
theorem d_M_mayHaveText_53 : decode b_M_mayHaveText 53 = .ok (.iconst 1, 1) := by decide +kernel
theorem d_M_mayHaveText_54 : decode b_M_mayHaveText 54 = .ok (.goto 4, 3) := by decide +kernel
theorem d_M_mayHaveText_57 : decode b_M_mayHaveText 57 = .ok (.iconst 0, 1) := by decide +kernel
theorem d_M_mayHaveText_58 : decode b_M_mayHaveText 58 = .ok (.ireturn, 1) := by decide +kernel
def w_M_mayHaveText_J53   (post : Int32 → Prop)  : Prop := post 1
def w_M_mayHaveText_J29   (post : Int32 → Prop) (v0 : Int32) : Prop := ((v0 = 16 → w_M_mayHaveText_J53 post ) ∧ (¬ v0 = 16 → ((v0 = 17 → w_M_mayHaveText_J53 post ) ∧ (¬ v0 = 17 → ((v0 = 18 → w_M_mayHaveText_J53 post ) ∧ (¬ v0 = 18 → ((v0 = 20 → w_M_mayHaveText_J53 post ) ∧ (¬ v0 = 20 → post 0))))))))
def w_M_mayHaveText   (x0 : Int32) (post : Int32 → Prop) : Prop := ((x0 = 3 → w_M_mayHaveText_J53 post ) ∧ (¬ x0 = 3 → ((x0 = 8 → w_M_mayHaveText_J53 post ) ∧ (¬ x0 = 8 → ((x0 = 9 → w_M_mayHaveText_J53 post ) ∧ (¬ x0 = 9 → ((x0 < 10 → w_M_mayHaveText_J29 post x0) ∧ (¬ x0 < 10 → ((x0 ≤ 15 → w_M_mayHaveText_J53 post ) ∧ (¬ x0 ≤ 15 → w_M_mayHaveText_J29 post x0))))))))))
set_option maxHeartbeats 4000000 in
set_option maxRecDepth 100000 in
theorem c_M_mayHaveText (l : Launch)   (x0 : Int32)  (post : Int32 → Prop) (hE : w_M_mayHaveText x0 post) : Met l y_M_mayHaveText ws_M_mayHaveText { frames := 0, cells := 0, slots := 0, locals := 0 } (va_Pc [.int x0] (fun _ => True)) (vp_Si post) 0 0 (fun _ => False) := by
  refine Met.ofW (cc := b_M_mayHaveText) (maxL := 1) (ret := (some .boolean)) (by decide) rfl ?_
  intro p e s m args below meth c s₁ B hml hv
  obtain ⟨rfl, -⟩ := hv
  have hS : va_S (fun _ : Nat => False) s.heap s.heap [] := va_S.rf
  have hx := B.exec
  have hb := B.bytes
  have hr := B.returns
  have hta : ∀ w ∈ aW, w.before _ s = true := fun w h => atoms_spec (ws := ws_M_mayHaveText) B.pre w (List.mem_cons_of_mem _ h)
  have hown : s.vm.findClass R_M = some m.cls := findClass_of_methodNamed B.named
  have hlocks := B.notSynchronized
  have hl := lv_entry ([.int x0]) (n := 1) (Nat.le_of_ble_eq_true rfl)
  rw [lg_entry_eq]
  generalize (lg_sl ([.int x0]) ++ List.replicate (1 - (lg_sl ([.int x0])).length) Slot.unset).toArray = ls at hl ⊢
  have hl : lv_has ls 1 [(0, .int x0)] := hl
  have J53 : ∀ (ls : Array Slot) (hl : lv_has ls 1 []) (hE : w_M_mayHaveText_J53 post ), W p l e (headSpec ws_M_mayHaveText { frames := 0, cells := 0, slots := 0, locals := 0 }).room s m ([.int x0] : List Value).toArray below meth c s.heap [] 0 0 (MQ below (vp_Si post) ([.int x0] : List Value).toArray s 0 0 (fun _ => False)) (F0 m 53 ls []) := by
    intro  ls hl hE
    unfold w_M_mayHaveText_J53 at hE
    refine lv_iconst (v := 1) hx hb d_M_mayHaveText_53 (by decide) ?_
    refine lv_goto (tgt := 58) hx hb d_M_mayHaveText_54 (by decide) ?_
    exact W.zret (v := 1) hx hb hr rfl (fun t ht hW => ⟨_, rfl, hE, ht⟩) (fun q h => by cases h) d_M_mayHaveText_58
  have J29 : ∀ (v0 : Int32) (ls : Array Slot) (hl : lv_has ls 1 [(0, .int v0)]) (hE : w_M_mayHaveText_J29 post v0), W p l e (headSpec ws_M_mayHaveText { frames := 0, cells := 0, slots := 0, locals := 0 }).room s m ([.int x0] : List Value).toArray below meth c s.heap [] 0 0 (MQ below (vp_Si post) ([.int x0] : List Value).toArray s 0 0 (fun _ => False)) (F0 m 29 ls []) := by
    intro  v0 ls hl hE
    unfold w_M_mayHaveText_J29 at hE
    refine lv_iload_n hx hb d_M_mayHaveText_29 rfl (lv_at hl 0 rfl) ?_
    refine lv_bipush (v := 16) hx hb d_M_mayHaveText_30 (by decide) ?_
    refine lv_icmp_eq (tgt := 53) hx hb d_M_mayHaveText_32 (by decide) (fun cc32 => ?_) (fun cc32 => ?_)
    · have hE := hE.1 cc32
      exact J53   _ (lv_sub hl [] rfl) hE
    · have hE := hE.2 cc32
      refine lv_iload_n hx hb d_M_mayHaveText_35 rfl (lv_at hl 0 rfl) ?_
      refine lv_bipush (v := 17) hx hb d_M_mayHaveText_36 (by decide) ?_
      refine lv_icmp_eq (tgt := 53) hx hb d_M_mayHaveText_38 (by decide) (fun cc38 => ?_) (fun cc38 => ?_)
      · have hE := hE.1 cc38
        exact J53   _ (lv_sub hl [] rfl) hE
      · have hE := hE.2 cc38
        refine lv_iload_n hx hb d_M_mayHaveText_41 rfl (lv_at hl 0 rfl) ?_
        refine lv_bipush (v := 18) hx hb d_M_mayHaveText_42 (by decide) ?_
        refine lv_icmp_eq (tgt := 53) hx hb d_M_mayHaveText_44 (by decide) (fun cc44 => ?_) (fun cc44 => ?_)
        · have hE := hE.1 cc44
          exact J53   _ (lv_sub hl [] rfl) hE
        · have hE := hE.2 cc44
          refine lv_iload_n hx hb d_M_mayHaveText_47 rfl (lv_at hl 0 rfl) ?_
          refine lv_bipush (v := 20) hx hb d_M_mayHaveText_48 (by decide) ?_
          refine lv_icmp_ne (tgt := 57) hx hb d_M_mayHaveText_50 (by decide) (fun cc50 => ?_) (fun cc50 => ?_)
          · have hE := hE.2 cc50
            refine lv_iconst (v := 0) hx hb d_M_mayHaveText_57 (by decide) ?_
            exact W.zret (v := 0) hx hb hr rfl (fun t ht hW => ⟨_, rfl, hE, ht⟩) (fun q h => by cases h) d_M_mayHaveText_58
          · have hE := hE.1 cc50
            exact J53   _ (lv_sub hl [] rfl) hE
  unfold w_M_mayHaveText at hE
  refine lv_iload_n hx hb d_M_mayHaveText_0 rfl (lv_at hl 0 rfl) ?_
  refine lv_iconst (v := 3) hx hb d_M_mayHaveText_1 (by decide) ?_
  refine lv_icmp_eq (tgt := 53) hx hb d_M_mayHaveText_2 (by decide) (fun cc2 => ?_) (fun cc2 => ?_)
  · have hE := hE.1 cc2
    exact J53   _ (lv_sub hl [] rfl) hE
  · have hE := hE.2 cc2
    refine lv_iload_n hx hb d_M_mayHaveText_5 rfl (lv_at hl 0 rfl) ?_
    refine lv_bipush (v := 8) hx hb d_M_mayHaveText_6 (by decide) ?_
    refine lv_icmp_eq (tgt := 53) hx hb d_M_mayHaveText_8 (by decide) (fun cc8 => ?_) (fun cc8 => ?_)
    · have hE := hE.1 cc8
      exact J53   _ (lv_sub hl [] rfl) hE
    · have hE := hE.2 cc8
      refine lv_iload_n hx hb d_M_mayHaveText_11 rfl (lv_at hl 0 rfl) ?_
      refine lv_bipush (v := 9) hx hb d_M_mayHaveText_12 (by decide) ?_
      refine lv_icmp_eq (tgt := 53) hx hb d_M_mayHaveText_14 (by decide) (fun cc14 => ?_) (fun cc14 => ?_)
      · have hE := hE.1 cc14
        exact J53   _ (lv_sub hl [] rfl) hE
      · have hE := hE.2 cc14
        refine lv_iload_n hx hb d_M_mayHaveText_17 rfl (lv_at hl 0 rfl) ?_
        refine lv_bipush (v := 10) hx hb d_M_mayHaveText_18 (by decide) ?_
        refine lv_icmp_lt (tgt := 29) hx hb d_M_mayHaveText_20 (by decide) (fun cc20 => ?_) (fun cc20 => ?_)
        · have hE := hE.1 cc20
          exact J29  x0 _ (lv_sub hl [0] rfl) hE
        · have hE := hE.2 cc20
          refine lv_iload_n hx hb d_M_mayHaveText_23 rfl (lv_at hl 0 rfl) ?_
          refine lv_bipush (v := 15) hx hb d_M_mayHaveText_24 (by decide) ?_
          refine lv_icmp_le (tgt := 53) hx hb d_M_mayHaveText_26 (by decide) (fun cc26 => ?_) (fun cc26 => ?_)
          · have hE := hE.1 cc26
            exact J53   _ (lv_sub hl [] rfl) hE
          · have hE := hE.2 cc26
            exact J29  x0 _ (lv_sub hl [0] rfl) hE
