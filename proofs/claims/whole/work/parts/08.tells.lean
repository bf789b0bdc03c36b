-- printed by wip/gen: contracts with functions of the signs; texts, kinds, the book as it tells
theorem f_Signs_isWhite (l : Launch)   (x0 : Int32)   : Met l y_Signs_isWhite ws_Signs_isWhite { frames := 0, cells := 0, slots := 0, locals := 0 } (va_Pc [.int x0] (fun _ => True)) (vp_Si (fun r => r = b2i (cWh x0))) 0 0 (fun _ => False) := c_Signs_isWhite l   x0 _  (l_isWhite  x0 )

theorem f_Signs_isDigit (l : Launch)   (x0 : Int32)   : Met l y_Signs_isDigit ws_Signs_isDigit { frames := 0, cells := 0, slots := 0, locals := 0 } (va_Pc [.int x0] (fun _ => True)) (vp_Si (fun r => r = b2i (cDg x0))) 0 0 (fun _ => False) := c_Signs_isDigit l   x0 _  (l_isDigit  x0 )

theorem f_Signs_beginsName (l : Launch)   (x0 : Int32)   : Met l y_Signs_beginsName ws_Signs_beginsName { frames := 0, cells := 0, slots := 0, locals := 0 } (va_Pc [.int x0] (fun _ => True)) (vp_Si (fun r => r = b2i (cBn x0))) 0 0 (fun _ => False) := c_Signs_beginsName l   x0 _  (l_beginsName  x0 )

theorem f_Signs_isCharacter (l : Launch)   (x0 : Int32)   : Met l y_Signs_isCharacter ws_Signs_isCharacter { frames := 0, cells := 0, slots := 0, locals := 0 } (va_Pc [.int x0] (fun _ => True)) (vp_Si (fun r => r = b2i (cCh x0))) 0 0 (fun _ => False) := c_Signs_isCharacter l   x0 _  (l_isCharacter  x0 )

theorem f_Signs_bytesOf (l : Launch)   (x0 : Int32)   : Met l y_Signs_bytesOf ws_Signs_bytesOf { frames := 0, cells := 0, slots := 0, locals := 0 } (va_Pc [.int x0] (fun _ => True)) (vp_Si (fun r => r = cBy x0)) 0 0 (fun _ => False) := c_Signs_bytesOf l   x0 _  (l_bytesOf  x0 )
theorem ok_Signs_9 : okS "PlainPages$Signs" 9 y_Signs_beginsName b_Signs_beginsName 1 (some .boolean) 1 := ⟨aW_in 470 (by decide +kernel) rfl, aW_in 465 (by decide +kernel) rfl, aW_in 97 (by decide +kernel) rfl, cd_Signs_beginsName, by decide +kernel, by decide +kernel, by decide +kernel⟩
theorem ok_Signs_15 : okS "PlainPages$Signs" 15 y_Signs_isDigit b_Signs_isDigit 1 (some .boolean) 1 := ⟨aW_in 471 (by decide +kernel) rfl, aW_in 472 (by decide +kernel) rfl, aW_in 97 (by decide +kernel) rfl, cd_Signs_isDigit, by decide +kernel, by decide +kernel, by decide +kernel⟩
theorem ok_Signs_21 : okS "PlainPages$Signs" 21 y_Signs_isWhite b_Signs_isWhite 1 (some .boolean) 1 := ⟨aW_in 574 (by decide +kernel) rfl, aW_in 446 (by decide +kernel) rfl, aW_in 97 (by decide +kernel) rfl, cd_Signs_isWhite, by decide +kernel, by decide +kernel, by decide +kernel⟩
theorem ct_Signs_24 : Cond.constant "PlainPages$Signs" 24 (65534) ∈ aW := aW_in 575 (by decide +kernel) rfl
theorem ct_Signs_25 : Cond.constant "PlainPages$Signs" 25 (65535) ∈ aW := aW_in 576 (by decide +kernel) rfl
theorem fl_Str_38 : Cond.fieldLink "java/lang/String" 38 "java/lang/String" "COMPACT_STRINGS" "Z" ∈ aW := aW_in 399 (by decide +kernel) rfl
theorem fl_Str_15 : Cond.fieldLink "java/lang/String" 15 "java/lang/String" "coder" "B" ∈ aW := aW_in 1326 (by decide +kernel) rfl
theorem fl_Str_9 : Cond.fieldLink "java/lang/String" 9 "java/lang/String" "value" "[B" ∈ aW := aW_in 1325 (by decide +kernel) rfl
theorem ok_Str_335 : okV "java/lang/String" 335 R_Str y_Str_coder b_Str_coder 1 (some .byte) 0 := ⟨aW_in 395 (by decide +kernel) rfl, aW_in 396 (by decide +kernel) rfl, aW_in 397 (by decide +kernel) rfl, aW_in 93 (by decide +kernel) rfl, cd_Str_coder, rfl, by decide +kernel, by decide +kernel, by decide +kernel⟩
theorem fl_Str_1053 : Cond.fieldLink "java/lang/String" 1053 "jdk/internal/util/Preconditions" "SIOOBE_FORMATTER" "Ljava/util/function/BiFunction;" ∈ aW := aW_in 416 (by decide +kernel) rfl
theorem ok_Str_1059 : okS "java/lang/String" 1059 y_Prec_checkIndex b_Prec_checkIndex 3 (some .int) 3 := ⟨aW_in 418 (by decide +kernel) rfl, aW_in 419 (by decide +kernel) rfl, aW_in 95 (by decide +kernel) rfl, cd_Prec_checkIndex, by decide +kernel, by decide +kernel, by decide +kernel⟩
theorem ok_Lat_9 : okS "java/lang/StringLatin1" 9 y_Str_checkIndex b_Str_checkIndex 2 none 2 := ⟨aW_in 413 (by decide +kernel) rfl, aW_in 414 (by decide +kernel) rfl, aW_in 93 (by decide +kernel) rfl, cd_Str_checkIndex, by decide +kernel, by decide +kernel, by decide +kernel⟩
theorem ok_Str_492 : okV "java/lang/String" 492 R_Str y_Str_isLatin1 b_Str_isLatin1 1 (some .boolean) 0 := ⟨aW_in 406 (by decide +kernel) rfl, aW_in 407 (by decide +kernel) rfl, aW_in 408 (by decide +kernel) rfl, aW_in 93 (by decide +kernel) rfl, cd_Str_isLatin1, rfl, by decide +kernel, by decide +kernel, by decide +kernel⟩
theorem ok_Str_495 : okS "java/lang/String" 495 y_Lat_charAt b_Lat_charAt 2 (some .char) 2 := ⟨aW_in 410 (by decide +kernel) rfl, aW_in 411 (by decide +kernel) rfl, aW_in 94 (by decide +kernel) rfl, cd_Lat_charAt, by decide +kernel, by decide +kernel, by decide +kernel⟩
theorem fl_Kind_102 : Cond.fieldLink "PlainPages$Kind" 102 "PlainPages$Kind" "holding" "I" ∈ aW := aW_in 1329 (by decide +kernel) rfl
theorem fl_Kind_105 : Cond.fieldLink "PlainPages$Kind" 105 "PlainPages$Kind" "mayHave" "I" ∈ aW := aW_in 1330 (by decide +kernel) rfl
theorem fl_Kind_108 : Cond.fieldLink "PlainPages$Kind" 108 "PlainPages$Kind" "mustHave" "I" ∈ aW := aW_in 1331 (by decide +kernel) rfl
theorem fl_Book_14 : Cond.fieldLink "PlainPages$Book" 14 "PlainPages$Book" "nodes" "LPlainPages$Table;" ∈ aW := aW_in 159 (by decide +kernel) rfl
theorem ok_Book_40 : okV "PlainPages$Book" 40 R_Table y_Table_size b_Table_size 1 (some .int) 0 := ⟨aW_in 328 (by decide +kernel) rfl, aW_in 329 (by decide +kernel) rfl, aW_in 330 (by decide +kernel) rfl, aW_in 88 (by decide +kernel) rfl, cd_Table_size, rfl, by decide +kernel, by decide +kernel, by decide +kernel⟩
theorem fl_Book_32 : Cond.fieldLink "PlainPages$Book" 32 "PlainPages$Book" "elements" "I" ∈ aW := aW_in 162 (by decide +kernel) rfl
theorem ok_Book_44 : okV "PlainPages$Book" 44 R_Table y_Table_get b_Table_get 4 (some .int) 2 := ⟨aW_in 288 (by decide +kernel) rfl, aW_in 289 (by decide +kernel) rfl, aW_in 290 (by decide +kernel) rfl, aW_in 88 (by decide +kernel) rfl, cd_Table_get, rfl, by decide +kernel, by decide +kernel, by decide +kernel⟩
theorem fl_Book_20 : Cond.fieldLink "PlainPages$Book" 20 "PlainPages$Book" "attributes" "LPlainPages$Table;" ∈ aW := aW_in 160 (by decide +kernel) rfl
theorem fl_Book_28 : Cond.fieldLink "PlainPages$Book" 28 "PlainPages$Book" "letters" "LPlainPages$Strip;" ∈ aW := aW_in 161 (by decide +kernel) rfl
theorem ok_Book_48 : okV "PlainPages$Book" 48 R_Strip y_Strip_get b_Strip_get 2 (some .int) 1 := ⟨aW_in 300 (by decide +kernel) rfl, aW_in 301 (by decide +kernel) rfl, aW_in 302 (by decide +kernel) rfl, aW_in 85 (by decide +kernel) rfl, cd_Strip_get, rfl, by decide +kernel, by decide +kernel, by decide +kernel⟩
theorem d_Signs_goesOnName_0 : decode b_Signs_goesOnName 0 = .ok (.iload_n 0, 1) := by decide +kernel
theorem d_Signs_goesOnName_1 : decode b_Signs_goesOnName 1 = .ok (.invokestatic 9, 3) := by decide +kernel
theorem d_Signs_goesOnName_4 : decode b_Signs_goesOnName 4 = .ok (.ifCond .ne 28, 3) := by decide +kernel
theorem d_Signs_goesOnName_7 : decode b_Signs_goesOnName 7 = .ok (.iload_n 0, 1) := by decide +kernel
theorem d_Signs_goesOnName_8 : decode b_Signs_goesOnName 8 = .ok (.invokestatic 15, 3) := by decide +kernel
theorem d_Signs_goesOnName_11 : decode b_Signs_goesOnName 11 = .ok (.ifCond .ne 21, 3) := by decide +kernel
theorem d_Signs_goesOnName_14 : decode b_Signs_goesOnName 14 = .ok (.iload_n 0, 1) := by decide +kernel
theorem d_Signs_goesOnName_15 : decode b_Signs_goesOnName 15 = .ok (.bipush 45, 2) := by decide +kernel
theorem d_Signs_goesOnName_17 : decode b_Signs_goesOnName 17 = .ok (.if_icmp .eq 15, 3) := by decide +kernel
theorem d_Signs_goesOnName_20 : decode b_Signs_goesOnName 20 = .ok (.iload_n 0, 1) := by decide +kernel
theorem d_Signs_goesOnName_21 : decode b_Signs_goesOnName 21 = .ok (.bipush 46, 2) := by decide +kernel
theorem d_Signs_goesOnName_23 : decode b_Signs_goesOnName 23 = .ok (.if_icmp .eq 9, 3) := by decide +kernel
theorem d_Signs_goesOnName_26 : decode b_Signs_goesOnName 26 = .ok (.iload_n 0, 1) := by decide +kernel
theorem d_Signs_goesOnName_27 : decode b_Signs_goesOnName 27 = .ok (.bipush 58, 2) := by decide +kernel
theorem d_Signs_goesOnName_29 : decode b_Signs_goesOnName 29 = .ok (.if_icmp .ne 7, 3) := by decide +kernel
theorem d_Signs_goesOnName_32 : decode b_Signs_goesOnName 32 = .ok (.iconst 1, 1) := by decide +kernel
theorem d_Signs_goesOnName_33 : decode b_Signs_goesOnName 33 = .ok (.goto 4, 3) := by decide +kernel
theorem d_Signs_goesOnName_36 : decode b_Signs_goesOnName 36 = .ok (.iconst 0, 1) := by decide +kernel
theorem d_Signs_goesOnName_37 : decode b_Signs_goesOnName 37 = .ok (.ireturn, 1) := by decide +kernel
def w_Signs_goesOnName_J32   (post : Int32 → Prop)  : Prop := post 1
def w_Signs_goesOnName   (x0 : Int32) (post : Int32 → Prop) : Prop := (((b2i (cBn x0)) = 0 → (((b2i (cDg x0)) = 0 → ((x0 = 45 → w_Signs_goesOnName_J32 post ) ∧ (¬ x0 = 45 → ((x0 = 46 → w_Signs_goesOnName_J32 post ) ∧ (¬ x0 = 46 → ((x0 = 58 → w_Signs_goesOnName_J32 post ) ∧ (¬ x0 = 58 → post 0))))))) ∧ (¬ (b2i (cDg x0)) = 0 → w_Signs_goesOnName_J32 post ))) ∧ (¬ (b2i (cBn x0)) = 0 → w_Signs_goesOnName_J32 post ))
set_option maxHeartbeats 4000000 in
set_option maxRecDepth 100000 in
theorem c_Signs_goesOnName (l : Launch)   (x0 : Int32)  (post : Int32 → Prop) (hE : w_Signs_goesOnName x0 post) : Met l y_Signs_goesOnName ws_Signs_goesOnName { frames := 1, cells := 0, slots := 0, locals := 20 } (va_Pc [.int x0] (fun _ => True)) (vp_Si post) 0 0 (fun _ => False) := by
  refine Met.ofW (cc := b_Signs_goesOnName) (maxL := 1) (ret := (some .boolean)) (by decide) rfl ?_
  intro p e s m args below meth c s₁ B hml hv
  obtain ⟨rfl, -⟩ := hv
  have hS : va_S (fun _ : Nat => False) s.heap s.heap [] := va_S.rf
  have hx := B.exec
  have hb := B.bytes
  have hr := B.returns
  have hta : ∀ w ∈ aW, w.before _ s = true := fun w h => atoms_spec (ws := ws_Signs_goesOnName) B.pre w (List.mem_cons_of_mem _ h)
  have hown : s.vm.findClass R_Signs = some m.cls := findClass_of_methodNamed B.named
  have hlocks := B.notSynchronized
  have hl := lv_entry ([.int x0]) (n := 1) (Nat.le_of_ble_eq_true rfl)
  rw [lg_entry_eq]
  generalize (lg_sl ([.int x0]) ++ List.replicate (1 - (lg_sl ([.int x0])).length) Slot.unset).toArray = ls at hl ⊢
  have hl : lv_has ls 1 [(0, .int x0)] := hl
  have J32 : ∀ (ls : Array Slot) (hl : lv_has ls 1 []) (hE : w_Signs_goesOnName_J32 post ), W p l e (headSpec ws_Signs_goesOnName { frames := 1, cells := 0, slots := 0, locals := 20 }).room s m ([.int x0] : List Value).toArray below meth c s.heap [] 0 0 (MQ below (vp_Si post) ([.int x0] : List Value).toArray s 0 0 (fun _ => False)) (F0 m 32 ls []) := by
    intro  ls hl hE
    unfold w_Signs_goesOnName_J32 at hE
    refine lv_iconst (v := 1) hx hb d_Signs_goesOnName_32 (by decide) ?_
    refine lv_goto (tgt := 37) hx hb d_Signs_goesOnName_33 (by decide) ?_
    exact W.zret (v := 1) hx hb hr rfl (fun t ht hW => ⟨_, rfl, hE, ht⟩) (fun q h => by cases h) d_Signs_goesOnName_37
  unfold w_Signs_goesOnName at hE
  refine lv_iload_n hx hb d_Signs_goesOnName_0 rfl (lv_at hl 0 rfl) ?_
  refine ro_S  (As := [.int x0]) (rest := []) ⟨hx, hb, hml, hown, hta⟩ (f_Signs_beginsName l x0) ok_Signs_9 ⟨Nat.le_of_ble_eq_true rfl, Nat.le_of_ble_eq_true rfl⟩ blind_true  (fun _ _ _ => trivial) rfl hl.1 rfl (Nat.le_of_ble_eq_true rfl) d_Signs_goesOnName_1 ⟨Nat.zero_le _, Nat.zero_le _⟩ (fun r1 hr => ?_)
  subst hr
  refine lv_if_ne (tgt := 32) hx hb d_Signs_goesOnName_4 (by decide) (fun cc4 => ?_) (fun cc4 => ?_)
  · have hE := hE.2 cc4
    exact J32   _ (lv_sub hl [] rfl) hE
  · have hE := hE.1 cc4
    refine lv_iload_n hx hb d_Signs_goesOnName_7 rfl (lv_at hl 0 rfl) ?_
    refine ro_S  (As := [.int x0]) (rest := []) ⟨hx, hb, hml, hown, hta⟩ (f_Signs_isDigit l x0) ok_Signs_15 ⟨Nat.le_of_ble_eq_true rfl, Nat.le_of_ble_eq_true rfl⟩ blind_true  (fun _ _ _ => trivial) rfl hl.1 rfl (Nat.le_of_ble_eq_true rfl) d_Signs_goesOnName_8 ⟨Nat.zero_le _, Nat.zero_le _⟩ (fun r8 hr => ?_)
    subst hr
    refine lv_if_ne (tgt := 32) hx hb d_Signs_goesOnName_11 (by decide) (fun cc11 => ?_) (fun cc11 => ?_)
    · have hE := hE.2 cc11
      exact J32   _ (lv_sub hl [] rfl) hE
    · have hE := hE.1 cc11
      refine lv_iload_n hx hb d_Signs_goesOnName_14 rfl (lv_at hl 0 rfl) ?_
      refine lv_bipush (v := 45) hx hb d_Signs_goesOnName_15 (by decide) ?_
      refine lv_icmp_eq (tgt := 32) hx hb d_Signs_goesOnName_17 (by decide) (fun cc17 => ?_) (fun cc17 => ?_)
      · have hE := hE.1 cc17
        exact J32   _ (lv_sub hl [] rfl) hE
      · have hE := hE.2 cc17
        refine lv_iload_n hx hb d_Signs_goesOnName_20 rfl (lv_at hl 0 rfl) ?_
        refine lv_bipush (v := 46) hx hb d_Signs_goesOnName_21 (by decide) ?_
        refine lv_icmp_eq (tgt := 32) hx hb d_Signs_goesOnName_23 (by decide) (fun cc23 => ?_) (fun cc23 => ?_)
        · have hE := hE.1 cc23
          exact J32   _ (lv_sub hl [] rfl) hE
        · have hE := hE.2 cc23
          refine lv_iload_n hx hb d_Signs_goesOnName_26 rfl (lv_at hl 0 rfl) ?_
          refine lv_bipush (v := 58) hx hb d_Signs_goesOnName_27 (by decide) ?_
          refine lv_icmp_ne (tgt := 36) hx hb d_Signs_goesOnName_29 (by decide) (fun cc29 => ?_) (fun cc29 => ?_)
          · have hE := hE.2 cc29
            refine lv_iconst (v := 0) hx hb d_Signs_goesOnName_36 (by decide) ?_
            exact W.zret (v := 0) hx hb hr rfl (fun t ht hW => ⟨_, rfl, hE, ht⟩) (fun q h => by cases h) d_Signs_goesOnName_37
          · have hE := hE.1 cc29
            exact J32   _ (lv_sub hl [] rfl) hE
theorem l_goesOnName (x : Int32) : w_Signs_goesOnName x (fun r => r = b2i (cGn x)) := by
  unfold w_Signs_goesOnName w_Signs_goesOnName_J32
  simp only [b2i_0]
  repeat' (refine br_c (fun _ => ?_) (fun _ => ?_))
  all_goals simp_all [cGn, b2i]
theorem f_Signs_goesOnName (l : Launch)   (x0 : Int32)   : Met l y_Signs_goesOnName ws_Signs_goesOnName { frames := 1, cells := 0, slots := 0, locals := 20 } (va_Pc [.int x0] (fun _ => True)) (vp_Si (fun r => r = b2i (cGn x0))) 0 0 (fun _ => False) := c_Signs_goesOnName l   x0 _  (l_goesOnName  x0 )

theorem d_Signs_valueOfDigit_0 : decode b_Signs_valueOfDigit 0 = .ok (.iload_n 0, 1) := by decide +kernel
theorem d_Signs_valueOfDigit_1 : decode b_Signs_valueOfDigit 1 = .ok (.invokestatic 15, 3) := by decide +kernel
theorem d_Signs_valueOfDigit_4 : decode b_Signs_valueOfDigit 4 = .ok (.ifCond .eq 8, 3) := by decide +kernel
theorem d_Signs_valueOfDigit_7 : decode b_Signs_valueOfDigit 7 = .ok (.iload_n 0, 1) := by decide +kernel
theorem d_Signs_valueOfDigit_8 : decode b_Signs_valueOfDigit 8 = .ok (.bipush 48, 2) := by decide +kernel
theorem d_Signs_valueOfDigit_10 : decode b_Signs_valueOfDigit 10 = .ok (.isub, 1) := by decide +kernel
theorem d_Signs_valueOfDigit_11 : decode b_Signs_valueOfDigit 11 = .ok (.ireturn, 1) := by decide +kernel
theorem d_Signs_valueOfDigit_12 : decode b_Signs_valueOfDigit 12 = .ok (.iload_n 1, 1) := by decide +kernel
theorem d_Signs_valueOfDigit_13 : decode b_Signs_valueOfDigit 13 = .ok (.ifCond .eq 23, 3) := by decide +kernel
theorem d_Signs_valueOfDigit_16 : decode b_Signs_valueOfDigit 16 = .ok (.iload_n 0, 1) := by decide +kernel
theorem d_Signs_valueOfDigit_17 : decode b_Signs_valueOfDigit 17 = .ok (.bipush 65, 2) := by decide +kernel
theorem d_Signs_valueOfDigit_19 : decode b_Signs_valueOfDigit 19 = .ok (.if_icmp .lt 17, 3) := by decide +kernel
theorem d_Signs_valueOfDigit_22 : decode b_Signs_valueOfDigit 22 = .ok (.iload_n 0, 1) := by decide +kernel
theorem d_Signs_valueOfDigit_23 : decode b_Signs_valueOfDigit 23 = .ok (.bipush 70, 2) := by decide +kernel
theorem d_Signs_valueOfDigit_25 : decode b_Signs_valueOfDigit 25 = .ok (.if_icmp .gt 11, 3) := by decide +kernel
theorem d_Signs_valueOfDigit_28 : decode b_Signs_valueOfDigit 28 = .ok (.iload_n 0, 1) := by decide +kernel
theorem d_Signs_valueOfDigit_29 : decode b_Signs_valueOfDigit 29 = .ok (.bipush 65, 2) := by decide +kernel
theorem d_Signs_valueOfDigit_31 : decode b_Signs_valueOfDigit 31 = .ok (.isub, 1) := by decide +kernel
theorem d_Signs_valueOfDigit_32 : decode b_Signs_valueOfDigit 32 = .ok (.bipush 10, 2) := by decide +kernel
theorem d_Signs_valueOfDigit_34 : decode b_Signs_valueOfDigit 34 = .ok (.iadd, 1) := by decide +kernel
theorem d_Signs_valueOfDigit_35 : decode b_Signs_valueOfDigit 35 = .ok (.ireturn, 1) := by decide +kernel
theorem d_Signs_valueOfDigit_36 : decode b_Signs_valueOfDigit 36 = .ok (.iload_n 1, 1) := by decide +kernel
theorem d_Signs_valueOfDigit_37 : decode b_Signs_valueOfDigit 37 = .ok (.ifCond .eq 25, 3) := by decide +kernel
theorem d_Signs_valueOfDigit_40 : decode b_Signs_valueOfDigit 40 = .ok (.iload_n 0, 1) := by decide +kernel
theorem d_Signs_valueOfDigit_41 : decode b_Signs_valueOfDigit 41 = .ok (.bipush 97, 2) := by decide +kernel
theorem d_Signs_valueOfDigit_43 : decode b_Signs_valueOfDigit 43 = .ok (.if_icmp .lt 19, 3) := by decide +kernel
theorem d_Signs_valueOfDigit_46 : decode b_Signs_valueOfDigit 46 = .ok (.iload_n 0, 1) := by decide +kernel
theorem d_Signs_valueOfDigit_47 : decode b_Signs_valueOfDigit 47 = .ok (.bipush 102, 2) := by decide +kernel
theorem d_Signs_valueOfDigit_49 : decode b_Signs_valueOfDigit 49 = .ok (.if_icmp .gt 13, 3) := by decide +kernel
theorem d_Signs_valueOfDigit_52 : decode b_Signs_valueOfDigit 52 = .ok (.iload_n 0, 1) := by decide +kernel
theorem d_Signs_valueOfDigit_53 : decode b_Signs_valueOfDigit 53 = .ok (.bipush 97, 2) := by decide +kernel
theorem d_Signs_valueOfDigit_55 : decode b_Signs_valueOfDigit 55 = .ok (.isub, 1) := by decide +kernel
theorem d_Signs_valueOfDigit_56 : decode b_Signs_valueOfDigit 56 = .ok (.bipush 10, 2) := by decide +kernel
theorem d_Signs_valueOfDigit_58 : decode b_Signs_valueOfDigit 58 = .ok (.iadd, 1) := by decide +kernel
theorem d_Signs_valueOfDigit_59 : decode b_Signs_valueOfDigit 59 = .ok (.goto 4, 3) := by decide +kernel
theorem d_Signs_valueOfDigit_62 : decode b_Signs_valueOfDigit 62 = .ok (.iconst (-1), 1) := by decide +kernel
theorem d_Signs_valueOfDigit_63 : decode b_Signs_valueOfDigit 63 = .ok (.ireturn, 1) := by decide +kernel
def w_Signs_valueOfDigit_J36   (post : Int32 → Prop) (v0 : Int32) (v1 : Int32) : Prop := ((v1 = 0 → post (-1)) ∧ (¬ v1 = 0 → ((v0 < 97 → post (-1)) ∧ (¬ v0 < 97 → ((102 < v0 → post (-1)) ∧ (¬ 102 < v0 → post ((v0 - 97) + 10)))))))
def w_Signs_valueOfDigit   (x0 : Int32) (x1 : Int32) (post : Int32 → Prop) : Prop := (((b2i (cDg x0)) = 0 → ((x1 = 0 → w_Signs_valueOfDigit_J36 post x0 x1) ∧ (¬ x1 = 0 → ((x0 < 65 → w_Signs_valueOfDigit_J36 post x0 x1) ∧ (¬ x0 < 65 → ((70 < x0 → w_Signs_valueOfDigit_J36 post x0 x1) ∧ (¬ 70 < x0 → post ((x0 - 65) + 10)))))))) ∧ (¬ (b2i (cDg x0)) = 0 → post (x0 - 48)))
set_option maxHeartbeats 4000000 in
set_option maxRecDepth 100000 in
theorem c_Signs_valueOfDigit (l : Launch)   (x0 : Int32) (x1 : Int32)  (post : Int32 → Prop) (hE : w_Signs_valueOfDigit x0 x1 post) : Met l y_Signs_valueOfDigit ws_Signs_valueOfDigit { frames := 1, cells := 0, slots := 0, locals := 20 } (va_Pc [.int x0, .int x1] (fun _ => True)) (vp_Si post) 0 0 (fun _ => False) := by
  refine Met.ofW (cc := b_Signs_valueOfDigit) (maxL := 2) (ret := (some .int)) (by decide) rfl ?_
  intro p e s m args below meth c s₁ B hml hv
  obtain ⟨rfl, -⟩ := hv
  have hS : va_S (fun _ : Nat => False) s.heap s.heap [] := va_S.rf
  have hx := B.exec
  have hb := B.bytes
  have hr := B.returns
  have hta : ∀ w ∈ aW, w.before _ s = true := fun w h => atoms_spec (ws := ws_Signs_valueOfDigit) B.pre w (List.mem_cons_of_mem _ h)
  have hown : s.vm.findClass R_Signs = some m.cls := findClass_of_methodNamed B.named
  have hlocks := B.notSynchronized
  have hl := lv_entry ([.int x0, .int x1]) (n := 2) (Nat.le_of_ble_eq_true rfl)
  rw [lg_entry_eq]
  generalize (lg_sl ([.int x0, .int x1]) ++ List.replicate (2 - (lg_sl ([.int x0, .int x1])).length) Slot.unset).toArray = ls at hl ⊢
  have hl : lv_has ls 2 [(0, .int x0), (1, .int x1)] := hl
  have J36 : ∀ (v0 : Int32) (v1 : Int32) (ls : Array Slot) (hl : lv_has ls 2 [(0, .int v0), (1, .int v1)]) (hE : w_Signs_valueOfDigit_J36 post v0 v1), W p l e (headSpec ws_Signs_valueOfDigit { frames := 1, cells := 0, slots := 0, locals := 20 }).room s m ([.int x0, .int x1] : List Value).toArray below meth c s.heap [] 0 0 (MQ below (vp_Si post) ([.int x0, .int x1] : List Value).toArray s 0 0 (fun _ => False)) (F0 m 36 ls []) := by
    intro  v0 v1 ls hl hE
    unfold w_Signs_valueOfDigit_J36 at hE
    refine lv_iload_n hx hb d_Signs_valueOfDigit_36 rfl (lv_at hl 1 rfl) ?_
    refine lv_if_eq (tgt := 62) hx hb d_Signs_valueOfDigit_37 (by decide) (fun cc37 => ?_) (fun cc37 => ?_)
    · have hE := hE.1 cc37
      refine lv_iconst (v := -1) hx hb d_Signs_valueOfDigit_62 (by decide) ?_
      exact W.iret (v := (-1)) hx hb hr (fun t ht hW => ⟨_, rfl, hE, ht⟩) (fun q h => by cases h) d_Signs_valueOfDigit_63
    · have hE := hE.2 cc37
      refine lv_iload_n hx hb d_Signs_valueOfDigit_40 rfl (lv_at hl 0 rfl) ?_
      refine lv_bipush (v := 97) hx hb d_Signs_valueOfDigit_41 (by decide) ?_
      refine lv_icmp_lt (tgt := 62) hx hb d_Signs_valueOfDigit_43 (by decide) (fun cc43 => ?_) (fun cc43 => ?_)
      · have hE := hE.1 cc43
        refine lv_iconst (v := -1) hx hb d_Signs_valueOfDigit_62 (by decide) ?_
        exact W.iret (v := (-1)) hx hb hr (fun t ht hW => ⟨_, rfl, hE, ht⟩) (fun q h => by cases h) d_Signs_valueOfDigit_63
      · have hE := hE.2 cc43
        refine lv_iload_n hx hb d_Signs_valueOfDigit_46 rfl (lv_at hl 0 rfl) ?_
        refine lv_bipush (v := 102) hx hb d_Signs_valueOfDigit_47 (by decide) ?_
        refine lv_icmp_gt (tgt := 62) hx hb d_Signs_valueOfDigit_49 (by decide) (fun cc49 => ?_) (fun cc49 => ?_)
        · have hE := hE.1 cc49
          refine lv_iconst (v := -1) hx hb d_Signs_valueOfDigit_62 (by decide) ?_
          exact W.iret (v := (-1)) hx hb hr (fun t ht hW => ⟨_, rfl, hE, ht⟩) (fun q h => by cases h) d_Signs_valueOfDigit_63
        · have hE := hE.2 cc49
          refine lv_iload_n hx hb d_Signs_valueOfDigit_52 rfl (lv_at hl 0 rfl) ?_
          refine lv_bipush (v := 97) hx hb d_Signs_valueOfDigit_53 (by decide) ?_
          refine lv_isub hx hb d_Signs_valueOfDigit_55 ?_
          refine lv_bipush (v := 10) hx hb d_Signs_valueOfDigit_56 (by decide) ?_
          refine lv_iadd hx hb d_Signs_valueOfDigit_58 ?_
          refine lv_goto (tgt := 63) hx hb d_Signs_valueOfDigit_59 (by decide) ?_
          exact W.iret (v := (v0 - 97) + 10) hx hb hr (fun t ht hW => ⟨_, rfl, hE, ht⟩) (fun q h => by cases h) d_Signs_valueOfDigit_63
  unfold w_Signs_valueOfDigit at hE
  refine lv_iload_n hx hb d_Signs_valueOfDigit_0 rfl (lv_at hl 0 rfl) ?_
  refine ro_S  (As := [.int x0]) (rest := []) ⟨hx, hb, hml, hown, hta⟩ (f_Signs_isDigit l x0) ok_Signs_15 ⟨Nat.le_of_ble_eq_true rfl, Nat.le_of_ble_eq_true rfl⟩ blind_true  (fun _ _ _ => trivial) rfl hl.1 rfl (Nat.le_of_ble_eq_true rfl) d_Signs_valueOfDigit_1 ⟨Nat.zero_le _, Nat.zero_le _⟩ (fun r1 hr => ?_)
  subst hr
  refine lv_if_eq (tgt := 12) hx hb d_Signs_valueOfDigit_4 (by decide) (fun cc4 => ?_) (fun cc4 => ?_)
  · have hE := hE.1 cc4
    refine lv_iload_n hx hb d_Signs_valueOfDigit_12 rfl (lv_at hl 1 rfl) ?_
    refine lv_if_eq (tgt := 36) hx hb d_Signs_valueOfDigit_13 (by decide) (fun cc13 => ?_) (fun cc13 => ?_)
    · have hE := hE.1 cc13
      exact J36  x0 x1 _ (lv_sub hl [0, 1] rfl) hE
    · have hE := hE.2 cc13
      refine lv_iload_n hx hb d_Signs_valueOfDigit_16 rfl (lv_at hl 0 rfl) ?_
      refine lv_bipush (v := 65) hx hb d_Signs_valueOfDigit_17 (by decide) ?_
      refine lv_icmp_lt (tgt := 36) hx hb d_Signs_valueOfDigit_19 (by decide) (fun cc19 => ?_) (fun cc19 => ?_)
      · have hE := hE.1 cc19
        exact J36  x0 x1 _ (lv_sub hl [0, 1] rfl) hE
      · have hE := hE.2 cc19
        refine lv_iload_n hx hb d_Signs_valueOfDigit_22 rfl (lv_at hl 0 rfl) ?_
        refine lv_bipush (v := 70) hx hb d_Signs_valueOfDigit_23 (by decide) ?_
        refine lv_icmp_gt (tgt := 36) hx hb d_Signs_valueOfDigit_25 (by decide) (fun cc25 => ?_) (fun cc25 => ?_)
        · have hE := hE.1 cc25
          exact J36  x0 x1 _ (lv_sub hl [0, 1] rfl) hE
        · have hE := hE.2 cc25
          refine lv_iload_n hx hb d_Signs_valueOfDigit_28 rfl (lv_at hl 0 rfl) ?_
          refine lv_bipush (v := 65) hx hb d_Signs_valueOfDigit_29 (by decide) ?_
          refine lv_isub hx hb d_Signs_valueOfDigit_31 ?_
          refine lv_bipush (v := 10) hx hb d_Signs_valueOfDigit_32 (by decide) ?_
          refine lv_iadd hx hb d_Signs_valueOfDigit_34 ?_
          exact W.iret (v := (x0 - 65) + 10) hx hb hr (fun t ht hW => ⟨_, rfl, hE, ht⟩) (fun q h => by cases h) d_Signs_valueOfDigit_35
  · have hE := hE.2 cc4
    refine lv_iload_n hx hb d_Signs_valueOfDigit_7 rfl (lv_at hl 0 rfl) ?_
    refine lv_bipush (v := 48) hx hb d_Signs_valueOfDigit_8 (by decide) ?_
    refine lv_isub hx hb d_Signs_valueOfDigit_10 ?_
    exact W.iret (v := x0 - 48) hx hb hr (fun t ht hW => ⟨_, rfl, hE, ht⟩) (fun q h => by cases h) d_Signs_valueOfDigit_11
theorem l_valueOfDigit (x h : Int32) : w_Signs_valueOfDigit x h (fun r => r = cDv x h) := by
  unfold w_Signs_valueOfDigit w_Signs_valueOfDigit_J36 cDv
  simp only [b2i_0]
  repeat' (refine br_c (fun _ => ?_) (fun _ => ?_))
  all_goals simp_all [Int32.not_lt, Int32.not_le]
  all_goals (repeat' split)
  all_goals (first | rfl | (exfalso; simp only [Int32.le_iff_toInt_le, Int32.lt_iff_toInt_lt, Int32.reduceToInt] at *; omega))
theorem f_Signs_valueOfDigit (l : Launch)   (x0 : Int32) (x1 : Int32)   : Met l y_Signs_valueOfDigit ws_Signs_valueOfDigit { frames := 1, cells := 0, slots := 0, locals := 20 } (va_Pc [.int x0, .int x1] (fun _ => True)) (vp_Si (fun r => r = cDv x0 x1)) 0 0 (fun _ => False) := c_Signs_valueOfDigit l   x0 x1 _  (l_valueOfDigit  x0 x1 )

theorem d_Signs_isForbidden_0 : decode b_Signs_isForbidden 0 = .ok (.iload_n 0, 1) := by decide +kernel
theorem d_Signs_isForbidden_1 : decode b_Signs_isForbidden 1 = .ok (.bipush 32, 2) := by decide +kernel
theorem d_Signs_isForbidden_3 : decode b_Signs_isForbidden 3 = .ok (.if_icmp .ge 10, 3) := by decide +kernel
theorem d_Signs_isForbidden_6 : decode b_Signs_isForbidden 6 = .ok (.iload_n 0, 1) := by decide +kernel
theorem d_Signs_isForbidden_7 : decode b_Signs_isForbidden 7 = .ok (.invokestatic 21, 3) := by decide +kernel
theorem d_Signs_isForbidden_10 : decode b_Signs_isForbidden 10 = .ok (.ifCond .eq 15, 3) := by decide +kernel
theorem d_Signs_isForbidden_13 : decode b_Signs_isForbidden 13 = .ok (.iload_n 0, 1) := by decide +kernel
theorem d_Signs_isForbidden_14 : decode b_Signs_isForbidden 14 = .ok (.ldc 24, 2) := by decide +kernel
theorem d_Signs_isForbidden_16 : decode b_Signs_isForbidden 16 = .ok (.if_icmp .eq 9, 3) := by decide +kernel
theorem d_Signs_isForbidden_19 : decode b_Signs_isForbidden 19 = .ok (.iload_n 0, 1) := by decide +kernel
theorem d_Signs_isForbidden_20 : decode b_Signs_isForbidden 20 = .ok (.ldc 25, 2) := by decide +kernel
theorem d_Signs_isForbidden_22 : decode b_Signs_isForbidden 22 = .ok (.if_icmp .ne 7, 3) := by decide +kernel
theorem d_Signs_isForbidden_25 : decode b_Signs_isForbidden 25 = .ok (.iconst 1, 1) := by decide +kernel
theorem d_Signs_isForbidden_26 : decode b_Signs_isForbidden 26 = .ok (.goto 4, 3) := by decide +kernel
theorem d_Signs_isForbidden_29 : decode b_Signs_isForbidden 29 = .ok (.iconst 0, 1) := by decide +kernel
theorem d_Signs_isForbidden_30 : decode b_Signs_isForbidden 30 = .ok (.ireturn, 1) := by decide +kernel
def w_Signs_isForbidden_J25   (post : Int32 → Prop)  : Prop := post 1
def w_Signs_isForbidden_J13   (post : Int32 → Prop) (v0 : Int32) : Prop := ((v0 = 65534 → w_Signs_isForbidden_J25 post ) ∧ (¬ v0 = 65534 → ((v0 = 65535 → w_Signs_isForbidden_J25 post ) ∧ (¬ v0 = 65535 → post 0))))
def w_Signs_isForbidden   (x0 : Int32) (post : Int32 → Prop) : Prop := ((32 ≤ x0 → w_Signs_isForbidden_J13 post x0) ∧ (¬ 32 ≤ x0 → (((b2i (cWh x0)) = 0 → w_Signs_isForbidden_J25 post ) ∧ (¬ (b2i (cWh x0)) = 0 → w_Signs_isForbidden_J13 post x0))))
set_option maxHeartbeats 4000000 in
set_option maxRecDepth 100000 in
theorem c_Signs_isForbidden (l : Launch)   (x0 : Int32)  (post : Int32 → Prop) (hE : w_Signs_isForbidden x0 post) : Met l y_Signs_isForbidden ws_Signs_isForbidden { frames := 1, cells := 0, slots := 0, locals := 20 } (va_Pc [.int x0] (fun _ => True)) (vp_Si post) 0 0 (fun _ => False) := by
  refine Met.ofW (cc := b_Signs_isForbidden) (maxL := 1) (ret := (some .boolean)) (by decide) rfl ?_
  intro p e s m args below meth c s₁ B hml hv
  obtain ⟨rfl, -⟩ := hv
  have hS : va_S (fun _ : Nat => False) s.heap s.heap [] := va_S.rf
  have hx := B.exec
  have hb := B.bytes
  have hr := B.returns
  have hta : ∀ w ∈ aW, w.before _ s = true := fun w h => atoms_spec (ws := ws_Signs_isForbidden) B.pre w (List.mem_cons_of_mem _ h)
  have hown : s.vm.findClass R_Signs = some m.cls := findClass_of_methodNamed B.named
  have hlocks := B.notSynchronized
  have hl := lv_entry ([.int x0]) (n := 1) (Nat.le_of_ble_eq_true rfl)
  rw [lg_entry_eq]
  generalize (lg_sl ([.int x0]) ++ List.replicate (1 - (lg_sl ([.int x0])).length) Slot.unset).toArray = ls at hl ⊢
  have hl : lv_has ls 1 [(0, .int x0)] := hl
  have J25 : ∀ (ls : Array Slot) (hl : lv_has ls 1 []) (hE : w_Signs_isForbidden_J25 post ), W p l e (headSpec ws_Signs_isForbidden { frames := 1, cells := 0, slots := 0, locals := 20 }).room s m ([.int x0] : List Value).toArray below meth c s.heap [] 0 0 (MQ below (vp_Si post) ([.int x0] : List Value).toArray s 0 0 (fun _ => False)) (F0 m 25 ls []) := by
    intro  ls hl hE
    unfold w_Signs_isForbidden_J25 at hE
    refine lv_iconst (v := 1) hx hb d_Signs_isForbidden_25 (by decide) ?_
    refine lv_goto (tgt := 30) hx hb d_Signs_isForbidden_26 (by decide) ?_
    exact W.zret (v := 1) hx hb hr rfl (fun t ht hW => ⟨_, rfl, hE, ht⟩) (fun q h => by cases h) d_Signs_isForbidden_30
  have J13 : ∀ (v0 : Int32) (ls : Array Slot) (hl : lv_has ls 1 [(0, .int v0)]) (hE : w_Signs_isForbidden_J13 post v0), W p l e (headSpec ws_Signs_isForbidden { frames := 1, cells := 0, slots := 0, locals := 20 }).room s m ([.int x0] : List Value).toArray below meth c s.heap [] 0 0 (MQ below (vp_Si post) ([.int x0] : List Value).toArray s 0 0 (fun _ => False)) (F0 m 13 ls []) := by
    intro  v0 ls hl hE
    unfold w_Signs_isForbidden_J13 at hE
    refine lv_iload_n hx hb d_Signs_isForbidden_13 rfl (lv_at hl 0 rfl) ?_
    refine lv_ldc hx hb hown (hta _ ct_Signs_24) d_Signs_isForbidden_14 ?_
    refine lv_icmp_eq (tgt := 25) hx hb d_Signs_isForbidden_16 (by decide) (fun cc16 => ?_) (fun cc16 => ?_)
    · have hE := hE.1 cc16
      exact J25   _ (lv_sub hl [] rfl) hE
    · have hE := hE.2 cc16
      refine lv_iload_n hx hb d_Signs_isForbidden_19 rfl (lv_at hl 0 rfl) ?_
      refine lv_ldc hx hb hown (hta _ ct_Signs_25) d_Signs_isForbidden_20 ?_
      refine lv_icmp_ne (tgt := 29) hx hb d_Signs_isForbidden_22 (by decide) (fun cc22 => ?_) (fun cc22 => ?_)
      · have hE := hE.2 cc22
        refine lv_iconst (v := 0) hx hb d_Signs_isForbidden_29 (by decide) ?_
        exact W.zret (v := 0) hx hb hr rfl (fun t ht hW => ⟨_, rfl, hE, ht⟩) (fun q h => by cases h) d_Signs_isForbidden_30
      · have hE := hE.1 cc22
        exact J25   _ (lv_sub hl [] rfl) hE
  unfold w_Signs_isForbidden at hE
  refine lv_iload_n hx hb d_Signs_isForbidden_0 rfl (lv_at hl 0 rfl) ?_
  refine lv_bipush (v := 32) hx hb d_Signs_isForbidden_1 (by decide) ?_
  refine lv_icmp_ge (tgt := 13) hx hb d_Signs_isForbidden_3 (by decide) (fun cc3 => ?_) (fun cc3 => ?_)
  · have hE := hE.1 cc3
    exact J13  x0 _ (lv_sub hl [0] rfl) hE
  · have hE := hE.2 cc3
    refine lv_iload_n hx hb d_Signs_isForbidden_6 rfl (lv_at hl 0 rfl) ?_
    refine ro_S  (As := [.int x0]) (rest := []) ⟨hx, hb, hml, hown, hta⟩ (f_Signs_isWhite l x0) ok_Signs_21 ⟨Nat.le_of_ble_eq_true rfl, Nat.le_of_ble_eq_true rfl⟩ blind_true  (fun _ _ _ => trivial) rfl hl.1 rfl (Nat.le_of_ble_eq_true rfl) d_Signs_isForbidden_7 ⟨Nat.zero_le _, Nat.zero_le _⟩ (fun r7 hr => ?_)
    subst hr
    refine lv_if_eq (tgt := 25) hx hb d_Signs_isForbidden_10 (by decide) (fun cc10 => ?_) (fun cc10 => ?_)
    · have hE := hE.1 cc10
      exact J25   _ (lv_sub hl [] rfl) hE
    · have hE := hE.2 cc10
      exact J13  x0 _ (lv_sub hl [0] rfl) hE
theorem l_isForbidden (x : Int32) : w_Signs_isForbidden x (fun r => r = b2i (cFb x)) := by
  unfold w_Signs_isForbidden w_Signs_isForbidden_J13 w_Signs_isForbidden_J25
  simp only [b2i_0]
  repeat' (refine br_c (fun _ => ?_) (fun _ => ?_))
  all_goals simp_all [cFb, b2i, Int32.not_lt, Int32.not_le]
  all_goals (intro h9; exfalso; simp only [Int32.le_iff_toInt_le, Int32.lt_iff_toInt_lt, Int32.reduceToInt] at *; omega)
theorem f_Signs_isForbidden (l : Launch)   (x0 : Int32)   : Met l y_Signs_isForbidden ws_Signs_isForbidden { frames := 1, cells := 0, slots := 0, locals := 20 } (va_Pc [.int x0] (fun _ => True)) (vp_Si (fun r => r = b2i (cFb x0))) 0 0 (fun _ => False) := c_Signs_isForbidden l   x0 _  (l_isForbidden  x0 )

theorem d_Str_coder_0 : decode b_Str_coder 0 = .ok (.getstatic 38, 3) := by decide +kernel
theorem d_Str_coder_3 : decode b_Str_coder 3 = .ok (.ifCond .eq 10, 3) := by decide +kernel
theorem d_Str_coder_6 : decode b_Str_coder 6 = .ok (.aload_n 0, 1) := by decide +kernel
theorem d_Str_coder_7 : decode b_Str_coder 7 = .ok (.getfield 15, 3) := by decide +kernel
theorem d_Str_coder_10 : decode b_Str_coder 10 = .ok (.goto 4, 3) := by decide +kernel
theorem d_Str_coder_13 : decode b_Str_coder 13 = .ok (.iconst 1, 1) := by decide +kernel
theorem d_Str_coder_14 : decode b_Str_coder 14 = .ok (.ireturn, 1) := by decide +kernel
def w_Str_coder   (x : Nat) (post : Int32 → Prop) : Prop := (((1 : Int32) = 0 → (narrow .byte (.int 1) = .int 1 ∧ post 1)) ∧ (¬ (1 : Int32) = 0 → (x < 49 ∧ (narrow .byte (.int 0) = .int 0 ∧ post 0))))
set_option maxHeartbeats 4000000 in
set_option maxRecDepth 100000 in
theorem c_Str_coder (l : Launch) (w : WD)  (x : Nat)  (post : Int32 → Prop) (hE : w_Str_coder x post) : Met l y_Str_coder ws_Str_coder { frames := 0, cells := 0, slots := 0, locals := 0 } (va_Pc [.ref (wK w x)] (cW w)) (vp_Si post) 0 0 (fun _ => False) := by
  refine Met.ofW (cc := b_Str_coder) (maxL := 1) (ret := (some .byte)) (by decide) rfl ?_
  intro p e s m args below meth c s₁ B hml hv
  obtain ⟨rfl, hC⟩ := hv
  have hC : CST w (fun _ => False) s s.heap := hC
  have hS : va_S (fun _ : Nat => False) s.heap s.heap [] := va_S.rf
  have hx := B.exec
  have hb := B.bytes
  have hr := B.returns
  have hta : ∀ w ∈ aW, w.before _ s = true := fun w h => atoms_spec (ws := ws_Str_coder) B.pre w (List.mem_cons_of_mem _ h)
  have hown : s.vm.findClass R_Str = some m.cls := findClass_of_methodNamed B.named
  have hlocks := B.notSynchronized
  have hl := lv_entry ([.ref (wK w x)]) (n := 1) (Nat.le_of_ble_eq_true rfl)
  rw [lg_entry_eq]
  generalize (lg_sl ([.ref (wK w x)]) ++ List.replicate (1 - (lg_sl ([.ref (wK w x)])).length) Slot.unset).toArray = ls at hl ⊢
  have hl : lv_has ls 1 [(0, .ref (wK w x))] := hl
  unfold w_Str_coder at hE
  refine t_com hx hb hC hS hown (hta _ fl_Str_38) d_Str_coder_0 ?_
  refine lv_if_eq (tgt := 13) hx hb d_Str_coder_3 (by decide) (fun cc3 => ?_) (fun cc3 => ?_)
  · have hE := hE.1 cc3
    refine lv_iconst (v := 1) hx hb d_Str_coder_13 (by decide) ?_
    obtain ⟨hN, hE⟩ := hE
    exact W.zret (v := 1) hx hb hr hN (fun t ht hW => ⟨_, rfl, hE, ht⟩) (fun q h => by cases h) d_Str_coder_14
  · have hE := hE.2 cc3
    refine lv_aload_n hx hb d_Str_coder_6 rfl (lv_at hl 0 rfl) ?_
    obtain ⟨hi7, hE⟩ := hE
    refine t_cod hx hb hC hS hi7 hown (hta _ fl_Str_15) d_Str_coder_7 ?_
    refine lv_goto (tgt := 14) hx hb d_Str_coder_10 (by decide) ?_
    obtain ⟨hN, hE⟩ := hE
    exact W.zret (v := 0) hx hb hr hN (fun t ht hW => ⟨_, rfl, hE, ht⟩) (fun q h => by cases h) d_Str_coder_14
theorem l_coder (x : Nat) (h : x < 49) : w_Str_coder x (fun r => r = 0) := br_f (by decide) ⟨h, rfl, rfl⟩
theorem f_Str_coder (l : Launch) (w : WD)  (x : Nat)  (hx9 : x < 49) : Met l y_Str_coder ws_Str_coder { frames := 0, cells := 0, slots := 0, locals := 0 } (va_Pc [.ref (wK w x)] (cW w)) (vp_Si (fun r => r = 0)) 0 0 (fun _ => False) := c_Str_coder l w  x _  (l_coder  x hx9)

theorem d_Str_isLatin1_0 : decode b_Str_isLatin1 0 = .ok (.getstatic 38, 3) := by decide +kernel
theorem d_Str_isLatin1_3 : decode b_Str_isLatin1 3 = .ok (.ifCond .eq 14, 3) := by decide +kernel
theorem d_Str_isLatin1_6 : decode b_Str_isLatin1 6 = .ok (.aload_n 0, 1) := by decide +kernel
theorem d_Str_isLatin1_7 : decode b_Str_isLatin1 7 = .ok (.getfield 15, 3) := by decide +kernel
theorem d_Str_isLatin1_10 : decode b_Str_isLatin1 10 = .ok (.ifCond .ne 7, 3) := by decide +kernel
theorem d_Str_isLatin1_13 : decode b_Str_isLatin1 13 = .ok (.iconst 1, 1) := by decide +kernel
theorem d_Str_isLatin1_14 : decode b_Str_isLatin1 14 = .ok (.goto 4, 3) := by decide +kernel
theorem d_Str_isLatin1_17 : decode b_Str_isLatin1 17 = .ok (.iconst 0, 1) := by decide +kernel
theorem d_Str_isLatin1_18 : decode b_Str_isLatin1 18 = .ok (.ireturn, 1) := by decide +kernel
def w_Str_isLatin1   (x : Nat) (post : Int32 → Prop) : Prop := (((1 : Int32) = 0 → post 0) ∧ (¬ (1 : Int32) = 0 → (x < 49 ∧ (((0 : Int32) = 0 → post 1) ∧ (¬ (0 : Int32) = 0 → post 0)))))
set_option maxHeartbeats 4000000 in
set_option maxRecDepth 100000 in
theorem c_Str_isLatin1 (l : Launch) (w : WD)  (x : Nat)  (post : Int32 → Prop) (hE : w_Str_isLatin1 x post) : Met l y_Str_isLatin1 ws_Str_isLatin1 { frames := 0, cells := 0, slots := 0, locals := 0 } (va_Pc [.ref (wK w x)] (cW w)) (vp_Si post) 0 0 (fun _ => False) := by
  refine Met.ofW (cc := b_Str_isLatin1) (maxL := 1) (ret := (some .boolean)) (by decide) rfl ?_
  intro p e s m args below meth c s₁ B hml hv
  obtain ⟨rfl, hC⟩ := hv
  have hC : CST w (fun _ => False) s s.heap := hC
  have hS : va_S (fun _ : Nat => False) s.heap s.heap [] := va_S.rf
  have hx := B.exec
  have hb := B.bytes
  have hr := B.returns
  have hta : ∀ w ∈ aW, w.before _ s = true := fun w h => atoms_spec (ws := ws_Str_isLatin1) B.pre w (List.mem_cons_of_mem _ h)
  have hown : s.vm.findClass R_Str = some m.cls := findClass_of_methodNamed B.named
  have hlocks := B.notSynchronized
  have hl := lv_entry ([.ref (wK w x)]) (n := 1) (Nat.le_of_ble_eq_true rfl)
  rw [lg_entry_eq]
  generalize (lg_sl ([.ref (wK w x)]) ++ List.replicate (1 - (lg_sl ([.ref (wK w x)])).length) Slot.unset).toArray = ls at hl ⊢
  have hl : lv_has ls 1 [(0, .ref (wK w x))] := hl
  unfold w_Str_isLatin1 at hE
  refine t_com hx hb hC hS hown (hta _ fl_Str_38) d_Str_isLatin1_0 ?_
  refine lv_if_eq (tgt := 17) hx hb d_Str_isLatin1_3 (by decide) (fun cc3 => ?_) (fun cc3 => ?_)
  · have hE := hE.1 cc3
    refine lv_iconst (v := 0) hx hb d_Str_isLatin1_17 (by decide) ?_
    exact W.zret (v := 0) hx hb hr rfl (fun t ht hW => ⟨_, rfl, hE, ht⟩) (fun q h => by cases h) d_Str_isLatin1_18
  · have hE := hE.2 cc3
    refine lv_aload_n hx hb d_Str_isLatin1_6 rfl (lv_at hl 0 rfl) ?_
    obtain ⟨hi7, hE⟩ := hE
    refine t_cod hx hb hC hS hi7 hown (hta _ fl_Str_15) d_Str_isLatin1_7 ?_
    refine lv_if_ne (tgt := 17) hx hb d_Str_isLatin1_10 (by decide) (fun cc10 => ?_) (fun cc10 => ?_)
    · have hE := hE.2 cc10
      refine lv_iconst (v := 0) hx hb d_Str_isLatin1_17 (by decide) ?_
      exact W.zret (v := 0) hx hb hr rfl (fun t ht hW => ⟨_, rfl, hE, ht⟩) (fun q h => by cases h) d_Str_isLatin1_18
    · have hE := hE.1 cc10
      refine lv_iconst (v := 1) hx hb d_Str_isLatin1_13 (by decide) ?_
      refine lv_goto (tgt := 18) hx hb d_Str_isLatin1_14 (by decide) ?_
      exact W.zret (v := 1) hx hb hr rfl (fun t ht hW => ⟨_, rfl, hE, ht⟩) (fun q h => by cases h) d_Str_isLatin1_18
theorem l_isLatin1 (x : Nat) (h : x < 49) : w_Str_isLatin1 x (fun r => r = 1) := br_f (by decide) ⟨h, br_t rfl rfl⟩
theorem f_Str_isLatin1 (l : Launch) (w : WD)  (x : Nat)  (hx9 : x < 49) : Met l y_Str_isLatin1 ws_Str_isLatin1 { frames := 0, cells := 0, slots := 0, locals := 0 } (va_Pc [.ref (wK w x)] (cW w)) (vp_Si (fun r => r = 1)) 0 0 (fun _ => False) := c_Str_isLatin1 l w  x _  (l_isLatin1  x hx9)

theorem d_Str_length_0 : decode b_Str_length 0 = .ok (.aload_n 0, 1) := by decide +kernel
theorem d_Str_length_1 : decode b_Str_length 1 = .ok (.getfield 9, 3) := by decide +kernel
theorem d_Str_length_4 : decode b_Str_length 4 = .ok (.arraylength, 1) := by decide +kernel
theorem d_Str_length_5 : decode b_Str_length 5 = .ok (.aload_n 0, 1) := by decide +kernel
theorem d_Str_length_6 : decode b_Str_length 6 = .ok (.invokevirtual 335, 3) := by decide +kernel
theorem d_Str_length_9 : decode b_Str_length 9 = .ok (.ishr, 1) := by decide +kernel
theorem d_Str_length_10 : decode b_Str_length 10 = .ok (.ireturn, 1) := by decide +kernel
def w_Str_length   (x : Nat) (post : Int32 → Prop) : Prop := (x < 49 ∧ (x < 49 ∧ (x < 49 ∧ post ((nI (tLn.getD x 0)) >>> (0 &&& 31)))))
set_option maxHeartbeats 4000000 in
set_option maxRecDepth 100000 in
theorem c_Str_length (l : Launch) (w : WD)  (x : Nat)  (post : Int32 → Prop) (hE : w_Str_length x post) : Met l y_Str_length ws_Str_length { frames := 1, cells := 0, slots := 0, locals := 20 } (va_Pc [.ref (wK w x)] (cW w)) (vp_Si post) 0 0 (fun _ => False) := by
  refine Met.ofW (cc := b_Str_length) (maxL := 1) (ret := (some .int)) (by decide) rfl ?_
  intro p e s m args below meth c s₁ B hml hv
  obtain ⟨rfl, hC⟩ := hv
  have hC : CST w (fun _ => False) s s.heap := hC
  have hS : va_S (fun _ : Nat => False) s.heap s.heap [] := va_S.rf
  have hx := B.exec
  have hb := B.bytes
  have hr := B.returns
  have hta : ∀ w ∈ aW, w.before _ s = true := fun w h => atoms_spec (ws := ws_Str_length) B.pre w (List.mem_cons_of_mem _ h)
  have hown : s.vm.findClass R_Str = some m.cls := findClass_of_methodNamed B.named
  have hlocks := B.notSynchronized
  have hl := lv_entry ([.ref (wK w x)]) (n := 1) (Nat.le_of_ble_eq_true rfl)
  rw [lg_entry_eq]
  generalize (lg_sl ([.ref (wK w x)]) ++ List.replicate (1 - (lg_sl ([.ref (wK w x)])).length) Slot.unset).toArray = ls at hl ⊢
  have hl : lv_has ls 1 [(0, .ref (wK w x))] := hl
  unfold w_Str_length at hE
  refine lv_aload_n hx hb d_Str_length_0 rfl (lv_at hl 0 rfl) ?_
  obtain ⟨hi1, hE⟩ := hE
  refine t_val hx hb hC hS hi1 hown (hta _ fl_Str_9) d_Str_length_1 ?_
  obtain ⟨hi4, hE⟩ := hE
  refine t_len hx hb hC hS hi4 d_Str_length_4 ?_
  refine lv_aload_n hx hb d_Str_length_5 rfl (lv_at hl 0 rfl) ?_
  obtain ⟨hi6, hE⟩ := hE
  refine ro_V (b0 := wK w x) (As := []) (rest := [.int (nI (tLn.getD x 0))]) ⟨hx, hb, hml, hown, hta⟩ (f_Str_coder l w x hi6) ok_Str_335 ⟨Nat.le_of_ble_eq_true rfl, Nat.le_of_ble_eq_true rfl⟩ blind_cW (t_recv hC hS hi6) (cW_of hC hS) rfl hl.1 rfl (Nat.le_of_ble_eq_true rfl) d_Str_length_6 ⟨Nat.zero_le _, Nat.zero_le _⟩ (fun r6 hr => ?_)
  subst hr
  refine lv_ishr hx hb d_Str_length_9 ?_
  exact W.iret (v := (nI (tLn.getD x 0)) >>> (0 &&& 31)) hx hb hr (fun t ht hW => ⟨_, rfl, hE, ht⟩) (fun q h => by cases h) d_Str_length_10
theorem tLn_small : ∀ i, i < 49 → tLn.getD i 0 < 64 ∧ (tBy.getD i []).length = tLn.getD i 0 := by decide +kernel
theorem l_length (x : Nat) (h : x < 49) : w_Str_length x (fun r => r = nI (tLn.getD x 0)) := ⟨h, h, h, by rw [sc_shr0 (by have := (tLn_small x h).1; omega)]⟩
theorem f_Str_length (l : Launch) (w : WD)  (x : Nat)  (hx9 : x < 49) : Met l y_Str_length ws_Str_length { frames := 1, cells := 0, slots := 0, locals := 20 } (va_Pc [.ref (wK w x)] (cW w)) (vp_Si (fun r => r = nI (tLn.getD x 0))) 0 0 (fun _ => False) := c_Str_length l w  x _  (l_length  x hx9)

theorem d_Prec_checkIndex_0 : decode b_Prec_checkIndex 0 = .ok (.iload_n 0, 1) := by decide +kernel
theorem d_Prec_checkIndex_1 : decode b_Prec_checkIndex 1 = .ok (.ifCond .lt 8, 3) := by decide +kernel
theorem d_Prec_checkIndex_4 : decode b_Prec_checkIndex 4 = .ok (.iload_n 0, 1) := by decide +kernel
theorem d_Prec_checkIndex_5 : decode b_Prec_checkIndex 5 = .ok (.iload_n 1, 1) := by decide +kernel
theorem d_Prec_checkIndex_6 : decode b_Prec_checkIndex 6 = .ok (.if_icmp .lt 10, 3) := by decide +kernel
theorem d_Prec_checkIndex_9 : decode b_Prec_checkIndex 9 = .ok (.aload_n 2, 1) := by decide +kernel
theorem d_Prec_checkIndex_10 : decode b_Prec_checkIndex 10 = .ok (.iload_n 0, 1) := by decide +kernel
theorem d_Prec_checkIndex_11 : decode b_Prec_checkIndex 11 = .ok (.iload_n 1, 1) := by decide +kernel
theorem d_Prec_checkIndex_12 : decode b_Prec_checkIndex 12 = .ok (.invokestatic 95, 3) := by decide +kernel
theorem d_Prec_checkIndex_15 : decode b_Prec_checkIndex 15 = .ok (.athrow, 1) := by decide +kernel
theorem d_Prec_checkIndex_16 : decode b_Prec_checkIndex 16 = .ok (.iload_n 0, 1) := by decide +kernel
theorem d_Prec_checkIndex_17 : decode b_Prec_checkIndex 17 = .ok (.ireturn, 1) := by decide +kernel
def w_Prec_checkIndex_J9   (post : Int32 → Prop) (v0 : Int32) (v1 : Int32) : Prop := False
def w_Prec_checkIndex   (x0 : Int32) (x1 : Int32) (post : Int32 → Prop) : Prop := ((x0 < 0 → w_Prec_checkIndex_J9 post x0 x1) ∧ (¬ x0 < 0 → ((x0 < x1 → post x0) ∧ (¬ x0 < x1 → w_Prec_checkIndex_J9 post x0 x1))))
set_option maxHeartbeats 4000000 in
set_option maxRecDepth 100000 in
theorem c_Prec_checkIndex (l : Launch)   (x0 : Int32) (x1 : Int32) (x2 : Option Nat) (post : Int32 → Prop) (hE : w_Prec_checkIndex x0 x1 post) : Met l y_Prec_checkIndex ws_Prec_checkIndex { frames := 0, cells := 0, slots := 0, locals := 0 } (va_Pc [.int x0, .int x1, va_rf x2] (fun _ => True)) (vp_Si post) 0 0 (fun _ => False) := by
  refine Met.ofW (cc := b_Prec_checkIndex) (maxL := 3) (ret := (some .int)) (by decide) rfl ?_
  intro p e s m args below meth c s₁ B hml hv
  obtain ⟨rfl, -⟩ := hv
  have hS : va_S (fun _ : Nat => False) s.heap s.heap [] := va_S.rf
  have hx := B.exec
  have hb := B.bytes
  have hr := B.returns
  have hta : ∀ w ∈ aW, w.before _ s = true := fun w h => atoms_spec (ws := ws_Prec_checkIndex) B.pre w (List.mem_cons_of_mem _ h)
  have hown : s.vm.findClass R_Prec = some m.cls := findClass_of_methodNamed B.named
  have hlocks := B.notSynchronized
  have hl := lv_entry ([.int x0, .int x1, va_rf x2]) (n := 3) (by cases x2 <;> exact Nat.le_of_ble_eq_true rfl)
  rw [lg_entry_eq]
  generalize (lg_sl ([.int x0, .int x1, va_rf x2]) ++ List.replicate (3 - (lg_sl ([.int x0, .int x1, va_rf x2])).length) Slot.unset).toArray = ls at hl ⊢
  have hl : lv_has ls 3 [(0, .int x0), (1, .int x1), (2, va_rf x2)] := hl
  have J9 : ∀ (v0 : Int32) (v1 : Int32) (ls : Array Slot) (hl : lv_has ls 3 [(0, .int v0), (1, .int v1), (2, va_rf x2)]) (hE : w_Prec_checkIndex_J9 post v0 v1), W p l e (headSpec ws_Prec_checkIndex { frames := 0, cells := 0, slots := 0, locals := 0 }).room s m ([.int x0, .int x1, va_rf x2] : List Value).toArray below meth c s.heap [] 0 0 (MQ below (vp_Si post) ([.int x0, .int x1, va_rf x2] : List Value).toArray s 0 0 (fun _ => False)) (F0 m 9 ls []) := by
    intro  v0 v1 ls hl hE
    unfold w_Prec_checkIndex_J9 at hE
    exact hE.elim
  unfold w_Prec_checkIndex at hE
  refine lv_iload_n hx hb d_Prec_checkIndex_0 rfl (lv_at hl 0 rfl) ?_
  refine lv_if_lt (tgt := 9) hx hb d_Prec_checkIndex_1 (by decide) (fun cc1 => ?_) (fun cc1 => ?_)
  · have hE := hE.1 cc1
    exact J9  x0 x1 _ (lv_sub hl [0, 1, 2] rfl) hE
  · have hE := hE.2 cc1
    refine lv_iload_n hx hb d_Prec_checkIndex_4 rfl (lv_at hl 0 rfl) ?_
    refine lv_iload_n hx hb d_Prec_checkIndex_5 rfl (lv_at hl 1 rfl) ?_
    refine lv_icmp_lt (tgt := 16) hx hb d_Prec_checkIndex_6 (by decide) (fun cc6 => ?_) (fun cc6 => ?_)
    · have hE := hE.1 cc6
      refine lv_iload_n hx hb d_Prec_checkIndex_16 rfl (lv_at hl 0 rfl) ?_
      exact W.iret (v := x0) hx hb hr (fun t ht hW => ⟨_, rfl, hE, ht⟩) (fun q h => by cases h) d_Prec_checkIndex_17
    · have hE := hE.2 cc6
      exact J9  x0 x1 _ (lv_sub hl [0, 1, 2] rfl) hE

theorem d_Str_checkIndex_0 : decode b_Str_checkIndex 0 = .ok (.iload_n 0, 1) := by decide +kernel
theorem d_Str_checkIndex_1 : decode b_Str_checkIndex 1 = .ok (.iload_n 1, 1) := by decide +kernel
theorem d_Str_checkIndex_2 : decode b_Str_checkIndex 2 = .ok (.getstatic 1053, 3) := by decide +kernel
theorem d_Str_checkIndex_5 : decode b_Str_checkIndex 5 = .ok (.invokestatic 1059, 3) := by decide +kernel
theorem d_Str_checkIndex_8 : decode b_Str_checkIndex 8 = .ok (.pop, 1) := by decide +kernel
theorem d_Str_checkIndex_9 : decode b_Str_checkIndex 9 = .ok (.return_, 1) := by decide +kernel
def w_Str_checkIndex   (x0 : Int32) (x1 : Int32) (post : Prop) : Prop := w_Prec_checkIndex  x0 x1 (fun r5 => post)
set_option maxHeartbeats 4000000 in
set_option maxRecDepth 100000 in
theorem c_Str_checkIndex (l : Launch) (w : WD)  (x0 : Int32) (x1 : Int32)  (post : Prop) (hE : w_Str_checkIndex x0 x1 post) : Met l y_Str_checkIndex ws_Str_checkIndex { frames := 1, cells := 0, slots := 0, locals := 22 } (va_Pc [.int x0, .int x1] (cW w)) (va_Sv (fun _ => post)) 0 0 (fun _ => False) := by
  refine Met.ofW (cc := b_Str_checkIndex) (maxL := 2) (ret := none) (by decide) rfl ?_
  intro p e s m args below meth c s₁ B hml hv
  obtain ⟨rfl, hC⟩ := hv
  have hC : CST w (fun _ => False) s s.heap := hC
  have hS : va_S (fun _ : Nat => False) s.heap s.heap [] := va_S.rf
  have hx := B.exec
  have hb := B.bytes
  have hr := B.returns
  have hta : ∀ w ∈ aW, w.before _ s = true := fun w h => atoms_spec (ws := ws_Str_checkIndex) B.pre w (List.mem_cons_of_mem _ h)
  have hown : s.vm.findClass R_Str = some m.cls := findClass_of_methodNamed B.named
  have hlocks := B.notSynchronized
  have hl := lv_entry ([.int x0, .int x1]) (n := 2) (Nat.le_of_ble_eq_true rfl)
  rw [lg_entry_eq]
  generalize (lg_sl ([.int x0, .int x1]) ++ List.replicate (2 - (lg_sl ([.int x0, .int x1])).length) Slot.unset).toArray = ls at hl ⊢
  have hl : lv_has ls 2 [(0, .int x0), (1, .int x1)] := hl
  unfold w_Str_checkIndex at hE
  refine lv_iload_n hx hb d_Str_checkIndex_0 rfl (lv_at hl 0 rfl) ?_
  refine lv_iload_n hx hb d_Str_checkIndex_1 rfl (lv_at hl 1 rfl) ?_
  refine t_fmt hx hb hC hS hown (hta _ fl_Str_1053) d_Str_checkIndex_2 (fun rF => ?_)
  refine ro_S  (As := [.int x0, .int x1, va_rf rF]) (rest := []) ⟨hx, hb, hml, hown, hta⟩ (c_Prec_checkIndex l x0 x1 rF _ hE) ok_Str_1059 ⟨Nat.le_of_ble_eq_true rfl, Nat.le_of_ble_eq_true rfl⟩ blind_true  (fun _ _ _ => trivial) rfl hl.1 rfl (Nat.le_of_ble_eq_true rfl) d_Str_checkIndex_5 ⟨Nat.zero_le _, Nat.zero_le _⟩ (fun r5 hE => ?_)
  refine lv_pop hx hb d_Str_checkIndex_8 rfl ?_
  exact W.vret hx hb hr (fun t ht hW => ⟨rfl, hE, ht⟩) (fun q h => by cases h) d_Str_checkIndex_9

theorem d_Lat_charAt_0 : decode b_Lat_charAt 0 = .ok (.iload_n 1, 1) := by decide +kernel
theorem d_Lat_charAt_1 : decode b_Lat_charAt 1 = .ok (.aload_n 0, 1) := by decide +kernel
theorem d_Lat_charAt_2 : decode b_Lat_charAt 2 = .ok (.arraylength, 1) := by decide +kernel
theorem d_Lat_charAt_3 : decode b_Lat_charAt 3 = .ok (.invokestatic 9, 3) := by decide +kernel
theorem d_Lat_charAt_6 : decode b_Lat_charAt 6 = .ok (.aload_n 0, 1) := by decide +kernel
theorem d_Lat_charAt_7 : decode b_Lat_charAt 7 = .ok (.iload_n 1, 1) := by decide +kernel
theorem d_Lat_charAt_8 : decode b_Lat_charAt 8 = .ok (.baload, 1) := by decide +kernel
theorem d_Lat_charAt_9 : decode b_Lat_charAt 9 = .ok (.sipush 255, 3) := by decide +kernel
theorem d_Lat_charAt_12 : decode b_Lat_charAt 12 = .ok (.iand, 1) := by decide +kernel
theorem d_Lat_charAt_13 : decode b_Lat_charAt 13 = .ok (.i2c, 1) := by decide +kernel
theorem d_Lat_charAt_14 : decode b_Lat_charAt 14 = .ok (.ireturn, 1) := by decide +kernel
def w_Lat_charAt   (x0 : Nat) (x1 : Int32) (post : Int32 → Prop) : Prop := (x0 < 49 ∧ w_Str_checkIndex  x1 (nI (tLn.getD x0 0)) ((x0 < 49 ∧ vp_in x1 (tLn.getD x0 0) ∧ (narrow .char (.int (((((tBy.getD x0 []).getD x1.toNatClampNeg 0) &&& 255).toUInt32 % 65536).toInt32)) = .int (((((tBy.getD x0 []).getD x1.toNatClampNeg 0) &&& 255).toUInt32 % 65536).toInt32) ∧ post (((((tBy.getD x0 []).getD x1.toNatClampNeg 0) &&& 255).toUInt32 % 65536).toInt32)))))
set_option maxHeartbeats 4000000 in
set_option maxRecDepth 100000 in
theorem c_Lat_charAt (l : Launch) (w : WD)  (x0 : Nat) (x1 : Int32)  (post : Int32 → Prop) (hE : w_Lat_charAt x0 x1 post) : Met l y_Lat_charAt ws_Lat_charAt { frames := 2, cells := 0, slots := 0, locals := 43 } (va_Pc [.ref (wV w x0), .int x1] (cW w)) (vp_Si post) 0 0 (fun _ => False) := by
  refine Met.ofW (cc := b_Lat_charAt) (maxL := 2) (ret := (some .char)) (by decide) rfl ?_
  intro p e s m args below meth c s₁ B hml hv
  obtain ⟨rfl, hC⟩ := hv
  have hC : CST w (fun _ => False) s s.heap := hC
  have hS : va_S (fun _ : Nat => False) s.heap s.heap [] := va_S.rf
  have hx := B.exec
  have hb := B.bytes
  have hr := B.returns
  have hta : ∀ w ∈ aW, w.before _ s = true := fun w h => atoms_spec (ws := ws_Lat_charAt) B.pre w (List.mem_cons_of_mem _ h)
  have hown : s.vm.findClass R_Lat = some m.cls := findClass_of_methodNamed B.named
  have hlocks := B.notSynchronized
  have hl := lv_entry ([.ref (wV w x0), .int x1]) (n := 2) (Nat.le_of_ble_eq_true rfl)
  rw [lg_entry_eq]
  generalize (lg_sl ([.ref (wV w x0), .int x1]) ++ List.replicate (2 - (lg_sl ([.ref (wV w x0), .int x1])).length) Slot.unset).toArray = ls at hl ⊢
  have hl : lv_has ls 2 [(0, .ref (wV w x0)), (1, .int x1)] := hl
  unfold w_Lat_charAt at hE
  refine lv_iload_n hx hb d_Lat_charAt_0 rfl (lv_at hl 1 rfl) ?_
  refine lv_aload_n hx hb d_Lat_charAt_1 rfl (lv_at hl 0 rfl) ?_
  obtain ⟨hi2, hE⟩ := hE
  refine t_len hx hb hC hS hi2 d_Lat_charAt_2 ?_
  refine roN_S  (As := [.int x1, .int (nI (tLn.getD x0 0))]) (rest := []) ⟨hx, hb, hml, hown, hta⟩ (c_Str_checkIndex l w x1 (nI (tLn.getD x0 0))  _ hE) ok_Lat_9 ⟨Nat.le_of_ble_eq_true rfl, Nat.le_of_ble_eq_true rfl⟩ blind_cW  (cW_of hC hS) rfl hl.1 rfl (Nat.le_of_ble_eq_true rfl) d_Lat_charAt_3 ⟨Nat.zero_le _, Nat.zero_le _⟩ (fun r3 hE => ?_)
  refine lv_aload_n hx hb d_Lat_charAt_6 rfl (lv_at hl 0 rfl) ?_
  refine lv_iload_n hx hb d_Lat_charAt_7 rfl (lv_at hl 1 rfl) ?_
  obtain ⟨hi8, hI8, hE⟩ := hE
  refine t_ald hx hb hC hS hi8 hI8 d_Lat_charAt_8 ?_
  refine lv_sipush (v := 255) hx hb d_Lat_charAt_9 (by decide) ?_
  refine lv_iand hx hb d_Lat_charAt_12 ?_
  refine lv_i2c hx hb d_Lat_charAt_13 rfl ?_
  obtain ⟨hN, hE⟩ := hE
  exact W.zret (v := ((((tBy.getD x0 []).getD x1.toNatClampNeg 0) &&& 255).toUInt32 % 65536).toInt32) hx hb hr hN (fun t ht hW => ⟨_, rfl, hE, ht⟩) (fun q h => by cases h) d_Lat_charAt_14
/-- the character at i of text x -/
def tCh (x : Nat) (i : Int32) : Int32 := (tBy.getD x []).getD i.toNatClampNeg 0 &&& 255
theorem l_LatCharAt (x : Nat) (i : Int32) (h : x < 49) (hi : vp_in i (tLn.getD x 0)) : w_Lat_charAt x i (fun r => r = tCh x i) := by
  have hl := (tLn_small x h).1
  obtain ⟨j, hj, rfl⟩ := vp_in_of hi (by omega)
  have e : (((((tBy.getD x []).getD (nI j).toNatClampNeg 0) &&& 255).toUInt32 % 65536).toInt32) = tCh x (nI j) := sc_c2 _
  refine ⟨h, br_f (nI_pos (by omega)) (br_t (nI_lt hj (by omega)) ⟨h, hi, ?_⟩)⟩
  rw [e]
  exact ⟨sc_nar _, rfl⟩
theorem f_Lat_charAt (l : Launch) (w : WD)  (x0 : Nat) (x1 : Int32)  (hc0 : x0 < 49) (hc1 : vp_in x1 (tLn.getD x0 0)) : Met l y_Lat_charAt ws_Lat_charAt { frames := 2, cells := 0, slots := 0, locals := 43 } (va_Pc [.ref (wV w x0), .int x1] (cW w)) (vp_Si (fun r => r = tCh x0 x1)) 0 0 (fun _ => False) := c_Lat_charAt l w  x0 x1 _  (l_LatCharAt  x0 x1 hc0 hc1)

theorem d_Str_charAt_0 : decode b_Str_charAt 0 = .ok (.aload_n 0, 1) := by decide +kernel
theorem d_Str_charAt_1 : decode b_Str_charAt 1 = .ok (.invokevirtual 492, 3) := by decide +kernel
theorem d_Str_charAt_4 : decode b_Str_charAt 4 = .ok (.ifCond .eq 12, 3) := by decide +kernel
theorem d_Str_charAt_7 : decode b_Str_charAt 7 = .ok (.aload_n 0, 1) := by decide +kernel
theorem d_Str_charAt_8 : decode b_Str_charAt 8 = .ok (.getfield 9, 3) := by decide +kernel
theorem d_Str_charAt_11 : decode b_Str_charAt 11 = .ok (.iload_n 1, 1) := by decide +kernel
theorem d_Str_charAt_12 : decode b_Str_charAt 12 = .ok (.invokestatic 495, 3) := by decide +kernel
theorem d_Str_charAt_15 : decode b_Str_charAt 15 = .ok (.ireturn, 1) := by decide +kernel
theorem d_Str_charAt_16 : decode b_Str_charAt 16 = .ok (.aload_n 0, 1) := by decide +kernel
theorem d_Str_charAt_17 : decode b_Str_charAt 17 = .ok (.getfield 9, 3) := by decide +kernel
theorem d_Str_charAt_20 : decode b_Str_charAt 20 = .ok (.iload_n 1, 1) := by decide +kernel
theorem d_Str_charAt_21 : decode b_Str_charAt 21 = .ok (.invokestatic 498, 3) := by decide +kernel
theorem d_Str_charAt_24 : decode b_Str_charAt 24 = .ok (.ireturn, 1) := by decide +kernel
def w_Str_charAt   (x : Nat) (x0 : Int32) (post : Int32 → Prop) : Prop := (x < 49 ∧ (((1 : Int32) = 0 → (x < 49 ∧ False)) ∧ (¬ (1 : Int32) = 0 → (x < 49 ∧ (x < 49 ∧ vp_in x0 (tLn.getD x 0) ∧ (narrow .char (.int (tCh x x0)) = .int (tCh x x0) ∧ post (tCh x x0)))))))
set_option maxHeartbeats 4000000 in
set_option maxRecDepth 100000 in
theorem c_Str_charAt (l : Launch) (w : WD)  (x : Nat) (x0 : Int32)  (post : Int32 → Prop) (hE : w_Str_charAt x x0 post) : Met l y_Str_charAt ws_Str_charAt { frames := 3, cells := 0, slots := 0, locals := 64 } (va_Pc [.ref (wK w x), .int x0] (cW w)) (vp_Si post) 0 0 (fun _ => False) := by
  refine Met.ofW (cc := b_Str_charAt) (maxL := 2) (ret := (some .char)) (by decide) rfl ?_
  intro p e s m args below meth c s₁ B hml hv
  obtain ⟨rfl, hC⟩ := hv
  have hC : CST w (fun _ => False) s s.heap := hC
  have hS : va_S (fun _ : Nat => False) s.heap s.heap [] := va_S.rf
  have hx := B.exec
  have hb := B.bytes
  have hr := B.returns
  have hta : ∀ w ∈ aW, w.before _ s = true := fun w h => atoms_spec (ws := ws_Str_charAt) B.pre w (List.mem_cons_of_mem _ h)
  have hown : s.vm.findClass R_Str = some m.cls := findClass_of_methodNamed B.named
  have hlocks := B.notSynchronized
  have hl := lv_entry ([.ref (wK w x), .int x0]) (n := 2) (Nat.le_of_ble_eq_true rfl)
  rw [lg_entry_eq]
  generalize (lg_sl ([.ref (wK w x), .int x0]) ++ List.replicate (2 - (lg_sl ([.ref (wK w x), .int x0])).length) Slot.unset).toArray = ls at hl ⊢
  have hl : lv_has ls 2 [(0, .ref (wK w x)), (1, .int x0)] := hl
  unfold w_Str_charAt at hE
  refine lv_aload_n hx hb d_Str_charAt_0 rfl (lv_at hl 0 rfl) ?_
  obtain ⟨hi1, hE⟩ := hE
  refine ro_V (b0 := wK w x) (As := []) (rest := []) ⟨hx, hb, hml, hown, hta⟩ (f_Str_isLatin1 l w x hi1) ok_Str_492 ⟨Nat.le_of_ble_eq_true rfl, Nat.le_of_ble_eq_true rfl⟩ blind_cW (t_recv hC hS hi1) (cW_of hC hS) rfl hl.1 rfl (Nat.le_of_ble_eq_true rfl) d_Str_charAt_1 ⟨Nat.zero_le _, Nat.zero_le _⟩ (fun r1 hr => ?_)
  subst hr
  refine lv_if_eq (tgt := 16) hx hb d_Str_charAt_4 (by decide) (fun cc4 => ?_) (fun cc4 => ?_)
  · have hE := hE.1 cc4
    refine lv_aload_n hx hb d_Str_charAt_16 rfl (lv_at hl 0 rfl) ?_
    obtain ⟨hi17, hE⟩ := hE
    refine t_val hx hb hC hS hi17 hown (hta _ fl_Str_9) d_Str_charAt_17 ?_
    refine lv_iload_n hx hb d_Str_charAt_20 rfl (lv_at hl 1 rfl) ?_
    exact hE.elim
  · have hE := hE.2 cc4
    refine lv_aload_n hx hb d_Str_charAt_7 rfl (lv_at hl 0 rfl) ?_
    obtain ⟨hi8, hE⟩ := hE
    refine t_val hx hb hC hS hi8 hown (hta _ fl_Str_9) d_Str_charAt_8 ?_
    refine lv_iload_n hx hb d_Str_charAt_11 rfl (lv_at hl 1 rfl) ?_
    obtain ⟨hc12_0, hc12_1, hE⟩ := hE
    refine ro_S  (As := [.ref (wV w x), .int x0]) (rest := []) ⟨hx, hb, hml, hown, hta⟩ (f_Lat_charAt l w x x0 hc12_0 hc12_1) ok_Str_495 ⟨Nat.le_of_ble_eq_true rfl, Nat.le_of_ble_eq_true rfl⟩ blind_cW  (cW_of hC hS) rfl hl.1 rfl (Nat.le_of_ble_eq_true rfl) d_Str_charAt_12 ⟨Nat.zero_le _, Nat.zero_le _⟩ (fun r12 hr => ?_)
    subst hr
    obtain ⟨hN, hE⟩ := hE
    exact W.zret (v := tCh x x0) hx hb hr hN (fun t ht hW => ⟨_, rfl, hE, ht⟩) (fun q h => by cases h) d_Str_charAt_15
theorem tCh_nar (x : Nat) (i : Int32) : narrow .char (.int (tCh x i)) = .int (tCh x i) := sc_nar _
theorem l_charAt (x : Nat) (i : Int32) (h : x < 49) (hi : vp_in i (tLn.getD x 0)) : w_Str_charAt x i (fun r => r = tCh x i) := ⟨h, br_f (by decide) ⟨h, h, hi, tCh_nar x i, rfl⟩⟩
theorem f_Str_charAt (l : Launch) (w : WD)  (x : Nat) (x0 : Int32)  (hx9 : x < 49) (hc0 : vp_in x0 (tLn.getD x 0)) : Met l y_Str_charAt ws_Str_charAt { frames := 3, cells := 0, slots := 0, locals := 64 } (va_Pc [.ref (wK w x), .int x0] (cW w)) (vp_Si (fun r => r = tCh x x0)) 0 0 (fun _ => False) := c_Str_charAt l w  x x0 _  (l_charAt  x x0 hx9 hc0)

theorem d_Kind_says_0 : decode b_Kind_says 0 = .ok (.aload_n 0, 1) := by decide +kernel
theorem d_Kind_says_1 : decode b_Kind_says 1 = .ok (.getfield 102, 3) := by decide +kernel
theorem d_Kind_says_4 : decode b_Kind_says 4 = .ok (.iload_n 1, 1) := by decide +kernel
theorem d_Kind_says_5 : decode b_Kind_says 5 = .ok (.iand, 1) := by decide +kernel
theorem d_Kind_says_6 : decode b_Kind_says 6 = .ok (.ifCond .eq 7, 3) := by decide +kernel
theorem d_Kind_says_9 : decode b_Kind_says 9 = .ok (.iconst 1, 1) := by decide +kernel
theorem d_Kind_says_10 : decode b_Kind_says 10 = .ok (.goto 4, 3) := by decide +kernel
theorem d_Kind_says_13 : decode b_Kind_says 13 = .ok (.iconst 0, 1) := by decide +kernel
theorem d_Kind_says_14 : decode b_Kind_says 14 = .ok (.ireturn, 1) := by decide +kernel
def w_Kind_says   (x : Nat) (x0 : Int32) (post : Int32 → Prop) : Prop := (x < 23 ∧ ((((kHo.getD x 0) &&& x0) = 0 → post 0) ∧ (¬ ((kHo.getD x 0) &&& x0) = 0 → post 1)))
set_option maxHeartbeats 4000000 in
set_option maxRecDepth 100000 in
theorem c_Kind_says (l : Launch) (w : WD)  (x : Nat) (x0 : Int32)  (post : Int32 → Prop) (hE : w_Kind_says x x0 post) : Met l y_Kind_says ws_Kind_says { frames := 0, cells := 0, slots := 0, locals := 0 } (va_Pc [.ref (wE w x), .int x0] (cW w)) (vp_Si post) 0 0 (fun _ => False) := by
  refine Met.ofW (cc := b_Kind_says) (maxL := 2) (ret := (some .boolean)) (by decide) rfl ?_
  intro p e s m args below meth c s₁ B hml hv
  obtain ⟨rfl, hC⟩ := hv
  have hC : CST w (fun _ => False) s s.heap := hC
  have hS : va_S (fun _ : Nat => False) s.heap s.heap [] := va_S.rf
  have hx := B.exec
  have hb := B.bytes
  have hr := B.returns
  have hta : ∀ w ∈ aW, w.before _ s = true := fun w h => atoms_spec (ws := ws_Kind_says) B.pre w (List.mem_cons_of_mem _ h)
  have hown : s.vm.findClass R_Kind = some m.cls := findClass_of_methodNamed B.named
  have hlocks := B.notSynchronized
  have hl := lv_entry ([.ref (wE w x), .int x0]) (n := 2) (Nat.le_of_ble_eq_true rfl)
  rw [lg_entry_eq]
  generalize (lg_sl ([.ref (wE w x), .int x0]) ++ List.replicate (2 - (lg_sl ([.ref (wE w x), .int x0])).length) Slot.unset).toArray = ls at hl ⊢
  have hl : lv_has ls 2 [(0, .ref (wE w x)), (1, .int x0)] := hl
  unfold w_Kind_says at hE
  refine lv_aload_n hx hb d_Kind_says_0 rfl (lv_at hl 0 rfl) ?_
  obtain ⟨hk1, hE⟩ := hE
  refine k_get (q := ("PlainPages$Kind", "holding", "I", kHo)) hx hb hC (r := some x) rfl hk1 hS hown (by simp [kF]) (hta _ fl_Kind_102) d_Kind_says_1 ?_
  refine lv_iload_n hx hb d_Kind_says_4 rfl (lv_at hl 1 rfl) ?_
  refine lv_iand hx hb d_Kind_says_5 ?_
  refine lv_if_eq (tgt := 13) hx hb d_Kind_says_6 (by decide) (fun cc6 => ?_) (fun cc6 => ?_)
  · have hE := hE.1 cc6
    refine lv_iconst (v := 0) hx hb d_Kind_says_13 (by decide) ?_
    exact W.zret (v := 0) hx hb hr rfl (fun t ht hW => ⟨_, rfl, hE, ht⟩) (fun q h => by cases h) d_Kind_says_14
  · have hE := hE.2 cc6
    refine lv_iconst (v := 1) hx hb d_Kind_says_9 (by decide) ?_
    refine lv_goto (tgt := 14) hx hb d_Kind_says_10 (by decide) ?_
    exact W.zret (v := 1) hx hb hr rfl (fun t ht hW => ⟨_, rfl, hE, ht⟩) (fun q h => by cases h) d_Kind_says_14
def kSays (k : Nat) (b : Int32) : Bool := !decide ((kHo.getD k 0 &&& b) = 0)
theorem l_says (k : Nat) (b : Int32) (h : k < 23) : w_Kind_says k b (fun r => r = b2i (kSays k b)) := by
  refine ⟨h, br_c (fun h1 => ?_) (fun h1 => ?_)⟩ <;> simp_all [kSays, b2i]
theorem f_Kind_says (l : Launch) (w : WD)  (x : Nat) (x0 : Int32)  (hx9 : x < 23) : Met l y_Kind_says ws_Kind_says { frames := 0, cells := 0, slots := 0, locals := 0 } (va_Pc [.ref (wE w x), .int x0] (cW w)) (vp_Si (fun r => r = b2i (kSays x x0))) 0 0 (fun _ => False) := c_Kind_says l w  x x0 _  (l_says  x x0 hx9)

theorem d_Kind_allows_0 : decode b_Kind_allows 0 = .ok (.iload_n 1, 1) := by decide +kernel
theorem d_Kind_allows_1 : decode b_Kind_allows 1 = .ok (.aload_n 0, 1) := by decide +kernel
theorem d_Kind_allows_2 : decode b_Kind_allows 2 = .ok (.getfield 105, 3) := by decide +kernel
theorem d_Kind_allows_5 : decode b_Kind_allows 5 = .ok (.iconst 1, 1) := by decide +kernel
theorem d_Kind_allows_6 : decode b_Kind_allows 6 = .ok (.ior, 1) := by decide +kernel
theorem d_Kind_allows_7 : decode b_Kind_allows 7 = .ok (.iconst (-1), 1) := by decide +kernel
theorem d_Kind_allows_8 : decode b_Kind_allows 8 = .ok (.ixor, 1) := by decide +kernel
theorem d_Kind_allows_9 : decode b_Kind_allows 9 = .ok (.iand, 1) := by decide +kernel
theorem d_Kind_allows_10 : decode b_Kind_allows 10 = .ok (.ifCond .ne 18, 3) := by decide +kernel
theorem d_Kind_allows_13 : decode b_Kind_allows 13 = .ok (.aload_n 0, 1) := by decide +kernel
theorem d_Kind_allows_14 : decode b_Kind_allows 14 = .ok (.getfield 108, 3) := by decide +kernel
theorem d_Kind_allows_17 : decode b_Kind_allows 17 = .ok (.iload_n 1, 1) := by decide +kernel
theorem d_Kind_allows_18 : decode b_Kind_allows 18 = .ok (.iconst (-1), 1) := by decide +kernel
theorem d_Kind_allows_19 : decode b_Kind_allows 19 = .ok (.ixor, 1) := by decide +kernel
theorem d_Kind_allows_20 : decode b_Kind_allows 20 = .ok (.iand, 1) := by decide +kernel
theorem d_Kind_allows_21 : decode b_Kind_allows 21 = .ok (.ifCond .ne 7, 3) := by decide +kernel
theorem d_Kind_allows_24 : decode b_Kind_allows 24 = .ok (.iconst 1, 1) := by decide +kernel
theorem d_Kind_allows_25 : decode b_Kind_allows 25 = .ok (.goto 4, 3) := by decide +kernel
theorem d_Kind_allows_28 : decode b_Kind_allows 28 = .ok (.iconst 0, 1) := by decide +kernel
theorem d_Kind_allows_29 : decode b_Kind_allows 29 = .ok (.ireturn, 1) := by decide +kernel
def w_Kind_allows   (x : Nat) (x0 : Int32) (post : Int32 → Prop) : Prop := (x < 23 ∧ (((x0 &&& (((kMa.getD x 0) ||| 1) ^^^ (-1))) = 0 → (x < 23 ∧ ((((kMu.getD x 0) &&& (x0 ^^^ (-1))) = 0 → post 1) ∧ (¬ ((kMu.getD x 0) &&& (x0 ^^^ (-1))) = 0 → post 0)))) ∧ (¬ (x0 &&& (((kMa.getD x 0) ||| 1) ^^^ (-1))) = 0 → post 0)))
set_option maxHeartbeats 4000000 in
set_option maxRecDepth 100000 in
theorem c_Kind_allows (l : Launch) (w : WD)  (x : Nat) (x0 : Int32)  (post : Int32 → Prop) (hE : w_Kind_allows x x0 post) : Met l y_Kind_allows ws_Kind_allows { frames := 0, cells := 0, slots := 0, locals := 0 } (va_Pc [.ref (wE w x), .int x0] (cW w)) (vp_Si post) 0 0 (fun _ => False) := by
  refine Met.ofW (cc := b_Kind_allows) (maxL := 2) (ret := (some .boolean)) (by decide) rfl ?_
  intro p e s m args below meth c s₁ B hml hv
  obtain ⟨rfl, hC⟩ := hv
  have hC : CST w (fun _ => False) s s.heap := hC
  have hS : va_S (fun _ : Nat => False) s.heap s.heap [] := va_S.rf
  have hx := B.exec
  have hb := B.bytes
  have hr := B.returns
  have hta : ∀ w ∈ aW, w.before _ s = true := fun w h => atoms_spec (ws := ws_Kind_allows) B.pre w (List.mem_cons_of_mem _ h)
  have hown : s.vm.findClass R_Kind = some m.cls := findClass_of_methodNamed B.named
  have hlocks := B.notSynchronized
  have hl := lv_entry ([.ref (wE w x), .int x0]) (n := 2) (Nat.le_of_ble_eq_true rfl)
  rw [lg_entry_eq]
  generalize (lg_sl ([.ref (wE w x), .int x0]) ++ List.replicate (2 - (lg_sl ([.ref (wE w x), .int x0])).length) Slot.unset).toArray = ls at hl ⊢
  have hl : lv_has ls 2 [(0, .ref (wE w x)), (1, .int x0)] := hl
  unfold w_Kind_allows at hE
  refine lv_iload_n hx hb d_Kind_allows_0 rfl (lv_at hl 1 rfl) ?_
  refine lv_aload_n hx hb d_Kind_allows_1 rfl (lv_at hl 0 rfl) ?_
  obtain ⟨hk2, hE⟩ := hE
  refine k_get (q := ("PlainPages$Kind", "mayHave", "I", kMa)) hx hb hC (r := some x) rfl hk2 hS hown (by simp [kF]) (hta _ fl_Kind_105) d_Kind_allows_2 ?_
  refine lv_iconst (v := 1) hx hb d_Kind_allows_5 (by decide) ?_
  refine lv_ior hx hb d_Kind_allows_6 ?_
  refine lv_iconst (v := -1) hx hb d_Kind_allows_7 (by decide) ?_
  refine lv_ixor hx hb d_Kind_allows_8 ?_
  refine lv_iand hx hb d_Kind_allows_9 ?_
  refine lv_if_ne (tgt := 28) hx hb d_Kind_allows_10 (by decide) (fun cc10 => ?_) (fun cc10 => ?_)
  · have hE := hE.2 cc10
    refine lv_iconst (v := 0) hx hb d_Kind_allows_28 (by decide) ?_
    exact W.zret (v := 0) hx hb hr rfl (fun t ht hW => ⟨_, rfl, hE, ht⟩) (fun q h => by cases h) d_Kind_allows_29
  · have hE := hE.1 cc10
    refine lv_aload_n hx hb d_Kind_allows_13 rfl (lv_at hl 0 rfl) ?_
    obtain ⟨hk14, hE⟩ := hE
    refine k_get (q := ("PlainPages$Kind", "mustHave", "I", kMu)) hx hb hC (r := some x) rfl hk14 hS hown (by simp [kF]) (hta _ fl_Kind_108) d_Kind_allows_14 ?_
    refine lv_iload_n hx hb d_Kind_allows_17 rfl (lv_at hl 1 rfl) ?_
    refine lv_iconst (v := -1) hx hb d_Kind_allows_18 (by decide) ?_
    refine lv_ixor hx hb d_Kind_allows_19 ?_
    refine lv_iand hx hb d_Kind_allows_20 ?_
    refine lv_if_ne (tgt := 28) hx hb d_Kind_allows_21 (by decide) (fun cc21 => ?_) (fun cc21 => ?_)
    · have hE := hE.2 cc21
      refine lv_iconst (v := 0) hx hb d_Kind_allows_28 (by decide) ?_
      exact W.zret (v := 0) hx hb hr rfl (fun t ht hW => ⟨_, rfl, hE, ht⟩) (fun q h => by cases h) d_Kind_allows_29
    · have hE := hE.1 cc21
      refine lv_iconst (v := 1) hx hb d_Kind_allows_24 (by decide) ?_
      refine lv_goto (tgt := 29) hx hb d_Kind_allows_25 (by decide) ?_
      exact W.zret (v := 1) hx hb hr rfl (fun t ht hW => ⟨_, rfl, hE, ht⟩) (fun q h => by cases h) d_Kind_allows_29
def kAllows (k : Nat) (z : Int32) : Bool := decide ((z &&& ((kMa.getD k 0 ||| 1) ^^^ (-1))) = 0) && decide ((kMu.getD k 0 &&& (z ^^^ (-1))) = 0)
theorem l_allows (k : Nat) (z : Int32) (h : k < 23) : w_Kind_allows k z (fun r => r = b2i (kAllows k z)) := by
  refine ⟨h, br_c (fun h1 => ⟨h, br_c (fun h2 => ?_) (fun h2 => ?_)⟩) (fun h1 => ?_)⟩ <;> simp_all [kAllows, b2i]
theorem f_Kind_allows (l : Launch) (w : WD)  (x : Nat) (x0 : Int32)  (hx9 : x < 23) : Met l y_Kind_allows ws_Kind_allows { frames := 0, cells := 0, slots := 0, locals := 0 } (va_Pc [.ref (wE w x), .int x0] (cW w)) (vp_Si (fun r => r = b2i (kAllows x x0))) 0 0 (fun _ => False) := c_Kind_allows l w  x x0 _  (l_allows  x x0 hx9)

theorem d_Book_size_0 : decode b_Book_size 0 = .ok (.aload_n 0, 1) := by decide +kernel
theorem d_Book_size_1 : decode b_Book_size 1 = .ok (.getfield 14, 3) := by decide +kernel
theorem d_Book_size_4 : decode b_Book_size 4 = .ok (.invokevirtual 40, 3) := by decide +kernel
theorem d_Book_size_7 : decode b_Book_size 7 = .ok (.ireturn, 1) := by decide +kernel
def w_Book_size  (σ : PPS)  (post : Int32 → Prop) : Prop := post ((pNd σ).1)
set_option maxHeartbeats 4000000 in
set_option maxRecDepth 100000 in
theorem c_Book_size (l : Launch) (w : WD) (σ : PPS)   (post : Int32 → Prop) (hI : inv σ) (hE : w_Book_size σ post) : Met l y_Book_size ws_Book_size { frames := 1, cells := 0, slots := 0, locals := 20 } (va_Pc [.ref (wA w 6)] (fW w σ)) (vp_Si post) 0 0 (fun _ => False) := by
  refine Met.ofW (cc := b_Book_size) (maxL := 1) (ret := (some .int)) (by decide) rfl ?_
  intro p e s m args below meth c s₁ B hml hv
  obtain ⟨rfl, hP, hK, hC⟩ := hv
  have hS : va_S (fun _ : Nat => False) s.heap s.heap [] := va_S.rf
  have hx := B.exec
  have hb := B.bytes
  have hr := B.returns
  have hta : ∀ w ∈ aW, w.before _ s = true := fun w h => atoms_spec (ws := ws_Book_size) B.pre w (List.mem_cons_of_mem _ h)
  have hown : s.vm.findClass R_Book = some m.cls := findClass_of_methodNamed B.named
  have hlocks := B.notSynchronized
  have hl := lv_entry ([.ref (wA w 6)]) (n := 1) (Nat.le_of_ble_eq_true rfl)
  rw [lg_entry_eq]
  generalize (lg_sl ([.ref (wA w 6)]) ++ List.replicate (1 - (lg_sl ([.ref (wA w 6)])).length) Slot.unset).toArray = ls at hl ⊢
  have hl : lv_has ls 1 [(0, .ref (wA w 6))] := hl
  unfold w_Book_size at hE
  refine lv_aload_n hx hb d_Book_size_0 rfl (lv_at hl 0 rfl) ?_
  refine va_get (D := (wG w)) (ci := 3) (v := .ref (wA w 7)) (C := R_Book) (T := F_Book) (N := 4) hx hb hta i_Book hown hK hP 6 rfl rfl 0 (by decide) (hta _ fl_Book_14) (fun _ h9 => h9) rfl d_Book_size_1 ?_
  refine ro_V (b0 := (wA w 7)) (As := []) (rest := []) ⟨hx, hb, hml, hown, hta⟩ (c_Table_size l (wG w) (wA w 7) (wA w 8) (wI w) 900 14 12600 (pNd σ)  (fun r => r = (pNd σ).1) rfl) ok_Book_40 ⟨Nat.le_of_ble_eq_true rfl, Nat.le_of_ble_eq_true rfl⟩ blind_rW (va_recv hK hP (ci := 2) (q0 := 7) rfl rfl) (fun U h1 h2 => ⟨by rw [h1]; exact hP.sub [7, 8] rfl, va_K.moved h2.alike hK⟩) rfl hl.1 rfl (Nat.le_of_ble_eq_true rfl) d_Book_size_4 ⟨Nat.zero_le _, Nat.zero_le _⟩ (fun r4 hr => ?_)
  subst hr
  exact W.iret (v := (pNd σ).1) hx hb hr (fun t ht hW => ⟨_, rfl, hE, ht⟩) (fun q h => by cases h) d_Book_size_7
theorem l_Book_size {σ : PPS} (_ : inv σ) : w_Book_size σ (fun r => r = (pNd σ).1) := rfl
theorem f_Book_size (l : Launch) (w : WD) (σ : PPS)  (hI : inv σ)  : Met l y_Book_size ws_Book_size { frames := 1, cells := 0, slots := 0, locals := 20 } (va_Pc [.ref (wA w 6)] (fW w σ)) (vp_Si (fun r => r = (pNd σ).1)) 0 0 (fun _ => False) := c_Book_size l w σ  _ hI (l_Book_size hI  )

theorem d_Book_elementCount_0 : decode b_Book_elementCount 0 = .ok (.aload_n 0, 1) := by decide +kernel
theorem d_Book_elementCount_1 : decode b_Book_elementCount 1 = .ok (.getfield 32, 3) := by decide +kernel
theorem d_Book_elementCount_4 : decode b_Book_elementCount 4 = .ok (.ireturn, 1) := by decide +kernel
def w_Book_elementCount  (σ : PPS)  (post : Int32 → Prop) : Prop := post (pEl σ)
set_option maxHeartbeats 4000000 in
set_option maxRecDepth 100000 in
theorem c_Book_elementCount (l : Launch) (w : WD) (σ : PPS)   (post : Int32 → Prop) (hI : inv σ) (hE : w_Book_elementCount σ post) : Met l y_Book_elementCount ws_Book_elementCount { frames := 0, cells := 0, slots := 0, locals := 0 } (va_Pc [.ref (wA w 6)] (fW w σ)) (vp_Si post) 0 0 (fun _ => False) := by
  refine Met.ofW (cc := b_Book_elementCount) (maxL := 1) (ret := (some .int)) (by decide) rfl ?_
  intro p e s m args below meth c s₁ B hml hv
  obtain ⟨rfl, hP, hK, hC⟩ := hv
  have hS : va_S (fun _ : Nat => False) s.heap s.heap [] := va_S.rf
  have hx := B.exec
  have hb := B.bytes
  have hr := B.returns
  have hta : ∀ w ∈ aW, w.before _ s = true := fun w h => atoms_spec (ws := ws_Book_elementCount) B.pre w (List.mem_cons_of_mem _ h)
  have hown : s.vm.findClass R_Book = some m.cls := findClass_of_methodNamed B.named
  have hlocks := B.notSynchronized
  have hl := lv_entry ([.ref (wA w 6)]) (n := 1) (Nat.le_of_ble_eq_true rfl)
  rw [lg_entry_eq]
  generalize (lg_sl ([.ref (wA w 6)]) ++ List.replicate (1 - (lg_sl ([.ref (wA w 6)])).length) Slot.unset).toArray = ls at hl ⊢
  have hl : lv_has ls 1 [(0, .ref (wA w 6))] := hl
  unfold w_Book_elementCount at hE
  refine lv_aload_n hx hb d_Book_elementCount_0 rfl (lv_at hl 0 rfl) ?_
  refine va_get (D := (wG w)) (ci := 3) (v := .int (pEl σ)) (C := R_Book) (T := F_Book) (N := 4) hx hb hta i_Book hown hK hP 6 rfl rfl 3 (by decide) (hta _ fl_Book_32) (fun _ h9 => h9) rfl d_Book_elementCount_1 ?_
  exact W.iret (v := pEl σ) hx hb hr (fun t ht hW => ⟨_, rfl, hE, ht⟩) (fun q h => by cases h) d_Book_elementCount_4
theorem l_Book_elementCount {σ : PPS} (_ : inv σ) : w_Book_elementCount σ (fun r => r = pEl σ) := rfl
theorem f_Book_elementCount (l : Launch) (w : WD) (σ : PPS)  (hI : inv σ)  : Met l y_Book_elementCount ws_Book_elementCount { frames := 0, cells := 0, slots := 0, locals := 0 } (va_Pc [.ref (wA w 6)] (fW w σ)) (vp_Si (fun r => r = pEl σ)) 0 0 (fun _ => False) := c_Book_elementCount l w σ  _ hI (l_Book_elementCount hI  )

theorem d_Book_ofNode_0 : decode b_Book_ofNode 0 = .ok (.aload_n 0, 1) := by decide +kernel
theorem d_Book_ofNode_1 : decode b_Book_ofNode 1 = .ok (.getfield 14, 3) := by decide +kernel
theorem d_Book_ofNode_4 : decode b_Book_ofNode 4 = .ok (.iload_n 1, 1) := by decide +kernel
theorem d_Book_ofNode_5 : decode b_Book_ofNode 5 = .ok (.iload_n 2, 1) := by decide +kernel
theorem d_Book_ofNode_6 : decode b_Book_ofNode 6 = .ok (.invokevirtual 44, 3) := by decide +kernel
theorem d_Book_ofNode_9 : decode b_Book_ofNode 9 = .ok (.ireturn, 1) := by decide +kernel
def w_Book_ofNode  (σ : PPS) (x0 : Int32) (x1 : Int32) (post : Int32 → Prop) : Prop := post (tGet 14 (pNd σ) x0 x1)
set_option maxHeartbeats 4000000 in
set_option maxRecDepth 100000 in
theorem c_Book_ofNode (l : Launch) (w : WD) (σ : PPS) (x0 : Int32) (x1 : Int32)  (post : Int32 → Prop) (hI : inv σ) (hE : w_Book_ofNode σ x0 x1 post) : Met l y_Book_ofNode ws_Book_ofNode { frames := 1, cells := 0, slots := 0, locals := 23 } (va_Pc [.ref (wA w 6), .int x0, .int x1] (fW w σ)) (vp_Si post) 0 0 (fun _ => False) := by
  refine Met.ofW (cc := b_Book_ofNode) (maxL := 3) (ret := (some .int)) (by decide) rfl ?_
  intro p e s m args below meth c s₁ B hml hv
  obtain ⟨rfl, hP, hK, hC⟩ := hv
  have hS : va_S (fun _ : Nat => False) s.heap s.heap [] := va_S.rf
  have hx := B.exec
  have hb := B.bytes
  have hr := B.returns
  have hta : ∀ w ∈ aW, w.before _ s = true := fun w h => atoms_spec (ws := ws_Book_ofNode) B.pre w (List.mem_cons_of_mem _ h)
  have hown : s.vm.findClass R_Book = some m.cls := findClass_of_methodNamed B.named
  have hlocks := B.notSynchronized
  have hl := lv_entry ([.ref (wA w 6), .int x0, .int x1]) (n := 3) (Nat.le_of_ble_eq_true rfl)
  rw [lg_entry_eq]
  generalize (lg_sl ([.ref (wA w 6), .int x0, .int x1]) ++ List.replicate (3 - (lg_sl ([.ref (wA w 6), .int x0, .int x1])).length) Slot.unset).toArray = ls at hl ⊢
  have hl : lv_has ls 3 [(0, .ref (wA w 6)), (1, .int x0), (2, .int x1)] := hl
  unfold w_Book_ofNode at hE
  refine lv_aload_n hx hb d_Book_ofNode_0 rfl (lv_at hl 0 rfl) ?_
  refine va_get (D := (wG w)) (ci := 3) (v := .ref (wA w 7)) (C := R_Book) (T := F_Book) (N := 4) hx hb hta i_Book hown hK hP 6 rfl rfl 0 (by decide) (hta _ fl_Book_14) (fun _ h9 => h9) rfl d_Book_ofNode_1 ?_
  refine lv_iload_n hx hb d_Book_ofNode_4 rfl (lv_at hl 1 rfl) ?_
  refine lv_iload_n hx hb d_Book_ofNode_5 rfl (lv_at hl 2 rfl) ?_
  refine ro_V (b0 := (wA w 7)) (As := [.int x0, .int x1]) (rest := []) ⟨hx, hb, hml, hown, hta⟩ (c_Table_get l (wG w) (wA w 7) (wA w 8) (wI w) 900 14 12600 (pNd σ) x0 x1 (fun r => r = tGet 14 (pNd σ) x0 x1) (lNd_get hI x0 x1)) ok_Book_44 ⟨Nat.le_of_ble_eq_true rfl, Nat.le_of_ble_eq_true rfl⟩ blind_rW (va_recv hK hP (ci := 2) (q0 := 7) rfl rfl) (fun U h1 h2 => ⟨by rw [h1]; exact hP.sub [7, 8] rfl, va_K.moved h2.alike hK⟩) rfl hl.1 rfl (Nat.le_of_ble_eq_true rfl) d_Book_ofNode_6 ⟨Nat.zero_le _, Nat.zero_le _⟩ (fun r6 hr => ?_)
  subst hr
  exact W.iret (v := tGet 14 (pNd σ) x0 x1) hx hb hr (fun t ht hW => ⟨_, rfl, hE, ht⟩) (fun q h => by cases h) d_Book_ofNode_9
theorem l_Book_ofNode {σ : PPS} (_ : inv σ) (k c : Int32) : w_Book_ofNode σ k c (fun r => r = tGet 14 (pNd σ) k c) := rfl
theorem f_Book_ofNode (l : Launch) (w : WD) (σ : PPS) (x0 : Int32) (x1 : Int32) (hI : inv σ)  : Met l y_Book_ofNode ws_Book_ofNode { frames := 1, cells := 0, slots := 0, locals := 23 } (va_Pc [.ref (wA w 6), .int x0, .int x1] (fW w σ)) (vp_Si (fun r => r = tGet 14 (pNd σ) x0 x1)) 0 0 (fun _ => False) := c_Book_ofNode l w σ x0 x1 _ hI (l_Book_ofNode hI x0 x1 )

theorem d_Book_ofAttribute_0 : decode b_Book_ofAttribute 0 = .ok (.aload_n 0, 1) := by decide +kernel
theorem d_Book_ofAttribute_1 : decode b_Book_ofAttribute 1 = .ok (.getfield 20, 3) := by decide +kernel
theorem d_Book_ofAttribute_4 : decode b_Book_ofAttribute 4 = .ok (.iload_n 1, 1) := by decide +kernel
theorem d_Book_ofAttribute_5 : decode b_Book_ofAttribute 5 = .ok (.iload_n 2, 1) := by decide +kernel
theorem d_Book_ofAttribute_6 : decode b_Book_ofAttribute 6 = .ok (.invokevirtual 44, 3) := by decide +kernel
theorem d_Book_ofAttribute_9 : decode b_Book_ofAttribute 9 = .ok (.ireturn, 1) := by decide +kernel
def w_Book_ofAttribute  (σ : PPS) (x0 : Int32) (x1 : Int32) (post : Int32 → Prop) : Prop := post (tGet 5 (pAt σ) x0 x1)
set_option maxHeartbeats 4000000 in
set_option maxRecDepth 100000 in
theorem c_Book_ofAttribute (l : Launch) (w : WD) (σ : PPS) (x0 : Int32) (x1 : Int32)  (post : Int32 → Prop) (hI : inv σ) (hE : w_Book_ofAttribute σ x0 x1 post) : Met l y_Book_ofAttribute ws_Book_ofAttribute { frames := 1, cells := 0, slots := 0, locals := 23 } (va_Pc [.ref (wA w 6), .int x0, .int x1] (fW w σ)) (vp_Si post) 0 0 (fun _ => False) := by
  refine Met.ofW (cc := b_Book_ofAttribute) (maxL := 3) (ret := (some .int)) (by decide) rfl ?_
  intro p e s m args below meth c s₁ B hml hv
  obtain ⟨rfl, hP, hK, hC⟩ := hv
  have hS : va_S (fun _ : Nat => False) s.heap s.heap [] := va_S.rf
  have hx := B.exec
  have hb := B.bytes
  have hr := B.returns
  have hta : ∀ w ∈ aW, w.before _ s = true := fun w h => atoms_spec (ws := ws_Book_ofAttribute) B.pre w (List.mem_cons_of_mem _ h)
  have hown : s.vm.findClass R_Book = some m.cls := findClass_of_methodNamed B.named
  have hlocks := B.notSynchronized
  have hl := lv_entry ([.ref (wA w 6), .int x0, .int x1]) (n := 3) (Nat.le_of_ble_eq_true rfl)
  rw [lg_entry_eq]
  generalize (lg_sl ([.ref (wA w 6), .int x0, .int x1]) ++ List.replicate (3 - (lg_sl ([.ref (wA w 6), .int x0, .int x1])).length) Slot.unset).toArray = ls at hl ⊢
  have hl : lv_has ls 3 [(0, .ref (wA w 6)), (1, .int x0), (2, .int x1)] := hl
  unfold w_Book_ofAttribute at hE
  refine lv_aload_n hx hb d_Book_ofAttribute_0 rfl (lv_at hl 0 rfl) ?_
  refine va_get (D := (wG w)) (ci := 3) (v := .ref (wA w 9)) (C := R_Book) (T := F_Book) (N := 4) hx hb hta i_Book hown hK hP 6 rfl rfl 1 (by decide) (hta _ fl_Book_20) (fun _ h9 => h9) rfl d_Book_ofAttribute_1 ?_
  refine lv_iload_n hx hb d_Book_ofAttribute_4 rfl (lv_at hl 1 rfl) ?_
  refine lv_iload_n hx hb d_Book_ofAttribute_5 rfl (lv_at hl 2 rfl) ?_
  refine ro_V (b0 := (wA w 9)) (As := [.int x0, .int x1]) (rest := []) ⟨hx, hb, hml, hown, hta⟩ (c_Table_get l (wG w) (wA w 9) (wA w 10) (wI w) 800 5 4000 (pAt σ) x0 x1 (fun r => r = tGet 5 (pAt σ) x0 x1) (lAt_get hI x0 x1)) ok_Book_44 ⟨Nat.le_of_ble_eq_true rfl, Nat.le_of_ble_eq_true rfl⟩ blind_rW (va_recv hK hP (ci := 2) (q0 := 9) rfl rfl) (fun U h1 h2 => ⟨by rw [h1]; exact hP.sub [9, 10] rfl, va_K.moved h2.alike hK⟩) rfl hl.1 rfl (Nat.le_of_ble_eq_true rfl) d_Book_ofAttribute_6 ⟨Nat.zero_le _, Nat.zero_le _⟩ (fun r6 hr => ?_)
  subst hr
  exact W.iret (v := tGet 5 (pAt σ) x0 x1) hx hb hr (fun t ht hW => ⟨_, rfl, hE, ht⟩) (fun q h => by cases h) d_Book_ofAttribute_9
theorem l_Book_ofAttribute {σ : PPS} (_ : inv σ) (k c : Int32) : w_Book_ofAttribute σ k c (fun r => r = tGet 5 (pAt σ) k c) := rfl
theorem f_Book_ofAttribute (l : Launch) (w : WD) (σ : PPS) (x0 : Int32) (x1 : Int32) (hI : inv σ)  : Met l y_Book_ofAttribute ws_Book_ofAttribute { frames := 1, cells := 0, slots := 0, locals := 23 } (va_Pc [.ref (wA w 6), .int x0, .int x1] (fW w σ)) (vp_Si (fun r => r = tGet 5 (pAt σ) x0 x1)) 0 0 (fun _ => False) := c_Book_ofAttribute l w σ x0 x1 _ hI (l_Book_ofAttribute hI x0 x1 )

theorem d_Book_letterAt_0 : decode b_Book_letterAt 0 = .ok (.iload_n 3, 1) := by decide +kernel
theorem d_Book_letterAt_1 : decode b_Book_letterAt 1 = .ok (.ifCond .lt 21, 3) := by decide +kernel
theorem d_Book_letterAt_4 : decode b_Book_letterAt 4 = .ok (.iload_n 3, 1) := by decide +kernel
theorem d_Book_letterAt_5 : decode b_Book_letterAt 5 = .ok (.iload_n 2, 1) := by decide +kernel
theorem d_Book_letterAt_6 : decode b_Book_letterAt 6 = .ok (.if_icmp .ge 16, 3) := by decide +kernel
theorem d_Book_letterAt_9 : decode b_Book_letterAt 9 = .ok (.aload_n 0, 1) := by decide +kernel
theorem d_Book_letterAt_10 : decode b_Book_letterAt 10 = .ok (.getfield 28, 3) := by decide +kernel
theorem d_Book_letterAt_13 : decode b_Book_letterAt 13 = .ok (.iload_n 1, 1) := by decide +kernel
theorem d_Book_letterAt_14 : decode b_Book_letterAt 14 = .ok (.iload_n 3, 1) := by decide +kernel
theorem d_Book_letterAt_15 : decode b_Book_letterAt 15 = .ok (.iadd, 1) := by decide +kernel
theorem d_Book_letterAt_16 : decode b_Book_letterAt 16 = .ok (.invokevirtual 48, 3) := by decide +kernel
theorem d_Book_letterAt_19 : decode b_Book_letterAt 19 = .ok (.goto 4, 3) := by decide +kernel
theorem d_Book_letterAt_22 : decode b_Book_letterAt 22 = .ok (.iconst (-1), 1) := by decide +kernel
theorem d_Book_letterAt_23 : decode b_Book_letterAt 23 = .ok (.ireturn, 1) := by decide +kernel
def w_Book_letterAt  (σ : PPS) (x0 : Int32) (x1 : Int32) (x2 : Int32) (post : Int32 → Prop) : Prop := ((x2 < 0 → post (-1)) ∧ (¬ x2 < 0 → ((x1 ≤ x2 → post (-1)) ∧ (¬ x1 ≤ x2 → post (sGet (pLe σ) (x0 + x2))))))
set_option maxHeartbeats 4000000 in
set_option maxRecDepth 100000 in
theorem c_Book_letterAt (l : Launch) (w : WD) (σ : PPS) (x0 : Int32) (x1 : Int32) (x2 : Int32)  (post : Int32 → Prop) (hI : inv σ) (hE : w_Book_letterAt σ x0 x1 x2 post) : Met l y_Book_letterAt ws_Book_letterAt { frames := 1, cells := 0, slots := 0, locals := 21 } (va_Pc [.ref (wA w 6), .int x0, .int x1, .int x2] (fW w σ)) (vp_Si post) 0 0 (fun _ => False) := by
  refine Met.ofW (cc := b_Book_letterAt) (maxL := 4) (ret := (some .int)) (by decide) rfl ?_
  intro p e s m args below meth c s₁ B hml hv
  obtain ⟨rfl, hP, hK, hC⟩ := hv
  have hS : va_S (fun _ : Nat => False) s.heap s.heap [] := va_S.rf
  have hx := B.exec
  have hb := B.bytes
  have hr := B.returns
  have hta : ∀ w ∈ aW, w.before _ s = true := fun w h => atoms_spec (ws := ws_Book_letterAt) B.pre w (List.mem_cons_of_mem _ h)
  have hown : s.vm.findClass R_Book = some m.cls := findClass_of_methodNamed B.named
  have hlocks := B.notSynchronized
  have hl := lv_entry ([.ref (wA w 6), .int x0, .int x1, .int x2]) (n := 4) (Nat.le_of_ble_eq_true rfl)
  rw [lg_entry_eq]
  generalize (lg_sl ([.ref (wA w 6), .int x0, .int x1, .int x2]) ++ List.replicate (4 - (lg_sl ([.ref (wA w 6), .int x0, .int x1, .int x2])).length) Slot.unset).toArray = ls at hl ⊢
  have hl : lv_has ls 4 [(0, .ref (wA w 6)), (1, .int x0), (2, .int x1), (3, .int x2)] := hl
  unfold w_Book_letterAt at hE
  refine lv_iload_n hx hb d_Book_letterAt_0 rfl (lv_at hl 3 rfl) ?_
  refine lv_if_lt (tgt := 22) hx hb d_Book_letterAt_1 (by decide) (fun cc1 => ?_) (fun cc1 => ?_)
  · have hE := hE.1 cc1
    refine lv_iconst (v := -1) hx hb d_Book_letterAt_22 (by decide) ?_
    exact W.iret (v := (-1)) hx hb hr (fun t ht hW => ⟨_, rfl, hE, ht⟩) (fun q h => by cases h) d_Book_letterAt_23
  · have hE := hE.2 cc1
    refine lv_iload_n hx hb d_Book_letterAt_4 rfl (lv_at hl 3 rfl) ?_
    refine lv_iload_n hx hb d_Book_letterAt_5 rfl (lv_at hl 2 rfl) ?_
    refine lv_icmp_ge (tgt := 22) hx hb d_Book_letterAt_6 (by decide) (fun cc6 => ?_) (fun cc6 => ?_)
    · have hE := hE.1 cc6
      refine lv_iconst (v := -1) hx hb d_Book_letterAt_22 (by decide) ?_
      exact W.iret (v := (-1)) hx hb hr (fun t ht hW => ⟨_, rfl, hE, ht⟩) (fun q h => by cases h) d_Book_letterAt_23
    · have hE := hE.2 cc6
      refine lv_aload_n hx hb d_Book_letterAt_9 rfl (lv_at hl 0 rfl) ?_
      refine va_get (D := (wG w)) (ci := 3) (v := .ref (wA w 11)) (C := R_Book) (T := F_Book) (N := 4) hx hb hta i_Book hown hK hP 6 rfl rfl 2 (by decide) (hta _ fl_Book_28) (fun _ h9 => h9) rfl d_Book_letterAt_10 ?_
      refine lv_iload_n hx hb d_Book_letterAt_13 rfl (lv_at hl 1 rfl) ?_
      refine lv_iload_n hx hb d_Book_letterAt_14 rfl (lv_at hl 3 rfl) ?_
      refine lv_iadd hx hb d_Book_letterAt_15 ?_
      refine ro_V (b0 := (wA w 11)) (As := [.int (x0 + x2)]) (rest := []) ⟨hx, hb, hml, hown, hta⟩ (c_Strip_get l (wG w) (wA w 11) (wA w 12) (wI w) 4000 (pLe σ) (x0 + x2) (fun r => r = sGet (pLe σ) (x0 + x2)) (l_Strip_get (by decide) (inv.Le hI) (x0 + x2))) ok_Book_48 ⟨Nat.le_of_ble_eq_true rfl, Nat.le_of_ble_eq_true rfl⟩ blind_rW (va_recv hK hP (ci := 1) (q0 := 11) rfl rfl) (fun U h1 h2 => ⟨by rw [h1]; exact hP.sub [11, 12] rfl, va_K.moved h2.alike hK⟩) rfl hl.1 rfl (Nat.le_of_ble_eq_true rfl) d_Book_letterAt_16 ⟨Nat.zero_le _, Nat.zero_le _⟩ (fun r16 hr => ?_)
      subst hr
      refine lv_goto (tgt := 23) hx hb d_Book_letterAt_19 (by decide) ?_
      exact W.iret (v := sGet (pLe σ) (x0 + x2)) hx hb hr (fun t ht hW => ⟨_, rfl, hE, ht⟩) (fun q h => by cases h) d_Book_letterAt_23
/-- letter i of 'count' letters from 'f' on -/
def bLet (σ : PPS) (f count i : Int32) : Int32 := if i < 0 then -1 else if count ≤ i then -1 else sGet (pLe σ) (f + i)
theorem l_Book_letterAt {σ : PPS} (_ : inv σ) (f n i : Int32) : w_Book_letterAt σ f n i (fun r => r = bLet σ f n i) := by
  unfold w_Book_letterAt bLet
  refine br_c (fun h1 => (if_pos h1).symm) (fun h1 => ?_)
  rw [if_neg h1]
  exact br_c (fun h2 => (if_pos h2).symm) (fun h2 => (if_neg h2).symm)
theorem f_Book_letterAt (l : Launch) (w : WD) (σ : PPS) (x0 : Int32) (x1 : Int32) (x2 : Int32) (hI : inv σ)  : Met l y_Book_letterAt ws_Book_letterAt { frames := 1, cells := 0, slots := 0, locals := 21 } (va_Pc [.ref (wA w 6), .int x0, .int x1, .int x2] (fW w σ)) (vp_Si (fun r => r = bLet σ x0 x1 x2)) 0 0 (fun _ => False) := c_Book_letterAt l w σ x0 x1 x2 _ hI (l_Book_letterAt hI x0 x1 x2 )

theorem d_Book_isElement_0 : decode b_Book_isElement 0 = .ok (.aload_n 0, 1) := by decide +kernel
theorem d_Book_isElement_1 : decode b_Book_isElement 1 = .ok (.getfield 14, 3) := by decide +kernel
theorem d_Book_isElement_4 : decode b_Book_isElement 4 = .ok (.iload_n 1, 1) := by decide +kernel
theorem d_Book_isElement_5 : decode b_Book_isElement 5 = .ok (.iconst 0, 1) := by decide +kernel
theorem d_Book_isElement_6 : decode b_Book_isElement 6 = .ok (.invokevirtual 44, 3) := by decide +kernel
theorem d_Book_isElement_9 : decode b_Book_isElement 9 = .ok (.iconst 1, 1) := by decide +kernel
theorem d_Book_isElement_10 : decode b_Book_isElement 10 = .ok (.if_icmp .ne 7, 3) := by decide +kernel
theorem d_Book_isElement_13 : decode b_Book_isElement 13 = .ok (.iconst 1, 1) := by decide +kernel
theorem d_Book_isElement_14 : decode b_Book_isElement 14 = .ok (.goto 4, 3) := by decide +kernel
theorem d_Book_isElement_17 : decode b_Book_isElement 17 = .ok (.iconst 0, 1) := by decide +kernel
theorem d_Book_isElement_18 : decode b_Book_isElement 18 = .ok (.ireturn, 1) := by decide +kernel
def w_Book_isElement  (σ : PPS) (x0 : Int32) (post : Int32 → Prop) : Prop := (((tGet 14 (pNd σ) x0 0) = 1 → post 1) ∧ (¬ (tGet 14 (pNd σ) x0 0) = 1 → post 0))
set_option maxHeartbeats 4000000 in
set_option maxRecDepth 100000 in
theorem c_Book_isElement (l : Launch) (w : WD) (σ : PPS) (x0 : Int32)  (post : Int32 → Prop) (hI : inv σ) (hE : w_Book_isElement σ x0 post) : Met l y_Book_isElement ws_Book_isElement { frames := 1, cells := 0, slots := 0, locals := 23 } (va_Pc [.ref (wA w 6), .int x0] (fW w σ)) (vp_Si post) 0 0 (fun _ => False) := by
  refine Met.ofW (cc := b_Book_isElement) (maxL := 2) (ret := (some .boolean)) (by decide) rfl ?_
  intro p e s m args below meth c s₁ B hml hv
  obtain ⟨rfl, hP, hK, hC⟩ := hv
  have hS : va_S (fun _ : Nat => False) s.heap s.heap [] := va_S.rf
  have hx := B.exec
  have hb := B.bytes
  have hr := B.returns
  have hta : ∀ w ∈ aW, w.before _ s = true := fun w h => atoms_spec (ws := ws_Book_isElement) B.pre w (List.mem_cons_of_mem _ h)
  have hown : s.vm.findClass R_Book = some m.cls := findClass_of_methodNamed B.named
  have hlocks := B.notSynchronized
  have hl := lv_entry ([.ref (wA w 6), .int x0]) (n := 2) (Nat.le_of_ble_eq_true rfl)
  rw [lg_entry_eq]
  generalize (lg_sl ([.ref (wA w 6), .int x0]) ++ List.replicate (2 - (lg_sl ([.ref (wA w 6), .int x0])).length) Slot.unset).toArray = ls at hl ⊢
  have hl : lv_has ls 2 [(0, .ref (wA w 6)), (1, .int x0)] := hl
  unfold w_Book_isElement at hE
  refine lv_aload_n hx hb d_Book_isElement_0 rfl (lv_at hl 0 rfl) ?_
  refine va_get (D := (wG w)) (ci := 3) (v := .ref (wA w 7)) (C := R_Book) (T := F_Book) (N := 4) hx hb hta i_Book hown hK hP 6 rfl rfl 0 (by decide) (hta _ fl_Book_14) (fun _ h9 => h9) rfl d_Book_isElement_1 ?_
  refine lv_iload_n hx hb d_Book_isElement_4 rfl (lv_at hl 1 rfl) ?_
  refine lv_iconst (v := 0) hx hb d_Book_isElement_5 (by decide) ?_
  refine ro_V (b0 := (wA w 7)) (As := [.int x0, .int 0]) (rest := []) ⟨hx, hb, hml, hown, hta⟩ (c_Table_get l (wG w) (wA w 7) (wA w 8) (wI w) 900 14 12600 (pNd σ) x0 0 (fun r => r = tGet 14 (pNd σ) x0 0) (lNd_get hI x0 0)) ok_Book_44 ⟨Nat.le_of_ble_eq_true rfl, Nat.le_of_ble_eq_true rfl⟩ blind_rW (va_recv hK hP (ci := 2) (q0 := 7) rfl rfl) (fun U h1 h2 => ⟨by rw [h1]; exact hP.sub [7, 8] rfl, va_K.moved h2.alike hK⟩) rfl hl.1 rfl (Nat.le_of_ble_eq_true rfl) d_Book_isElement_6 ⟨Nat.zero_le _, Nat.zero_le _⟩ (fun r6 hr => ?_)
  subst hr
  refine lv_iconst (v := 1) hx hb d_Book_isElement_9 (by decide) ?_
  refine lv_icmp_ne (tgt := 17) hx hb d_Book_isElement_10 (by decide) (fun cc10 => ?_) (fun cc10 => ?_)
  · have hE := hE.2 cc10
    refine lv_iconst (v := 0) hx hb d_Book_isElement_17 (by decide) ?_
    exact W.zret (v := 0) hx hb hr rfl (fun t ht hW => ⟨_, rfl, hE, ht⟩) (fun q h => by cases h) d_Book_isElement_18
  · have hE := hE.1 cc10
    refine lv_iconst (v := 1) hx hb d_Book_isElement_13 (by decide) ?_
    refine lv_goto (tgt := 18) hx hb d_Book_isElement_14 (by decide) ?_
    exact W.zret (v := 1) hx hb hr rfl (fun t ht hW => ⟨_, rfl, hE, ht⟩) (fun q h => by cases h) d_Book_isElement_18
def bEle (σ : PPS) (k : Int32) : Bool := decide (tGet 14 (pNd σ) k 0 = 1)
theorem l_Book_isElement {σ : PPS} (_ : inv σ) (k : Int32) : w_Book_isElement σ k (fun r => r = b2i (bEle σ k)) := by
  refine br_c (fun h1 => ?_) (fun h1 => ?_) <;> simp_all [bEle, b2i]
theorem f_Book_isElement (l : Launch) (w : WD) (σ : PPS) (x0 : Int32) (hI : inv σ)  : Met l y_Book_isElement ws_Book_isElement { frames := 1, cells := 0, slots := 0, locals := 23 } (va_Pc [.ref (wA w 6), .int x0] (fW w σ)) (vp_Si (fun r => r = b2i (bEle σ x0))) 0 0 (fun _ => False) := c_Book_isElement l w σ x0 _ hI (l_Book_isElement hI x0 )

theorem d_Book_kindOf_0 : decode b_Book_kindOf 0 = .ok (.aload_n 0, 1) := by decide +kernel
theorem d_Book_kindOf_1 : decode b_Book_kindOf 1 = .ok (.getfield 14, 3) := by decide +kernel
theorem d_Book_kindOf_4 : decode b_Book_kindOf 4 = .ok (.iload_n 1, 1) := by decide +kernel
theorem d_Book_kindOf_5 : decode b_Book_kindOf 5 = .ok (.bipush 12, 2) := by decide +kernel
theorem d_Book_kindOf_7 : decode b_Book_kindOf 7 = .ok (.invokevirtual 44, 3) := by decide +kernel
theorem d_Book_kindOf_10 : decode b_Book_kindOf 10 = .ok (.istore_n 2, 1) := by decide +kernel
theorem d_Book_kindOf_11 : decode b_Book_kindOf 11 = .ok (.iload_n 2, 1) := by decide +kernel
theorem d_Book_kindOf_12 : decode b_Book_kindOf 12 = .ok (.ifCond .lt 19, 3) := by decide +kernel
theorem d_Book_kindOf_15 : decode b_Book_kindOf 15 = .ok (.iload_n 2, 1) := by decide +kernel
theorem d_Book_kindOf_16 : decode b_Book_kindOf 16 = .ok (.getstatic 51, 3) := by decide +kernel
theorem d_Book_kindOf_19 : decode b_Book_kindOf 19 = .ok (.arraylength, 1) := by decide +kernel
theorem d_Book_kindOf_20 : decode b_Book_kindOf 20 = .ok (.if_icmp .ge 11, 3) := by decide +kernel
theorem d_Book_kindOf_23 : decode b_Book_kindOf 23 = .ok (.getstatic 51, 3) := by decide +kernel
theorem d_Book_kindOf_26 : decode b_Book_kindOf 26 = .ok (.iload_n 2, 1) := by decide +kernel
theorem d_Book_kindOf_27 : decode b_Book_kindOf 27 = .ok (.aaload, 1) := by decide +kernel
theorem d_Book_kindOf_28 : decode b_Book_kindOf 28 = .ok (.goto 4, 3) := by decide +kernel
theorem d_Book_kindOf_31 : decode b_Book_kindOf 31 = .ok (.aconst_null, 1) := by decide +kernel
theorem d_Book_kindOf_32 : decode b_Book_kindOf 32 = .ok (.areturn, 1) := by decide +kernel
def w_Book_kindOf  (σ : PPS) (x0 : Int32) (post : Option Nat → Prop) : Prop := (((tGet 14 (pNd σ) x0 12) < 0 → post none) ∧ (¬ (tGet 14 (pNd σ) x0 12) < 0 → ((23 ≤ (tGet 14 (pNd σ) x0 12) → post none) ∧ (¬ 23 ≤ (tGet 14 (pNd σ) x0 12) → (vp_in (tGet 14 (pNd σ) x0 12) 23 ∧ post (some (tGet 14 (pNd σ) x0 12).toNatClampNeg))))))
set_option maxHeartbeats 4000000 in
set_option maxRecDepth 100000 in
theorem c_Book_kindOf (l : Launch) (w : WD) (σ : PPS) (x0 : Int32)  (post : Option Nat → Prop) (hI : inv σ) (hE : w_Book_kindOf σ x0 post) : Met l y_Book_kindOf ws_Book_kindOf { frames := 1, cells := 0, slots := 0, locals := 23 } (va_Pc [.ref (wA w 6), .int x0] (fW w σ)) (va_Se (wE w) post) 0 0 (fun _ => False) := by
  refine Met.ofW (cc := b_Book_kindOf) (maxL := 3) (ret := (some (.object "PlainPages$Kind"))) (by decide) rfl ?_
  intro p e s m args below meth c s₁ B hml hv
  obtain ⟨rfl, hP, hK, hC⟩ := hv
  have hS : va_S (fun _ : Nat => False) s.heap s.heap [] := va_S.rf
  have hx := B.exec
  have hb := B.bytes
  have hr := B.returns
  have hta : ∀ w ∈ aW, w.before _ s = true := fun w h => atoms_spec (ws := ws_Book_kindOf) B.pre w (List.mem_cons_of_mem _ h)
  have hown : s.vm.findClass R_Book = some m.cls := findClass_of_methodNamed B.named
  have hlocks := B.notSynchronized
  have hl := lv_entry ([.ref (wA w 6), .int x0]) (n := 3) (Nat.le_of_ble_eq_true rfl)
  rw [lg_entry_eq]
  generalize (lg_sl ([.ref (wA w 6), .int x0]) ++ List.replicate (3 - (lg_sl ([.ref (wA w 6), .int x0])).length) Slot.unset).toArray = ls at hl ⊢
  have hl : lv_has ls 3 [(0, .ref (wA w 6)), (1, .int x0)] := hl
  unfold w_Book_kindOf at hE
  refine lv_aload_n hx hb d_Book_kindOf_0 rfl (lv_at hl 0 rfl) ?_
  refine va_get (D := (wG w)) (ci := 3) (v := .ref (wA w 7)) (C := R_Book) (T := F_Book) (N := 4) hx hb hta i_Book hown hK hP 6 rfl rfl 0 (by decide) (hta _ fl_Book_14) (fun _ h9 => h9) rfl d_Book_kindOf_1 ?_
  refine lv_iload_n hx hb d_Book_kindOf_4 rfl (lv_at hl 1 rfl) ?_
  refine lv_bipush (v := 12) hx hb d_Book_kindOf_5 (by decide) ?_
  refine ro_V (b0 := (wA w 7)) (As := [.int x0, .int 12]) (rest := []) ⟨hx, hb, hml, hown, hta⟩ (c_Table_get l (wG w) (wA w 7) (wA w 8) (wI w) 900 14 12600 (pNd σ) x0 12 (fun r => r = tGet 14 (pNd σ) x0 12) (lNd_get hI x0 12)) ok_Book_44 ⟨Nat.le_of_ble_eq_true rfl, Nat.le_of_ble_eq_true rfl⟩ blind_rW (va_recv hK hP (ci := 2) (q0 := 7) rfl rfl) (fun U h1 h2 => ⟨by rw [h1]; exact hP.sub [7, 8] rfl, va_K.moved h2.alike hK⟩) rfl hl.1 rfl (Nat.le_of_ble_eq_true rfl) d_Book_kindOf_7 ⟨Nat.zero_le _, Nat.zero_le _⟩ (fun r7 hr => ?_)
  subst hr
  refine lv_istore_n (lv' := [(2, .int (tGet 14 (pNd σ) x0 12)), (0, .ref (wA w 6)), (1, .int x0)]) hx hb d_Book_kindOf_10 rfl hl (by decide) rfl (fun ls hl => ?_)
  refine lv_iload_n hx hb d_Book_kindOf_11 rfl (lv_at hl 0 rfl) ?_
  refine lv_if_lt (tgt := 31) hx hb d_Book_kindOf_12 (by decide) (fun cc12 => ?_) (fun cc12 => ?_)
  · have hE := hE.1 cc12
    refine lv_null hx hb d_Book_kindOf_31 ?_
    exact W.aret (v := .null) hx hb hr (Or.inl ⟨_, rfl⟩) (va_re_or (wE w) none) (fun t ht hW => ⟨none, rfl, hE, ht⟩) (fun q h => by cases h) d_Book_kindOf_32
  · have hE := hE.2 cc12
    refine lv_iload_n hx hb d_Book_kindOf_15 rfl (lv_at hl 0 rfl) ?_
    refine k_arr hx hb hC hS hown hC.2.2.2.2.2.2.2.1 d_Book_kindOf_16 ?_
    refine k_len hx hb hC hS d_Book_kindOf_19 ?_
    refine lv_icmp_ge (tgt := 31) hx hb d_Book_kindOf_20 (by decide) (fun cc20 => ?_) (fun cc20 => ?_)
    · have hE := hE.1 cc20
      refine lv_null hx hb d_Book_kindOf_31 ?_
      exact W.aret (v := .null) hx hb hr (Or.inl ⟨_, rfl⟩) (va_re_or (wE w) none) (fun t ht hW => ⟨none, rfl, hE, ht⟩) (fun q h => by cases h) d_Book_kindOf_32
    · have hE := hE.2 cc20
      refine k_arr hx hb hC hS hown hC.2.2.2.2.2.2.2.1 d_Book_kindOf_23 ?_
      refine lv_iload_n hx hb d_Book_kindOf_26 rfl (lv_at hl 0 rfl) ?_
      obtain ⟨hI27, hE⟩ := hE
      refine k_ald hx hb hC hS hI27 d_Book_kindOf_27 ?_
      refine lv_goto (tgt := 32) hx hb d_Book_kindOf_28 (by decide) ?_
      exact W.aret (v := va_re (wE w) (some (tGet 14 (pNd σ) x0 12).toNatClampNeg)) hx hb hr (Or.inl ⟨_, rfl⟩) (va_re_or (wE w) (some (tGet 14 (pNd σ) x0 12).toNatClampNeg)) (fun t ht hW => ⟨(some (tGet 14 (pNd σ) x0 12).toNatClampNeg), rfl, hE, ht⟩) (fun q h => by cases h) d_Book_kindOf_32
def bKind (σ : PPS) (k : Int32) : Option Nat := if tGet 14 (pNd σ) k 12 < 0 then none else if 23 ≤ tGet 14 (pNd σ) k 12 then none else some (tGet 14 (pNd σ) k 12).toNatClampNeg
theorem l_Book_kindOf {σ : PPS} (_ : inv σ) (k : Int32) : w_Book_kindOf σ k (fun r => r = bKind σ k) := by
  unfold w_Book_kindOf bKind
  refine br_c (fun h1 => (if_pos h1).symm) (fun h1 => ?_)
  rw [if_neg h1]
  refine br_c (fun h2 => (if_pos h2).symm) (fun h2 => ?_)
  rw [if_neg h2]
  obtain ⟨j, hj, e⟩ := i_lt (n := 23) (by decide) h1 h2
  exact ⟨by rw [e]; exact vp_in_nI hj (by decide), rfl⟩
theorem bKind_ok (σ : PPS) (k : Int32) : kOk (bKind σ k) := by
  intro z hz
  unfold bKind at hz
  split at hz
  · cases hz
  · rename_i h1
    split at hz
    · cases hz
    · rename_i h2
      obtain ⟨j, hj, e⟩ := i_lt (n := 23) (by decide) h1 h2
      rw [e, nI_clamp (by omega)] at hz
      cases hz
      exact hj
theorem f_Book_kindOf (l : Launch) (w : WD) (σ : PPS) (x0 : Int32) (hI : inv σ)  : Met l y_Book_kindOf ws_Book_kindOf { frames := 1, cells := 0, slots := 0, locals := 23 } (va_Pc [.ref (wA w 6), .int x0] (fW w σ)) (va_Se (wE w) (fun r => r = bKind σ x0)) 0 0 (fun _ => False) := c_Book_kindOf l w σ x0 _ hI (l_Book_kindOf hI x0 )

theorem d_Book_attributeOf_0 : decode b_Book_attributeOf 0 = .ok (.iload_n 2, 1) := by decide +kernel
theorem d_Book_attributeOf_1 : decode b_Book_attributeOf 1 = .ok (.ifCond .lt 20, 3) := by decide +kernel
theorem d_Book_attributeOf_4 : decode b_Book_attributeOf 4 = .ok (.iload_n 2, 1) := by decide +kernel
theorem d_Book_attributeOf_5 : decode b_Book_attributeOf 5 = .ok (.aload_n 0, 1) := by decide +kernel
theorem d_Book_attributeOf_6 : decode b_Book_attributeOf 6 = .ok (.getfield 14, 3) := by decide +kernel
theorem d_Book_attributeOf_9 : decode b_Book_attributeOf 9 = .ok (.iload_n 1, 1) := by decide +kernel
theorem d_Book_attributeOf_10 : decode b_Book_attributeOf 10 = .ok (.iconst 4, 1) := by decide +kernel
theorem d_Book_attributeOf_11 : decode b_Book_attributeOf 11 = .ok (.invokevirtual 44, 3) := by decide +kernel
theorem d_Book_attributeOf_14 : decode b_Book_attributeOf 14 = .ok (.if_icmp .ge 7, 3) := by decide +kernel
theorem d_Book_attributeOf_17 : decode b_Book_attributeOf 17 = .ok (.iconst 1, 1) := by decide +kernel
theorem d_Book_attributeOf_18 : decode b_Book_attributeOf 18 = .ok (.goto 4, 3) := by decide +kernel
theorem d_Book_attributeOf_21 : decode b_Book_attributeOf 21 = .ok (.iconst 0, 1) := by decide +kernel
theorem d_Book_attributeOf_22 : decode b_Book_attributeOf 22 = .ok (.istore_n 3, 1) := by decide +kernel
theorem d_Book_attributeOf_23 : decode b_Book_attributeOf 23 = .ok (.iload_n 3, 1) := by decide +kernel
theorem d_Book_attributeOf_24 : decode b_Book_attributeOf 24 = .ok (.ifCond .eq 18, 3) := by decide +kernel
theorem d_Book_attributeOf_27 : decode b_Book_attributeOf 27 = .ok (.aload_n 0, 1) := by decide +kernel
theorem d_Book_attributeOf_28 : decode b_Book_attributeOf 28 = .ok (.getfield 14, 3) := by decide +kernel
theorem d_Book_attributeOf_31 : decode b_Book_attributeOf 31 = .ok (.iload_n 1, 1) := by decide +kernel
theorem d_Book_attributeOf_32 : decode b_Book_attributeOf 32 = .ok (.bipush 9, 2) := by decide +kernel
theorem d_Book_attributeOf_34 : decode b_Book_attributeOf 34 = .ok (.invokevirtual 44, 3) := by decide +kernel
theorem d_Book_attributeOf_37 : decode b_Book_attributeOf 37 = .ok (.iload_n 2, 1) := by decide +kernel
theorem d_Book_attributeOf_38 : decode b_Book_attributeOf 38 = .ok (.iadd, 1) := by decide +kernel
theorem d_Book_attributeOf_39 : decode b_Book_attributeOf 39 = .ok (.goto 4, 3) := by decide +kernel
theorem d_Book_attributeOf_42 : decode b_Book_attributeOf 42 = .ok (.iconst (-1), 1) := by decide +kernel
theorem d_Book_attributeOf_43 : decode b_Book_attributeOf 43 = .ok (.ireturn, 1) := by decide +kernel
def w_Book_attributeOf_J22  (σ : PPS) (post : Int32 → Prop) (v1 : Int32) (v2 : Int32) (t0 : Int32) : Prop := ((t0 = 0 → post (-1)) ∧ (¬ t0 = 0 → post ((tGet 14 (pNd σ) v1 9) + v2)))
def w_Book_attributeOf_J21  (σ : PPS) (post : Int32 → Prop) (v1 : Int32) (v2 : Int32) : Prop := w_Book_attributeOf_J22 σ post v1 v2 0
def w_Book_attributeOf  (σ : PPS) (x0 : Int32) (x1 : Int32) (post : Int32 → Prop) : Prop := ((x1 < 0 → w_Book_attributeOf_J21 σ post x0 x1) ∧ (¬ x1 < 0 → (((tGet 14 (pNd σ) x0 4) ≤ x1 → w_Book_attributeOf_J21 σ post x0 x1) ∧ (¬ (tGet 14 (pNd σ) x0 4) ≤ x1 → w_Book_attributeOf_J22 σ post x0 x1 1))))
set_option maxHeartbeats 4000000 in
set_option maxRecDepth 100000 in
theorem c_Book_attributeOf (l : Launch) (w : WD) (σ : PPS) (x0 : Int32) (x1 : Int32)  (post : Int32 → Prop) (hI : inv σ) (hE : w_Book_attributeOf σ x0 x1 post) : Met l y_Book_attributeOf ws_Book_attributeOf { frames := 1, cells := 0, slots := 0, locals := 23 } (va_Pc [.ref (wA w 6), .int x0, .int x1] (fW w σ)) (vp_Si post) 0 0 (fun _ => False) := by
  refine Met.ofW (cc := b_Book_attributeOf) (maxL := 4) (ret := (some .int)) (by decide) rfl ?_
  intro p e s m args below meth c s₁ B hml hv
  obtain ⟨rfl, hP, hK, hC⟩ := hv
  have hS : va_S (fun _ : Nat => False) s.heap s.heap [] := va_S.rf
  have hx := B.exec
  have hb := B.bytes
  have hr := B.returns
  have hta : ∀ w ∈ aW, w.before _ s = true := fun w h => atoms_spec (ws := ws_Book_attributeOf) B.pre w (List.mem_cons_of_mem _ h)
  have hown : s.vm.findClass R_Book = some m.cls := findClass_of_methodNamed B.named
  have hlocks := B.notSynchronized
  have hl := lv_entry ([.ref (wA w 6), .int x0, .int x1]) (n := 4) (Nat.le_of_ble_eq_true rfl)
  rw [lg_entry_eq]
  generalize (lg_sl ([.ref (wA w 6), .int x0, .int x1]) ++ List.replicate (4 - (lg_sl ([.ref (wA w 6), .int x0, .int x1])).length) Slot.unset).toArray = ls at hl ⊢
  have hl : lv_has ls 4 [(0, .ref (wA w 6)), (1, .int x0), (2, .int x1)] := hl
  have J22 : ∀ (v1 : Int32) (v2 : Int32) (t0 : Int32) (ls : Array Slot) (hl : lv_has ls 4 [(0, .ref (wA w 6)), (1, .int v1), (2, .int v2)]) (hE : w_Book_attributeOf_J22 σ post v1 v2 t0), W p l e (headSpec ws_Book_attributeOf { frames := 1, cells := 0, slots := 0, locals := 23 }).room s m ([.ref (wA w 6), .int x0, .int x1] : List Value).toArray below meth c s.heap [] 0 0 (MQ below (vp_Si post) ([.ref (wA w 6), .int x0, .int x1] : List Value).toArray s 0 0 (fun _ => False)) (F0 m 22 ls [.int t0]) := by
    intro  v1 v2 t0 ls hl hE
    unfold w_Book_attributeOf_J22 at hE
    refine lv_istore_n (lv' := [(3, .int t0), (0, .ref (wA w 6)), (1, .int v1), (2, .int v2)]) hx hb d_Book_attributeOf_22 rfl hl (by decide) rfl (fun ls hl => ?_)
    refine lv_iload_n hx hb d_Book_attributeOf_23 rfl (lv_at hl 0 rfl) ?_
    refine lv_if_eq (tgt := 42) hx hb d_Book_attributeOf_24 (by decide) (fun cc24 => ?_) (fun cc24 => ?_)
    · have hE := hE.1 cc24
      refine lv_iconst (v := -1) hx hb d_Book_attributeOf_42 (by decide) ?_
      exact W.iret (v := (-1)) hx hb hr (fun t ht hW => ⟨_, rfl, hE, ht⟩) (fun q h => by cases h) d_Book_attributeOf_43
    · have hE := hE.2 cc24
      refine lv_aload_n hx hb d_Book_attributeOf_27 rfl (lv_at hl 1 rfl) ?_
      refine va_get (D := (wG w)) (ci := 3) (v := .ref (wA w 7)) (C := R_Book) (T := F_Book) (N := 4) hx hb hta i_Book hown hK hP 6 rfl rfl 0 (by decide) (hta _ fl_Book_14) (fun _ h9 => h9) rfl d_Book_attributeOf_28 ?_
      refine lv_iload_n hx hb d_Book_attributeOf_31 rfl (lv_at hl 2 rfl) ?_
      refine lv_bipush (v := 9) hx hb d_Book_attributeOf_32 (by decide) ?_
      refine ro_V (b0 := (wA w 7)) (As := [.int v1, .int 9]) (rest := []) ⟨hx, hb, hml, hown, hta⟩ (c_Table_get l (wG w) (wA w 7) (wA w 8) (wI w) 900 14 12600 (pNd σ) v1 9 (fun r => r = tGet 14 (pNd σ) v1 9) (lNd_get hI v1 9)) ok_Book_44 ⟨Nat.le_of_ble_eq_true rfl, Nat.le_of_ble_eq_true rfl⟩ blind_rW (va_recv hK hP (ci := 2) (q0 := 7) rfl rfl) (fun U h1 h2 => ⟨by rw [h1]; exact hP.sub [7, 8] rfl, va_K.moved h2.alike hK⟩) rfl hl.1 rfl (Nat.le_of_ble_eq_true rfl) d_Book_attributeOf_34 ⟨Nat.zero_le _, Nat.zero_le _⟩ (fun r34 hr => ?_)
      subst hr
      refine lv_iload_n hx hb d_Book_attributeOf_37 rfl (lv_at hl 3 rfl) ?_
      refine lv_iadd hx hb d_Book_attributeOf_38 ?_
      refine lv_goto (tgt := 43) hx hb d_Book_attributeOf_39 (by decide) ?_
      exact W.iret (v := (tGet 14 (pNd σ) v1 9) + v2) hx hb hr (fun t ht hW => ⟨_, rfl, hE, ht⟩) (fun q h => by cases h) d_Book_attributeOf_43
  have J21 : ∀ (v1 : Int32) (v2 : Int32) (ls : Array Slot) (hl : lv_has ls 4 [(0, .ref (wA w 6)), (1, .int v1), (2, .int v2)]) (hE : w_Book_attributeOf_J21 σ post v1 v2), W p l e (headSpec ws_Book_attributeOf { frames := 1, cells := 0, slots := 0, locals := 23 }).room s m ([.ref (wA w 6), .int x0, .int x1] : List Value).toArray below meth c s.heap [] 0 0 (MQ below (vp_Si post) ([.ref (wA w 6), .int x0, .int x1] : List Value).toArray s 0 0 (fun _ => False)) (F0 m 21 ls []) := by
    intro  v1 v2 ls hl hE
    unfold w_Book_attributeOf_J21 at hE
    refine lv_iconst (v := 0) hx hb d_Book_attributeOf_21 (by decide) ?_
    exact J22  v1 v2 0 _ (lv_sub hl [0, 1, 2] rfl) hE
  unfold w_Book_attributeOf at hE
  refine lv_iload_n hx hb d_Book_attributeOf_0 rfl (lv_at hl 2 rfl) ?_
  refine lv_if_lt (tgt := 21) hx hb d_Book_attributeOf_1 (by decide) (fun cc1 => ?_) (fun cc1 => ?_)
  · have hE := hE.1 cc1
    exact J21  x0 x1 _ (lv_sub hl [0, 1, 2] rfl) hE
  · have hE := hE.2 cc1
    refine lv_iload_n hx hb d_Book_attributeOf_4 rfl (lv_at hl 2 rfl) ?_
    refine lv_aload_n hx hb d_Book_attributeOf_5 rfl (lv_at hl 0 rfl) ?_
    refine va_get (D := (wG w)) (ci := 3) (v := .ref (wA w 7)) (C := R_Book) (T := F_Book) (N := 4) hx hb hta i_Book hown hK hP 6 rfl rfl 0 (by decide) (hta _ fl_Book_14) (fun _ h9 => h9) rfl d_Book_attributeOf_6 ?_
    refine lv_iload_n hx hb d_Book_attributeOf_9 rfl (lv_at hl 1 rfl) ?_
    refine lv_iconst (v := 4) hx hb d_Book_attributeOf_10 (by decide) ?_
    refine ro_V (b0 := (wA w 7)) (As := [.int x0, .int 4]) (rest := [.int x1]) ⟨hx, hb, hml, hown, hta⟩ (c_Table_get l (wG w) (wA w 7) (wA w 8) (wI w) 900 14 12600 (pNd σ) x0 4 (fun r => r = tGet 14 (pNd σ) x0 4) (lNd_get hI x0 4)) ok_Book_44 ⟨Nat.le_of_ble_eq_true rfl, Nat.le_of_ble_eq_true rfl⟩ blind_rW (va_recv hK hP (ci := 2) (q0 := 7) rfl rfl) (fun U h1 h2 => ⟨by rw [h1]; exact hP.sub [7, 8] rfl, va_K.moved h2.alike hK⟩) rfl hl.1 rfl (Nat.le_of_ble_eq_true rfl) d_Book_attributeOf_11 ⟨Nat.zero_le _, Nat.zero_le _⟩ (fun r11 hr => ?_)
    subst hr
    refine lv_icmp_ge (tgt := 21) hx hb d_Book_attributeOf_14 (by decide) (fun cc14 => ?_) (fun cc14 => ?_)
    · have hE := hE.1 cc14
      exact J21  x0 x1 _ (lv_sub hl [0, 1, 2] rfl) hE
    · have hE := hE.2 cc14
      refine lv_iconst (v := 1) hx hb d_Book_attributeOf_17 (by decide) ?_
      refine lv_goto (tgt := 22) hx hb d_Book_attributeOf_18 (by decide) ?_
      exact J22  x0 x1 1 _ (lv_sub hl [0, 1, 2] rfl) hE
/-- the row of attribute j of node k -/
def bAtt (σ : PPS) (k j : Int32) : Int32 := if j < 0 then -1 else if tGet 14 (pNd σ) k 4 ≤ j then -1 else tGet 14 (pNd σ) k 9 + j
theorem l_Book_attributeOf {σ : PPS} (_ : inv σ) (k j : Int32) : w_Book_attributeOf σ k j (fun r => r = bAtt σ k j) := by
  unfold w_Book_attributeOf w_Book_attributeOf_J21 w_Book_attributeOf_J22 bAtt
  refine br_c (fun h1 => ?_) (fun h1 => ?_)
  · rw [if_pos h1]; exact br_t rfl rfl
  · rw [if_neg h1]
    refine br_c (fun h2 => ?_) (fun h2 => ?_)
    · rw [if_pos h2]; exact br_t rfl rfl
    · rw [if_neg h2]; exact br_f (by decide) rfl
theorem f_Book_attributeOf (l : Launch) (w : WD) (σ : PPS) (x0 : Int32) (x1 : Int32) (hI : inv σ)  : Met l y_Book_attributeOf ws_Book_attributeOf { frames := 1, cells := 0, slots := 0, locals := 23 } (va_Pc [.ref (wA w 6), .int x0, .int x1] (fW w σ)) (vp_Si (fun r => r = bAtt σ x0 x1)) 0 0 (fun _ => False) := c_Book_attributeOf l w σ x0 x1 _ hI (l_Book_attributeOf hI x0 x1 )
