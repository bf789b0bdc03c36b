-- printed by wip/gen: the reference
theorem ok_M_305 : okS "PlainPagesModel" 305 y_M_mayHaveText b_M_mayHaveText 1 (some .boolean) 1 := ⟨aW_in 1228 (by decide +kernel) rfl, aW_in 1229 (by decide +kernel) rfl, aW_in 92 (by decide +kernel) rfl, cd_M_mayHaveText, by decide +kernel, by decide +kernel, by decide +kernel⟩
theorem d_M_hasGoodText_0 : decode b_M_hasGoodText 0 = .ok (.iconst 1, 1) := by decide +kernel
theorem d_M_hasGoodText_1 : decode b_M_hasGoodText 1 = .ok (.istore_n 3, 1) := by decide +kernel
theorem d_M_hasGoodText_2 : decode b_M_hasGoodText 2 = .ok (.aload_n 0, 1) := by decide +kernel
theorem d_M_hasGoodText_3 : decode b_M_hasGoodText 3 = .ok (.getfield 49, 3) := by decide +kernel
theorem d_M_hasGoodText_6 : decode b_M_hasGoodText 6 = .ok (.iload_n 1, 1) := by decide +kernel
theorem d_M_hasGoodText_7 : decode b_M_hasGoodText 7 = .ok (.iaload, 1) := by decide +kernel
theorem d_M_hasGoodText_8 : decode b_M_hasGoodText 8 = .ok (.istore 4, 2) := by decide +kernel
theorem d_M_hasGoodText_10 : decode b_M_hasGoodText 10 = .ok (.iload 4, 2) := by decide +kernel
theorem d_M_hasGoodText_12 : decode b_M_hasGoodText 12 = .ok (.ifCond .lt 98, 3) := by decide +kernel
theorem d_M_hasGoodText_15 : decode b_M_hasGoodText 15 = .ok (.iload_n 3, 1) := by decide +kernel
theorem d_M_hasGoodText_16 : decode b_M_hasGoodText 16 = .ok (.ifCond .eq 94, 3) := by decide +kernel
theorem d_M_hasGoodText_19 : decode b_M_hasGoodText 19 = .ok (.iload_n 2, 1) := by decide +kernel
theorem d_M_hasGoodText_20 : decode b_M_hasGoodText 20 = .ok (.invokestatic 305, 3) := by decide +kernel
theorem d_M_hasGoodText_23 : decode b_M_hasGoodText 23 = .ok (.ifCond .ne 87, 3) := by decide +kernel
theorem d_M_hasGoodText_26 : decode b_M_hasGoodText 26 = .ok (.aload_n 0, 1) := by decide +kernel
theorem d_M_hasGoodText_27 : decode b_M_hasGoodText 27 = .ok (.getfield 36, 3) := by decide +kernel
theorem d_M_hasGoodText_30 : decode b_M_hasGoodText 30 = .ok (.iload 4, 2) := by decide +kernel
theorem d_M_hasGoodText_32 : decode b_M_hasGoodText 32 = .ok (.baload, 1) := by decide +kernel
theorem d_M_hasGoodText_33 : decode b_M_hasGoodText 33 = .ok (.ifCond .eq 6, 3) := by decide +kernel
theorem d_M_hasGoodText_36 : decode b_M_hasGoodText 36 = .ok (.goto 62, 3) := by decide +kernel
theorem d_M_hasGoodText_39 : decode b_M_hasGoodText 39 = .ok (.iload_n 2, 1) := by decide +kernel
theorem d_M_hasGoodText_40 : decode b_M_hasGoodText 40 = .ok (.bipush 21, 2) := by decide +kernel
theorem d_M_hasGoodText_42 : decode b_M_hasGoodText 42 = .ok (.if_icmp .ge 7, 3) := by decide +kernel
theorem d_M_hasGoodText_45 : decode b_M_hasGoodText 45 = .ok (.iconst 1, 1) := by decide +kernel
theorem d_M_hasGoodText_46 : decode b_M_hasGoodText 46 = .ok (.goto 4, 3) := by decide +kernel
theorem d_M_hasGoodText_49 : decode b_M_hasGoodText 49 = .ok (.iconst 0, 1) := by decide +kernel
theorem d_M_hasGoodText_50 : decode b_M_hasGoodText 50 = .ok (.istore_n 3, 1) := by decide +kernel
theorem d_M_hasGoodText_51 : decode b_M_hasGoodText 51 = .ok (.aload_n 0, 1) := by decide +kernel
theorem d_M_hasGoodText_52 : decode b_M_hasGoodText 52 = .ok (.getfield 40, 3) := by decide +kernel
theorem d_M_hasGoodText_55 : decode b_M_hasGoodText 55 = .ok (.iload 4, 2) := by decide +kernel
theorem d_M_hasGoodText_57 : decode b_M_hasGoodText 57 = .ok (.iaload, 1) := by decide +kernel
theorem d_M_hasGoodText_58 : decode b_M_hasGoodText 58 = .ok (.istore 5, 2) := by decide +kernel
theorem d_M_hasGoodText_60 : decode b_M_hasGoodText 60 = .ok (.iload 5, 2) := by decide +kernel
theorem d_M_hasGoodText_62 : decode b_M_hasGoodText 62 = .ok (.aload_n 0, 1) := by decide +kernel
theorem d_M_hasGoodText_63 : decode b_M_hasGoodText 63 = .ok (.getfield 43, 3) := by decide +kernel
theorem d_M_hasGoodText_66 : decode b_M_hasGoodText 66 = .ok (.iload 4, 2) := by decide +kernel
theorem d_M_hasGoodText_68 : decode b_M_hasGoodText 68 = .ok (.iaload, 1) := by decide +kernel
theorem d_M_hasGoodText_69 : decode b_M_hasGoodText 69 = .ok (.if_icmp .ge 29, 3) := by decide +kernel
theorem d_M_hasGoodText_72 : decode b_M_hasGoodText 72 = .ok (.iload_n 3, 1) := by decide +kernel
theorem d_M_hasGoodText_73 : decode b_M_hasGoodText 73 = .ok (.ifCond .eq 25, 3) := by decide +kernel
theorem d_M_hasGoodText_76 : decode b_M_hasGoodText 76 = .ok (.aload_n 0, 1) := by decide +kernel
theorem d_M_hasGoodText_77 : decode b_M_hasGoodText 77 = .ok (.iload 5, 2) := by decide +kernel
theorem d_M_hasGoodText_79 : decode b_M_hasGoodText 79 = .ok (.invokevirtual 139, 3) := by decide +kernel
theorem d_M_hasGoodText_82 : decode b_M_hasGoodText 82 = .ok (.invokestatic 104, 3) := by decide +kernel
theorem d_M_hasGoodText_85 : decode b_M_hasGoodText 85 = .ok (.istore_n 3, 1) := by decide +kernel
theorem d_M_hasGoodText_86 : decode b_M_hasGoodText 86 = .ok (.iload 5, 2) := by decide +kernel
theorem d_M_hasGoodText_88 : decode b_M_hasGoodText 88 = .ok (.aload_n 0, 1) := by decide +kernel
theorem d_M_hasGoodText_89 : decode b_M_hasGoodText 89 = .ok (.getfield 76, 3) := by decide +kernel
theorem d_M_hasGoodText_92 : decode b_M_hasGoodText 92 = .ok (.iadd, 1) := by decide +kernel
theorem d_M_hasGoodText_93 : decode b_M_hasGoodText 93 = .ok (.istore 5, 2) := by decide +kernel
theorem d_M_hasGoodText_95 : decode b_M_hasGoodText 95 = .ok (.goto (-35), 3) := by decide +kernel
theorem d_M_hasGoodText_98 : decode b_M_hasGoodText 98 = .ok (.aload_n 0, 1) := by decide +kernel
theorem d_M_hasGoodText_99 : decode b_M_hasGoodText 99 = .ok (.getfield 52, 3) := by decide +kernel
theorem d_M_hasGoodText_102 : decode b_M_hasGoodText 102 = .ok (.iload 4, 2) := by decide +kernel
theorem d_M_hasGoodText_104 : decode b_M_hasGoodText 104 = .ok (.iaload, 1) := by decide +kernel
theorem d_M_hasGoodText_105 : decode b_M_hasGoodText 105 = .ok (.istore 4, 2) := by decide +kernel
theorem d_M_hasGoodText_107 : decode b_M_hasGoodText 107 = .ok (.goto (-97), 3) := by decide +kernel
theorem d_M_hasGoodText_110 : decode b_M_hasGoodText 110 = .ok (.iload_n 3, 1) := by decide +kernel
theorem d_M_hasGoodText_111 : decode b_M_hasGoodText 111 = .ok (.ireturn, 1) := by decide +kernel
def w_M_hasGoodText_J98  (v2 : Int32) (K10 : Int32 → Int32 → MPS → Prop) (post : Int32 → MPS → Prop) (v3 : Int32) (v4 : Int32) (σ : MPS) : Prop := (vp_in v4 1000 ∧ K10 v3 ((mp_next σ) v4.toNatClampNeg) σ)
def w_M_hasGoodText_L60  (v2 : Int32) (v4 : Int32) (K10 : Int32 → Int32 → MPS → Prop) (post : Int32 → MPS → Prop) : Nat → Int32 → Int32 → MPS → Prop
  | 0, _, _, _ => False
  | n60 + 1, v3, v5, σ => (vp_in v4 1000 ∧ ((((mp_ends σ) v4.toNatClampNeg) ≤ v5 → w_M_hasGoodText_J98 v2 (K10) post v3 v4 σ) ∧ (¬ ((mp_ends σ) v4.toNatClampNeg) ≤ v5 → ((v3 = 0 → w_M_hasGoodText_J98 v2 (K10) post v3 v4 σ) ∧ (¬ v3 = 0 → w_M_characterOf σ v5 (fun r79 σ79 => w_M_hasGoodText_L60 v2 v4 (K10) post n60 (b2i (cWh r79)) (v5 + (mp_width σ79)) σ79))))))
def w_M_hasGoodText_J50  (v2 : Int32) (K10 : Int32 → Int32 → MPS → Prop) (post : Int32 → MPS → Prop) (v4 : Int32) (t0 : Int32) (σ : MPS) : Prop := (vp_in v4 1000 ∧ (∃ n60, w_M_hasGoodText_L60 v2 v4 (K10) post n60 t0 ((mp_begins σ) v4.toNatClampNeg) σ))
def w_M_hasGoodText_L10  (v2 : Int32) (post : Int32 → MPS → Prop) : Nat → Int32 → Int32 → MPS → Prop
  | 0, _, _, _ => False
  | n10 + 1, v3, v4, σ => ((v4 < 0 → (narrow .boolean (.int v3) = .int v3 ∧ post v3 σ)) ∧ (¬ v4 < 0 → ((v3 = 0 → (narrow .boolean (.int v3) = .int v3 ∧ post v3 σ)) ∧ (¬ v3 = 0 → w_M_mayHaveText  v2 (fun r20 => ((r20 = 0 → (vp_in v4 1000 ∧ ((((mp_isElement σ) v4.toNatClampNeg) = 0 → ((21 ≤ v2 → w_M_hasGoodText_J50 v2 (w_M_hasGoodText_L10 v2 post n10) post v4 0 σ) ∧ (¬ 21 ≤ v2 → w_M_hasGoodText_J50 v2 (w_M_hasGoodText_L10 v2 post n10) post v4 1 σ))) ∧ (¬ ((mp_isElement σ) v4.toNatClampNeg) = 0 → w_M_hasGoodText_J98 v2 (w_M_hasGoodText_L10 v2 post n10) post v3 v4 σ)))) ∧ (¬ r20 = 0 → (narrow .boolean (.int v3) = .int v3 ∧ post v3 σ))))))))
def w_M_hasGoodText  (σ : MPS) (x0 : Int32) (x1 : Int32) (post : Int32 → MPS → Prop) : Prop := (vp_in x0 1000 ∧ (∃ n10, w_M_hasGoodText_L10 x1 post n10 1 ((mp_first σ) x0.toNatClampNeg) σ))
set_option maxHeartbeats 4000000 in
set_option maxRecDepth 100000 in
theorem c_M_hasGoodText (l : Launch) (md : MD) (sz : Nat) (σ : MPS) (x0 : Int32) (x1 : Int32)  (post : Int32 → MPS → Prop) (hE : w_M_hasGoodText σ x0 x1 post) : Met l y_M_hasGoodText ws_M_hasGoodText { frames := 3, cells := 0, slots := 0, locals := 73 } (va_Pc [.ref (mA md 0), .int x0, .int x1] (gM md σ sz)) (va_Qi post (eM md (va_A (MW md σ) sz)) (va_A (MW md σ) sz)) 0 0 (va_A (MW md σ) sz) := by
  refine Met.ofW (cc := b_M_hasGoodText) (maxL := 6) (ret := (some .boolean)) (by decide) rfl ?_
  intro p e s m args below meth c s₁ B hml hv
  obtain ⟨rfl, hsz, hP, hK, hD0⟩ := hv
  have hx := B.exec
  have hb := B.bytes
  have hr := B.returns
  have hta : ∀ w ∈ aW, w.before _ s = true := fun w h => atoms_spec (ws := ws_M_hasGoodText) B.pre w (List.mem_cons_of_mem _ h)
  have hown : s.vm.findClass R_M = some m.cls := findClass_of_methodNamed B.named
  have hlocks := B.notSynchronized
  subst hsz
  have hD := hD0.self (sz := s.heap.size)
  generalize hAe : va_A (MW md σ) s.heap.size = A at hD ⊢
  have hA : ∀ q : Nat, s.heap.size ≤ q → A q := fun q h => by rw [← hAe]; exact Or.inr h
  have hS : va_S A s.heap s.heap [] := va_S.rf
  have hP : va_P (mG md) classes (MW md σ) s.heap := hP
  have hl := lv_entry ([.ref (mA md 0), .int x0, .int x1]) (n := 6) (Nat.le_of_ble_eq_true rfl)
  rw [lg_entry_eq]
  generalize (lg_sl ([.ref (mA md 0), .int x0, .int x1]) ++ List.replicate (6 - (lg_sl ([.ref (mA md 0), .int x0, .int x1])).length) Slot.unset).toArray = ls at hl ⊢
  have hl : lv_has ls 6 [(0, .ref (mA md 0)), (1, .int x0), (2, .int x1)] := hl
  have L10 : ∀ (v2 : Int32) (n10 : Nat) (v3 : Int32) (v4 : Int32) (σ : MPS) (H : Heap) (locs : List Loc) (hP : va_P (mG md) classes (MW md σ) H) (hD : va_D A (MW md σ)) (hS : va_S A s.heap H locs) (ls : Array Slot) (hl : lv_has ls 6 [(0, .ref (mA md 0)), (2, .int v2), (3, .int v3), (4, .int v4)]) (hE : w_M_hasGoodText_L10 v2 post n10 v3 v4 σ), W p l e (headSpec ws_M_hasGoodText { frames := 3, cells := 0, slots := 0, locals := 73 }).room s m ([.ref (mA md 0), .int x0, .int x1] : List Value).toArray below meth c H locs 0 0 (MQ below (va_Qi post (eM md A) A) ([.ref (mA md 0), .int x0, .int x1] : List Value).toArray s 0 0 A) (F0 m 10 ls []) := by
    intro v2 n10
    induction n10 with
    | zero => intro v3 v4 σ H locs hP hD hS ls hl hE; exact hE.elim
    | succ n10 ih10 =>
      have J98 : ∀ (v3 : Int32) (v4 : Int32) (σ : MPS) (H : Heap) (locs : List Loc) (hP : va_P (mG md) classes (MW md σ) H) (hD : va_D A (MW md σ)) (hS : va_S A s.heap H locs) (ls : Array Slot) (hl : lv_has ls 6 [(0, .ref (mA md 0)), (2, .int v2), (3, .int v3), (4, .int v4)]) (hE : w_M_hasGoodText_J98 v2 (w_M_hasGoodText_L10 v2 post n10) post v3 v4 σ), W p l e (headSpec ws_M_hasGoodText { frames := 3, cells := 0, slots := 0, locals := 73 }).room s m ([.ref (mA md 0), .int x0, .int x1] : List Value).toArray below meth c H locs 0 0 (MQ below (va_Qi post (eM md A) A) ([.ref (mA md 0), .int x0, .int x1] : List Value).toArray s 0 0 A) (F0 m 98 ls []) := by
        intro  v3 v4 σ H locs hP hD hS ls hl hE
        unfold w_M_hasGoodText_J98 at hE
        refine lv_aload_n hx hb d_M_hasGoodText_98 rfl (lv_at hl 0 rfl) ?_
        refine va_get (D := (mG md)) (ci := 7) (v := .ref (mA md 13)) (C := R_M) (T := F_M) (N := 37) hx hb hta i_M hown hK hP 0 rfl rfl 28 (by decide) (hta _ fl_M_52) (fun _ h9 => h9) rfl d_M_hasGoodText_99 ?_
        refine lv_iload hx hb d_M_hasGoodText_102 (lv_at hl 3 rfl) ?_
        obtain ⟨hI104, hE⟩ := hE
        refine va_iald (D := (mG md)) (f := mp_next σ) hx hb hK hP 13 0 rfl rfl hI104 d_M_hasGoodText_104 ?_
        refine lv_istore (lv' := [(4, .int ((mp_next σ) v4.toNatClampNeg)), (0, .ref (mA md 0)), (2, .int v2), (3, .int v3)]) hx hb d_M_hasGoodText_105 hl (by decide) rfl (fun ls hl => ?_)
        refine lv_goto (tgt := 10) hx hb d_M_hasGoodText_107 (by decide) ?_
        exact ih10 v3 ((mp_next σ) v4.toNatClampNeg) σ _ _ hP hD hS _ (lv_sub hl [1, 2, 3, 0] rfl) hE
      have L60 : ∀ (v4 : Int32) (n60 : Nat) (v3 : Int32) (v5 : Int32) (σ : MPS) (H : Heap) (locs : List Loc) (hP : va_P (mG md) classes (MW md σ) H) (hD : va_D A (MW md σ)) (hS : va_S A s.heap H locs) (ls : Array Slot) (hl : lv_has ls 6 [(0, .ref (mA md 0)), (2, .int v2), (3, .int v3), (4, .int v4), (5, .int v5)]) (hE : w_M_hasGoodText_L60 v2 v4 (w_M_hasGoodText_L10 v2 post n10) post n60 v3 v5 σ), W p l e (headSpec ws_M_hasGoodText { frames := 3, cells := 0, slots := 0, locals := 73 }).room s m ([.ref (mA md 0), .int x0, .int x1] : List Value).toArray below meth c H locs 0 0 (MQ below (va_Qi post (eM md A) A) ([.ref (mA md 0), .int x0, .int x1] : List Value).toArray s 0 0 A) (F0 m 60 ls []) := by
        intro v4 n60
        induction n60 with
        | zero => intro v3 v5 σ H locs hP hD hS ls hl hE; exact hE.elim
        | succ n60 ih60 =>
          intro v3 v5 σ H locs hP hD hS ls hl hE
          unfold w_M_hasGoodText_L60 at hE
          refine lv_iload hx hb d_M_hasGoodText_60 (lv_at hl 4 rfl) ?_
          refine lv_aload_n hx hb d_M_hasGoodText_62 rfl (lv_at hl 0 rfl) ?_
          refine va_get (D := (mG md)) (ci := 7) (v := .ref (mA md 10)) (C := R_M) (T := F_M) (N := 37) hx hb hta i_M hown hK hP 0 rfl rfl 25 (by decide) (hta _ fl_M_43) (fun _ h9 => h9) rfl d_M_hasGoodText_63 ?_
          refine lv_iload hx hb d_M_hasGoodText_66 (lv_at hl 3 rfl) ?_
          obtain ⟨hI68, hE⟩ := hE
          refine va_iald (D := (mG md)) (f := mp_ends σ) hx hb hK hP 10 0 rfl rfl hI68 d_M_hasGoodText_68 ?_
          refine lv_icmp_ge (tgt := 98) hx hb d_M_hasGoodText_69 (by decide) (fun cc69 => ?_) (fun cc69 => ?_)
          · have hE := hE.1 cc69
            exact J98  v3 v4 σ _ _ hP hD hS _ (lv_sub hl [0, 1, 2, 3] rfl) hE
          · have hE := hE.2 cc69
            refine lv_iload_n hx hb d_M_hasGoodText_72 rfl (lv_at hl 2 rfl) ?_
            refine lv_if_eq (tgt := 98) hx hb d_M_hasGoodText_73 (by decide) (fun cc73 => ?_) (fun cc73 => ?_)
            · have hE := hE.1 cc73
              exact J98  v3 v4 σ _ _ hP hD hS _ (lv_sub hl [0, 1, 2, 3] rfl) hE
            · have hE := hE.2 cc73
              refine lv_aload_n hx hb d_M_hasGoodText_76 rfl (lv_at hl 0 rfl) ?_
              refine lv_iload hx hb d_M_hasGoodText_77 (lv_at hl 4 rfl) ?_
              refine mm_i (b0 := (mA md 0)) (As := [.int v5]) (rest := []) ⟨hx, hb, hml, hown, hta⟩ (c_M_characterOf l md _ σ v5 _ hE) ok_M_139 ⟨Nat.le_of_ble_eq_true rfl, Nat.le_of_ble_eq_true rfl⟩ (va_recv hK hP (ci := 7) (q0 := 0) rfl rfl) hP hK hD hS hA rfl hl.1 rfl (Nat.le_of_ble_eq_true rfl) d_M_hasGoodText_79 ⟨Nat.zero_le _, Nat.zero_le _⟩ (fun r79 σ79 H locs hE hP hD hS => ?_)
              refine ro_S  (As := [.int r79]) (rest := []) ⟨hx, hb, hml, hown, hta⟩ (f_M_isWhite l r79) ok_M_104 ⟨Nat.le_of_ble_eq_true rfl, Nat.le_of_ble_eq_true rfl⟩ blind_true  (fun _ _ _ => trivial) rfl hl.1 rfl (Nat.le_of_ble_eq_true rfl) d_M_hasGoodText_82 ⟨Nat.zero_le _, Nat.zero_le _⟩ (fun r82 hrr => ?_)
              subst hrr
              refine lv_istore_n (lv' := [(3, .int (b2i (cWh r79))), (0, .ref (mA md 0)), (2, .int v2), (4, .int v4), (5, .int v5)]) hx hb d_M_hasGoodText_85 rfl hl (by decide) rfl (fun ls hl => ?_)
              refine lv_iload hx hb d_M_hasGoodText_86 (lv_at hl 4 rfl) ?_
              refine lv_aload_n hx hb d_M_hasGoodText_88 rfl (lv_at hl 1 rfl) ?_
              refine va_get (D := (mG md)) (ci := 7) (v := .int (mp_width σ79)) (C := R_M) (T := F_M) (N := 37) hx hb hta i_M hown hK hP 0 rfl rfl 12 (by decide) (hta _ fl_M_76) (fun _ h9 => h9) rfl d_M_hasGoodText_89 ?_
              refine lv_iadd hx hb d_M_hasGoodText_92 ?_
              refine lv_istore (lv' := [(5, .int (v5 + (mp_width σ79))), (3, .int (b2i (cWh r79))), (0, .ref (mA md 0)), (2, .int v2), (4, .int v4)]) hx hb d_M_hasGoodText_93 hl (by decide) rfl (fun ls hl => ?_)
              refine lv_goto (tgt := 60) hx hb d_M_hasGoodText_95 (by decide) ?_
              exact ih60 (b2i (cWh r79)) (v5 + (mp_width σ79)) σ79 _ _ hP hD hS _ (lv_sub hl [2, 3, 1, 4, 0] rfl) hE
      have J50 : ∀ (v4 : Int32) (t0 : Int32) (σ : MPS) (H : Heap) (locs : List Loc) (hP : va_P (mG md) classes (MW md σ) H) (hD : va_D A (MW md σ)) (hS : va_S A s.heap H locs) (ls : Array Slot) (hl : lv_has ls 6 [(0, .ref (mA md 0)), (2, .int v2), (4, .int v4)]) (hE : w_M_hasGoodText_J50 v2 (w_M_hasGoodText_L10 v2 post n10) post v4 t0 σ), W p l e (headSpec ws_M_hasGoodText { frames := 3, cells := 0, slots := 0, locals := 73 }).room s m ([.ref (mA md 0), .int x0, .int x1] : List Value).toArray below meth c H locs 0 0 (MQ below (va_Qi post (eM md A) A) ([.ref (mA md 0), .int x0, .int x1] : List Value).toArray s 0 0 A) (F0 m 50 ls [.int t0]) := by
        intro  v4 t0 σ H locs hP hD hS ls hl hE
        unfold w_M_hasGoodText_J50 at hE
        refine lv_istore_n (lv' := [(3, .int t0), (0, .ref (mA md 0)), (2, .int v2), (4, .int v4)]) hx hb d_M_hasGoodText_50 rfl hl (by decide) rfl (fun ls hl => ?_)
        refine lv_aload_n hx hb d_M_hasGoodText_51 rfl (lv_at hl 1 rfl) ?_
        refine va_get (D := (mG md)) (ci := 7) (v := .ref (mA md 9)) (C := R_M) (T := F_M) (N := 37) hx hb hta i_M hown hK hP 0 rfl rfl 24 (by decide) (hta _ fl_M_40) (fun _ h9 => h9) rfl d_M_hasGoodText_52 ?_
        refine lv_iload hx hb d_M_hasGoodText_55 (lv_at hl 3 rfl) ?_
        obtain ⟨hI57, hE⟩ := hE
        refine va_iald (D := (mG md)) (f := mp_begins σ) hx hb hK hP 9 0 rfl rfl hI57 d_M_hasGoodText_57 ?_
        refine lv_istore (lv' := [(5, .int ((mp_begins σ) v4.toNatClampNeg)), (3, .int t0), (0, .ref (mA md 0)), (2, .int v2), (4, .int v4)]) hx hb d_M_hasGoodText_58 hl (by decide) rfl (fun ls hl => ?_)
        obtain ⟨n60, hE⟩ := hE
        exact L60 v4 n60 t0 ((mp_begins σ) v4.toNatClampNeg) σ _ _ hP hD hS _ (lv_sub hl [2, 3, 1, 4, 0] rfl) hE
      intro v3 v4 σ H locs hP hD hS ls hl hE
      unfold w_M_hasGoodText_L10 at hE
      refine lv_iload hx hb d_M_hasGoodText_10 (lv_at hl 3 rfl) ?_
      refine lv_if_lt (tgt := 110) hx hb d_M_hasGoodText_12 (by decide) (fun cc12 => ?_) (fun cc12 => ?_)
      · have hE := hE.1 cc12
        refine lv_iload_n hx hb d_M_hasGoodText_110 rfl (lv_at hl 2 rfl) ?_
        obtain ⟨hN, hE⟩ := hE
        exact W.zret (v := v3) hx hb hr hN (fun t ht hW => ⟨⟨_, σ, rfl, hE, by rw [ht]; exact hP, va_K.moved hW.alike hK, hD⟩, hS.F ht⟩) hS.2.2 d_M_hasGoodText_111
      · have hE := hE.2 cc12
        refine lv_iload_n hx hb d_M_hasGoodText_15 rfl (lv_at hl 2 rfl) ?_
        refine lv_if_eq (tgt := 110) hx hb d_M_hasGoodText_16 (by decide) (fun cc16 => ?_) (fun cc16 => ?_)
        · have hE := hE.1 cc16
          refine lv_iload_n hx hb d_M_hasGoodText_110 rfl (lv_at hl 2 rfl) ?_
          obtain ⟨hN, hE⟩ := hE
          exact W.zret (v := v3) hx hb hr hN (fun t ht hW => ⟨⟨_, σ, rfl, hE, by rw [ht]; exact hP, va_K.moved hW.alike hK, hD⟩, hS.F ht⟩) hS.2.2 d_M_hasGoodText_111
        · have hE := hE.2 cc16
          refine lv_iload_n hx hb d_M_hasGoodText_19 rfl (lv_at hl 1 rfl) ?_
          refine ro_S  (As := [.int v2]) (rest := []) ⟨hx, hb, hml, hown, hta⟩ (c_M_mayHaveText l v2  _ hE) ok_M_305 ⟨Nat.le_of_ble_eq_true rfl, Nat.le_of_ble_eq_true rfl⟩ blind_true  (fun _ _ _ => trivial) rfl hl.1 rfl (Nat.le_of_ble_eq_true rfl) d_M_hasGoodText_20 ⟨Nat.zero_le _, Nat.zero_le _⟩ (fun r20 hE => ?_)
          refine lv_if_ne (tgt := 110) hx hb d_M_hasGoodText_23 (by decide) (fun cc23 => ?_) (fun cc23 => ?_)
          · have hE := hE.2 cc23
            refine lv_iload_n hx hb d_M_hasGoodText_110 rfl (lv_at hl 2 rfl) ?_
            obtain ⟨hN, hE⟩ := hE
            exact W.zret (v := v3) hx hb hr hN (fun t ht hW => ⟨⟨_, σ, rfl, hE, by rw [ht]; exact hP, va_K.moved hW.alike hK, hD⟩, hS.F ht⟩) hS.2.2 d_M_hasGoodText_111
          · have hE := hE.1 cc23
            refine lv_aload_n hx hb d_M_hasGoodText_26 rfl (lv_at hl 0 rfl) ?_
            refine va_get (D := (mG md)) (ci := 7) (v := .ref (mA md 8)) (C := R_M) (T := F_M) (N := 37) hx hb hta i_M hown hK hP 0 rfl rfl 23 (by decide) (hta _ fl_M_36) (fun _ h9 => h9) rfl d_M_hasGoodText_27 ?_
            refine lv_iload hx hb d_M_hasGoodText_30 (lv_at hl 3 rfl) ?_
            obtain ⟨hI32, hE⟩ := hE
            refine va_zald (D := (mG md)) (f := mp_isElement σ) hx hb hK hP 8 2 rfl rfl hI32 d_M_hasGoodText_32 ?_
            refine lv_if_eq (tgt := 39) hx hb d_M_hasGoodText_33 (by decide) (fun cc33 => ?_) (fun cc33 => ?_)
            · have hE := hE.1 cc33
              refine lv_iload_n hx hb d_M_hasGoodText_39 rfl (lv_at hl 1 rfl) ?_
              refine lv_bipush (v := 21) hx hb d_M_hasGoodText_40 (by decide) ?_
              refine lv_icmp_ge (tgt := 49) hx hb d_M_hasGoodText_42 (by decide) (fun cc42 => ?_) (fun cc42 => ?_)
              · have hE := hE.1 cc42
                refine lv_iconst (v := 0) hx hb d_M_hasGoodText_49 (by decide) ?_
                exact J50  v4 0 σ _ _ hP hD hS _ (lv_sub hl [0, 1, 3] rfl) hE
              · have hE := hE.2 cc42
                refine lv_iconst (v := 1) hx hb d_M_hasGoodText_45 (by decide) ?_
                refine lv_goto (tgt := 50) hx hb d_M_hasGoodText_46 (by decide) ?_
                exact J50  v4 1 σ _ _ hP hD hS _ (lv_sub hl [0, 1, 3] rfl) hE
            · have hE := hE.2 cc33
              refine lv_goto (tgt := 98) hx hb d_M_hasGoodText_36 (by decide) ?_
              exact J98  v3 v4 σ _ _ hP hD hS _ (lv_sub hl [0, 1, 2, 3] rfl) hE
  unfold w_M_hasGoodText at hE
  refine lv_iconst (v := 1) hx hb d_M_hasGoodText_0 (by decide) ?_
  refine lv_istore_n (lv' := [(3, .int 1), (0, .ref (mA md 0)), (1, .int x0), (2, .int x1)]) hx hb d_M_hasGoodText_1 rfl hl (by decide) rfl (fun ls hl => ?_)
  refine lv_aload_n hx hb d_M_hasGoodText_2 rfl (lv_at hl 1 rfl) ?_
  refine va_get (D := (mG md)) (ci := 7) (v := .ref (mA md 12)) (C := R_M) (T := F_M) (N := 37) hx hb hta i_M hown hK hP 0 rfl rfl 27 (by decide) (hta _ fl_M_49) (fun _ h9 => h9) rfl d_M_hasGoodText_3 ?_
  refine lv_iload_n hx hb d_M_hasGoodText_6 rfl (lv_at hl 2 rfl) ?_
  obtain ⟨hI7, hE⟩ := hE
  refine va_iald (D := (mG md)) (f := mp_first σ) hx hb hK hP 12 0 rfl rfl hI7 d_M_hasGoodText_7 ?_
  refine lv_istore (lv' := [(4, .int ((mp_first σ) x0.toNatClampNeg)), (3, .int 1), (0, .ref (mA md 0)), (1, .int x0), (2, .int x1)]) hx hb d_M_hasGoodText_8 hl (by decide) rfl (fun ls hl => ?_)
  obtain ⟨n10, hE⟩ := hE
  exact L10 x1 n10 1 ((mp_first σ) x0.toNatClampNeg) σ _ _ hP hD hS _ (lv_sub hl [2, 4, 1, 0] rfl) hE
theorem ok_M_308 : okS "PlainPagesModel" 308 y_M_mayHold b_M_mayHold 2 (some .boolean) 2 := ⟨aW_in 1177 (by decide +kernel) rfl, aW_in 1178 (by decide +kernel) rfl, aW_in 92 (by decide +kernel) rfl, cd_M_mayHold, by decide +kernel, by decide +kernel, by decide +kernel⟩
theorem ok_M_311 : okV "PlainPagesModel" 311 R_M y_M_isInAnchor b_M_isInAnchor 3 (some .boolean) 1 := ⟨aW_in 1186 (by decide +kernel) rfl, aW_in 1188 (by decide +kernel) rfl, aW_in 62 (by decide +kernel) rfl, aW_in 92 (by decide +kernel) rfl, cd_M_isInAnchor, rfl, by decide +kernel, by decide +kernel, by decide +kernel⟩
theorem ok_M_314 : okV "PlainPagesModel" 314 R_M y_M_hasGoodAttributes b_M_hasGoodAttributes 6 (some .boolean) 2 := ⟨aW_in 1190 (by decide +kernel) rfl, aW_in 1192 (by decide +kernel) rfl, aW_in 63 (by decide +kernel) rfl, aW_in 92 (by decide +kernel) rfl, cd_M_hasGoodAttributes, rfl, by decide +kernel, by decide +kernel, by decide +kernel⟩
theorem ok_M_317 : okV "PlainPagesModel" 317 R_M y_M_holdsAll b_M_holdsAll 7 (some .boolean) 2 := ⟨aW_in 1220 (by decide +kernel) rfl, aW_in 1222 (by decide +kernel) rfl, aW_in 69 (by decide +kernel) rfl, aW_in 92 (by decide +kernel) rfl, cd_M_holdsAll, rfl, by decide +kernel, by decide +kernel, by decide +kernel⟩
theorem ok_M_320 : okV "PlainPagesModel" 320 R_M y_M_hasGoodText b_M_hasGoodText 6 (some .boolean) 2 := ⟨aW_in 1224 (by decide +kernel) rfl, aW_in 1226 (by decide +kernel) rfl, aW_in 70 (by decide +kernel) rfl, aW_in 92 (by decide +kernel) rfl, cd_M_hasGoodText, rfl, by decide +kernel, by decide +kernel, by decide +kernel⟩
theorem d_M_isPage_0 : decode b_M_isPage 0 = .ok (.aload_n 0, 1) := by decide +kernel
theorem d_M_isPage_1 : decode b_M_isPage 1 = .ok (.aload_n 0, 1) := by decide +kernel
theorem d_M_isPage_2 : decode b_M_isPage 2 = .ok (.getfield 214, 3) := by decide +kernel
theorem d_M_isPage_5 : decode b_M_isPage 5 = .ok (.ifCond .eq 7, 3) := by decide +kernel
theorem d_M_isPage_8 : decode b_M_isPage 8 = .ok (.iconst 0, 1) := by decide +kernel
theorem d_M_isPage_9 : decode b_M_isPage 9 = .ok (.goto 4, 3) := by decide +kernel
theorem d_M_isPage_12 : decode b_M_isPage 12 = .ok (.iconst 1, 1) := by decide +kernel
theorem d_M_isPage_13 : decode b_M_isPage 13 = .ok (.putfield 70, 3) := by decide +kernel
theorem d_M_isPage_16 : decode b_M_isPage 16 = .ok (.aload_n 0, 1) := by decide +kernel
theorem d_M_isPage_17 : decode b_M_isPage 17 = .ok (.getfield 70, 3) := by decide +kernel
theorem d_M_isPage_20 : decode b_M_isPage 20 = .ok (.ifCond .le 5, 3) := by decide +kernel
theorem d_M_isPage_23 : decode b_M_isPage 23 = .ok (.iconst 0, 1) := by decide +kernel
theorem d_M_isPage_24 : decode b_M_isPage 24 = .ok (.ireturn, 1) := by decide +kernel
theorem d_M_isPage_25 : decode b_M_isPage 25 = .ok (.aload_n 0, 1) := by decide +kernel
theorem d_M_isPage_26 : decode b_M_isPage 26 = .ok (.iconst 0, 1) := by decide +kernel
theorem d_M_isPage_27 : decode b_M_isPage 27 = .ok (.iconst (-1), 1) := by decide +kernel
theorem d_M_isPage_28 : decode b_M_isPage 28 = .ok (.invokevirtual 217, 3) := by decide +kernel
theorem d_M_isPage_31 : decode b_M_isPage 31 = .ok (.iconst 0, 1) := by decide +kernel
theorem d_M_isPage_32 : decode b_M_isPage 32 = .ok (.istore_n 1, 1) := by decide +kernel
theorem d_M_isPage_33 : decode b_M_isPage 33 = .ok (.iload_n 1, 1) := by decide +kernel
theorem d_M_isPage_34 : decode b_M_isPage 34 = .ok (.aload_n 0, 1) := by decide +kernel
theorem d_M_isPage_35 : decode b_M_isPage 35 = .ok (.getfield 175, 3) := by decide +kernel
theorem d_M_isPage_38 : decode b_M_isPage 38 = .ok (.if_icmp .ge 127, 3) := by decide +kernel
theorem d_M_isPage_41 : decode b_M_isPage 41 = .ok (.aload_n 0, 1) := by decide +kernel
theorem d_M_isPage_42 : decode b_M_isPage 42 = .ok (.getfield 208, 3) := by decide +kernel
theorem d_M_isPage_45 : decode b_M_isPage 45 = .ok (.ifCond .ne 120, 3) := by decide +kernel
theorem d_M_isPage_48 : decode b_M_isPage 48 = .ok (.aload_n 0, 1) := by decide +kernel
theorem d_M_isPage_49 : decode b_M_isPage 49 = .ok (.getfield 36, 3) := by decide +kernel
theorem d_M_isPage_52 : decode b_M_isPage 52 = .ok (.iload_n 1, 1) := by decide +kernel
theorem d_M_isPage_53 : decode b_M_isPage 53 = .ok (.baload, 1) := by decide +kernel
theorem d_M_isPage_54 : decode b_M_isPage 54 = .ok (.ifCond .ne 6, 3) := by decide +kernel
theorem d_M_isPage_57 : decode b_M_isPage 57 = .ok (.goto 102, 3) := by decide +kernel
theorem d_M_isPage_60 : decode b_M_isPage 60 = .ok (.aload_n 0, 1) := by decide +kernel
theorem d_M_isPage_61 : decode b_M_isPage 61 = .ok (.iload_n 1, 1) := by decide +kernel
theorem d_M_isPage_62 : decode b_M_isPage 62 = .ok (.invokevirtual 302, 3) := by decide +kernel
theorem d_M_isPage_65 : decode b_M_isPage 65 = .ok (.istore_n 2, 1) := by decide +kernel
theorem d_M_isPage_66 : decode b_M_isPage 66 = .ok (.aload_n 0, 1) := by decide +kernel
theorem d_M_isPage_67 : decode b_M_isPage 67 = .ok (.getfield 46, 3) := by decide +kernel
theorem d_M_isPage_70 : decode b_M_isPage 70 = .ok (.iload_n 1, 1) := by decide +kernel
theorem d_M_isPage_71 : decode b_M_isPage 71 = .ok (.iaload, 1) := by decide +kernel
theorem d_M_isPage_72 : decode b_M_isPage 72 = .ok (.iconst (-1), 1) := by decide +kernel
theorem d_M_isPage_73 : decode b_M_isPage 73 = .ok (.if_icmp .ne 7, 3) := by decide +kernel
theorem d_M_isPage_76 : decode b_M_isPage 76 = .ok (.iconst (-1), 1) := by decide +kernel
theorem d_M_isPage_77 : decode b_M_isPage 77 = .ok (.goto 13, 3) := by decide +kernel
theorem d_M_isPage_80 : decode b_M_isPage 80 = .ok (.aload_n 0, 1) := by decide +kernel
theorem d_M_isPage_81 : decode b_M_isPage 81 = .ok (.aload_n 0, 1) := by decide +kernel
theorem d_M_isPage_82 : decode b_M_isPage 82 = .ok (.getfield 46, 3) := by decide +kernel
theorem d_M_isPage_85 : decode b_M_isPage 85 = .ok (.iload_n 1, 1) := by decide +kernel
theorem d_M_isPage_86 : decode b_M_isPage 86 = .ok (.iaload, 1) := by decide +kernel
theorem d_M_isPage_87 : decode b_M_isPage 87 = .ok (.invokevirtual 302, 3) := by decide +kernel
theorem d_M_isPage_90 : decode b_M_isPage 90 = .ok (.iload_n 2, 1) := by decide +kernel
theorem d_M_isPage_91 : decode b_M_isPage 91 = .ok (.invokestatic 308, 3) := by decide +kernel
theorem d_M_isPage_94 : decode b_M_isPage 94 = .ok (.ifCond .eq 48, 3) := by decide +kernel
theorem d_M_isPage_97 : decode b_M_isPage 97 = .ok (.iload_n 2, 1) := by decide +kernel
theorem d_M_isPage_98 : decode b_M_isPage 98 = .ok (.bipush 18, 2) := by decide +kernel
theorem d_M_isPage_100 : decode b_M_isPage 100 = .ok (.if_icmp .ne 11, 3) := by decide +kernel
theorem d_M_isPage_103 : decode b_M_isPage 103 = .ok (.aload_n 0, 1) := by decide +kernel
theorem d_M_isPage_104 : decode b_M_isPage 104 = .ok (.iload_n 1, 1) := by decide +kernel
theorem d_M_isPage_105 : decode b_M_isPage 105 = .ok (.invokevirtual 311, 3) := by decide +kernel
theorem d_M_isPage_108 : decode b_M_isPage 108 = .ok (.ifCond .ne 34, 3) := by decide +kernel
theorem d_M_isPage_111 : decode b_M_isPage 111 = .ok (.aload_n 0, 1) := by decide +kernel
theorem d_M_isPage_112 : decode b_M_isPage 112 = .ok (.iload_n 1, 1) := by decide +kernel
theorem d_M_isPage_113 : decode b_M_isPage 113 = .ok (.iload_n 2, 1) := by decide +kernel
theorem d_M_isPage_114 : decode b_M_isPage 114 = .ok (.invokevirtual 314, 3) := by decide +kernel
theorem d_M_isPage_117 : decode b_M_isPage 117 = .ok (.ifCond .eq 25, 3) := by decide +kernel
theorem d_M_isPage_120 : decode b_M_isPage 120 = .ok (.aload_n 0, 1) := by decide +kernel
theorem d_M_isPage_121 : decode b_M_isPage 121 = .ok (.iload_n 1, 1) := by decide +kernel
theorem d_M_isPage_122 : decode b_M_isPage 122 = .ok (.iload_n 2, 1) := by decide +kernel
theorem d_M_isPage_123 : decode b_M_isPage 123 = .ok (.invokevirtual 317, 3) := by decide +kernel
theorem d_M_isPage_126 : decode b_M_isPage 126 = .ok (.ifCond .eq 16, 3) := by decide +kernel
theorem d_M_isPage_129 : decode b_M_isPage 129 = .ok (.aload_n 0, 1) := by decide +kernel
theorem d_M_isPage_130 : decode b_M_isPage 130 = .ok (.iload_n 1, 1) := by decide +kernel
theorem d_M_isPage_131 : decode b_M_isPage 131 = .ok (.iload_n 2, 1) := by decide +kernel
theorem d_M_isPage_132 : decode b_M_isPage 132 = .ok (.invokevirtual 320, 3) := by decide +kernel
theorem d_M_isPage_135 : decode b_M_isPage 135 = .ok (.ifCond .eq 7, 3) := by decide +kernel
theorem d_M_isPage_138 : decode b_M_isPage 138 = .ok (.iconst 1, 1) := by decide +kernel
theorem d_M_isPage_139 : decode b_M_isPage 139 = .ok (.goto 4, 3) := by decide +kernel
theorem d_M_isPage_142 : decode b_M_isPage 142 = .ok (.iconst 0, 1) := by decide +kernel
theorem d_M_isPage_143 : decode b_M_isPage 143 = .ok (.istore_n 3, 1) := by decide +kernel
theorem d_M_isPage_144 : decode b_M_isPage 144 = .ok (.iload_n 3, 1) := by decide +kernel
theorem d_M_isPage_145 : decode b_M_isPage 145 = .ok (.ifCond .ne 14, 3) := by decide +kernel
theorem d_M_isPage_148 : decode b_M_isPage 148 = .ok (.aload_n 0, 1) := by decide +kernel
theorem d_M_isPage_149 : decode b_M_isPage 149 = .ok (.iconst 2, 1) := by decide +kernel
theorem d_M_isPage_150 : decode b_M_isPage 150 = .ok (.aload_n 0, 1) := by decide +kernel
theorem d_M_isPage_151 : decode b_M_isPage 151 = .ok (.getfield 40, 3) := by decide +kernel
theorem d_M_isPage_154 : decode b_M_isPage 154 = .ok (.iload_n 1, 1) := by decide +kernel
theorem d_M_isPage_155 : decode b_M_isPage 155 = .ok (.iaload, 1) := by decide +kernel
theorem d_M_isPage_156 : decode b_M_isPage 156 = .ok (.invokevirtual 217, 3) := by decide +kernel
theorem d_M_isPage_159 : decode b_M_isPage 159 = .ok (.iinc 1 1, 3) := by decide +kernel
theorem d_M_isPage_162 : decode b_M_isPage 162 = .ok (.goto (-129), 3) := by decide +kernel
theorem d_M_isPage_165 : decode b_M_isPage 165 = .ok (.aload_n 0, 1) := by decide +kernel
theorem d_M_isPage_166 : decode b_M_isPage 166 = .ok (.getfield 208, 3) := by decide +kernel
theorem d_M_isPage_169 : decode b_M_isPage 169 = .ok (.ifCond .ne 7, 3) := by decide +kernel
theorem d_M_isPage_172 : decode b_M_isPage 172 = .ok (.iconst 1, 1) := by decide +kernel
theorem d_M_isPage_173 : decode b_M_isPage 173 = .ok (.goto 4, 3) := by decide +kernel
theorem d_M_isPage_176 : decode b_M_isPage 176 = .ok (.iconst 0, 1) := by decide +kernel
theorem d_M_isPage_177 : decode b_M_isPage 177 = .ok (.ireturn, 1) := by decide +kernel
def w_M_isPage_J165   (post : Int32 → MPS → Prop) (σ : MPS) : Prop := (((mp_fault σ) = 0 → post 1 σ) ∧ (¬ (mp_fault σ) = 0 → post 0 σ))
def w_M_isPage_J159   (K33 : Int32 → MPS → Prop) (post : Int32 → MPS → Prop) (v1 : Int32) (σ : MPS) : Prop := K33 (v1 + 1) σ
def w_M_isPage_J143   (K33 : Int32 → MPS → Prop) (post : Int32 → MPS → Prop) (v1 : Int32) (t0 : Int32) (σ : MPS) : Prop := ((t0 = 0 → (vp_in v1 1000 ∧ w_M_tell σ 2 ((mp_begins σ) v1.toNatClampNeg) (fun σ156 => w_M_isPage_J159 (K33) post v1 σ156))) ∧ (¬ t0 = 0 → w_M_isPage_J159 (K33) post v1 σ))
def w_M_isPage_J142   (K33 : Int32 → MPS → Prop) (post : Int32 → MPS → Prop) (v1 : Int32) (σ : MPS) : Prop := w_M_isPage_J143 (K33) post v1 0 σ
def w_M_isPage_J111   (K33 : Int32 → MPS → Prop) (post : Int32 → MPS → Prop) (v1 : Int32) (v2 : Int32) (σ : MPS) : Prop := w_M_hasGoodAttributes σ v1 v2 (fun r114 σ114 => ((r114 = 0 → w_M_isPage_J142 (K33) post v1 σ114) ∧ (¬ r114 = 0 → w_M_holdsAll σ114 v1 v2 (fun r123 => ((r123 = 0 → w_M_isPage_J142 (K33) post v1 σ114) ∧ (¬ r123 = 0 → w_M_hasGoodText σ114 v1 v2 (fun r132 σ132 => ((r132 = 0 → w_M_isPage_J142 (K33) post v1 σ132) ∧ (¬ r132 = 0 → w_M_isPage_J143 (K33) post v1 1 σ132)))))))))
def w_M_isPage_J90   (K33 : Int32 → MPS → Prop) (post : Int32 → MPS → Prop) (v1 : Int32) (v2 : Int32) (t0 : Int32) (σ : MPS) : Prop := w_M_mayHold  t0 v2 (fun r91 => ((r91 = 0 → w_M_isPage_J142 (K33) post v1 σ) ∧ (¬ r91 = 0 → ((v2 = 18 → w_M_isInAnchor σ v1 (fun r105 => ((r105 = 0 → w_M_isPage_J111 (K33) post v1 v2 σ) ∧ (¬ r105 = 0 → w_M_isPage_J142 (K33) post v1 σ)))) ∧ (¬ v2 = 18 → w_M_isPage_J111 (K33) post v1 v2 σ)))))
def w_M_isPage_L33   (post : Int32 → MPS → Prop) : Nat → Int32 → MPS → Prop
  | 0, _, _ => False
  | n33 + 1, v1, σ => (((mp_nodes σ) ≤ v1 → w_M_isPage_J165 post σ) ∧ (¬ (mp_nodes σ) ≤ v1 → (((mp_fault σ) = 0 → (vp_in v1 1000 ∧ ((((mp_isElement σ) v1.toNatClampNeg) = 0 → w_M_isPage_J159 (w_M_isPage_L33 post n33) post v1 σ) ∧ (¬ ((mp_isElement σ) v1.toNatClampNeg) = 0 → w_M_kindOf σ v1 (fun r62 => (vp_in v1 1000 ∧ ((((mp_up σ) v1.toNatClampNeg) = (-1) → w_M_isPage_J90 (w_M_isPage_L33 post n33) post v1 r62 (-1) σ) ∧ (¬ ((mp_up σ) v1.toNatClampNeg) = (-1) → (vp_in v1 1000 ∧ w_M_kindOf σ ((mp_up σ) v1.toNatClampNeg) (fun r87 => w_M_isPage_J90 (w_M_isPage_L33 post n33) post v1 r62 r87 σ)))))))))) ∧ (¬ (mp_fault σ) = 0 → w_M_isPage_J165 post σ))))
def w_M_isPage_J13   (post : Int32 → MPS → Prop) (t0 : Int32) (σ : MPS) : Prop := (∀ σ13 : MPS, σ13 = ms_thrown σ t0 → (((mp_thrown σ13) ≤ 0 → w_M_tell σ13 0 (-1) (fun σ28 => (∃ n33, w_M_isPage_L33 post n33 0 σ28))) ∧ (¬ (mp_thrown σ13) ≤ 0 → post 0 σ13)))
def w_M_isPage  (σ : MPS)  (post : Int32 → MPS → Prop) : Prop := (((mp_known σ) = 0 → w_M_isPage_J13 post 1 σ) ∧ (¬ (mp_known σ) = 0 → w_M_isPage_J13 post 0 σ))
set_option maxHeartbeats 4000000 in
set_option maxRecDepth 100000 in
theorem c_M_isPage (l : Launch) (md : MD) (sz : Nat) (σ : MPS)   (post : Int32 → MPS → Prop) (hE : w_M_isPage σ post) : Met l y_M_isPage ws_M_isPage { frames := 7, cells := 0, slots := 0, locals := 157 } (va_Pc [.ref (mA md 0)] (gM md σ sz)) (va_Qi post (eM md (va_A (MW md σ) sz)) (va_A (MW md σ) sz)) 0 0 (va_A (MW md σ) sz) := by
  refine Met.ofW (cc := b_M_isPage) (maxL := 4) (ret := (some .boolean)) (by decide) rfl ?_
  intro p e s m args below meth c s₁ B hml hv
  obtain ⟨rfl, hsz, hP, hK, hD0⟩ := hv
  have hx := B.exec
  have hb := B.bytes
  have hr := B.returns
  have hta : ∀ w ∈ aW, w.before _ s = true := fun w h => atoms_spec (ws := ws_M_isPage) B.pre w (List.mem_cons_of_mem _ h)
  have hown : s.vm.findClass R_M = some m.cls := findClass_of_methodNamed B.named
  have hlocks := B.notSynchronized
  subst hsz
  have hD := hD0.self (sz := s.heap.size)
  generalize hAe : va_A (MW md σ) s.heap.size = A at hD ⊢
  have hA : ∀ q : Nat, s.heap.size ≤ q → A q := fun q h => by rw [← hAe]; exact Or.inr h
  have hS : va_S A s.heap s.heap [] := va_S.rf
  have hP : va_P (mG md) classes (MW md σ) s.heap := hP
  have hl := lv_entry ([.ref (mA md 0)]) (n := 4) (Nat.le_of_ble_eq_true rfl)
  rw [lg_entry_eq]
  generalize (lg_sl ([.ref (mA md 0)]) ++ List.replicate (4 - (lg_sl ([.ref (mA md 0)])).length) Slot.unset).toArray = ls at hl ⊢
  have hl : lv_has ls 4 [(0, .ref (mA md 0))] := hl
  have J165 : ∀ (σ : MPS) (H : Heap) (locs : List Loc) (hP : va_P (mG md) classes (MW md σ) H) (hD : va_D A (MW md σ)) (hS : va_S A s.heap H locs) (ls : Array Slot) (hl : lv_has ls 4 [(0, .ref (mA md 0))]) (hE : w_M_isPage_J165 post σ), W p l e (headSpec ws_M_isPage { frames := 7, cells := 0, slots := 0, locals := 157 }).room s m ([.ref (mA md 0)] : List Value).toArray below meth c H locs 0 0 (MQ below (va_Qi post (eM md A) A) ([.ref (mA md 0)] : List Value).toArray s 0 0 A) (F0 m 165 ls []) := by
    intro  σ H locs hP hD hS ls hl hE
    unfold w_M_isPage_J165 at hE
    refine lv_aload_n hx hb d_M_isPage_165 rfl (lv_at hl 0 rfl) ?_
    refine va_get (D := (mG md)) (ci := 7) (v := .int (mp_fault σ)) (C := R_M) (T := F_M) (N := 37) hx hb hta i_M hown hK hP 0 rfl rfl 9 (by decide) (hta _ fl_M_208) (fun _ h9 => h9) rfl d_M_isPage_166 ?_
    refine lv_if_ne (tgt := 176) hx hb d_M_isPage_169 (by decide) (fun cc169 => ?_) (fun cc169 => ?_)
    · have hE := hE.2 cc169
      refine lv_iconst (v := 0) hx hb d_M_isPage_176 (by decide) ?_
      exact W.zret (v := 0) hx hb hr rfl (fun t ht hW => ⟨⟨_, σ, rfl, hE, by rw [ht]; exact hP, va_K.moved hW.alike hK, hD⟩, hS.F ht⟩) hS.2.2 d_M_isPage_177
    · have hE := hE.1 cc169
      refine lv_iconst (v := 1) hx hb d_M_isPage_172 (by decide) ?_
      refine lv_goto (tgt := 177) hx hb d_M_isPage_173 (by decide) ?_
      exact W.zret (v := 1) hx hb hr rfl (fun t ht hW => ⟨⟨_, σ, rfl, hE, by rw [ht]; exact hP, va_K.moved hW.alike hK, hD⟩, hS.F ht⟩) hS.2.2 d_M_isPage_177
  have L33 : ∀ (n33 : Nat) (v1 : Int32) (σ : MPS) (H : Heap) (locs : List Loc) (hP : va_P (mG md) classes (MW md σ) H) (hD : va_D A (MW md σ)) (hS : va_S A s.heap H locs) (ls : Array Slot) (hl : lv_has ls 4 [(0, .ref (mA md 0)), (1, .int v1)]) (hE : w_M_isPage_L33 post n33 v1 σ), W p l e (headSpec ws_M_isPage { frames := 7, cells := 0, slots := 0, locals := 157 }).room s m ([.ref (mA md 0)] : List Value).toArray below meth c H locs 0 0 (MQ below (va_Qi post (eM md A) A) ([.ref (mA md 0)] : List Value).toArray s 0 0 A) (F0 m 33 ls []) := by
    intro n33
    induction n33 with
    | zero => intro v1 σ H locs hP hD hS ls hl hE; exact hE.elim
    | succ n33 ih33 =>
      have J159 : ∀ (v1 : Int32) (σ : MPS) (H : Heap) (locs : List Loc) (hP : va_P (mG md) classes (MW md σ) H) (hD : va_D A (MW md σ)) (hS : va_S A s.heap H locs) (ls : Array Slot) (hl : lv_has ls 4 [(0, .ref (mA md 0)), (1, .int v1)]) (hE : w_M_isPage_J159 (w_M_isPage_L33 post n33) post v1 σ), W p l e (headSpec ws_M_isPage { frames := 7, cells := 0, slots := 0, locals := 157 }).room s m ([.ref (mA md 0)] : List Value).toArray below meth c H locs 0 0 (MQ below (va_Qi post (eM md A) A) ([.ref (mA md 0)] : List Value).toArray s 0 0 A) (F0 m 159 ls []) := by
        intro  v1 σ H locs hP hD hS ls hl hE
        unfold w_M_isPage_J159 at hE
        refine lv_iinc (v := v1 + 1) (lv' := [(1, .int (v1 + 1)), (0, .ref (mA md 0))]) hx hb d_M_isPage_159 hl (k := 1) rfl rfl (by decide) rfl (fun ls hl => ?_)
        refine lv_goto (tgt := 33) hx hb d_M_isPage_162 (by decide) ?_
        exact ih33 (v1 + 1) σ _ _ hP hD hS _ (lv_sub hl [1, 0] rfl) hE
      have J143 : ∀ (v1 : Int32) (t0 : Int32) (σ : MPS) (H : Heap) (locs : List Loc) (hP : va_P (mG md) classes (MW md σ) H) (hD : va_D A (MW md σ)) (hS : va_S A s.heap H locs) (ls : Array Slot) (hl : lv_has ls 4 [(0, .ref (mA md 0)), (1, .int v1)]) (hE : w_M_isPage_J143 (w_M_isPage_L33 post n33) post v1 t0 σ), W p l e (headSpec ws_M_isPage { frames := 7, cells := 0, slots := 0, locals := 157 }).room s m ([.ref (mA md 0)] : List Value).toArray below meth c H locs 0 0 (MQ below (va_Qi post (eM md A) A) ([.ref (mA md 0)] : List Value).toArray s 0 0 A) (F0 m 143 ls [.int t0]) := by
        intro  v1 t0 σ H locs hP hD hS ls hl hE
        unfold w_M_isPage_J143 at hE
        refine lv_istore_n (lv' := [(3, .int t0), (0, .ref (mA md 0)), (1, .int v1)]) hx hb d_M_isPage_143 rfl hl (by decide) rfl (fun ls hl => ?_)
        refine lv_iload_n hx hb d_M_isPage_144 rfl (lv_at hl 0 rfl) ?_
        refine lv_if_ne (tgt := 159) hx hb d_M_isPage_145 (by decide) (fun cc145 => ?_) (fun cc145 => ?_)
        · have hE := hE.2 cc145
          exact J159  v1 σ _ _ hP hD hS _ (lv_sub hl [1, 2] rfl) hE
        · have hE := hE.1 cc145
          refine lv_aload_n hx hb d_M_isPage_148 rfl (lv_at hl 1 rfl) ?_
          refine lv_iconst (v := 2) hx hb d_M_isPage_149 (by decide) ?_
          refine lv_aload_n hx hb d_M_isPage_150 rfl (lv_at hl 1 rfl) ?_
          refine va_get (D := (mG md)) (ci := 7) (v := .ref (mA md 9)) (C := R_M) (T := F_M) (N := 37) hx hb hta i_M hown hK hP 0 rfl rfl 24 (by decide) (hta _ fl_M_40) (fun _ h9 => h9) rfl d_M_isPage_151 ?_
          refine lv_iload_n hx hb d_M_isPage_154 rfl (lv_at hl 2 rfl) ?_
          obtain ⟨hI155, hE⟩ := hE
          refine va_iald (D := (mG md)) (f := mp_begins σ) hx hb hK hP 9 0 rfl rfl hI155 d_M_isPage_155 ?_
          refine mm_v (b0 := (mA md 0)) (As := [.int 2, .int ((mp_begins σ) v1.toNatClampNeg)]) (rest := []) ⟨hx, hb, hml, hown, hta⟩ (c_M_tell l md _ σ 2 ((mp_begins σ) v1.toNatClampNeg) _ hE) ok_M_217 ⟨Nat.le_of_ble_eq_true rfl, Nat.le_of_ble_eq_true rfl⟩ (va_recv hK hP (ci := 7) (q0 := 0) rfl rfl) hP hK hD hS hA rfl hl.1 rfl (Nat.le_of_ble_eq_true rfl) d_M_isPage_156 ⟨Nat.zero_le _, Nat.zero_le _⟩ (fun σ156 H locs hE hP hD hS => ?_)
          exact J159  v1 σ156 _ _ hP hD hS _ (lv_sub hl [1, 2] rfl) hE
      have J142 : ∀ (v1 : Int32) (σ : MPS) (H : Heap) (locs : List Loc) (hP : va_P (mG md) classes (MW md σ) H) (hD : va_D A (MW md σ)) (hS : va_S A s.heap H locs) (ls : Array Slot) (hl : lv_has ls 4 [(0, .ref (mA md 0)), (1, .int v1)]) (hE : w_M_isPage_J142 (w_M_isPage_L33 post n33) post v1 σ), W p l e (headSpec ws_M_isPage { frames := 7, cells := 0, slots := 0, locals := 157 }).room s m ([.ref (mA md 0)] : List Value).toArray below meth c H locs 0 0 (MQ below (va_Qi post (eM md A) A) ([.ref (mA md 0)] : List Value).toArray s 0 0 A) (F0 m 142 ls []) := by
        intro  v1 σ H locs hP hD hS ls hl hE
        unfold w_M_isPage_J142 at hE
        refine lv_iconst (v := 0) hx hb d_M_isPage_142 (by decide) ?_
        exact J143  v1 0 σ _ _ hP hD hS _ (lv_sub hl [0, 1] rfl) hE
      have J111 : ∀ (v1 : Int32) (v2 : Int32) (σ : MPS) (H : Heap) (locs : List Loc) (hP : va_P (mG md) classes (MW md σ) H) (hD : va_D A (MW md σ)) (hS : va_S A s.heap H locs) (ls : Array Slot) (hl : lv_has ls 4 [(0, .ref (mA md 0)), (1, .int v1), (2, .int v2)]) (hE : w_M_isPage_J111 (w_M_isPage_L33 post n33) post v1 v2 σ), W p l e (headSpec ws_M_isPage { frames := 7, cells := 0, slots := 0, locals := 157 }).room s m ([.ref (mA md 0)] : List Value).toArray below meth c H locs 0 0 (MQ below (va_Qi post (eM md A) A) ([.ref (mA md 0)] : List Value).toArray s 0 0 A) (F0 m 111 ls []) := by
        intro  v1 v2 σ H locs hP hD hS ls hl hE
        unfold w_M_isPage_J111 at hE
        refine lv_aload_n hx hb d_M_isPage_111 rfl (lv_at hl 0 rfl) ?_
        refine lv_iload_n hx hb d_M_isPage_112 rfl (lv_at hl 1 rfl) ?_
        refine lv_iload_n hx hb d_M_isPage_113 rfl (lv_at hl 2 rfl) ?_
        refine mm_i (b0 := (mA md 0)) (As := [.int v1, .int v2]) (rest := []) ⟨hx, hb, hml, hown, hta⟩ (c_M_hasGoodAttributes l md _ σ v1 v2 _ hE) ok_M_314 ⟨Nat.le_of_ble_eq_true rfl, Nat.le_of_ble_eq_true rfl⟩ (va_recv hK hP (ci := 7) (q0 := 0) rfl rfl) hP hK hD hS hA rfl hl.1 rfl (Nat.le_of_ble_eq_true rfl) d_M_isPage_114 ⟨Nat.zero_le _, Nat.zero_le _⟩ (fun r114 σ114 H locs hE hP hD hS => ?_)
        refine lv_if_eq (tgt := 142) hx hb d_M_isPage_117 (by decide) (fun cc117 => ?_) (fun cc117 => ?_)
        · have hE := hE.1 cc117
          exact J142  v1 σ114 _ _ hP hD hS _ (lv_sub hl [0, 1] rfl) hE
        · have hE := hE.2 cc117
          refine lv_aload_n hx hb d_M_isPage_120 rfl (lv_at hl 0 rfl) ?_
          refine lv_iload_n hx hb d_M_isPage_121 rfl (lv_at hl 1 rfl) ?_
          refine lv_iload_n hx hb d_M_isPage_122 rfl (lv_at hl 2 rfl) ?_
          refine ro_V (b0 := (mA md 0)) (As := [.int v1, .int v2]) (rest := []) ⟨hx, hb, hml, hown, hta⟩ (c_M_holdsAll l md σ114 v1 v2  _ hE) ok_M_317 ⟨Nat.le_of_ble_eq_true rfl, Nat.le_of_ble_eq_true rfl⟩ blind_rM (va_recv hK hP (ci := 7) (q0 := 0) rfl rfl) (rM_of hP hK) rfl hl.1 rfl (Nat.le_of_ble_eq_true rfl) d_M_isPage_123 ⟨Nat.zero_le _, Nat.zero_le _⟩ (fun r123 hE => ?_)
          refine lv_if_eq (tgt := 142) hx hb d_M_isPage_126 (by decide) (fun cc126 => ?_) (fun cc126 => ?_)
          · have hE := hE.1 cc126
            exact J142  v1 σ114 _ _ hP hD hS _ (lv_sub hl [0, 1] rfl) hE
          · have hE := hE.2 cc126
            refine lv_aload_n hx hb d_M_isPage_129 rfl (lv_at hl 0 rfl) ?_
            refine lv_iload_n hx hb d_M_isPage_130 rfl (lv_at hl 1 rfl) ?_
            refine lv_iload_n hx hb d_M_isPage_131 rfl (lv_at hl 2 rfl) ?_
            refine mm_i (b0 := (mA md 0)) (As := [.int v1, .int v2]) (rest := []) ⟨hx, hb, hml, hown, hta⟩ (c_M_hasGoodText l md _ σ114 v1 v2 _ hE) ok_M_320 ⟨Nat.le_of_ble_eq_true rfl, Nat.le_of_ble_eq_true rfl⟩ (va_recv hK hP (ci := 7) (q0 := 0) rfl rfl) hP hK hD hS hA rfl hl.1 rfl (Nat.le_of_ble_eq_true rfl) d_M_isPage_132 ⟨Nat.zero_le _, Nat.zero_le _⟩ (fun r132 σ132 H locs hE hP hD hS => ?_)
            refine lv_if_eq (tgt := 142) hx hb d_M_isPage_135 (by decide) (fun cc135 => ?_) (fun cc135 => ?_)
            · have hE := hE.1 cc135
              exact J142  v1 σ132 _ _ hP hD hS _ (lv_sub hl [0, 1] rfl) hE
            · have hE := hE.2 cc135
              refine lv_iconst (v := 1) hx hb d_M_isPage_138 (by decide) ?_
              refine lv_goto (tgt := 143) hx hb d_M_isPage_139 (by decide) ?_
              exact J143  v1 1 σ132 _ _ hP hD hS _ (lv_sub hl [0, 1] rfl) hE
      have J90 : ∀ (v1 : Int32) (v2 : Int32) (t0 : Int32) (σ : MPS) (H : Heap) (locs : List Loc) (hP : va_P (mG md) classes (MW md σ) H) (hD : va_D A (MW md σ)) (hS : va_S A s.heap H locs) (ls : Array Slot) (hl : lv_has ls 4 [(0, .ref (mA md 0)), (1, .int v1), (2, .int v2)]) (hE : w_M_isPage_J90 (w_M_isPage_L33 post n33) post v1 v2 t0 σ), W p l e (headSpec ws_M_isPage { frames := 7, cells := 0, slots := 0, locals := 157 }).room s m ([.ref (mA md 0)] : List Value).toArray below meth c H locs 0 0 (MQ below (va_Qi post (eM md A) A) ([.ref (mA md 0)] : List Value).toArray s 0 0 A) (F0 m 90 ls [.int t0]) := by
        intro  v1 v2 t0 σ H locs hP hD hS ls hl hE
        unfold w_M_isPage_J90 at hE
        refine lv_iload_n hx hb d_M_isPage_90 rfl (lv_at hl 2 rfl) ?_
        refine ro_S  (As := [.int t0, .int v2]) (rest := []) ⟨hx, hb, hml, hown, hta⟩ (c_M_mayHold l t0 v2  _ hE) ok_M_308 ⟨Nat.le_of_ble_eq_true rfl, Nat.le_of_ble_eq_true rfl⟩ blind_true  (fun _ _ _ => trivial) rfl hl.1 rfl (Nat.le_of_ble_eq_true rfl) d_M_isPage_91 ⟨Nat.zero_le _, Nat.zero_le _⟩ (fun r91 hE => ?_)
        refine lv_if_eq (tgt := 142) hx hb d_M_isPage_94 (by decide) (fun cc94 => ?_) (fun cc94 => ?_)
        · have hE := hE.1 cc94
          exact J142  v1 σ _ _ hP hD hS _ (lv_sub hl [0, 1] rfl) hE
        · have hE := hE.2 cc94
          refine lv_iload_n hx hb d_M_isPage_97 rfl (lv_at hl 2 rfl) ?_
          refine lv_bipush (v := 18) hx hb d_M_isPage_98 (by decide) ?_
          refine lv_icmp_ne (tgt := 111) hx hb d_M_isPage_100 (by decide) (fun cc100 => ?_) (fun cc100 => ?_)
          · have hE := hE.2 cc100
            exact J111  v1 v2 σ _ _ hP hD hS _ (lv_sub hl [0, 1, 2] rfl) hE
          · have hE := hE.1 cc100
            refine lv_aload_n hx hb d_M_isPage_103 rfl (lv_at hl 0 rfl) ?_
            refine lv_iload_n hx hb d_M_isPage_104 rfl (lv_at hl 1 rfl) ?_
            refine ro_V (b0 := (mA md 0)) (As := [.int v1]) (rest := []) ⟨hx, hb, hml, hown, hta⟩ (c_M_isInAnchor l md σ v1  _ hE) ok_M_311 ⟨Nat.le_of_ble_eq_true rfl, Nat.le_of_ble_eq_true rfl⟩ blind_rM (va_recv hK hP (ci := 7) (q0 := 0) rfl rfl) (rM_of hP hK) rfl hl.1 rfl (Nat.le_of_ble_eq_true rfl) d_M_isPage_105 ⟨Nat.zero_le _, Nat.zero_le _⟩ (fun r105 hE => ?_)
            refine lv_if_ne (tgt := 142) hx hb d_M_isPage_108 (by decide) (fun cc108 => ?_) (fun cc108 => ?_)
            · have hE := hE.2 cc108
              exact J142  v1 σ _ _ hP hD hS _ (lv_sub hl [0, 1] rfl) hE
            · have hE := hE.1 cc108
              exact J111  v1 v2 σ _ _ hP hD hS _ (lv_sub hl [0, 1, 2] rfl) hE
      intro v1 σ H locs hP hD hS ls hl hE
      unfold w_M_isPage_L33 at hE
      refine lv_iload_n hx hb d_M_isPage_33 rfl (lv_at hl 1 rfl) ?_
      refine lv_aload_n hx hb d_M_isPage_34 rfl (lv_at hl 0 rfl) ?_
      refine va_get (D := (mG md)) (ci := 7) (v := .int (mp_nodes σ)) (C := R_M) (T := F_M) (N := 37) hx hb hta i_M hown hK hP 0 rfl rfl 32 (by decide) (hta _ fl_M_175) (fun _ h9 => h9) rfl d_M_isPage_35 ?_
      refine lv_icmp_ge (tgt := 165) hx hb d_M_isPage_38 (by decide) (fun cc38 => ?_) (fun cc38 => ?_)
      · have hE := hE.1 cc38
        exact J165  σ _ _ hP hD hS _ (lv_sub hl [0] rfl) hE
      · have hE := hE.2 cc38
        refine lv_aload_n hx hb d_M_isPage_41 rfl (lv_at hl 0 rfl) ?_
        refine va_get (D := (mG md)) (ci := 7) (v := .int (mp_fault σ)) (C := R_M) (T := F_M) (N := 37) hx hb hta i_M hown hK hP 0 rfl rfl 9 (by decide) (hta _ fl_M_208) (fun _ h9 => h9) rfl d_M_isPage_42 ?_
        refine lv_if_ne (tgt := 165) hx hb d_M_isPage_45 (by decide) (fun cc45 => ?_) (fun cc45 => ?_)
        · have hE := hE.2 cc45
          exact J165  σ _ _ hP hD hS _ (lv_sub hl [0] rfl) hE
        · have hE := hE.1 cc45
          refine lv_aload_n hx hb d_M_isPage_48 rfl (lv_at hl 0 rfl) ?_
          refine va_get (D := (mG md)) (ci := 7) (v := .ref (mA md 8)) (C := R_M) (T := F_M) (N := 37) hx hb hta i_M hown hK hP 0 rfl rfl 23 (by decide) (hta _ fl_M_36) (fun _ h9 => h9) rfl d_M_isPage_49 ?_
          refine lv_iload_n hx hb d_M_isPage_52 rfl (lv_at hl 1 rfl) ?_
          obtain ⟨hI53, hE⟩ := hE
          refine va_zald (D := (mG md)) (f := mp_isElement σ) hx hb hK hP 8 2 rfl rfl hI53 d_M_isPage_53 ?_
          refine lv_if_ne (tgt := 60) hx hb d_M_isPage_54 (by decide) (fun cc54 => ?_) (fun cc54 => ?_)
          · have hE := hE.2 cc54
            refine lv_aload_n hx hb d_M_isPage_60 rfl (lv_at hl 0 rfl) ?_
            refine lv_iload_n hx hb d_M_isPage_61 rfl (lv_at hl 1 rfl) ?_
            refine ro_V (b0 := (mA md 0)) (As := [.int v1]) (rest := []) ⟨hx, hb, hml, hown, hta⟩ (c_M_kindOf l md σ v1  _ hE) ok_M_302 ⟨Nat.le_of_ble_eq_true rfl, Nat.le_of_ble_eq_true rfl⟩ blind_rM (va_recv hK hP (ci := 7) (q0 := 0) rfl rfl) (rM_of hP hK) rfl hl.1 rfl (Nat.le_of_ble_eq_true rfl) d_M_isPage_62 ⟨Nat.zero_le _, Nat.zero_le _⟩ (fun r62 hE => ?_)
            refine lv_istore_n (lv' := [(2, .int r62), (0, .ref (mA md 0)), (1, .int v1)]) hx hb d_M_isPage_65 rfl hl (by decide) rfl (fun ls hl => ?_)
            refine lv_aload_n hx hb d_M_isPage_66 rfl (lv_at hl 1 rfl) ?_
            refine va_get (D := (mG md)) (ci := 7) (v := .ref (mA md 11)) (C := R_M) (T := F_M) (N := 37) hx hb hta i_M hown hK hP 0 rfl rfl 26 (by decide) (hta _ fl_M_46) (fun _ h9 => h9) rfl d_M_isPage_67 ?_
            refine lv_iload_n hx hb d_M_isPage_70 rfl (lv_at hl 2 rfl) ?_
            obtain ⟨hI71, hE⟩ := hE
            refine va_iald (D := (mG md)) (f := mp_up σ) hx hb hK hP 11 0 rfl rfl hI71 d_M_isPage_71 ?_
            refine lv_iconst (v := -1) hx hb d_M_isPage_72 (by decide) ?_
            refine lv_icmp_ne (tgt := 80) hx hb d_M_isPage_73 (by decide) (fun cc73 => ?_) (fun cc73 => ?_)
            · have hE := hE.2 cc73
              refine lv_aload_n hx hb d_M_isPage_80 rfl (lv_at hl 1 rfl) ?_
              refine lv_aload_n hx hb d_M_isPage_81 rfl (lv_at hl 1 rfl) ?_
              refine va_get (D := (mG md)) (ci := 7) (v := .ref (mA md 11)) (C := R_M) (T := F_M) (N := 37) hx hb hta i_M hown hK hP 0 rfl rfl 26 (by decide) (hta _ fl_M_46) (fun _ h9 => h9) rfl d_M_isPage_82 ?_
              refine lv_iload_n hx hb d_M_isPage_85 rfl (lv_at hl 2 rfl) ?_
              obtain ⟨hI86, hE⟩ := hE
              refine va_iald (D := (mG md)) (f := mp_up σ) hx hb hK hP 11 0 rfl rfl hI86 d_M_isPage_86 ?_
              refine ro_V (b0 := (mA md 0)) (As := [.int ((mp_up σ) v1.toNatClampNeg)]) (rest := []) ⟨hx, hb, hml, hown, hta⟩ (c_M_kindOf l md σ ((mp_up σ) v1.toNatClampNeg)  _ hE) ok_M_302 ⟨Nat.le_of_ble_eq_true rfl, Nat.le_of_ble_eq_true rfl⟩ blind_rM (va_recv hK hP (ci := 7) (q0 := 0) rfl rfl) (rM_of hP hK) rfl hl.1 rfl (Nat.le_of_ble_eq_true rfl) d_M_isPage_87 ⟨Nat.zero_le _, Nat.zero_le _⟩ (fun r87 hE => ?_)
              exact J90  v1 r62 r87 σ _ _ hP hD hS _ (lv_sub hl [1, 2, 0] rfl) hE
            · have hE := hE.1 cc73
              refine lv_iconst (v := -1) hx hb d_M_isPage_76 (by decide) ?_
              refine lv_goto (tgt := 90) hx hb d_M_isPage_77 (by decide) ?_
              exact J90  v1 r62 (-1) σ _ _ hP hD hS _ (lv_sub hl [1, 2, 0] rfl) hE
          · have hE := hE.1 cc54
            refine lv_goto (tgt := 159) hx hb d_M_isPage_57 (by decide) ?_
            exact J159  v1 σ _ _ hP hD hS _ (lv_sub hl [0, 1] rfl) hE
  have J13 : ∀ (t0 : Int32) (σ : MPS) (H : Heap) (locs : List Loc) (hP : va_P (mG md) classes (MW md σ) H) (hD : va_D A (MW md σ)) (hS : va_S A s.heap H locs) (ls : Array Slot) (hl : lv_has ls 4 [(0, .ref (mA md 0))]) (hE : w_M_isPage_J13 post t0 σ), W p l e (headSpec ws_M_isPage { frames := 7, cells := 0, slots := 0, locals := 157 }).room s m ([.ref (mA md 0)] : List Value).toArray below meth c H locs 0 0 (MQ below (va_Qi post (eM md A) A) ([.ref (mA md 0)] : List Value).toArray s 0 0 A) (F0 m 13 ls [.int t0, .ref (mA md 0)]) := by
    intro  t0 σ H locs hP hD hS ls hl hE
    unfold w_M_isPage_J13 at hE
    refine va_put (D := (mG md)) (ci := 7) (v := .int t0) (ty := .int) (C := R_M) (T := F_M) (N := 37) hx hb hta i_M t_M t_M_ok n_M hown hK hP hD hS 0 rfl rfl 0 (by decide) (hta _ fl_M_70) (fun _ h9 => h9) rfl (by decide +kernel) rfl rfl (Nat.le_of_ble_eq_true rfl) d_M_isPage_13 (fun H locs hP hD hS => ?_)
    have hP := mwP_thrown hP
    have hD := mwD_thrown hD
    have hE := hE _ rfl
    generalize (ms_thrown σ t0 : MPS) = σ13 at hP hD hE
    refine lv_aload_n hx hb d_M_isPage_16 rfl (lv_at hl 0 rfl) ?_
    refine va_get (D := (mG md)) (ci := 7) (v := .int (mp_thrown σ13)) (C := R_M) (T := F_M) (N := 37) hx hb hta i_M hown hK hP 0 rfl rfl 0 (by decide) (hta _ fl_M_70) (fun _ h9 => h9) rfl d_M_isPage_17 ?_
    refine lv_if_le (tgt := 25) hx hb d_M_isPage_20 (by decide) (fun cc20 => ?_) (fun cc20 => ?_)
    · have hE := hE.1 cc20
      refine lv_aload_n hx hb d_M_isPage_25 rfl (lv_at hl 0 rfl) ?_
      refine lv_iconst (v := 0) hx hb d_M_isPage_26 (by decide) ?_
      refine lv_iconst (v := -1) hx hb d_M_isPage_27 (by decide) ?_
      refine mm_v (b0 := (mA md 0)) (As := [.int 0, .int (-1)]) (rest := []) ⟨hx, hb, hml, hown, hta⟩ (c_M_tell l md _ σ13 0 (-1) _ hE) ok_M_217 ⟨Nat.le_of_ble_eq_true rfl, Nat.le_of_ble_eq_true rfl⟩ (va_recv hK hP (ci := 7) (q0 := 0) rfl rfl) hP hK hD hS hA rfl hl.1 rfl (Nat.le_of_ble_eq_true rfl) d_M_isPage_28 ⟨Nat.zero_le _, Nat.zero_le _⟩ (fun σ28 H locs hE hP hD hS => ?_)
      refine lv_iconst (v := 0) hx hb d_M_isPage_31 (by decide) ?_
      refine lv_istore_n (lv' := [(1, .int 0), (0, .ref (mA md 0))]) hx hb d_M_isPage_32 rfl hl (by decide) rfl (fun ls hl => ?_)
      obtain ⟨n33, hE⟩ := hE
      exact L33  n33 0 σ28 _ _ hP hD hS _ (lv_sub hl [1, 0] rfl) hE
    · have hE := hE.2 cc20
      refine lv_iconst (v := 0) hx hb d_M_isPage_23 (by decide) ?_
      exact W.zret (v := 0) hx hb hr rfl (fun t ht hW => ⟨⟨_, σ13, rfl, hE, by rw [ht]; exact hP, va_K.moved hW.alike hK, hD⟩, hS.F ht⟩) hS.2.2 d_M_isPage_24
  unfold w_M_isPage at hE
  refine lv_aload_n hx hb d_M_isPage_0 rfl (lv_at hl 0 rfl) ?_
  refine lv_aload_n hx hb d_M_isPage_1 rfl (lv_at hl 0 rfl) ?_
  refine va_get (D := (mG md)) (ci := 7) (v := .int (mp_known σ)) (C := R_M) (T := F_M) (N := 37) hx hb hta i_M hown hK hP 0 rfl rfl 11 (by decide) (hta _ fl_M_214) (fun _ h9 => h9) rfl d_M_isPage_2 ?_
  refine lv_if_eq (tgt := 12) hx hb d_M_isPage_5 (by decide) (fun cc5 => ?_) (fun cc5 => ?_)
  · have hE := hE.1 cc5
    refine lv_iconst (v := 1) hx hb d_M_isPage_12 (by decide) ?_
    exact J13  1 σ _ _ hP hD hS _ (lv_sub hl [0] rfl) hE
  · have hE := hE.2 cc5
    refine lv_iconst (v := 0) hx hb d_M_isPage_8 (by decide) ?_
    refine lv_goto (tgt := 13) hx hb d_M_isPage_9 (by decide) ?_
    exact J13  0 σ _ _ hP hD hS _ (lv_sub hl [0] rfl) hE
