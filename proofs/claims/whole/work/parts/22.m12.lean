-- printed by wip/gen: the reference
theorem cl_M_272 : Cond.constantLong "PlainPagesModel" 272 (26980) ∈ aW := aW_in 1194 (by decide +kernel) rfl
theorem ok_M_274 : okV "PlainPagesModel" 274 R_M y_M_hasAttribute b_M_hasAttribute 7 (some .boolean) 3 := ⟨aW_in 1195 (by decide +kernel) rfl, aW_in 1197 (by decide +kernel) rfl, aW_in 64 (by decide +kernel) rfl, aW_in 92 (by decide +kernel) rfl, cd_M_hasAttribute, rfl, by decide +kernel, by decide +kernel, by decide +kernel⟩
theorem ok_M_277 : okV "PlainPagesModel" 277 R_M y_M_takeValue b_M_takeValue 2 none 0 := ⟨aW_in 1199 (by decide +kernel) rfl, aW_in 1201 (by decide +kernel) rfl, aW_in 65 (by decide +kernel) rfl, aW_in 92 (by decide +kernel) rfl, cd_M_takeValue, rfl, by decide +kernel, by decide +kernel, by decide +kernel⟩
theorem fl_M_280 : Cond.fieldLink "PlainPagesModel" 280 "PlainPagesModel" "wantedMany" "I" ∈ aW := aW_in 940 (by decide +kernel) rfl
theorem fl_M_67 : Cond.fieldLink "PlainPagesModel" 67 "PlainPagesModel" "wanted" "[I" ∈ aW := aW_in 938 (by decide +kernel) rfl
theorem d_M_withId_0 : decode b_M_withId 0 = .ok (.iconst (-1), 1) := by decide +kernel
theorem d_M_withId_1 : decode b_M_withId 1 = .ok (.istore_n 2, 1) := by decide +kernel
theorem d_M_withId_2 : decode b_M_withId 2 = .ok (.iconst 0, 1) := by decide +kernel
theorem d_M_withId_3 : decode b_M_withId 3 = .ok (.istore_n 3, 1) := by decide +kernel
theorem d_M_withId_4 : decode b_M_withId 4 = .ok (.iload_n 3, 1) := by decide +kernel
theorem d_M_withId_5 : decode b_M_withId 5 = .ok (.iload_n 1, 1) := by decide +kernel
theorem d_M_withId_6 : decode b_M_withId 6 = .ok (.if_icmp .ge 117, 3) := by decide +kernel
theorem d_M_withId_9 : decode b_M_withId 9 = .ok (.iload_n 2, 1) := by decide +kernel
theorem d_M_withId_10 : decode b_M_withId 10 = .ok (.ifCond .ge 113, 3) := by decide +kernel
theorem d_M_withId_13 : decode b_M_withId 13 = .ok (.aload_n 0, 1) := by decide +kernel
theorem d_M_withId_14 : decode b_M_withId 14 = .ok (.getfield 36, 3) := by decide +kernel
theorem d_M_withId_17 : decode b_M_withId 17 = .ok (.iload_n 3, 1) := by decide +kernel
theorem d_M_withId_18 : decode b_M_withId 18 = .ok (.baload, 1) := by decide +kernel
theorem d_M_withId_19 : decode b_M_withId 19 = .ok (.ifCond .eq 98, 3) := by decide +kernel
theorem d_M_withId_22 : decode b_M_withId 22 = .ok (.aload_n 0, 1) := by decide +kernel
theorem d_M_withId_23 : decode b_M_withId 23 = .ok (.iload_n 3, 1) := by decide +kernel
theorem d_M_withId_24 : decode b_M_withId 24 = .ok (.ldc2_w 272, 3) := by decide +kernel
theorem d_M_withId_27 : decode b_M_withId 27 = .ok (.iconst 2, 1) := by decide +kernel
theorem d_M_withId_28 : decode b_M_withId 28 = .ok (.invokevirtual 274, 3) := by decide +kernel
theorem d_M_withId_31 : decode b_M_withId 31 = .ok (.ifCond .ne 6, 3) := by decide +kernel
theorem d_M_withId_34 : decode b_M_withId 34 = .ok (.goto 83, 3) := by decide +kernel
theorem d_M_withId_37 : decode b_M_withId 37 = .ok (.aload_n 0, 1) := by decide +kernel
theorem d_M_withId_38 : decode b_M_withId 38 = .ok (.invokevirtual 277, 3) := by decide +kernel
theorem d_M_withId_41 : decode b_M_withId 41 = .ok (.aload_n 0, 1) := by decide +kernel
theorem d_M_withId_42 : decode b_M_withId 42 = .ok (.getfield 269, 3) := by decide +kernel
theorem d_M_withId_45 : decode b_M_withId 45 = .ok (.aload_n 0, 1) := by decide +kernel
theorem d_M_withId_46 : decode b_M_withId 46 = .ok (.getfield 280, 3) := by decide +kernel
theorem d_M_withId_49 : decode b_M_withId 49 = .ok (.if_icmp .ne 7, 3) := by decide +kernel
theorem d_M_withId_52 : decode b_M_withId 52 = .ok (.iconst 1, 1) := by decide +kernel
theorem d_M_withId_53 : decode b_M_withId 53 = .ok (.goto 4, 3) := by decide +kernel
theorem d_M_withId_56 : decode b_M_withId 56 = .ok (.iconst 0, 1) := by decide +kernel
theorem d_M_withId_57 : decode b_M_withId 57 = .ok (.istore 4, 2) := by decide +kernel
theorem d_M_withId_59 : decode b_M_withId 59 = .ok (.iconst 0, 1) := by decide +kernel
theorem d_M_withId_60 : decode b_M_withId 60 = .ok (.istore 5, 2) := by decide +kernel
theorem d_M_withId_62 : decode b_M_withId 62 = .ok (.iload 5, 2) := by decide +kernel
theorem d_M_withId_64 : decode b_M_withId 64 = .ok (.aload_n 0, 1) := by decide +kernel
theorem d_M_withId_65 : decode b_M_withId 65 = .ok (.getfield 269, 3) := by decide +kernel
theorem d_M_withId_68 : decode b_M_withId 68 = .ok (.if_icmp .ge 38, 3) := by decide +kernel
theorem d_M_withId_71 : decode b_M_withId 71 = .ok (.iload 4, 2) := by decide +kernel
theorem d_M_withId_73 : decode b_M_withId 73 = .ok (.ifCond .eq 33, 3) := by decide +kernel
theorem d_M_withId_76 : decode b_M_withId 76 = .ok (.aload_n 0, 1) := by decide +kernel
theorem d_M_withId_77 : decode b_M_withId 77 = .ok (.getfield 64, 3) := by decide +kernel
theorem d_M_withId_80 : decode b_M_withId 80 = .ok (.iload 5, 2) := by decide +kernel
theorem d_M_withId_82 : decode b_M_withId 82 = .ok (.iaload, 1) := by decide +kernel
theorem d_M_withId_83 : decode b_M_withId 83 = .ok (.aload_n 0, 1) := by decide +kernel
theorem d_M_withId_84 : decode b_M_withId 84 = .ok (.getfield 67, 3) := by decide +kernel
theorem d_M_withId_87 : decode b_M_withId 87 = .ok (.iload 5, 2) := by decide +kernel
theorem d_M_withId_89 : decode b_M_withId 89 = .ok (.iaload, 1) := by decide +kernel
theorem d_M_withId_90 : decode b_M_withId 90 = .ok (.if_icmp .ne 7, 3) := by decide +kernel
theorem d_M_withId_93 : decode b_M_withId 93 = .ok (.iconst 1, 1) := by decide +kernel
theorem d_M_withId_94 : decode b_M_withId 94 = .ok (.goto 4, 3) := by decide +kernel
theorem d_M_withId_97 : decode b_M_withId 97 = .ok (.iconst 0, 1) := by decide +kernel
theorem d_M_withId_98 : decode b_M_withId 98 = .ok (.istore 4, 2) := by decide +kernel
theorem d_M_withId_100 : decode b_M_withId 100 = .ok (.iinc 5 1, 3) := by decide +kernel
theorem d_M_withId_103 : decode b_M_withId 103 = .ok (.goto (-41), 3) := by decide +kernel
theorem d_M_withId_106 : decode b_M_withId 106 = .ok (.iload 4, 2) := by decide +kernel
theorem d_M_withId_108 : decode b_M_withId 108 = .ok (.ifCond .eq 7, 3) := by decide +kernel
theorem d_M_withId_111 : decode b_M_withId 111 = .ok (.iload_n 3, 1) := by decide +kernel
theorem d_M_withId_112 : decode b_M_withId 112 = .ok (.goto 4, 3) := by decide +kernel
theorem d_M_withId_115 : decode b_M_withId 115 = .ok (.iconst (-1), 1) := by decide +kernel
theorem d_M_withId_116 : decode b_M_withId 116 = .ok (.istore_n 2, 1) := by decide +kernel
theorem d_M_withId_117 : decode b_M_withId 117 = .ok (.iinc 3 1, 3) := by decide +kernel
theorem d_M_withId_120 : decode b_M_withId 120 = .ok (.goto (-116), 3) := by decide +kernel
theorem d_M_withId_123 : decode b_M_withId 123 = .ok (.iload_n 2, 1) := by decide +kernel
theorem d_M_withId_124 : decode b_M_withId 124 = .ok (.ireturn, 1) := by decide +kernel
def w_M_withId_J117  (v1 : Int32) (K4 : Int32 → Int32 → MPS → Prop) (post : Int32 → MPS → Prop) (v2 : Int32) (v3 : Int32) (σ : MPS) : Prop := K4 v2 (v3 + 1) σ
def w_M_withId_J116  (v1 : Int32) (K4 : Int32 → Int32 → MPS → Prop) (post : Int32 → MPS → Prop) (v3 : Int32) (t0 : Int32) (σ : MPS) : Prop := w_M_withId_J117 v1 (K4) post t0 v3 σ
def w_M_withId_J106  (v1 : Int32) (K4 : Int32 → Int32 → MPS → Prop) (post : Int32 → MPS → Prop) (v3 : Int32) (v4 : Int32) (σ : MPS) : Prop := ((v4 = 0 → w_M_withId_J116 v1 (K4) post v3 (-1) σ) ∧ (¬ v4 = 0 → w_M_withId_J116 v1 (K4) post v3 v3 σ))
def w_M_withId_J98  (v1 : Int32) (v3 : Int32) (K4 : Int32 → Int32 → MPS → Prop) (K62 : Int32 → Int32 → MPS → Prop) (post : Int32 → MPS → Prop) (v5 : Int32) (t0 : Int32) (σ : MPS) : Prop := K62 t0 (v5 + 1) σ
def w_M_withId_L62  (v1 : Int32) (v3 : Int32) (K4 : Int32 → Int32 → MPS → Prop) (post : Int32 → MPS → Prop) : Nat → Int32 → Int32 → MPS → Prop
  | 0, _, _, _ => False
  | n62 + 1, v4, v5, σ => (((mp_valueMany σ) ≤ v5 → w_M_withId_J106 v1 (K4) post v3 v4 σ) ∧ (¬ (mp_valueMany σ) ≤ v5 → ((v4 = 0 → w_M_withId_J106 v1 (K4) post v3 v4 σ) ∧ (¬ v4 = 0 → (vp_in v5 4000 ∧ (vp_in v5 4000 ∧ ((((mp_value σ) v5.toNatClampNeg) = ((mp_wanted σ) v5.toNatClampNeg) → w_M_withId_J98 v1 v3 (K4) (w_M_withId_L62 v1 v3 (K4) post n62) post v5 1 σ) ∧ (¬ ((mp_value σ) v5.toNatClampNeg) = ((mp_wanted σ) v5.toNatClampNeg) → w_M_withId_J98 v1 v3 (K4) (w_M_withId_L62 v1 v3 (K4) post n62) post v5 0 σ))))))))
def w_M_withId_J57  (v1 : Int32) (K4 : Int32 → Int32 → MPS → Prop) (post : Int32 → MPS → Prop) (v3 : Int32) (t0 : Int32) (σ : MPS) : Prop := (∃ n62, w_M_withId_L62 v1 v3 (K4) post n62 t0 0 σ)
def w_M_withId_L4  (v1 : Int32) (post : Int32 → MPS → Prop) : Nat → Int32 → Int32 → MPS → Prop
  | 0, _, _, _ => False
  | n4 + 1, v2, v3, σ => ((v1 ≤ v3 → post v2 σ) ∧ (¬ v1 ≤ v3 → ((0 ≤ v2 → post v2 σ) ∧ (¬ 0 ≤ v2 → (vp_in v3 1000 ∧ ((((mp_isElement σ) v3.toNatClampNeg) = 0 → w_M_withId_J117 v1 (w_M_withId_L4 v1 post n4) post v2 v3 σ) ∧ (¬ ((mp_isElement σ) v3.toNatClampNeg) = 0 → w_M_hasAttribute σ v3 26980 2 (fun r28 σ28 => ((r28 = 0 → w_M_withId_J117 v1 (w_M_withId_L4 v1 post n4) post v2 v3 σ28) ∧ (¬ r28 = 0 → w_M_takeValue σ28  (fun σ38 => (((mp_valueMany σ38) = (mp_wantedMany σ38) → w_M_withId_J57 v1 (w_M_withId_L4 v1 post n4) post v3 1 σ38) ∧ (¬ (mp_valueMany σ38) = (mp_wantedMany σ38) → w_M_withId_J57 v1 (w_M_withId_L4 v1 post n4) post v3 0 σ38)))))))))))))
def w_M_withId  (σ : MPS) (x0 : Int32) (post : Int32 → MPS → Prop) : Prop := (∃ n4, w_M_withId_L4 x0 post n4 (-1) 0 σ)
set_option maxHeartbeats 4000000 in
set_option maxRecDepth 100000 in
theorem c_M_withId (l : Launch) (md : MD) (sz : Nat) (σ : MPS) (x0 : Int32)  (post : Int32 → MPS → Prop) (hE : w_M_withId σ x0 post) : Met l y_M_withId ws_M_withId { frames := 4, cells := 0, slots := 0, locals := 94 } (va_Pc [.ref (mA md 0), .int x0] (gM md σ sz)) (va_Qi post (eM md (va_A (MW md σ) sz)) (va_A (MW md σ) sz)) 0 0 (va_A (MW md σ) sz) := by
  refine Met.ofW (cc := b_M_withId) (maxL := 6) (ret := (some .int)) (by decide) rfl ?_
  intro p e s m args below meth c s₁ B hml hv
  obtain ⟨rfl, hsz, hP, hK, hD0⟩ := hv
  have hx := B.exec
  have hb := B.bytes
  have hr := B.returns
  have hta : ∀ w ∈ aW, w.before _ s = true := fun w h => atoms_spec (ws := ws_M_withId) B.pre w (List.mem_cons_of_mem _ h)
  have hown : s.vm.findClass R_M = some m.cls := findClass_of_methodNamed B.named
  have hlocks := B.notSynchronized
  subst hsz
  have hD := hD0.self (sz := s.heap.size)
  generalize hAe : va_A (MW md σ) s.heap.size = A at hD ⊢
  have hA : ∀ q : Nat, s.heap.size ≤ q → A q := fun q h => by rw [← hAe]; exact Or.inr h
  have hS : va_S A s.heap s.heap [] := va_S.rf
  have hP : va_P (mG md) classes (MW md σ) s.heap := hP
  have hl := lv_entry ([.ref (mA md 0), .int x0]) (n := 6) (Nat.le_of_ble_eq_true rfl)
  rw [lg_entry_eq]
  generalize (lg_sl ([.ref (mA md 0), .int x0]) ++ List.replicate (6 - (lg_sl ([.ref (mA md 0), .int x0])).length) Slot.unset).toArray = ls at hl ⊢
  have hl : lv_has ls 6 [(0, .ref (mA md 0)), (1, .int x0)] := hl
  have L4 : ∀ (v1 : Int32) (n4 : Nat) (v2 : Int32) (v3 : Int32) (σ : MPS) (H : Heap) (locs : List Loc) (hP : va_P (mG md) classes (MW md σ) H) (hD : va_D A (MW md σ)) (hS : va_S A s.heap H locs) (ls : Array Slot) (hl : lv_has ls 6 [(0, .ref (mA md 0)), (1, .int v1), (2, .int v2), (3, .int v3)]) (hE : w_M_withId_L4 v1 post n4 v2 v3 σ), W p l e (headSpec ws_M_withId { frames := 4, cells := 0, slots := 0, locals := 94 }).room s m ([.ref (mA md 0), .int x0] : List Value).toArray below meth c H locs 0 0 (MQ below (va_Qi post (eM md A) A) ([.ref (mA md 0), .int x0] : List Value).toArray s 0 0 A) (F0 m 4 ls []) := by
    intro v1 n4
    induction n4 with
    | zero => intro v2 v3 σ H locs hP hD hS ls hl hE; exact hE.elim
    | succ n4 ih4 =>
      have J117 : ∀ (v2 : Int32) (v3 : Int32) (σ : MPS) (H : Heap) (locs : List Loc) (hP : va_P (mG md) classes (MW md σ) H) (hD : va_D A (MW md σ)) (hS : va_S A s.heap H locs) (ls : Array Slot) (hl : lv_has ls 6 [(0, .ref (mA md 0)), (1, .int v1), (2, .int v2), (3, .int v3)]) (hE : w_M_withId_J117 v1 (w_M_withId_L4 v1 post n4) post v2 v3 σ), W p l e (headSpec ws_M_withId { frames := 4, cells := 0, slots := 0, locals := 94 }).room s m ([.ref (mA md 0), .int x0] : List Value).toArray below meth c H locs 0 0 (MQ below (va_Qi post (eM md A) A) ([.ref (mA md 0), .int x0] : List Value).toArray s 0 0 A) (F0 m 117 ls []) := by
        intro  v2 v3 σ H locs hP hD hS ls hl hE
        unfold w_M_withId_J117 at hE
        refine lv_iinc (v := v3 + 1) (lv' := [(3, .int (v3 + 1)), (0, .ref (mA md 0)), (1, .int v1), (2, .int v2)]) hx hb d_M_withId_117 hl (k := 3) rfl rfl (by decide) rfl (fun ls hl => ?_)
        refine lv_goto (tgt := 4) hx hb d_M_withId_120 (by decide) ?_
        exact ih4 v2 (v3 + 1) σ _ _ hP hD hS _ (lv_sub hl [1, 2, 3, 0] rfl) hE
      have J116 : ∀ (v3 : Int32) (t0 : Int32) (σ : MPS) (H : Heap) (locs : List Loc) (hP : va_P (mG md) classes (MW md σ) H) (hD : va_D A (MW md σ)) (hS : va_S A s.heap H locs) (ls : Array Slot) (hl : lv_has ls 6 [(0, .ref (mA md 0)), (1, .int v1), (3, .int v3)]) (hE : w_M_withId_J116 v1 (w_M_withId_L4 v1 post n4) post v3 t0 σ), W p l e (headSpec ws_M_withId { frames := 4, cells := 0, slots := 0, locals := 94 }).room s m ([.ref (mA md 0), .int x0] : List Value).toArray below meth c H locs 0 0 (MQ below (va_Qi post (eM md A) A) ([.ref (mA md 0), .int x0] : List Value).toArray s 0 0 A) (F0 m 116 ls [.int t0]) := by
        intro  v3 t0 σ H locs hP hD hS ls hl hE
        unfold w_M_withId_J116 at hE
        refine lv_istore_n (lv' := [(2, .int t0), (0, .ref (mA md 0)), (1, .int v1), (3, .int v3)]) hx hb d_M_withId_116 rfl hl (by decide) rfl (fun ls hl => ?_)
        exact J117  t0 v3 σ _ _ hP hD hS _ (lv_sub hl [1, 2, 0, 3] rfl) hE
      have J106 : ∀ (v3 : Int32) (v4 : Int32) (σ : MPS) (H : Heap) (locs : List Loc) (hP : va_P (mG md) classes (MW md σ) H) (hD : va_D A (MW md σ)) (hS : va_S A s.heap H locs) (ls : Array Slot) (hl : lv_has ls 6 [(0, .ref (mA md 0)), (1, .int v1), (3, .int v3), (4, .int v4)]) (hE : w_M_withId_J106 v1 (w_M_withId_L4 v1 post n4) post v3 v4 σ), W p l e (headSpec ws_M_withId { frames := 4, cells := 0, slots := 0, locals := 94 }).room s m ([.ref (mA md 0), .int x0] : List Value).toArray below meth c H locs 0 0 (MQ below (va_Qi post (eM md A) A) ([.ref (mA md 0), .int x0] : List Value).toArray s 0 0 A) (F0 m 106 ls []) := by
        intro  v3 v4 σ H locs hP hD hS ls hl hE
        unfold w_M_withId_J106 at hE
        refine lv_iload hx hb d_M_withId_106 (lv_at hl 3 rfl) ?_
        refine lv_if_eq (tgt := 115) hx hb d_M_withId_108 (by decide) (fun cc108 => ?_) (fun cc108 => ?_)
        · have hE := hE.1 cc108
          refine lv_iconst (v := -1) hx hb d_M_withId_115 (by decide) ?_
          exact J116  v3 (-1) σ _ _ hP hD hS _ (lv_sub hl [0, 1, 2] rfl) hE
        · have hE := hE.2 cc108
          refine lv_iload_n hx hb d_M_withId_111 rfl (lv_at hl 2 rfl) ?_
          refine lv_goto (tgt := 116) hx hb d_M_withId_112 (by decide) ?_
          exact J116  v3 v3 σ _ _ hP hD hS _ (lv_sub hl [0, 1, 2] rfl) hE
      have L62 : ∀ (v3 : Int32) (n62 : Nat) (v4 : Int32) (v5 : Int32) (σ : MPS) (H : Heap) (locs : List Loc) (hP : va_P (mG md) classes (MW md σ) H) (hD : va_D A (MW md σ)) (hS : va_S A s.heap H locs) (ls : Array Slot) (hl : lv_has ls 6 [(0, .ref (mA md 0)), (1, .int v1), (3, .int v3), (4, .int v4), (5, .int v5)]) (hE : w_M_withId_L62 v1 v3 (w_M_withId_L4 v1 post n4) post n62 v4 v5 σ), W p l e (headSpec ws_M_withId { frames := 4, cells := 0, slots := 0, locals := 94 }).room s m ([.ref (mA md 0), .int x0] : List Value).toArray below meth c H locs 0 0 (MQ below (va_Qi post (eM md A) A) ([.ref (mA md 0), .int x0] : List Value).toArray s 0 0 A) (F0 m 62 ls []) := by
        intro v3 n62
        induction n62 with
        | zero => intro v4 v5 σ H locs hP hD hS ls hl hE; exact hE.elim
        | succ n62 ih62 =>
          have J98 : ∀ (v5 : Int32) (t0 : Int32) (σ : MPS) (H : Heap) (locs : List Loc) (hP : va_P (mG md) classes (MW md σ) H) (hD : va_D A (MW md σ)) (hS : va_S A s.heap H locs) (ls : Array Slot) (hl : lv_has ls 6 [(0, .ref (mA md 0)), (1, .int v1), (3, .int v3), (5, .int v5)]) (hE : w_M_withId_J98 v1 v3 (w_M_withId_L4 v1 post n4) (w_M_withId_L62 v1 v3 (w_M_withId_L4 v1 post n4) post n62) post v5 t0 σ), W p l e (headSpec ws_M_withId { frames := 4, cells := 0, slots := 0, locals := 94 }).room s m ([.ref (mA md 0), .int x0] : List Value).toArray below meth c H locs 0 0 (MQ below (va_Qi post (eM md A) A) ([.ref (mA md 0), .int x0] : List Value).toArray s 0 0 A) (F0 m 98 ls [.int t0]) := by
            intro  v5 t0 σ H locs hP hD hS ls hl hE
            unfold w_M_withId_J98 at hE
            refine lv_istore (lv' := [(4, .int t0), (0, .ref (mA md 0)), (1, .int v1), (3, .int v3), (5, .int v5)]) hx hb d_M_withId_98 hl (by decide) rfl (fun ls hl => ?_)
            refine lv_iinc (v := v5 + 1) (lv' := [(5, .int (v5 + 1)), (4, .int t0), (0, .ref (mA md 0)), (1, .int v1), (3, .int v3)]) hx hb d_M_withId_100 hl (k := 4) rfl rfl (by decide) rfl (fun ls hl => ?_)
            refine lv_goto (tgt := 62) hx hb d_M_withId_103 (by decide) ?_
            exact ih62 t0 (v5 + 1) σ _ _ hP hD hS _ (lv_sub hl [2, 3, 4, 1, 0] rfl) hE
          intro v4 v5 σ H locs hP hD hS ls hl hE
          unfold w_M_withId_L62 at hE
          refine lv_iload hx hb d_M_withId_62 (lv_at hl 4 rfl) ?_
          refine lv_aload_n hx hb d_M_withId_64 rfl (lv_at hl 0 rfl) ?_
          refine va_get (D := (mG md)) (ci := 7) (v := .int (mp_valueMany σ)) (C := R_M) (T := F_M) (N := 37) hx hb hta i_M hown hK hP 0 rfl rfl 35 (by decide) (hta _ fl_M_269) (fun _ h9 => h9) rfl d_M_withId_65 ?_
          refine lv_icmp_ge (tgt := 106) hx hb d_M_withId_68 (by decide) (fun cc68 => ?_) (fun cc68 => ?_)
          · have hE := hE.1 cc68
            exact J106  v3 v4 σ _ _ hP hD hS _ (lv_sub hl [0, 1, 2, 3] rfl) hE
          · have hE := hE.2 cc68
            refine lv_iload hx hb d_M_withId_71 (lv_at hl 3 rfl) ?_
            refine lv_if_eq (tgt := 106) hx hb d_M_withId_73 (by decide) (fun cc73 => ?_) (fun cc73 => ?_)
            · have hE := hE.1 cc73
              exact J106  v3 v4 σ _ _ hP hD hS _ (lv_sub hl [0, 1, 2, 3] rfl) hE
            · have hE := hE.2 cc73
              refine lv_aload_n hx hb d_M_withId_76 rfl (lv_at hl 0 rfl) ?_
              refine va_get (D := (mG md)) (ci := 7) (v := .ref (mA md 17)) (C := R_M) (T := F_M) (N := 37) hx hb hta i_M hown hK hP 0 rfl rfl 33 (by decide) (hta _ fl_M_64) (fun _ h9 => h9) rfl d_M_withId_77 ?_
              refine lv_iload hx hb d_M_withId_80 (lv_at hl 4 rfl) ?_
              obtain ⟨hI82, hE⟩ := hE
              refine va_iald (D := (mG md)) (f := mp_value σ) hx hb hK hP 17 0 rfl rfl hI82 d_M_withId_82 ?_
              refine lv_aload_n hx hb d_M_withId_83 rfl (lv_at hl 0 rfl) ?_
              refine va_get (D := (mG md)) (ci := 7) (v := .ref (mA md 18)) (C := R_M) (T := F_M) (N := 37) hx hb hta i_M hown hK hP 0 rfl rfl 34 (by decide) (hta _ fl_M_67) (fun _ h9 => h9) rfl d_M_withId_84 ?_
              refine lv_iload hx hb d_M_withId_87 (lv_at hl 4 rfl) ?_
              obtain ⟨hI89, hE⟩ := hE
              refine va_iald (D := (mG md)) (f := mp_wanted σ) hx hb hK hP 18 0 rfl rfl hI89 d_M_withId_89 ?_
              refine lv_icmp_ne (tgt := 97) hx hb d_M_withId_90 (by decide) (fun cc90 => ?_) (fun cc90 => ?_)
              · have hE := hE.2 cc90
                refine lv_iconst (v := 0) hx hb d_M_withId_97 (by decide) ?_
                exact J98  v5 0 σ _ _ hP hD hS _ (lv_sub hl [0, 1, 2, 4] rfl) hE
              · have hE := hE.1 cc90
                refine lv_iconst (v := 1) hx hb d_M_withId_93 (by decide) ?_
                refine lv_goto (tgt := 98) hx hb d_M_withId_94 (by decide) ?_
                exact J98  v5 1 σ _ _ hP hD hS _ (lv_sub hl [0, 1, 2, 4] rfl) hE
      have J57 : ∀ (v3 : Int32) (t0 : Int32) (σ : MPS) (H : Heap) (locs : List Loc) (hP : va_P (mG md) classes (MW md σ) H) (hD : va_D A (MW md σ)) (hS : va_S A s.heap H locs) (ls : Array Slot) (hl : lv_has ls 6 [(0, .ref (mA md 0)), (1, .int v1), (3, .int v3)]) (hE : w_M_withId_J57 v1 (w_M_withId_L4 v1 post n4) post v3 t0 σ), W p l e (headSpec ws_M_withId { frames := 4, cells := 0, slots := 0, locals := 94 }).room s m ([.ref (mA md 0), .int x0] : List Value).toArray below meth c H locs 0 0 (MQ below (va_Qi post (eM md A) A) ([.ref (mA md 0), .int x0] : List Value).toArray s 0 0 A) (F0 m 57 ls [.int t0]) := by
        intro  v3 t0 σ H locs hP hD hS ls hl hE
        unfold w_M_withId_J57 at hE
        refine lv_istore (lv' := [(4, .int t0), (0, .ref (mA md 0)), (1, .int v1), (3, .int v3)]) hx hb d_M_withId_57 hl (by decide) rfl (fun ls hl => ?_)
        refine lv_iconst (v := 0) hx hb d_M_withId_59 (by decide) ?_
        refine lv_istore (lv' := [(5, .int 0), (4, .int t0), (0, .ref (mA md 0)), (1, .int v1), (3, .int v3)]) hx hb d_M_withId_60 hl (by decide) rfl (fun ls hl => ?_)
        obtain ⟨n62, hE⟩ := hE
        exact L62 v3 n62 t0 0 σ _ _ hP hD hS _ (lv_sub hl [2, 3, 4, 1, 0] rfl) hE
      intro v2 v3 σ H locs hP hD hS ls hl hE
      unfold w_M_withId_L4 at hE
      refine lv_iload_n hx hb d_M_withId_4 rfl (lv_at hl 3 rfl) ?_
      refine lv_iload_n hx hb d_M_withId_5 rfl (lv_at hl 1 rfl) ?_
      refine lv_icmp_ge (tgt := 123) hx hb d_M_withId_6 (by decide) (fun cc6 => ?_) (fun cc6 => ?_)
      · have hE := hE.1 cc6
        refine lv_iload_n hx hb d_M_withId_123 rfl (lv_at hl 2 rfl) ?_
        exact W.iret (v := v2) hx hb hr (fun t ht hW => ⟨⟨_, σ, rfl, hE, by rw [ht]; exact hP, va_K.moved hW.alike hK, hD⟩, hS.F ht⟩) hS.2.2 d_M_withId_124
      · have hE := hE.2 cc6
        refine lv_iload_n hx hb d_M_withId_9 rfl (lv_at hl 2 rfl) ?_
        refine lv_if_ge (tgt := 123) hx hb d_M_withId_10 (by decide) (fun cc10 => ?_) (fun cc10 => ?_)
        · have hE := hE.1 cc10
          refine lv_iload_n hx hb d_M_withId_123 rfl (lv_at hl 2 rfl) ?_
          exact W.iret (v := v2) hx hb hr (fun t ht hW => ⟨⟨_, σ, rfl, hE, by rw [ht]; exact hP, va_K.moved hW.alike hK, hD⟩, hS.F ht⟩) hS.2.2 d_M_withId_124
        · have hE := hE.2 cc10
          refine lv_aload_n hx hb d_M_withId_13 rfl (lv_at hl 0 rfl) ?_
          refine va_get (D := (mG md)) (ci := 7) (v := .ref (mA md 8)) (C := R_M) (T := F_M) (N := 37) hx hb hta i_M hown hK hP 0 rfl rfl 23 (by decide) (hta _ fl_M_36) (fun _ h9 => h9) rfl d_M_withId_14 ?_
          refine lv_iload_n hx hb d_M_withId_17 rfl (lv_at hl 3 rfl) ?_
          obtain ⟨hI18, hE⟩ := hE
          refine va_zald (D := (mG md)) (f := mp_isElement σ) hx hb hK hP 8 2 rfl rfl hI18 d_M_withId_18 ?_
          refine lv_if_eq (tgt := 117) hx hb d_M_withId_19 (by decide) (fun cc19 => ?_) (fun cc19 => ?_)
          · have hE := hE.1 cc19
            exact J117  v2 v3 σ _ _ hP hD hS _ (lv_sub hl [0, 1, 2, 3] rfl) hE
          · have hE := hE.2 cc19
            refine lv_aload_n hx hb d_M_withId_22 rfl (lv_at hl 0 rfl) ?_
            refine lv_iload_n hx hb d_M_withId_23 rfl (lv_at hl 3 rfl) ?_
            refine lv_ldc2 hx hb hown (hta _ cl_M_272) d_M_withId_24 ?_
            refine lv_iconst (v := 2) hx hb d_M_withId_27 (by decide) ?_
            refine mm_i (b0 := (mA md 0)) (As := [.int v3, .long 26980, .int 2]) (rest := []) ⟨hx, hb, hml, hown, hta⟩ (c_M_hasAttribute l md _ σ v3 26980 2 _ hE) ok_M_274 ⟨Nat.le_of_ble_eq_true rfl, Nat.le_of_ble_eq_true rfl⟩ (va_recv hK hP (ci := 7) (q0 := 0) rfl rfl) hP hK hD hS hA rfl hl.1 rfl (Nat.le_of_ble_eq_true rfl) d_M_withId_28 ⟨Nat.zero_le _, Nat.zero_le _⟩ (fun r28 σ28 H locs hE hP hD hS => ?_)
            refine lv_if_ne (tgt := 37) hx hb d_M_withId_31 (by decide) (fun cc31 => ?_) (fun cc31 => ?_)
            · have hE := hE.2 cc31
              refine lv_aload_n hx hb d_M_withId_37 rfl (lv_at hl 0 rfl) ?_
              refine mm_v (b0 := (mA md 0)) (As := []) (rest := []) ⟨hx, hb, hml, hown, hta⟩ (c_M_takeValue l md _ σ28  _ hE) ok_M_277 ⟨Nat.le_of_ble_eq_true rfl, Nat.le_of_ble_eq_true rfl⟩ (va_recv hK hP (ci := 7) (q0 := 0) rfl rfl) hP hK hD hS hA rfl hl.1 rfl (Nat.le_of_ble_eq_true rfl) d_M_withId_38 ⟨Nat.zero_le _, Nat.zero_le _⟩ (fun σ38 H locs hE hP hD hS => ?_)
              refine lv_aload_n hx hb d_M_withId_41 rfl (lv_at hl 0 rfl) ?_
              refine va_get (D := (mG md)) (ci := 7) (v := .int (mp_valueMany σ38)) (C := R_M) (T := F_M) (N := 37) hx hb hta i_M hown hK hP 0 rfl rfl 35 (by decide) (hta _ fl_M_269) (fun _ h9 => h9) rfl d_M_withId_42 ?_
              refine lv_aload_n hx hb d_M_withId_45 rfl (lv_at hl 0 rfl) ?_
              refine va_get (D := (mG md)) (ci := 7) (v := .int (mp_wantedMany σ38)) (C := R_M) (T := F_M) (N := 37) hx hb hta i_M hown hK hP 0 rfl rfl 36 (by decide) (hta _ fl_M_280) (fun _ h9 => h9) rfl d_M_withId_46 ?_
              refine lv_icmp_ne (tgt := 56) hx hb d_M_withId_49 (by decide) (fun cc49 => ?_) (fun cc49 => ?_)
              · have hE := hE.2 cc49
                refine lv_iconst (v := 0) hx hb d_M_withId_56 (by decide) ?_
                exact J57  v3 0 σ38 _ _ hP hD hS _ (lv_sub hl [0, 1, 3] rfl) hE
              · have hE := hE.1 cc49
                refine lv_iconst (v := 1) hx hb d_M_withId_52 (by decide) ?_
                refine lv_goto (tgt := 57) hx hb d_M_withId_53 (by decide) ?_
                exact J57  v3 1 σ38 _ _ hP hD hS _ (lv_sub hl [0, 1, 3] rfl) hE
            · have hE := hE.1 cc31
              refine lv_goto (tgt := 117) hx hb d_M_withId_34 (by decide) ?_
              exact J117  v2 v3 σ28 _ _ hP hD hS _ (lv_sub hl [0, 1, 2, 3] rfl) hE
  unfold w_M_withId at hE
  refine lv_iconst (v := -1) hx hb d_M_withId_0 (by decide) ?_
  refine lv_istore_n (lv' := [(2, .int (-1)), (0, .ref (mA md 0)), (1, .int x0)]) hx hb d_M_withId_1 rfl hl (by decide) rfl (fun ls hl => ?_)
  refine lv_iconst (v := 0) hx hb d_M_withId_2 (by decide) ?_
  refine lv_istore_n (lv' := [(3, .int 0), (2, .int (-1)), (0, .ref (mA md 0)), (1, .int x0)]) hx hb d_M_withId_3 rfl hl (by decide) rfl (fun ls hl => ?_)
  obtain ⟨n4, hE⟩ := hE
  exact L4 x0 n4 (-1) 0 σ _ _ hP hD hS _ (lv_sub hl [2, 3, 1, 0] rfl) hE

theorem d_M_want_0 : decode b_M_want 0 = .ok (.aload_n 0, 1) := by decide +kernel
theorem d_M_want_1 : decode b_M_want 1 = .ok (.iconst 0, 1) := by decide +kernel
theorem d_M_want_2 : decode b_M_want 2 = .ok (.putfield 280, 3) := by decide +kernel
theorem d_M_want_5 : decode b_M_want 5 = .ok (.iload_n 1, 1) := by decide +kernel
theorem d_M_want_6 : decode b_M_want 6 = .ok (.istore_n 2, 1) := by decide +kernel
theorem d_M_want_7 : decode b_M_want 7 = .ok (.iload_n 2, 1) := by decide +kernel
theorem d_M_want_8 : decode b_M_want 8 = .ok (.aload_n 0, 1) := by decide +kernel
theorem d_M_want_9 : decode b_M_want 9 = .ok (.getfield 269, 3) := by decide +kernel
theorem d_M_want_12 : decode b_M_want 12 = .ok (.if_icmp .ge 34, 3) := by decide +kernel
theorem d_M_want_15 : decode b_M_want 15 = .ok (.aload_n 0, 1) := by decide +kernel
theorem d_M_want_16 : decode b_M_want 16 = .ok (.getfield 67, 3) := by decide +kernel
theorem d_M_want_19 : decode b_M_want 19 = .ok (.aload_n 0, 1) := by decide +kernel
theorem d_M_want_20 : decode b_M_want 20 = .ok (.getfield 280, 3) := by decide +kernel
theorem d_M_want_23 : decode b_M_want 23 = .ok (.aload_n 0, 1) := by decide +kernel
theorem d_M_want_24 : decode b_M_want 24 = .ok (.getfield 64, 3) := by decide +kernel
theorem d_M_want_27 : decode b_M_want 27 = .ok (.iload_n 2, 1) := by decide +kernel
theorem d_M_want_28 : decode b_M_want 28 = .ok (.iaload, 1) := by decide +kernel
theorem d_M_want_29 : decode b_M_want 29 = .ok (.iastore, 1) := by decide +kernel
theorem d_M_want_30 : decode b_M_want 30 = .ok (.aload_n 0, 1) := by decide +kernel
theorem d_M_want_31 : decode b_M_want 31 = .ok (.dup, 1) := by decide +kernel
theorem d_M_want_32 : decode b_M_want 32 = .ok (.getfield 280, 3) := by decide +kernel
theorem d_M_want_35 : decode b_M_want 35 = .ok (.iconst 1, 1) := by decide +kernel
theorem d_M_want_36 : decode b_M_want 36 = .ok (.iadd, 1) := by decide +kernel
theorem d_M_want_37 : decode b_M_want 37 = .ok (.putfield 280, 3) := by decide +kernel
theorem d_M_want_40 : decode b_M_want 40 = .ok (.iinc 2 1, 3) := by decide +kernel
theorem d_M_want_43 : decode b_M_want 43 = .ok (.goto (-36), 3) := by decide +kernel
theorem d_M_want_46 : decode b_M_want 46 = .ok (.return_, 1) := by decide +kernel
def w_M_want_L7   (post : MPS → Prop) : Nat → Int32 → MPS → Prop
  | 0, _, _ => False
  | n7 + 1, v2, σ => (((mp_valueMany σ) ≤ v2 → post σ) ∧ (¬ (mp_valueMany σ) ≤ v2 → (vp_in v2 4000 ∧ (vp_in (mp_wantedMany σ) 4000 ∧ (∀ σ29 : MPS, σ29 = ms_wanted σ (upd (mp_wanted σ) (mp_wantedMany σ).toNatClampNeg ((mp_value σ) v2.toNatClampNeg)) → (∀ σ37 : MPS, σ37 = ms_wantedMany σ29 ((mp_wantedMany σ29) + 1) → w_M_want_L7 post n7 (v2 + 1) σ37))))))
def w_M_want  (σ : MPS) (x0 : Int32) (post : MPS → Prop) : Prop := (∀ σ2 : MPS, σ2 = ms_wantedMany σ 0 → (∃ n7, w_M_want_L7 post n7 x0 σ2))
set_option maxHeartbeats 4000000 in
set_option maxRecDepth 100000 in
theorem c_M_want (l : Launch) (md : MD) (sz : Nat) (σ : MPS) (x0 : Int32)  (post : MPS → Prop) (hE : w_M_want σ x0 post) : Met l y_M_want ws_M_want { frames := 0, cells := 0, slots := 0, locals := 0 } (va_Pc [.ref (mA md 0), .int x0] (gM md σ sz)) (va_Qv post (eM md (va_A (MW md σ) sz)) (va_A (MW md σ) sz)) 0 0 (va_A (MW md σ) sz) := by
  refine Met.ofW (cc := b_M_want) (maxL := 3) (ret := none) (by decide) rfl ?_
  intro p e s m args below meth c s₁ B hml hv
  obtain ⟨rfl, hsz, hP, hK, hD0⟩ := hv
  have hx := B.exec
  have hb := B.bytes
  have hr := B.returns
  have hta : ∀ w ∈ aW, w.before _ s = true := fun w h => atoms_spec (ws := ws_M_want) B.pre w (List.mem_cons_of_mem _ h)
  have hown : s.vm.findClass R_M = some m.cls := findClass_of_methodNamed B.named
  have hlocks := B.notSynchronized
  subst hsz
  have hD := hD0.self (sz := s.heap.size)
  generalize hAe : va_A (MW md σ) s.heap.size = A at hD ⊢
  have hA : ∀ q : Nat, s.heap.size ≤ q → A q := fun q h => by rw [← hAe]; exact Or.inr h
  have hS : va_S A s.heap s.heap [] := va_S.rf
  have hP : va_P (mG md) classes (MW md σ) s.heap := hP
  have hl := lv_entry ([.ref (mA md 0), .int x0]) (n := 3) (Nat.le_of_ble_eq_true rfl)
  rw [lg_entry_eq]
  generalize (lg_sl ([.ref (mA md 0), .int x0]) ++ List.replicate (3 - (lg_sl ([.ref (mA md 0), .int x0])).length) Slot.unset).toArray = ls at hl ⊢
  have hl : lv_has ls 3 [(0, .ref (mA md 0)), (1, .int x0)] := hl
  have L7 : ∀ (n7 : Nat) (v2 : Int32) (σ : MPS) (H : Heap) (locs : List Loc) (hP : va_P (mG md) classes (MW md σ) H) (hD : va_D A (MW md σ)) (hS : va_S A s.heap H locs) (ls : Array Slot) (hl : lv_has ls 3 [(0, .ref (mA md 0)), (2, .int v2)]) (hE : w_M_want_L7 post n7 v2 σ), W p l e (headSpec ws_M_want { frames := 0, cells := 0, slots := 0, locals := 0 }).room s m ([.ref (mA md 0), .int x0] : List Value).toArray below meth c H locs 0 0 (MQ below (va_Qv post (eM md A) A) ([.ref (mA md 0), .int x0] : List Value).toArray s 0 0 A) (F0 m 7 ls []) := by
    intro n7
    induction n7 with
    | zero => intro v2 σ H locs hP hD hS ls hl hE; exact hE.elim
    | succ n7 ih7 =>
      intro v2 σ H locs hP hD hS ls hl hE
      unfold w_M_want_L7 at hE
      refine lv_iload_n hx hb d_M_want_7 rfl (lv_at hl 1 rfl) ?_
      refine lv_aload_n hx hb d_M_want_8 rfl (lv_at hl 0 rfl) ?_
      refine va_get (D := (mG md)) (ci := 7) (v := .int (mp_valueMany σ)) (C := R_M) (T := F_M) (N := 37) hx hb hta i_M hown hK hP 0 rfl rfl 35 (by decide) (hta _ fl_M_269) (fun _ h9 => h9) rfl d_M_want_9 ?_
      refine lv_icmp_ge (tgt := 46) hx hb d_M_want_12 (by decide) (fun cc12 => ?_) (fun cc12 => ?_)
      · have hE := hE.1 cc12
        exact W.vret hx hb hr (fun t ht hW => ⟨⟨σ, rfl, hE, by rw [ht]; exact hP, va_K.moved hW.alike hK, hD⟩, hS.F ht⟩) hS.2.2 d_M_want_46
      · have hE := hE.2 cc12
        refine lv_aload_n hx hb d_M_want_15 rfl (lv_at hl 0 rfl) ?_
        refine va_get (D := (mG md)) (ci := 7) (v := .ref (mA md 18)) (C := R_M) (T := F_M) (N := 37) hx hb hta i_M hown hK hP 0 rfl rfl 34 (by decide) (hta _ fl_M_67) (fun _ h9 => h9) rfl d_M_want_16 ?_
        refine lv_aload_n hx hb d_M_want_19 rfl (lv_at hl 0 rfl) ?_
        refine va_get (D := (mG md)) (ci := 7) (v := .int (mp_wantedMany σ)) (C := R_M) (T := F_M) (N := 37) hx hb hta i_M hown hK hP 0 rfl rfl 36 (by decide) (hta _ fl_M_280) (fun _ h9 => h9) rfl d_M_want_20 ?_
        refine lv_aload_n hx hb d_M_want_23 rfl (lv_at hl 0 rfl) ?_
        refine va_get (D := (mG md)) (ci := 7) (v := .ref (mA md 17)) (C := R_M) (T := F_M) (N := 37) hx hb hta i_M hown hK hP 0 rfl rfl 33 (by decide) (hta _ fl_M_64) (fun _ h9 => h9) rfl d_M_want_24 ?_
        refine lv_iload_n hx hb d_M_want_27 rfl (lv_at hl 1 rfl) ?_
        obtain ⟨hI28, hE⟩ := hE
        refine va_iald (D := (mG md)) (f := mp_value σ) hx hb hK hP 17 0 rfl rfl hI28 d_M_want_28 ?_
        obtain ⟨hI29, hE⟩ := hE
        refine va_iast (D := (mG md)) (f := mp_wanted σ) hx hb hK hP hD hS 18 0 rfl rfl hI29 d_M_want_29 (fun H locs hP hD hS => ?_)
        have hP := mwP_wanted hP
        have hD := mwD_wanted hD
        have hE := hE _ rfl
        generalize (ms_wanted σ (upd (mp_wanted σ) (mp_wantedMany σ).toNatClampNeg ((mp_value σ) v2.toNatClampNeg)) : MPS) = σ29 at hP hD hE
        refine lv_aload_n hx hb d_M_want_30 rfl (lv_at hl 0 rfl) ?_
        refine lv_dup hx hb d_M_want_31 rfl ?_
        refine va_get (D := (mG md)) (ci := 7) (v := .int (mp_wantedMany σ29)) (C := R_M) (T := F_M) (N := 37) hx hb hta i_M hown hK hP 0 rfl rfl 36 (by decide) (hta _ fl_M_280) (fun _ h9 => h9) rfl d_M_want_32 ?_
        refine lv_iconst (v := 1) hx hb d_M_want_35 (by decide) ?_
        refine lv_iadd hx hb d_M_want_36 ?_
        refine va_put (D := (mG md)) (ci := 7) (v := .int ((mp_wantedMany σ29) + 1)) (ty := .int) (C := R_M) (T := F_M) (N := 37) hx hb hta i_M t_M t_M_ok n_M hown hK hP hD hS 0 rfl rfl 36 (by decide) (hta _ fl_M_280) (fun _ h9 => h9) rfl (by decide +kernel) rfl rfl (Nat.le_of_ble_eq_true rfl) d_M_want_37 (fun H locs hP hD hS => ?_)
        have hP := mwP_wantedMany hP
        have hD := mwD_wantedMany hD
        have hE := hE _ rfl
        generalize (ms_wantedMany σ29 ((mp_wantedMany σ29) + 1) : MPS) = σ37 at hP hD hE
        refine lv_iinc (v := v2 + 1) (lv' := [(2, .int (v2 + 1)), (0, .ref (mA md 0))]) hx hb d_M_want_40 hl (k := 1) rfl rfl (by decide) rfl (fun ls hl => ?_)
        refine lv_goto (tgt := 7) hx hb d_M_want_43 (by decide) ?_
        exact ih7 (v2 + 1) σ37 _ _ hP hD hS _ (lv_sub hl [1, 0] rfl) hE
  unfold w_M_want at hE
  refine lv_aload_n hx hb d_M_want_0 rfl (lv_at hl 0 rfl) ?_
  refine lv_iconst (v := 0) hx hb d_M_want_1 (by decide) ?_
  refine va_put (D := (mG md)) (ci := 7) (v := .int 0) (ty := .int) (C := R_M) (T := F_M) (N := 37) hx hb hta i_M t_M t_M_ok n_M hown hK hP hD hS 0 rfl rfl 36 (by decide) (hta _ fl_M_280) (fun _ h9 => h9) rfl (by decide +kernel) rfl rfl (Nat.le_of_ble_eq_true rfl) d_M_want_2 (fun H locs hP hD hS => ?_)
  have hP := mwP_wantedMany hP
  have hD := mwD_wantedMany hD
  have hE := hE _ rfl
  generalize (ms_wantedMany σ 0 : MPS) = σ2 at hP hD hE
  refine lv_iload_n hx hb d_M_want_5 rfl (lv_at hl 1 rfl) ?_
  refine lv_istore_n (lv' := [(2, .int x0), (0, .ref (mA md 0)), (1, .int x0)]) hx hb d_M_want_6 rfl hl (by decide) rfl (fun ls hl => ?_)
  obtain ⟨n7, hE⟩ := hE
  exact L7  n7 x0 σ2 _ _ hP hD hS _ (lv_sub hl [1, 0] rfl) hE
