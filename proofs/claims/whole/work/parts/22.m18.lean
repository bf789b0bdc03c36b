-- printed by wip/gen: the reference
theorem ok_M_351 : okV "PlainPagesModel" 351 R_M y_M_lastIn b_M_lastIn 3 (some .int) 1 := ⟨aW_in 1279 (by decide +kernel) rfl, aW_in 1281 (by decide +kernel) rfl, aW_in 75 (by decide +kernel) rfl, aW_in 92 (by decide +kernel) rfl, cd_M_lastIn, rfl, by decide +kernel, by decide +kernel, by decide +kernel⟩
theorem ok_M_354 : okV "PlainPagesModel" 354 R_M y_M_putRow b_M_putRow 5 none 3 := ⟨aW_in 1283 (by decide +kernel) rfl, aW_in 1285 (by decide +kernel) rfl, aW_in 76 (by decide +kernel) rfl, aW_in 92 (by decide +kernel) rfl, cd_M_putRow, rfl, by decide +kernel, by decide +kernel, by decide +kernel⟩
theorem d_M_plain_0 : decode b_M_plain 0 = .ok (.aload_n 0, 1) := by decide +kernel
theorem d_M_plain_1 : decode b_M_plain 1 = .ok (.aload_n 0, 1) := by decide +kernel
theorem d_M_plain_2 : decode b_M_plain 2 = .ok (.iload_n 1, 1) := by decide +kernel
theorem d_M_plain_3 : decode b_M_plain 3 = .ok (.invokevirtual 323, 3) := by decide +kernel
theorem d_M_plain_6 : decode b_M_plain 6 = .ok (.ifCond .eq 7, 3) := by decide +kernel
theorem d_M_plain_9 : decode b_M_plain 9 = .ok (.iconst 0, 1) := by decide +kernel
theorem d_M_plain_10 : decode b_M_plain 10 = .ok (.goto 4, 3) := by decide +kernel
theorem d_M_plain_13 : decode b_M_plain 13 = .ok (.iconst 1, 1) := by decide +kernel
theorem d_M_plain_14 : decode b_M_plain 14 = .ok (.putfield 70, 3) := by decide +kernel
theorem d_M_plain_17 : decode b_M_plain 17 = .ok (.aload_n 0, 1) := by decide +kernel
theorem d_M_plain_18 : decode b_M_plain 18 = .ok (.getfield 70, 3) := by decide +kernel
theorem d_M_plain_21 : decode b_M_plain 21 = .ok (.ifCond .le 5, 3) := by decide +kernel
theorem d_M_plain_24 : decode b_M_plain 24 = .ok (.iconst 0, 1) := by decide +kernel
theorem d_M_plain_25 : decode b_M_plain 25 = .ok (.ireturn, 1) := by decide +kernel
theorem d_M_plain_26 : decode b_M_plain 26 = .ok (.aload_n 0, 1) := by decide +kernel
theorem d_M_plain_27 : decode b_M_plain 27 = .ok (.iconst 0, 1) := by decide +kernel
theorem d_M_plain_28 : decode b_M_plain 28 = .ok (.putfield 337, 3) := by decide +kernel
theorem d_M_plain_31 : decode b_M_plain 31 = .ok (.aload_n 0, 1) := by decide +kernel
theorem d_M_plain_32 : decode b_M_plain 32 = .ok (.iload_n 1, 1) := by decide +kernel
theorem d_M_plain_33 : decode b_M_plain 33 = .ok (.invokevirtual 351, 3) := by decide +kernel
theorem d_M_plain_36 : decode b_M_plain 36 = .ok (.istore_n 2, 1) := by decide +kernel
theorem d_M_plain_37 : decode b_M_plain 37 = .ok (.iload_n 1, 1) := by decide +kernel
theorem d_M_plain_38 : decode b_M_plain 38 = .ok (.istore_n 3, 1) := by decide +kernel
theorem d_M_plain_39 : decode b_M_plain 39 = .ok (.iload_n 3, 1) := by decide +kernel
theorem d_M_plain_40 : decode b_M_plain 40 = .ok (.iload_n 2, 1) := by decide +kernel
theorem d_M_plain_41 : decode b_M_plain 41 = .ok (.if_icmp .gt 119, 3) := by decide +kernel
theorem d_M_plain_44 : decode b_M_plain 44 = .ok (.aload_n 0, 1) := by decide +kernel
theorem d_M_plain_45 : decode b_M_plain 45 = .ok (.iload_n 3, 1) := by decide +kernel
theorem d_M_plain_46 : decode b_M_plain 46 = .ok (.ldc2_w 259, 3) := by decide +kernel
theorem d_M_plain_49 : decode b_M_plain 49 = .ok (.iconst 2, 1) := by decide +kernel
theorem d_M_plain_50 : decode b_M_plain 50 = .ok (.invokevirtual 230, 3) := by decide +kernel
theorem d_M_plain_53 : decode b_M_plain 53 = .ok (.istore 4, 2) := by decide +kernel
theorem d_M_plain_55 : decode b_M_plain 55 = .ok (.aload_n 0, 1) := by decide +kernel
theorem d_M_plain_56 : decode b_M_plain 56 = .ok (.iload_n 3, 1) := by decide +kernel
theorem d_M_plain_57 : decode b_M_plain 57 = .ok (.ldc2_w 261, 3) := by decide +kernel
theorem d_M_plain_60 : decode b_M_plain 60 = .ok (.iconst 3, 1) := by decide +kernel
theorem d_M_plain_61 : decode b_M_plain 61 = .ok (.invokevirtual 230, 3) := by decide +kernel
theorem d_M_plain_64 : decode b_M_plain 64 = .ok (.istore 5, 2) := by decide +kernel
theorem d_M_plain_66 : decode b_M_plain 66 = .ok (.aload_n 0, 1) := by decide +kernel
theorem d_M_plain_67 : decode b_M_plain 67 = .ok (.getfield 36, 3) := by decide +kernel
theorem d_M_plain_70 : decode b_M_plain 70 = .ok (.iload_n 3, 1) := by decide +kernel
theorem d_M_plain_71 : decode b_M_plain 71 = .ok (.baload, 1) := by decide +kernel
theorem d_M_plain_72 : decode b_M_plain 72 = .ok (.ifCond .ne 20, 3) := by decide +kernel
theorem d_M_plain_75 : decode b_M_plain 75 = .ok (.aload_n 0, 1) := by decide +kernel
theorem d_M_plain_76 : decode b_M_plain 76 = .ok (.aload_n 0, 1) := by decide +kernel
theorem d_M_plain_77 : decode b_M_plain 77 = .ok (.getfield 40, 3) := by decide +kernel
theorem d_M_plain_80 : decode b_M_plain 80 = .ok (.iload_n 3, 1) := by decide +kernel
theorem d_M_plain_81 : decode b_M_plain 81 = .ok (.iaload, 1) := by decide +kernel
theorem d_M_plain_82 : decode b_M_plain 82 = .ok (.aload_n 0, 1) := by decide +kernel
theorem d_M_plain_83 : decode b_M_plain 83 = .ok (.getfield 43, 3) := by decide +kernel
theorem d_M_plain_86 : decode b_M_plain 86 = .ok (.iload_n 3, 1) := by decide +kernel
theorem d_M_plain_87 : decode b_M_plain 87 = .ok (.iaload, 1) := by decide +kernel
theorem d_M_plain_88 : decode b_M_plain 88 = .ok (.iconst 0, 1) := by decide +kernel
theorem d_M_plain_89 : decode b_M_plain 89 = .ok (.invokevirtual 354, 3) := by decide +kernel
theorem d_M_plain_92 : decode b_M_plain 92 = .ok (.iload 4, 2) := by decide +kernel
theorem d_M_plain_94 : decode b_M_plain 94 = .ok (.ifCond .eq 9, 3) := by decide +kernel
theorem d_M_plain_97 : decode b_M_plain 97 = .ok (.aload_n 0, 1) := by decide +kernel
theorem d_M_plain_98 : decode b_M_plain 98 = .ok (.bipush 10, 2) := by decide +kernel
theorem d_M_plain_100 : decode b_M_plain 100 = .ok (.invokevirtual 340, 3) := by decide +kernel
theorem d_M_plain_103 : decode b_M_plain 103 = .ok (.iload 5, 2) := by decide +kernel
theorem d_M_plain_105 : decode b_M_plain 105 = .ok (.ifCond .eq 28, 3) := by decide +kernel
theorem d_M_plain_108 : decode b_M_plain 108 = .ok (.aload_n 0, 1) := by decide +kernel
theorem d_M_plain_109 : decode b_M_plain 109 = .ok (.iload_n 3, 1) := by decide +kernel
theorem d_M_plain_110 : decode b_M_plain 110 = .ok (.ldc2_w 293, 3) := by decide +kernel
theorem d_M_plain_113 : decode b_M_plain 113 = .ok (.iconst 3, 1) := by decide +kernel
theorem d_M_plain_114 : decode b_M_plain 114 = .ok (.invokevirtual 274, 3) := by decide +kernel
theorem d_M_plain_117 : decode b_M_plain 117 = .ok (.ifCond .eq 16, 3) := by decide +kernel
theorem d_M_plain_120 : decode b_M_plain 120 = .ok (.aload_n 0, 1) := by decide +kernel
theorem d_M_plain_121 : decode b_M_plain 121 = .ok (.aload_n 0, 1) := by decide +kernel
theorem d_M_plain_122 : decode b_M_plain 122 = .ok (.getfield 148, 3) := by decide +kernel
theorem d_M_plain_125 : decode b_M_plain 125 = .ok (.aload_n 0, 1) := by decide +kernel
theorem d_M_plain_126 : decode b_M_plain 126 = .ok (.getfield 151, 3) := by decide +kernel
theorem d_M_plain_129 : decode b_M_plain 129 = .ok (.iconst 0, 1) := by decide +kernel
theorem d_M_plain_130 : decode b_M_plain 130 = .ok (.invokevirtual 354, 3) := by decide +kernel
theorem d_M_plain_133 : decode b_M_plain 133 = .ok (.iload 4, 2) := by decide +kernel
theorem d_M_plain_135 : decode b_M_plain 135 = .ok (.ifCond .ne 8, 3) := by decide +kernel
theorem d_M_plain_138 : decode b_M_plain 138 = .ok (.iload 5, 2) := by decide +kernel
theorem d_M_plain_140 : decode b_M_plain 140 = .ok (.ifCond .eq 13, 3) := by decide +kernel
theorem d_M_plain_143 : decode b_M_plain 143 = .ok (.aload_n 0, 1) := by decide +kernel
theorem d_M_plain_144 : decode b_M_plain 144 = .ok (.iload_n 3, 1) := by decide +kernel
theorem d_M_plain_145 : decode b_M_plain 145 = .ok (.invokevirtual 351, 3) := by decide +kernel
theorem d_M_plain_148 : decode b_M_plain 148 = .ok (.iconst 1, 1) := by decide +kernel
theorem d_M_plain_149 : decode b_M_plain 149 = .ok (.iadd, 1) := by decide +kernel
theorem d_M_plain_150 : decode b_M_plain 150 = .ok (.goto 6, 3) := by decide +kernel
theorem d_M_plain_153 : decode b_M_plain 153 = .ok (.iload_n 3, 1) := by decide +kernel
theorem d_M_plain_154 : decode b_M_plain 154 = .ok (.iconst 1, 1) := by decide +kernel
theorem d_M_plain_155 : decode b_M_plain 155 = .ok (.iadd, 1) := by decide +kernel
theorem d_M_plain_156 : decode b_M_plain 156 = .ok (.istore_n 3, 1) := by decide +kernel
theorem d_M_plain_157 : decode b_M_plain 157 = .ok (.goto (-118), 3) := by decide +kernel
theorem d_M_plain_160 : decode b_M_plain 160 = .ok (.aload_n 0, 1) := by decide +kernel
theorem d_M_plain_161 : decode b_M_plain 161 = .ok (.getfield 337, 3) := by decide +kernel
theorem d_M_plain_164 : decode b_M_plain 164 = .ok (.ireturn, 1) := by decide +kernel
def w_M_plain_J156  (v2 : Int32) (K39 : Int32 → MPS → Prop) (post : Int32 → MPS → Prop) (t0 : Int32) (σ : MPS) : Prop := K39 t0 σ
def w_M_plain_J143  (v2 : Int32) (K39 : Int32 → MPS → Prop) (post : Int32 → MPS → Prop) (v3 : Int32) (σ : MPS) : Prop := w_M_lastIn σ v3 (fun r145 => w_M_plain_J156 v2 (K39) post (r145 + 1) σ)
def w_M_plain_J133  (v2 : Int32) (K39 : Int32 → MPS → Prop) (post : Int32 → MPS → Prop) (v3 : Int32) (v4 : Int32) (v5 : Int32) (σ : MPS) : Prop := ((v4 = 0 → ((v5 = 0 → w_M_plain_J156 v2 (K39) post (v3 + 1) σ) ∧ (¬ v5 = 0 → w_M_plain_J143 v2 (K39) post v3 σ))) ∧ (¬ v4 = 0 → w_M_plain_J143 v2 (K39) post v3 σ))
def w_M_plain_J103  (v2 : Int32) (K39 : Int32 → MPS → Prop) (post : Int32 → MPS → Prop) (v3 : Int32) (v4 : Int32) (v5 : Int32) (σ : MPS) : Prop := ((v5 = 0 → w_M_plain_J133 v2 (K39) post v3 v4 v5 σ) ∧ (¬ v5 = 0 → w_M_hasAttribute σ v3 6384756 3 (fun r114 σ114 => ((r114 = 0 → w_M_plain_J133 v2 (K39) post v3 v4 v5 σ114) ∧ (¬ r114 = 0 → w_M_putRow σ114 (mp_valueAt σ114) (mp_valueEnd σ114) 0 (fun σ130 => w_M_plain_J133 v2 (K39) post v3 v4 v5 σ130))))))
def w_M_plain_J92  (v2 : Int32) (K39 : Int32 → MPS → Prop) (post : Int32 → MPS → Prop) (v3 : Int32) (v4 : Int32) (v5 : Int32) (σ : MPS) : Prop := ((v4 = 0 → w_M_plain_J103 v2 (K39) post v3 v4 v5 σ) ∧ (¬ v4 = 0 → w_M_put σ 10 (fun σ100 => w_M_plain_J103 v2 (K39) post v3 v4 v5 σ100)))
def w_M_plain_L39  (v2 : Int32) (post : Int32 → MPS → Prop) : Nat → Int32 → MPS → Prop
  | 0, _, _ => False
  | n39 + 1, v3, σ => ((v2 < v3 → post (mp_outs σ) σ) ∧ (¬ v2 < v3 → w_M_isNamed σ v3 25202 2 (fun r50 => w_M_isNamed σ v3 6909287 3 (fun r61 => (vp_in v3 1000 ∧ ((((mp_isElement σ) v3.toNatClampNeg) = 0 → (vp_in v3 1000 ∧ (vp_in v3 1000 ∧ w_M_putRow σ ((mp_begins σ) v3.toNatClampNeg) ((mp_ends σ) v3.toNatClampNeg) 0 (fun σ89 => w_M_plain_J92 v2 (w_M_plain_L39 v2 post n39) post v3 r50 r61 σ89)))) ∧ (¬ ((mp_isElement σ) v3.toNatClampNeg) = 0 → w_M_plain_J92 v2 (w_M_plain_L39 v2 post n39) post v3 r50 r61 σ)))))))
def w_M_plain_J14   (post : Int32 → MPS → Prop) (v1 : Int32) (t0 : Int32) (σ : MPS) : Prop := (∀ σ14 : MPS, σ14 = ms_thrown σ t0 → (((mp_thrown σ14) ≤ 0 → (∀ σ28 : MPS, σ28 = ms_outs σ14 0 → w_M_lastIn σ28 v1 (fun r33 => (∃ n39, w_M_plain_L39 r33 post n39 v1 σ28)))) ∧ (¬ (mp_thrown σ14) ≤ 0 → post 0 σ14)))
def w_M_plain  (σ : MPS) (x0 : Int32) (post : Int32 → MPS → Prop) : Prop := w_M_isNode σ x0 (fun r3 => ((r3 = 0 → w_M_plain_J14 post x0 1 σ) ∧ (¬ r3 = 0 → w_M_plain_J14 post x0 0 σ)))
set_option maxHeartbeats 4000000 in
set_option maxRecDepth 100000 in
theorem c_M_plain (l : Launch) (md : MD) (sz : Nat) (σ : MPS) (x0 : Int32)  (post : Int32 → MPS → Prop) (hE : w_M_plain σ x0 post) : Met l y_M_plain ws_M_plain { frames := 5, cells := 0, slots := 0, locals := 108 } (va_Pc [.ref (mA md 0), .int x0] (gM md σ sz)) (va_Qi post (eM md (va_A (MW md σ) sz)) (va_A (MW md σ) sz)) 0 0 (va_A (MW md σ) sz) := by
  refine Met.ofW (cc := b_M_plain) (maxL := 6) (ret := (some .int)) (by decide) rfl ?_
  intro p e s m args below meth c s₁ B hml hv
  obtain ⟨rfl, hsz, hP, hK, hD0⟩ := hv
  have hx := B.exec
  have hb := B.bytes
  have hr := B.returns
  have hta : ∀ w ∈ aW, w.before _ s = true := fun w h => atoms_spec (ws := ws_M_plain) B.pre w (List.mem_cons_of_mem _ h)
  have hown : s.vm.findClass R_M = some m.cls := findClass_of_methodNamed B.named
  have hlocks := B.notSynchronized
  subst hsz
  have hD := hD0.self (sz := s.heap.size)
  generalize hAe : va_A (MW md σ) s.heap.size = A at hD ⊢
  have hA : ∀ q : Nat, s.heap.size ≤ q → A q := fun q h => by rw [← hAe]; exact Or.inr h
  have hS : va_S A s.heap s.heap [] := va_S.rf
  have hP : va_P (mG md) classes (MW md σ) s.heap := hP
  have hl := lv_entry ([.ref (mA md 0), .int x0]) (n := 6) (Nat.le_of_ble_eq_true rfl)
  rw [lg_entry_eq]
  generalize (lg_sl ([.ref (mA md 0), .int x0]) ++ List.replicate (6 - (lg_sl ([.ref (mA md 0), .int x0])).length) Slot.unset).toArray = ls at hl ⊢
  have hl : lv_has ls 6 [(0, .ref (mA md 0)), (1, .int x0)] := hl
  have L39 : ∀ (v2 : Int32) (n39 : Nat) (v3 : Int32) (σ : MPS) (H : Heap) (locs : List Loc) (hP : va_P (mG md) classes (MW md σ) H) (hD : va_D A (MW md σ)) (hS : va_S A s.heap H locs) (ls : Array Slot) (hl : lv_has ls 6 [(0, .ref (mA md 0)), (2, .int v2), (3, .int v3)]) (hE : w_M_plain_L39 v2 post n39 v3 σ), W p l e (headSpec ws_M_plain { frames := 5, cells := 0, slots := 0, locals := 108 }).room s m ([.ref (mA md 0), .int x0] : List Value).toArray below meth c H locs 0 0 (MQ below (va_Qi post (eM md A) A) ([.ref (mA md 0), .int x0] : List Value).toArray s 0 0 A) (F0 m 39 ls []) := by
    intro v2 n39
    induction n39 with
    | zero => intro v3 σ H locs hP hD hS ls hl hE; exact hE.elim
    | succ n39 ih39 =>
      have J156 : ∀ (t0 : Int32) (σ : MPS) (H : Heap) (locs : List Loc) (hP : va_P (mG md) classes (MW md σ) H) (hD : va_D A (MW md σ)) (hS : va_S A s.heap H locs) (ls : Array Slot) (hl : lv_has ls 6 [(0, .ref (mA md 0)), (2, .int v2)]) (hE : w_M_plain_J156 v2 (w_M_plain_L39 v2 post n39) post t0 σ), W p l e (headSpec ws_M_plain { frames := 5, cells := 0, slots := 0, locals := 108 }).room s m ([.ref (mA md 0), .int x0] : List Value).toArray below meth c H locs 0 0 (MQ below (va_Qi post (eM md A) A) ([.ref (mA md 0), .int x0] : List Value).toArray s 0 0 A) (F0 m 156 ls [.int t0]) := by
        intro  t0 σ H locs hP hD hS ls hl hE
        unfold w_M_plain_J156 at hE
        refine lv_istore_n (lv' := [(3, .int t0), (0, .ref (mA md 0)), (2, .int v2)]) hx hb d_M_plain_156 rfl hl (by decide) rfl (fun ls hl => ?_)
        refine lv_goto (tgt := 39) hx hb d_M_plain_157 (by decide) ?_
        exact ih39 t0 σ _ _ hP hD hS _ (lv_sub hl [1, 2, 0] rfl) hE
      have J143 : ∀ (v3 : Int32) (σ : MPS) (H : Heap) (locs : List Loc) (hP : va_P (mG md) classes (MW md σ) H) (hD : va_D A (MW md σ)) (hS : va_S A s.heap H locs) (ls : Array Slot) (hl : lv_has ls 6 [(0, .ref (mA md 0)), (2, .int v2), (3, .int v3)]) (hE : w_M_plain_J143 v2 (w_M_plain_L39 v2 post n39) post v3 σ), W p l e (headSpec ws_M_plain { frames := 5, cells := 0, slots := 0, locals := 108 }).room s m ([.ref (mA md 0), .int x0] : List Value).toArray below meth c H locs 0 0 (MQ below (va_Qi post (eM md A) A) ([.ref (mA md 0), .int x0] : List Value).toArray s 0 0 A) (F0 m 143 ls []) := by
        intro  v3 σ H locs hP hD hS ls hl hE
        unfold w_M_plain_J143 at hE
        refine lv_aload_n hx hb d_M_plain_143 rfl (lv_at hl 0 rfl) ?_
        refine lv_iload_n hx hb d_M_plain_144 rfl (lv_at hl 2 rfl) ?_
        refine ro_V (b0 := (mA md 0)) (As := [.int v3]) (rest := []) ⟨hx, hb, hml, hown, hta⟩ (c_M_lastIn l md σ v3  _ hE) ok_M_351 ⟨Nat.le_of_ble_eq_true rfl, Nat.le_of_ble_eq_true rfl⟩ blind_rM (va_recv hK hP (ci := 7) (q0 := 0) rfl rfl) (rM_of hP hK) rfl hl.1 rfl (Nat.le_of_ble_eq_true rfl) d_M_plain_145 ⟨Nat.zero_le _, Nat.zero_le _⟩ (fun r145 hE => ?_)
        refine lv_iconst (v := 1) hx hb d_M_plain_148 (by decide) ?_
        refine lv_iadd hx hb d_M_plain_149 ?_
        refine lv_goto (tgt := 156) hx hb d_M_plain_150 (by decide) ?_
        exact J156  (r145 + 1) σ _ _ hP hD hS _ (lv_sub hl [0, 1] rfl) hE
      have J133 : ∀ (v3 : Int32) (v4 : Int32) (v5 : Int32) (σ : MPS) (H : Heap) (locs : List Loc) (hP : va_P (mG md) classes (MW md σ) H) (hD : va_D A (MW md σ)) (hS : va_S A s.heap H locs) (ls : Array Slot) (hl : lv_has ls 6 [(0, .ref (mA md 0)), (2, .int v2), (3, .int v3), (4, .int v4), (5, .int v5)]) (hE : w_M_plain_J133 v2 (w_M_plain_L39 v2 post n39) post v3 v4 v5 σ), W p l e (headSpec ws_M_plain { frames := 5, cells := 0, slots := 0, locals := 108 }).room s m ([.ref (mA md 0), .int x0] : List Value).toArray below meth c H locs 0 0 (MQ below (va_Qi post (eM md A) A) ([.ref (mA md 0), .int x0] : List Value).toArray s 0 0 A) (F0 m 133 ls []) := by
        intro  v3 v4 v5 σ H locs hP hD hS ls hl hE
        unfold w_M_plain_J133 at hE
        refine lv_iload hx hb d_M_plain_133 (lv_at hl 3 rfl) ?_
        refine lv_if_ne (tgt := 143) hx hb d_M_plain_135 (by decide) (fun cc135 => ?_) (fun cc135 => ?_)
        · have hE := hE.2 cc135
          exact J143  v3 σ _ _ hP hD hS _ (lv_sub hl [0, 1, 2] rfl) hE
        · have hE := hE.1 cc135
          refine lv_iload hx hb d_M_plain_138 (lv_at hl 4 rfl) ?_
          refine lv_if_eq (tgt := 153) hx hb d_M_plain_140 (by decide) (fun cc140 => ?_) (fun cc140 => ?_)
          · have hE := hE.1 cc140
            refine lv_iload_n hx hb d_M_plain_153 rfl (lv_at hl 2 rfl) ?_
            refine lv_iconst (v := 1) hx hb d_M_plain_154 (by decide) ?_
            refine lv_iadd hx hb d_M_plain_155 ?_
            exact J156  (v3 + 1) σ _ _ hP hD hS _ (lv_sub hl [0, 1] rfl) hE
          · have hE := hE.2 cc140
            exact J143  v3 σ _ _ hP hD hS _ (lv_sub hl [0, 1, 2] rfl) hE
      have J103 : ∀ (v3 : Int32) (v4 : Int32) (v5 : Int32) (σ : MPS) (H : Heap) (locs : List Loc) (hP : va_P (mG md) classes (MW md σ) H) (hD : va_D A (MW md σ)) (hS : va_S A s.heap H locs) (ls : Array Slot) (hl : lv_has ls 6 [(0, .ref (mA md 0)), (2, .int v2), (3, .int v3), (4, .int v4), (5, .int v5)]) (hE : w_M_plain_J103 v2 (w_M_plain_L39 v2 post n39) post v3 v4 v5 σ), W p l e (headSpec ws_M_plain { frames := 5, cells := 0, slots := 0, locals := 108 }).room s m ([.ref (mA md 0), .int x0] : List Value).toArray below meth c H locs 0 0 (MQ below (va_Qi post (eM md A) A) ([.ref (mA md 0), .int x0] : List Value).toArray s 0 0 A) (F0 m 103 ls []) := by
        intro  v3 v4 v5 σ H locs hP hD hS ls hl hE
        unfold w_M_plain_J103 at hE
        refine lv_iload hx hb d_M_plain_103 (lv_at hl 4 rfl) ?_
        refine lv_if_eq (tgt := 133) hx hb d_M_plain_105 (by decide) (fun cc105 => ?_) (fun cc105 => ?_)
        · have hE := hE.1 cc105
          exact J133  v3 v4 v5 σ _ _ hP hD hS _ (lv_sub hl [0, 1, 2, 3, 4] rfl) hE
        · have hE := hE.2 cc105
          refine lv_aload_n hx hb d_M_plain_108 rfl (lv_at hl 0 rfl) ?_
          refine lv_iload_n hx hb d_M_plain_109 rfl (lv_at hl 2 rfl) ?_
          refine lv_ldc2 hx hb hown (hta _ cl_M_293) d_M_plain_110 ?_
          refine lv_iconst (v := 3) hx hb d_M_plain_113 (by decide) ?_
          refine mm_i (b0 := (mA md 0)) (As := [.int v3, .long 6384756, .int 3]) (rest := []) ⟨hx, hb, hml, hown, hta⟩ (c_M_hasAttribute l md _ σ v3 6384756 3 _ hE) ok_M_274 ⟨Nat.le_of_ble_eq_true rfl, Nat.le_of_ble_eq_true rfl⟩ (va_recv hK hP (ci := 7) (q0 := 0) rfl rfl) hP hK hD hS hA rfl hl.1 rfl (Nat.le_of_ble_eq_true rfl) d_M_plain_114 ⟨Nat.zero_le _, Nat.zero_le _⟩ (fun r114 σ114 H locs hE hP hD hS => ?_)
          refine lv_if_eq (tgt := 133) hx hb d_M_plain_117 (by decide) (fun cc117 => ?_) (fun cc117 => ?_)
          · have hE := hE.1 cc117
            exact J133  v3 v4 v5 σ114 _ _ hP hD hS _ (lv_sub hl [0, 1, 2, 3, 4] rfl) hE
          · have hE := hE.2 cc117
            refine lv_aload_n hx hb d_M_plain_120 rfl (lv_at hl 0 rfl) ?_
            refine lv_aload_n hx hb d_M_plain_121 rfl (lv_at hl 0 rfl) ?_
            refine va_get (D := (mG md)) (ci := 7) (v := .int (mp_valueAt σ114)) (C := R_M) (T := F_M) (N := 37) hx hb hta i_M hown hK hP 0 rfl rfl 21 (by decide) (hta _ fl_M_148) (fun _ h9 => h9) rfl d_M_plain_122 ?_
            refine lv_aload_n hx hb d_M_plain_125 rfl (lv_at hl 0 rfl) ?_
            refine va_get (D := (mG md)) (ci := 7) (v := .int (mp_valueEnd σ114)) (C := R_M) (T := F_M) (N := 37) hx hb hta i_M hown hK hP 0 rfl rfl 22 (by decide) (hta _ fl_M_151) (fun _ h9 => h9) rfl d_M_plain_126 ?_
            refine lv_iconst (v := 0) hx hb d_M_plain_129 (by decide) ?_
            refine mm_v (b0 := (mA md 0)) (As := [.int (mp_valueAt σ114), .int (mp_valueEnd σ114), .int 0]) (rest := []) ⟨hx, hb, hml, hown, hta⟩ (c_M_putRow l md _ σ114 (mp_valueAt σ114) (mp_valueEnd σ114) 0 _ hE) ok_M_354 ⟨Nat.le_of_ble_eq_true rfl, Nat.le_of_ble_eq_true rfl⟩ (va_recv hK hP (ci := 7) (q0 := 0) rfl rfl) hP hK hD hS hA rfl hl.1 rfl (Nat.le_of_ble_eq_true rfl) d_M_plain_130 ⟨Nat.zero_le _, Nat.zero_le _⟩ (fun σ130 H locs hE hP hD hS => ?_)
            exact J133  v3 v4 v5 σ130 _ _ hP hD hS _ (lv_sub hl [0, 1, 2, 3, 4] rfl) hE
      have J92 : ∀ (v3 : Int32) (v4 : Int32) (v5 : Int32) (σ : MPS) (H : Heap) (locs : List Loc) (hP : va_P (mG md) classes (MW md σ) H) (hD : va_D A (MW md σ)) (hS : va_S A s.heap H locs) (ls : Array Slot) (hl : lv_has ls 6 [(0, .ref (mA md 0)), (2, .int v2), (3, .int v3), (4, .int v4), (5, .int v5)]) (hE : w_M_plain_J92 v2 (w_M_plain_L39 v2 post n39) post v3 v4 v5 σ), W p l e (headSpec ws_M_plain { frames := 5, cells := 0, slots := 0, locals := 108 }).room s m ([.ref (mA md 0), .int x0] : List Value).toArray below meth c H locs 0 0 (MQ below (va_Qi post (eM md A) A) ([.ref (mA md 0), .int x0] : List Value).toArray s 0 0 A) (F0 m 92 ls []) := by
        intro  v3 v4 v5 σ H locs hP hD hS ls hl hE
        unfold w_M_plain_J92 at hE
        refine lv_iload hx hb d_M_plain_92 (lv_at hl 3 rfl) ?_
        refine lv_if_eq (tgt := 103) hx hb d_M_plain_94 (by decide) (fun cc94 => ?_) (fun cc94 => ?_)
        · have hE := hE.1 cc94
          exact J103  v3 v4 v5 σ _ _ hP hD hS _ (lv_sub hl [0, 1, 2, 3, 4] rfl) hE
        · have hE := hE.2 cc94
          refine lv_aload_n hx hb d_M_plain_97 rfl (lv_at hl 0 rfl) ?_
          refine lv_bipush (v := 10) hx hb d_M_plain_98 (by decide) ?_
          refine mm_v (b0 := (mA md 0)) (As := [.int 10]) (rest := []) ⟨hx, hb, hml, hown, hta⟩ (c_M_put l md _ σ 10 _ hE) ok_M_340 ⟨Nat.le_of_ble_eq_true rfl, Nat.le_of_ble_eq_true rfl⟩ (va_recv hK hP (ci := 7) (q0 := 0) rfl rfl) hP hK hD hS hA rfl hl.1 rfl (Nat.le_of_ble_eq_true rfl) d_M_plain_100 ⟨Nat.zero_le _, Nat.zero_le _⟩ (fun σ100 H locs hE hP hD hS => ?_)
          exact J103  v3 v4 v5 σ100 _ _ hP hD hS _ (lv_sub hl [0, 1, 2, 3, 4] rfl) hE
      intro v3 σ H locs hP hD hS ls hl hE
      unfold w_M_plain_L39 at hE
      refine lv_iload_n hx hb d_M_plain_39 rfl (lv_at hl 2 rfl) ?_
      refine lv_iload_n hx hb d_M_plain_40 rfl (lv_at hl 1 rfl) ?_
      refine lv_icmp_gt (tgt := 160) hx hb d_M_plain_41 (by decide) (fun cc41 => ?_) (fun cc41 => ?_)
      · have hE := hE.1 cc41
        refine lv_aload_n hx hb d_M_plain_160 rfl (lv_at hl 0 rfl) ?_
        refine va_get (D := (mG md)) (ci := 7) (v := .int (mp_outs σ)) (C := R_M) (T := F_M) (N := 37) hx hb hta i_M hown hK hP 0 rfl rfl 8 (by decide) (hta _ fl_M_337) (fun _ h9 => h9) rfl d_M_plain_161 ?_
        exact W.iret (v := mp_outs σ) hx hb hr (fun t ht hW => ⟨⟨_, σ, rfl, hE, by rw [ht]; exact hP, va_K.moved hW.alike hK, hD⟩, hS.F ht⟩) hS.2.2 d_M_plain_164
      · have hE := hE.2 cc41
        refine lv_aload_n hx hb d_M_plain_44 rfl (lv_at hl 0 rfl) ?_
        refine lv_iload_n hx hb d_M_plain_45 rfl (lv_at hl 2 rfl) ?_
        refine lv_ldc2 hx hb hown (hta _ cl_M_259) d_M_plain_46 ?_
        refine lv_iconst (v := 2) hx hb d_M_plain_49 (by decide) ?_
        refine ro_V (b0 := (mA md 0)) (As := [.int v3, .long 25202, .int 2]) (rest := []) ⟨hx, hb, hml, hown, hta⟩ (c_M_isNamed l md σ v3 25202 2  _ hE) ok_M_230 ⟨Nat.le_of_ble_eq_true rfl, Nat.le_of_ble_eq_true rfl⟩ blind_rM (va_recv hK hP (ci := 7) (q0 := 0) rfl rfl) (rM_of hP hK) rfl hl.1 rfl (Nat.le_of_ble_eq_true rfl) d_M_plain_50 ⟨Nat.zero_le _, Nat.zero_le _⟩ (fun r50 hE => ?_)
        refine lv_istore (lv' := [(4, .int r50), (0, .ref (mA md 0)), (2, .int v2), (3, .int v3)]) hx hb d_M_plain_53 hl (by decide) rfl (fun ls hl => ?_)
        refine lv_aload_n hx hb d_M_plain_55 rfl (lv_at hl 1 rfl) ?_
        refine lv_iload_n hx hb d_M_plain_56 rfl (lv_at hl 3 rfl) ?_
        refine lv_ldc2 hx hb hown (hta _ cl_M_261) d_M_plain_57 ?_
        refine lv_iconst (v := 3) hx hb d_M_plain_60 (by decide) ?_
        refine ro_V (b0 := (mA md 0)) (As := [.int v3, .long 6909287, .int 3]) (rest := []) ⟨hx, hb, hml, hown, hta⟩ (c_M_isNamed l md σ v3 6909287 3  _ hE) ok_M_230 ⟨Nat.le_of_ble_eq_true rfl, Nat.le_of_ble_eq_true rfl⟩ blind_rM (va_recv hK hP (ci := 7) (q0 := 0) rfl rfl) (rM_of hP hK) rfl hl.1 rfl (Nat.le_of_ble_eq_true rfl) d_M_plain_61 ⟨Nat.zero_le _, Nat.zero_le _⟩ (fun r61 hE => ?_)
        refine lv_istore (lv' := [(5, .int r61), (4, .int r50), (0, .ref (mA md 0)), (2, .int v2), (3, .int v3)]) hx hb d_M_plain_64 hl (by decide) rfl (fun ls hl => ?_)
        refine lv_aload_n hx hb d_M_plain_66 rfl (lv_at hl 2 rfl) ?_
        refine va_get (D := (mG md)) (ci := 7) (v := .ref (mA md 8)) (C := R_M) (T := F_M) (N := 37) hx hb hta i_M hown hK hP 0 rfl rfl 23 (by decide) (hta _ fl_M_36) (fun _ h9 => h9) rfl d_M_plain_67 ?_
        refine lv_iload_n hx hb d_M_plain_70 rfl (lv_at hl 4 rfl) ?_
        obtain ⟨hI71, hE⟩ := hE
        refine va_zald (D := (mG md)) (f := mp_isElement σ) hx hb hK hP 8 2 rfl rfl hI71 d_M_plain_71 ?_
        refine lv_if_ne (tgt := 92) hx hb d_M_plain_72 (by decide) (fun cc72 => ?_) (fun cc72 => ?_)
        · have hE := hE.2 cc72
          exact J92  v3 r50 r61 σ _ _ hP hD hS _ (lv_sub hl [2, 3, 4, 1, 0] rfl) hE
        · have hE := hE.1 cc72
          refine lv_aload_n hx hb d_M_plain_75 rfl (lv_at hl 2 rfl) ?_
          refine lv_aload_n hx hb d_M_plain_76 rfl (lv_at hl 2 rfl) ?_
          refine va_get (D := (mG md)) (ci := 7) (v := .ref (mA md 9)) (C := R_M) (T := F_M) (N := 37) hx hb hta i_M hown hK hP 0 rfl rfl 24 (by decide) (hta _ fl_M_40) (fun _ h9 => h9) rfl d_M_plain_77 ?_
          refine lv_iload_n hx hb d_M_plain_80 rfl (lv_at hl 4 rfl) ?_
          obtain ⟨hI81, hE⟩ := hE
          refine va_iald (D := (mG md)) (f := mp_begins σ) hx hb hK hP 9 0 rfl rfl hI81 d_M_plain_81 ?_
          refine lv_aload_n hx hb d_M_plain_82 rfl (lv_at hl 2 rfl) ?_
          refine va_get (D := (mG md)) (ci := 7) (v := .ref (mA md 10)) (C := R_M) (T := F_M) (N := 37) hx hb hta i_M hown hK hP 0 rfl rfl 25 (by decide) (hta _ fl_M_43) (fun _ h9 => h9) rfl d_M_plain_83 ?_
          refine lv_iload_n hx hb d_M_plain_86 rfl (lv_at hl 4 rfl) ?_
          obtain ⟨hI87, hE⟩ := hE
          refine va_iald (D := (mG md)) (f := mp_ends σ) hx hb hK hP 10 0 rfl rfl hI87 d_M_plain_87 ?_
          refine lv_iconst (v := 0) hx hb d_M_plain_88 (by decide) ?_
          refine mm_v (b0 := (mA md 0)) (As := [.int ((mp_begins σ) v3.toNatClampNeg), .int ((mp_ends σ) v3.toNatClampNeg), .int 0]) (rest := []) ⟨hx, hb, hml, hown, hta⟩ (c_M_putRow l md _ σ ((mp_begins σ) v3.toNatClampNeg) ((mp_ends σ) v3.toNatClampNeg) 0 _ hE) ok_M_354 ⟨Nat.le_of_ble_eq_true rfl, Nat.le_of_ble_eq_true rfl⟩ (va_recv hK hP (ci := 7) (q0 := 0) rfl rfl) hP hK hD hS hA rfl hl.1 rfl (Nat.le_of_ble_eq_true rfl) d_M_plain_89 ⟨Nat.zero_le _, Nat.zero_le _⟩ (fun σ89 H locs hE hP hD hS => ?_)
          exact J92  v3 r50 r61 σ89 _ _ hP hD hS _ (lv_sub hl [2, 3, 4, 1, 0] rfl) hE
  have J14 : ∀ (v1 : Int32) (t0 : Int32) (σ : MPS) (H : Heap) (locs : List Loc) (hP : va_P (mG md) classes (MW md σ) H) (hD : va_D A (MW md σ)) (hS : va_S A s.heap H locs) (ls : Array Slot) (hl : lv_has ls 6 [(0, .ref (mA md 0)), (1, .int v1)]) (hE : w_M_plain_J14 post v1 t0 σ), W p l e (headSpec ws_M_plain { frames := 5, cells := 0, slots := 0, locals := 108 }).room s m ([.ref (mA md 0), .int x0] : List Value).toArray below meth c H locs 0 0 (MQ below (va_Qi post (eM md A) A) ([.ref (mA md 0), .int x0] : List Value).toArray s 0 0 A) (F0 m 14 ls [.int t0, .ref (mA md 0)]) := by
    intro  v1 t0 σ H locs hP hD hS ls hl hE
    unfold w_M_plain_J14 at hE
    refine va_put (D := (mG md)) (ci := 7) (v := .int t0) (ty := .int) (C := R_M) (T := F_M) (N := 37) hx hb hta i_M t_M t_M_ok n_M hown hK hP hD hS 0 rfl rfl 0 (by decide) (hta _ fl_M_70) (fun _ h9 => h9) rfl (by decide +kernel) rfl rfl (Nat.le_of_ble_eq_true rfl) d_M_plain_14 (fun H locs hP hD hS => ?_)
    have hP := mwP_thrown hP
    have hD := mwD_thrown hD
    have hE := hE _ rfl
    generalize (ms_thrown σ t0 : MPS) = σ14 at hP hD hE
    refine lv_aload_n hx hb d_M_plain_17 rfl (lv_at hl 0 rfl) ?_
    refine va_get (D := (mG md)) (ci := 7) (v := .int (mp_thrown σ14)) (C := R_M) (T := F_M) (N := 37) hx hb hta i_M hown hK hP 0 rfl rfl 0 (by decide) (hta _ fl_M_70) (fun _ h9 => h9) rfl d_M_plain_18 ?_
    refine lv_if_le (tgt := 26) hx hb d_M_plain_21 (by decide) (fun cc21 => ?_) (fun cc21 => ?_)
    · have hE := hE.1 cc21
      refine lv_aload_n hx hb d_M_plain_26 rfl (lv_at hl 0 rfl) ?_
      refine lv_iconst (v := 0) hx hb d_M_plain_27 (by decide) ?_
      refine va_put (D := (mG md)) (ci := 7) (v := .int 0) (ty := .int) (C := R_M) (T := F_M) (N := 37) hx hb hta i_M t_M t_M_ok n_M hown hK hP hD hS 0 rfl rfl 8 (by decide) (hta _ fl_M_337) (fun _ h9 => h9) rfl (by decide +kernel) rfl rfl (Nat.le_of_ble_eq_true rfl) d_M_plain_28 (fun H locs hP hD hS => ?_)
      have hP := mwP_outs hP
      have hD := mwD_outs hD
      have hE := hE _ rfl
      generalize (ms_outs σ14 0 : MPS) = σ28 at hP hD hE
      refine lv_aload_n hx hb d_M_plain_31 rfl (lv_at hl 0 rfl) ?_
      refine lv_iload_n hx hb d_M_plain_32 rfl (lv_at hl 1 rfl) ?_
      refine ro_V (b0 := (mA md 0)) (As := [.int v1]) (rest := []) ⟨hx, hb, hml, hown, hta⟩ (c_M_lastIn l md σ28 v1  _ hE) ok_M_351 ⟨Nat.le_of_ble_eq_true rfl, Nat.le_of_ble_eq_true rfl⟩ blind_rM (va_recv hK hP (ci := 7) (q0 := 0) rfl rfl) (rM_of hP hK) rfl hl.1 rfl (Nat.le_of_ble_eq_true rfl) d_M_plain_33 ⟨Nat.zero_le _, Nat.zero_le _⟩ (fun r33 hE => ?_)
      refine lv_istore_n (lv' := [(2, .int r33), (0, .ref (mA md 0)), (1, .int v1)]) hx hb d_M_plain_36 rfl hl (by decide) rfl (fun ls hl => ?_)
      refine lv_iload_n hx hb d_M_plain_37 rfl (lv_at hl 2 rfl) ?_
      refine lv_istore_n (lv' := [(3, .int v1), (2, .int r33), (0, .ref (mA md 0)), (1, .int v1)]) hx hb d_M_plain_38 rfl hl (by decide) rfl (fun ls hl => ?_)
      obtain ⟨n39, hE⟩ := hE
      exact L39 r33 n39 v1 σ28 _ _ hP hD hS _ (lv_sub hl [2, 1, 0] rfl) hE
    · have hE := hE.2 cc21
      refine lv_iconst (v := 0) hx hb d_M_plain_24 (by decide) ?_
      exact W.iret (v := 0) hx hb hr (fun t ht hW => ⟨⟨_, σ14, rfl, hE, by rw [ht]; exact hP, va_K.moved hW.alike hK, hD⟩, hS.F ht⟩) hS.2.2 d_M_plain_25
  unfold w_M_plain at hE
  refine lv_aload_n hx hb d_M_plain_0 rfl (lv_at hl 0 rfl) ?_
  refine lv_aload_n hx hb d_M_plain_1 rfl (lv_at hl 0 rfl) ?_
  refine lv_iload_n hx hb d_M_plain_2 rfl (lv_at hl 1 rfl) ?_
  refine ro_V (b0 := (mA md 0)) (As := [.int x0]) (rest := [.ref (mA md 0)]) ⟨hx, hb, hml, hown, hta⟩ (c_M_isNode l md σ x0  _ hE) ok_M_323 ⟨Nat.le_of_ble_eq_true rfl, Nat.le_of_ble_eq_true rfl⟩ blind_rM (va_recv hK hP (ci := 7) (q0 := 0) rfl rfl) (rM_of hP hK) rfl hl.1 rfl (Nat.le_of_ble_eq_true rfl) d_M_plain_3 ⟨Nat.zero_le _, Nat.zero_le _⟩ (fun r3 hE => ?_)
  refine lv_if_eq (tgt := 13) hx hb d_M_plain_6 (by decide) (fun cc6 => ?_) (fun cc6 => ?_)
  · have hE := hE.1 cc6
    refine lv_iconst (v := 1) hx hb d_M_plain_13 (by decide) ?_
    exact J14  x0 1 σ _ _ hP hD hS _ (lv_sub hl [0, 1] rfl) hE
  · have hE := hE.2 cc6
    refine lv_iconst (v := 0) hx hb d_M_plain_9 (by decide) ?_
    refine lv_goto (tgt := 14) hx hb d_M_plain_10 (by decide) ?_
    exact J14  x0 0 σ _ _ hP hD hS _ (lv_sub hl [0, 1] rfl) hE

theorem d_M_putName_0 : decode b_M_putName 0 = .ok (.iconst 0, 1) := by decide +kernel
theorem d_M_putName_1 : decode b_M_putName 1 = .ok (.istore_n 2, 1) := by decide +kernel
theorem d_M_putName_2 : decode b_M_putName 2 = .ok (.iload_n 2, 1) := by decide +kernel
theorem d_M_putName_3 : decode b_M_putName 3 = .ok (.aload_n 0, 1) := by decide +kernel
theorem d_M_putName_4 : decode b_M_putName 4 = .ok (.iload_n 1, 1) := by decide +kernel
theorem d_M_putName_5 : decode b_M_putName 5 = .ok (.invokevirtual 221, 3) := by decide +kernel
theorem d_M_putName_8 : decode b_M_putName 8 = .ok (.if_icmp .ge 27, 3) := by decide +kernel
theorem d_M_putName_11 : decode b_M_putName 11 = .ok (.aload_n 0, 1) := by decide +kernel
theorem d_M_putName_12 : decode b_M_putName 12 = .ok (.aload_n 0, 1) := by decide +kernel
theorem d_M_putName_13 : decode b_M_putName 13 = .ok (.aload_n 0, 1) := by decide +kernel
theorem d_M_putName_14 : decode b_M_putName 14 = .ok (.getfield 40, 3) := by decide +kernel
theorem d_M_putName_17 : decode b_M_putName 17 = .ok (.iload_n 1, 1) := by decide +kernel
theorem d_M_putName_18 : decode b_M_putName 18 = .ok (.iaload, 1) := by decide +kernel
theorem d_M_putName_19 : decode b_M_putName 19 = .ok (.iconst 1, 1) := by decide +kernel
theorem d_M_putName_20 : decode b_M_putName 20 = .ok (.iadd, 1) := by decide +kernel
theorem d_M_putName_21 : decode b_M_putName 21 = .ok (.iload_n 2, 1) := by decide +kernel
theorem d_M_putName_22 : decode b_M_putName 22 = .ok (.iadd, 1) := by decide +kernel
theorem d_M_putName_23 : decode b_M_putName 23 = .ok (.invokevirtual 95, 3) := by decide +kernel
theorem d_M_putName_26 : decode b_M_putName 26 = .ok (.invokevirtual 340, 3) := by decide +kernel
theorem d_M_putName_29 : decode b_M_putName 29 = .ok (.iinc 2 1, 3) := by decide +kernel
theorem d_M_putName_32 : decode b_M_putName 32 = .ok (.goto (-30), 3) := by decide +kernel
theorem d_M_putName_35 : decode b_M_putName 35 = .ok (.return_, 1) := by decide +kernel
def w_M_putName_L2  (v1 : Int32) (post : MPS → Prop) : Nat → Int32 → MPS → Prop
  | 0, _, _ => False
  | n2 + 1, v2, σ => w_M_nameSize σ v1 (fun r5 => ((r5 ≤ v2 → post σ) ∧ (¬ r5 ≤ v2 → (vp_in v1 1000 ∧ (mXk σ ((((mp_begins σ) v1.toNatClampNeg) + 1) + v2) ∧ w_M_put σ (mX σ ((((mp_begins σ) v1.toNatClampNeg) + 1) + v2)) (fun σ26 => w_M_putName_L2 v1 post n2 (v2 + 1) σ26))))))
def w_M_putName  (σ : MPS) (x0 : Int32) (post : MPS → Prop) : Prop := (∃ n2, w_M_putName_L2 x0 post n2 0 σ)
set_option maxHeartbeats 4000000 in
set_option maxRecDepth 100000 in
theorem c_M_putName (l : Launch) (md : MD) (sz : Nat) (σ : MPS) (x0 : Int32)  (post : MPS → Prop) (hE : w_M_putName σ x0 post) : Met l y_M_putName ws_M_putName { frames := 4, cells := 0, slots := 0, locals := 84 } (va_Pc [.ref (mA md 0), .int x0] (gM md σ sz)) (va_Qv post (eM md (va_A (MW md σ) sz)) (va_A (MW md σ) sz)) 0 0 (va_A (MW md σ) sz) := by
  refine Met.ofW (cc := b_M_putName) (maxL := 3) (ret := none) (by decide) rfl ?_
  intro p e s m args below meth c s₁ B hml hv
  obtain ⟨rfl, hsz, hP, hK, hD0⟩ := hv
  have hx := B.exec
  have hb := B.bytes
  have hr := B.returns
  have hta : ∀ w ∈ aW, w.before _ s = true := fun w h => atoms_spec (ws := ws_M_putName) B.pre w (List.mem_cons_of_mem _ h)
  have hown : s.vm.findClass R_M = some m.cls := findClass_of_methodNamed B.named
  have hlocks := B.notSynchronized
  subst hsz
  have hD := hD0.self (sz := s.heap.size)
  generalize hAe : va_A (MW md σ) s.heap.size = A at hD ⊢
  have hA : ∀ q : Nat, s.heap.size ≤ q → A q := fun q h => by rw [← hAe]; exact Or.inr h
  have hS : va_S A s.heap s.heap [] := va_S.rf
  have hP : va_P (mG md) classes (MW md σ) s.heap := hP
  have hl := lv_entry ([.ref (mA md 0), .int x0]) (n := 3) (Nat.le_of_ble_eq_true rfl)
  rw [lg_entry_eq]
  generalize (lg_sl ([.ref (mA md 0), .int x0]) ++ List.replicate (3 - (lg_sl ([.ref (mA md 0), .int x0])).length) Slot.unset).toArray = ls at hl ⊢
  have hl : lv_has ls 3 [(0, .ref (mA md 0)), (1, .int x0)] := hl
  have L2 : ∀ (v1 : Int32) (n2 : Nat) (v2 : Int32) (σ : MPS) (H : Heap) (locs : List Loc) (hP : va_P (mG md) classes (MW md σ) H) (hD : va_D A (MW md σ)) (hS : va_S A s.heap H locs) (ls : Array Slot) (hl : lv_has ls 3 [(0, .ref (mA md 0)), (1, .int v1), (2, .int v2)]) (hE : w_M_putName_L2 v1 post n2 v2 σ), W p l e (headSpec ws_M_putName { frames := 4, cells := 0, slots := 0, locals := 84 }).room s m ([.ref (mA md 0), .int x0] : List Value).toArray below meth c H locs 0 0 (MQ below (va_Qv post (eM md A) A) ([.ref (mA md 0), .int x0] : List Value).toArray s 0 0 A) (F0 m 2 ls []) := by
    intro v1 n2
    induction n2 with
    | zero => intro v2 σ H locs hP hD hS ls hl hE; exact hE.elim
    | succ n2 ih2 =>
      intro v2 σ H locs hP hD hS ls hl hE
      unfold w_M_putName_L2 at hE
      refine lv_iload_n hx hb d_M_putName_2 rfl (lv_at hl 2 rfl) ?_
      refine lv_aload_n hx hb d_M_putName_3 rfl (lv_at hl 0 rfl) ?_
      refine lv_iload_n hx hb d_M_putName_4 rfl (lv_at hl 1 rfl) ?_
      refine ro_V (b0 := (mA md 0)) (As := [.int v1]) (rest := [.int v2]) ⟨hx, hb, hml, hown, hta⟩ (c_M_nameSize l md σ v1  _ hE) ok_M_221 ⟨Nat.le_of_ble_eq_true rfl, Nat.le_of_ble_eq_true rfl⟩ blind_rM (va_recv hK hP (ci := 7) (q0 := 0) rfl rfl) (rM_of hP hK) rfl hl.1 rfl (Nat.le_of_ble_eq_true rfl) d_M_putName_5 ⟨Nat.zero_le _, Nat.zero_le _⟩ (fun r5 hE => ?_)
      refine lv_icmp_ge (tgt := 35) hx hb d_M_putName_8 (by decide) (fun cc8 => ?_) (fun cc8 => ?_)
      · have hE := hE.1 cc8
        exact W.vret hx hb hr (fun t ht hW => ⟨⟨σ, rfl, hE, by rw [ht]; exact hP, va_K.moved hW.alike hK, hD⟩, hS.F ht⟩) hS.2.2 d_M_putName_35
      · have hE := hE.2 cc8
        refine lv_aload_n hx hb d_M_putName_11 rfl (lv_at hl 0 rfl) ?_
        refine lv_aload_n hx hb d_M_putName_12 rfl (lv_at hl 0 rfl) ?_
        refine lv_aload_n hx hb d_M_putName_13 rfl (lv_at hl 0 rfl) ?_
        refine va_get (D := (mG md)) (ci := 7) (v := .ref (mA md 9)) (C := R_M) (T := F_M) (N := 37) hx hb hta i_M hown hK hP 0 rfl rfl 24 (by decide) (hta _ fl_M_40) (fun _ h9 => h9) rfl d_M_putName_14 ?_
        refine lv_iload_n hx hb d_M_putName_17 rfl (lv_at hl 1 rfl) ?_
        obtain ⟨hI18, hE⟩ := hE
        refine va_iald (D := (mG md)) (f := mp_begins σ) hx hb hK hP 9 0 rfl rfl hI18 d_M_putName_18 ?_
        refine lv_iconst (v := 1) hx hb d_M_putName_19 (by decide) ?_
        refine lv_iadd hx hb d_M_putName_20 ?_
        refine lv_iload_n hx hb d_M_putName_21 rfl (lv_at hl 2 rfl) ?_
        refine lv_iadd hx hb d_M_putName_22 ?_
        obtain ⟨hc23_0, hE⟩ := hE
        refine ro_V (b0 := (mA md 0)) (As := [.int ((((mp_begins σ) v1.toNatClampNeg) + 1) + v2)]) (rest := [.ref (mA md 0)]) ⟨hx, hb, hml, hown, hta⟩ (f_M_x l md σ ((((mp_begins σ) v1.toNatClampNeg) + 1) + v2) hc23_0) ok_M_95 ⟨Nat.le_of_ble_eq_true rfl, Nat.le_of_ble_eq_true rfl⟩ blind_rM (va_recv hK hP (ci := 7) (q0 := 0) rfl rfl) (rM_of hP hK) rfl hl.1 rfl (Nat.le_of_ble_eq_true rfl) d_M_putName_23 ⟨Nat.zero_le _, Nat.zero_le _⟩ (fun r23 hrr => ?_)
        subst hrr
        refine mm_v (b0 := (mA md 0)) (As := [.int (mX σ ((((mp_begins σ) v1.toNatClampNeg) + 1) + v2))]) (rest := []) ⟨hx, hb, hml, hown, hta⟩ (c_M_put l md _ σ (mX σ ((((mp_begins σ) v1.toNatClampNeg) + 1) + v2)) _ hE) ok_M_340 ⟨Nat.le_of_ble_eq_true rfl, Nat.le_of_ble_eq_true rfl⟩ (va_recv hK hP (ci := 7) (q0 := 0) rfl rfl) hP hK hD hS hA rfl hl.1 rfl (Nat.le_of_ble_eq_true rfl) d_M_putName_26 ⟨Nat.zero_le _, Nat.zero_le _⟩ (fun σ26 H locs hE hP hD hS => ?_)
        refine lv_iinc (v := v2 + 1) (lv' := [(2, .int (v2 + 1)), (0, .ref (mA md 0)), (1, .int v1)]) hx hb d_M_putName_29 hl (k := 2) rfl rfl (by decide) rfl (fun ls hl => ?_)
        refine lv_goto (tgt := 2) hx hb d_M_putName_32 (by decide) ?_
        exact ih2 (v2 + 1) σ26 _ _ hP hD hS _ (lv_sub hl [1, 2, 0] rfl) hE
  unfold w_M_putName at hE
  refine lv_iconst (v := 0) hx hb d_M_putName_0 (by decide) ?_
  refine lv_istore_n (lv' := [(2, .int 0), (0, .ref (mA md 0)), (1, .int x0)]) hx hb d_M_putName_1 rfl hl (by decide) rfl (fun ls hl => ?_)
  obtain ⟨n2, hE⟩ := hE
  exact L2 x0 n2 0 σ _ _ hP hD hS _ (lv_sub hl [1, 2, 0] rfl) hE
theorem ok_M_358 : okV "PlainPagesModel" 358 R_M y_M_putName b_M_putName 3 none 1 := ⟨aW_in 1307 (by decide +kernel) rfl, aW_in 1309 (by decide +kernel) rfl, aW_in 81 (by decide +kernel) rfl, aW_in 92 (by decide +kernel) rfl, cd_M_putName, rfl, by decide +kernel, by decide +kernel, by decide +kernel⟩
theorem d_M_putBeginning_0 : decode b_M_putBeginning 0 = .ok (.aload_n 0, 1) := by decide +kernel
theorem d_M_putBeginning_1 : decode b_M_putBeginning 1 = .ok (.bipush 60, 2) := by decide +kernel
theorem d_M_putBeginning_3 : decode b_M_putBeginning 3 = .ok (.invokevirtual 340, 3) := by decide +kernel
theorem d_M_putBeginning_6 : decode b_M_putBeginning 6 = .ok (.aload_n 0, 1) := by decide +kernel
theorem d_M_putBeginning_7 : decode b_M_putBeginning 7 = .ok (.iload_n 1, 1) := by decide +kernel
theorem d_M_putBeginning_8 : decode b_M_putBeginning 8 = .ok (.invokevirtual 358, 3) := by decide +kernel
theorem d_M_putBeginning_11 : decode b_M_putBeginning 11 = .ok (.aload_n 0, 1) := by decide +kernel
theorem d_M_putBeginning_12 : decode b_M_putBeginning 12 = .ok (.aload_n 0, 1) := by decide +kernel
theorem d_M_putBeginning_13 : decode b_M_putBeginning 13 = .ok (.getfield 40, 3) := by decide +kernel
theorem d_M_putBeginning_16 : decode b_M_putBeginning 16 = .ok (.iload_n 1, 1) := by decide +kernel
theorem d_M_putBeginning_17 : decode b_M_putBeginning 17 = .ok (.iaload, 1) := by decide +kernel
theorem d_M_putBeginning_18 : decode b_M_putBeginning 18 = .ok (.invokevirtual 154, 3) := by decide +kernel
theorem d_M_putBeginning_21 : decode b_M_putBeginning 21 = .ok (.istore_n 2, 1) := by decide +kernel
theorem d_M_putBeginning_22 : decode b_M_putBeginning 22 = .ok (.aload_n 0, 1) := by decide +kernel
theorem d_M_putBeginning_23 : decode b_M_putBeginning 23 = .ok (.iload_n 2, 1) := by decide +kernel
theorem d_M_putBeginning_24 : decode b_M_putBeginning 24 = .ok (.aload_n 0, 1) := by decide +kernel
theorem d_M_putBeginning_25 : decode b_M_putBeginning 25 = .ok (.getfield 92, 3) := by decide +kernel
theorem d_M_putBeginning_28 : decode b_M_putBeginning 28 = .ok (.invokevirtual 157, 3) := by decide +kernel
theorem d_M_putBeginning_31 : decode b_M_putBeginning 31 = .ok (.ifCond .eq 80, 3) := by decide +kernel
theorem d_M_putBeginning_34 : decode b_M_putBeginning 34 = .ok (.aload_n 0, 1) := by decide +kernel
theorem d_M_putBeginning_35 : decode b_M_putBeginning 35 = .ok (.bipush 32, 2) := by decide +kernel
theorem d_M_putBeginning_37 : decode b_M_putBeginning 37 = .ok (.invokevirtual 340, 3) := by decide +kernel
theorem d_M_putBeginning_40 : decode b_M_putBeginning 40 = .ok (.iconst 0, 1) := by decide +kernel
theorem d_M_putBeginning_41 : decode b_M_putBeginning 41 = .ok (.istore_n 3, 1) := by decide +kernel
theorem d_M_putBeginning_42 : decode b_M_putBeginning 42 = .ok (.iload_n 3, 1) := by decide +kernel
theorem d_M_putBeginning_43 : decode b_M_putBeginning 43 = .ok (.aload_n 0, 1) := by decide +kernel
theorem d_M_putBeginning_44 : decode b_M_putBeginning 44 = .ok (.getfield 145, 3) := by decide +kernel
theorem d_M_putBeginning_47 : decode b_M_putBeginning 47 = .ok (.if_icmp .ge 23, 3) := by decide +kernel
theorem d_M_putBeginning_50 : decode b_M_putBeginning 50 = .ok (.aload_n 0, 1) := by decide +kernel
theorem d_M_putBeginning_51 : decode b_M_putBeginning 51 = .ok (.aload_n 0, 1) := by decide +kernel
theorem d_M_putBeginning_52 : decode b_M_putBeginning 52 = .ok (.aload_n 0, 1) := by decide +kernel
theorem d_M_putBeginning_53 : decode b_M_putBeginning 53 = .ok (.getfield 142, 3) := by decide +kernel
theorem d_M_putBeginning_56 : decode b_M_putBeginning 56 = .ok (.iload_n 3, 1) := by decide +kernel
theorem d_M_putBeginning_57 : decode b_M_putBeginning 57 = .ok (.iadd, 1) := by decide +kernel
theorem d_M_putBeginning_58 : decode b_M_putBeginning 58 = .ok (.invokevirtual 95, 3) := by decide +kernel
theorem d_M_putBeginning_61 : decode b_M_putBeginning 61 = .ok (.invokevirtual 340, 3) := by decide +kernel
theorem d_M_putBeginning_64 : decode b_M_putBeginning 64 = .ok (.iinc 3 1, 3) := by decide +kernel
theorem d_M_putBeginning_67 : decode b_M_putBeginning 67 = .ok (.goto (-25), 3) := by decide +kernel
theorem d_M_putBeginning_70 : decode b_M_putBeginning 70 = .ok (.aload_n 0, 1) := by decide +kernel
theorem d_M_putBeginning_71 : decode b_M_putBeginning 71 = .ok (.bipush 61, 2) := by decide +kernel
theorem d_M_putBeginning_73 : decode b_M_putBeginning 73 = .ok (.invokevirtual 340, 3) := by decide +kernel
theorem d_M_putBeginning_76 : decode b_M_putBeginning 76 = .ok (.aload_n 0, 1) := by decide +kernel
theorem d_M_putBeginning_77 : decode b_M_putBeginning 77 = .ok (.bipush 34, 2) := by decide +kernel
theorem d_M_putBeginning_79 : decode b_M_putBeginning 79 = .ok (.invokevirtual 340, 3) := by decide +kernel
theorem d_M_putBeginning_82 : decode b_M_putBeginning 82 = .ok (.aload_n 0, 1) := by decide +kernel
theorem d_M_putBeginning_83 : decode b_M_putBeginning 83 = .ok (.aload_n 0, 1) := by decide +kernel
theorem d_M_putBeginning_84 : decode b_M_putBeginning 84 = .ok (.getfield 148, 3) := by decide +kernel
theorem d_M_putBeginning_87 : decode b_M_putBeginning 87 = .ok (.aload_n 0, 1) := by decide +kernel
theorem d_M_putBeginning_88 : decode b_M_putBeginning 88 = .ok (.getfield 151, 3) := by decide +kernel
theorem d_M_putBeginning_91 : decode b_M_putBeginning 91 = .ok (.iconst 1, 1) := by decide +kernel
theorem d_M_putBeginning_92 : decode b_M_putBeginning 92 = .ok (.invokevirtual 354, 3) := by decide +kernel
theorem d_M_putBeginning_95 : decode b_M_putBeginning 95 = .ok (.aload_n 0, 1) := by decide +kernel
theorem d_M_putBeginning_96 : decode b_M_putBeginning 96 = .ok (.bipush 34, 2) := by decide +kernel
theorem d_M_putBeginning_98 : decode b_M_putBeginning 98 = .ok (.invokevirtual 340, 3) := by decide +kernel
theorem d_M_putBeginning_101 : decode b_M_putBeginning 101 = .ok (.aload_n 0, 1) := by decide +kernel
theorem d_M_putBeginning_102 : decode b_M_putBeginning 102 = .ok (.getfield 151, 3) := by decide +kernel
theorem d_M_putBeginning_105 : decode b_M_putBeginning 105 = .ok (.iconst 1, 1) := by decide +kernel
theorem d_M_putBeginning_106 : decode b_M_putBeginning 106 = .ok (.iadd, 1) := by decide +kernel
theorem d_M_putBeginning_107 : decode b_M_putBeginning 107 = .ok (.istore_n 2, 1) := by decide +kernel
theorem d_M_putBeginning_108 : decode b_M_putBeginning 108 = .ok (.goto (-86), 3) := by decide +kernel
theorem d_M_putBeginning_111 : decode b_M_putBeginning 111 = .ok (.aload_n 0, 1) := by decide +kernel
theorem d_M_putBeginning_112 : decode b_M_putBeginning 112 = .ok (.getfield 49, 3) := by decide +kernel
theorem d_M_putBeginning_115 : decode b_M_putBeginning 115 = .ok (.iload_n 1, 1) := by decide +kernel
theorem d_M_putBeginning_116 : decode b_M_putBeginning 116 = .ok (.iaload, 1) := by decide +kernel
theorem d_M_putBeginning_117 : decode b_M_putBeginning 117 = .ok (.iconst (-1), 1) := by decide +kernel
theorem d_M_putBeginning_118 : decode b_M_putBeginning 118 = .ok (.if_icmp .ne 9, 3) := by decide +kernel
theorem d_M_putBeginning_121 : decode b_M_putBeginning 121 = .ok (.aload_n 0, 1) := by decide +kernel
theorem d_M_putBeginning_122 : decode b_M_putBeginning 122 = .ok (.bipush 47, 2) := by decide +kernel
theorem d_M_putBeginning_124 : decode b_M_putBeginning 124 = .ok (.invokevirtual 340, 3) := by decide +kernel
theorem d_M_putBeginning_127 : decode b_M_putBeginning 127 = .ok (.aload_n 0, 1) := by decide +kernel
theorem d_M_putBeginning_128 : decode b_M_putBeginning 128 = .ok (.bipush 62, 2) := by decide +kernel
theorem d_M_putBeginning_130 : decode b_M_putBeginning 130 = .ok (.invokevirtual 340, 3) := by decide +kernel
theorem d_M_putBeginning_133 : decode b_M_putBeginning 133 = .ok (.return_, 1) := by decide +kernel
def w_M_putBeginning_J127   (post : MPS → Prop) (σ : MPS) : Prop := w_M_put σ 62 (fun σ130 => post σ130)
def w_M_putBeginning_L42  (v1 : Int32) (K22 : Int32 → MPS → Prop) (post : MPS → Prop) : Nat → Int32 → MPS → Prop
  | 0, _, _ => False
  | n42 + 1, v3, σ => (((mp_nameMany σ) ≤ v3 → w_M_put σ 61 (fun σ73 => w_M_put σ73 34 (fun σ79 => w_M_putRow σ79 (mp_valueAt σ79) (mp_valueEnd σ79) 1 (fun σ92 => w_M_put σ92 34 (fun σ98 => K22 ((mp_valueEnd σ98) + 1) σ98))))) ∧ (¬ (mp_nameMany σ) ≤ v3 → (mXk σ ((mp_nameAt σ) + v3) ∧ w_M_put σ (mX σ ((mp_nameAt σ) + v3)) (fun σ61 => w_M_putBeginning_L42 v1 (K22) post n42 (v3 + 1) σ61))))
def w_M_putBeginning_L22  (v1 : Int32) (post : MPS → Prop) : Nat → Int32 → MPS → Prop
  | 0, _, _ => False
  | n22 + 1, v2, σ => w_M_nextAttribute σ v2 (mp_size σ) (fun r28 σ28 => ((r28 = 0 → (vp_in v1 1000 ∧ ((((mp_first σ28) v1.toNatClampNeg) = (-1) → w_M_put σ28 47 (fun σ124 => w_M_putBeginning_J127 post σ124)) ∧ (¬ ((mp_first σ28) v1.toNatClampNeg) = (-1) → w_M_putBeginning_J127 post σ28)))) ∧ (¬ r28 = 0 → w_M_put σ28 32 (fun σ37 => (∃ n42, w_M_putBeginning_L42 v1 (w_M_putBeginning_L22 v1 post n22) post n42 0 σ37)))))
def w_M_putBeginning  (σ : MPS) (x0 : Int32) (post : MPS → Prop) : Prop := w_M_put σ 60 (fun σ3 => w_M_putName σ3 x0 (fun σ8 => (vp_in x0 1000 ∧ w_M_behindName σ8 ((mp_begins σ8) x0.toNatClampNeg) (fun r18 => (∃ n22, w_M_putBeginning_L22 x0 post n22 r18 σ8)))))
set_option maxHeartbeats 4000000 in
set_option maxRecDepth 100000 in
theorem c_M_putBeginning (l : Launch) (md : MD) (sz : Nat) (σ : MPS) (x0 : Int32)  (post : MPS → Prop) (hE : w_M_putBeginning σ x0 post) : Met l y_M_putBeginning ws_M_putBeginning { frames := 5, cells := 0, slots := 0, locals := 106 } (va_Pc [.ref (mA md 0), .int x0] (gM md σ sz)) (va_Qv post (eM md (va_A (MW md σ) sz)) (va_A (MW md σ) sz)) 0 0 (va_A (MW md σ) sz) := by
  refine Met.ofW (cc := b_M_putBeginning) (maxL := 4) (ret := none) (by decide) rfl ?_
  intro p e s m args below meth c s₁ B hml hv
  obtain ⟨rfl, hsz, hP, hK, hD0⟩ := hv
  have hx := B.exec
  have hb := B.bytes
  have hr := B.returns
  have hta : ∀ w ∈ aW, w.before _ s = true := fun w h => atoms_spec (ws := ws_M_putBeginning) B.pre w (List.mem_cons_of_mem _ h)
  have hown : s.vm.findClass R_M = some m.cls := findClass_of_methodNamed B.named
  have hlocks := B.notSynchronized
  subst hsz
  have hD := hD0.self (sz := s.heap.size)
  generalize hAe : va_A (MW md σ) s.heap.size = A at hD ⊢
  have hA : ∀ q : Nat, s.heap.size ≤ q → A q := fun q h => by rw [← hAe]; exact Or.inr h
  have hS : va_S A s.heap s.heap [] := va_S.rf
  have hP : va_P (mG md) classes (MW md σ) s.heap := hP
  have hl := lv_entry ([.ref (mA md 0), .int x0]) (n := 4) (Nat.le_of_ble_eq_true rfl)
  rw [lg_entry_eq]
  generalize (lg_sl ([.ref (mA md 0), .int x0]) ++ List.replicate (4 - (lg_sl ([.ref (mA md 0), .int x0])).length) Slot.unset).toArray = ls at hl ⊢
  have hl : lv_has ls 4 [(0, .ref (mA md 0)), (1, .int x0)] := hl
  have J127 : ∀ (σ : MPS) (H : Heap) (locs : List Loc) (hP : va_P (mG md) classes (MW md σ) H) (hD : va_D A (MW md σ)) (hS : va_S A s.heap H locs) (ls : Array Slot) (hl : lv_has ls 4 [(0, .ref (mA md 0))]) (hE : w_M_putBeginning_J127 post σ), W p l e (headSpec ws_M_putBeginning { frames := 5, cells := 0, slots := 0, locals := 106 }).room s m ([.ref (mA md 0), .int x0] : List Value).toArray below meth c H locs 0 0 (MQ below (va_Qv post (eM md A) A) ([.ref (mA md 0), .int x0] : List Value).toArray s 0 0 A) (F0 m 127 ls []) := by
    intro  σ H locs hP hD hS ls hl hE
    unfold w_M_putBeginning_J127 at hE
    refine lv_aload_n hx hb d_M_putBeginning_127 rfl (lv_at hl 0 rfl) ?_
    refine lv_bipush (v := 62) hx hb d_M_putBeginning_128 (by decide) ?_
    refine mm_v (b0 := (mA md 0)) (As := [.int 62]) (rest := []) ⟨hx, hb, hml, hown, hta⟩ (c_M_put l md _ σ 62 _ hE) ok_M_340 ⟨Nat.le_of_ble_eq_true rfl, Nat.le_of_ble_eq_true rfl⟩ (va_recv hK hP (ci := 7) (q0 := 0) rfl rfl) hP hK hD hS hA rfl hl.1 rfl (Nat.le_of_ble_eq_true rfl) d_M_putBeginning_130 ⟨Nat.zero_le _, Nat.zero_le _⟩ (fun σ130 H locs hE hP hD hS => ?_)
    exact W.vret hx hb hr (fun t ht hW => ⟨⟨σ130, rfl, hE, by rw [ht]; exact hP, va_K.moved hW.alike hK, hD⟩, hS.F ht⟩) hS.2.2 d_M_putBeginning_133
  have L22 : ∀ (v1 : Int32) (n22 : Nat) (v2 : Int32) (σ : MPS) (H : Heap) (locs : List Loc) (hP : va_P (mG md) classes (MW md σ) H) (hD : va_D A (MW md σ)) (hS : va_S A s.heap H locs) (ls : Array Slot) (hl : lv_has ls 4 [(0, .ref (mA md 0)), (1, .int v1), (2, .int v2)]) (hE : w_M_putBeginning_L22 v1 post n22 v2 σ), W p l e (headSpec ws_M_putBeginning { frames := 5, cells := 0, slots := 0, locals := 106 }).room s m ([.ref (mA md 0), .int x0] : List Value).toArray below meth c H locs 0 0 (MQ below (va_Qv post (eM md A) A) ([.ref (mA md 0), .int x0] : List Value).toArray s 0 0 A) (F0 m 22 ls []) := by
    intro v1 n22
    induction n22 with
    | zero => intro v2 σ H locs hP hD hS ls hl hE; exact hE.elim
    | succ n22 ih22 =>
      have L42 : ∀ (n42 : Nat) (v3 : Int32) (σ : MPS) (H : Heap) (locs : List Loc) (hP : va_P (mG md) classes (MW md σ) H) (hD : va_D A (MW md σ)) (hS : va_S A s.heap H locs) (ls : Array Slot) (hl : lv_has ls 4 [(0, .ref (mA md 0)), (1, .int v1), (3, .int v3)]) (hE : w_M_putBeginning_L42 v1 (w_M_putBeginning_L22 v1 post n22) post n42 v3 σ), W p l e (headSpec ws_M_putBeginning { frames := 5, cells := 0, slots := 0, locals := 106 }).room s m ([.ref (mA md 0), .int x0] : List Value).toArray below meth c H locs 0 0 (MQ below (va_Qv post (eM md A) A) ([.ref (mA md 0), .int x0] : List Value).toArray s 0 0 A) (F0 m 42 ls []) := by
        intro n42
        induction n42 with
        | zero => intro v3 σ H locs hP hD hS ls hl hE; exact hE.elim
        | succ n42 ih42 =>
          intro v3 σ H locs hP hD hS ls hl hE
          unfold w_M_putBeginning_L42 at hE
          refine lv_iload_n hx hb d_M_putBeginning_42 rfl (lv_at hl 2 rfl) ?_
          refine lv_aload_n hx hb d_M_putBeginning_43 rfl (lv_at hl 0 rfl) ?_
          refine va_get (D := (mG md)) (ci := 7) (v := .int (mp_nameMany σ)) (C := R_M) (T := F_M) (N := 37) hx hb hta i_M hown hK hP 0 rfl rfl 20 (by decide) (hta _ fl_M_145) (fun _ h9 => h9) rfl d_M_putBeginning_44 ?_
          refine lv_icmp_ge (tgt := 70) hx hb d_M_putBeginning_47 (by decide) (fun cc47 => ?_) (fun cc47 => ?_)
          · have hE := hE.1 cc47
            refine lv_aload_n hx hb d_M_putBeginning_70 rfl (lv_at hl 0 rfl) ?_
            refine lv_bipush (v := 61) hx hb d_M_putBeginning_71 (by decide) ?_
            refine mm_v (b0 := (mA md 0)) (As := [.int 61]) (rest := []) ⟨hx, hb, hml, hown, hta⟩ (c_M_put l md _ σ 61 _ hE) ok_M_340 ⟨Nat.le_of_ble_eq_true rfl, Nat.le_of_ble_eq_true rfl⟩ (va_recv hK hP (ci := 7) (q0 := 0) rfl rfl) hP hK hD hS hA rfl hl.1 rfl (Nat.le_of_ble_eq_true rfl) d_M_putBeginning_73 ⟨Nat.zero_le _, Nat.zero_le _⟩ (fun σ73 H locs hE hP hD hS => ?_)
            refine lv_aload_n hx hb d_M_putBeginning_76 rfl (lv_at hl 0 rfl) ?_
            refine lv_bipush (v := 34) hx hb d_M_putBeginning_77 (by decide) ?_
            refine mm_v (b0 := (mA md 0)) (As := [.int 34]) (rest := []) ⟨hx, hb, hml, hown, hta⟩ (c_M_put l md _ σ73 34 _ hE) ok_M_340 ⟨Nat.le_of_ble_eq_true rfl, Nat.le_of_ble_eq_true rfl⟩ (va_recv hK hP (ci := 7) (q0 := 0) rfl rfl) hP hK hD hS hA rfl hl.1 rfl (Nat.le_of_ble_eq_true rfl) d_M_putBeginning_79 ⟨Nat.zero_le _, Nat.zero_le _⟩ (fun σ79 H locs hE hP hD hS => ?_)
            refine lv_aload_n hx hb d_M_putBeginning_82 rfl (lv_at hl 0 rfl) ?_
            refine lv_aload_n hx hb d_M_putBeginning_83 rfl (lv_at hl 0 rfl) ?_
            refine va_get (D := (mG md)) (ci := 7) (v := .int (mp_valueAt σ79)) (C := R_M) (T := F_M) (N := 37) hx hb hta i_M hown hK hP 0 rfl rfl 21 (by decide) (hta _ fl_M_148) (fun _ h9 => h9) rfl d_M_putBeginning_84 ?_
            refine lv_aload_n hx hb d_M_putBeginning_87 rfl (lv_at hl 0 rfl) ?_
            refine va_get (D := (mG md)) (ci := 7) (v := .int (mp_valueEnd σ79)) (C := R_M) (T := F_M) (N := 37) hx hb hta i_M hown hK hP 0 rfl rfl 22 (by decide) (hta _ fl_M_151) (fun _ h9 => h9) rfl d_M_putBeginning_88 ?_
            refine lv_iconst (v := 1) hx hb d_M_putBeginning_91 (by decide) ?_
            refine mm_v (b0 := (mA md 0)) (As := [.int (mp_valueAt σ79), .int (mp_valueEnd σ79), .int 1]) (rest := []) ⟨hx, hb, hml, hown, hta⟩ (c_M_putRow l md _ σ79 (mp_valueAt σ79) (mp_valueEnd σ79) 1 _ hE) ok_M_354 ⟨Nat.le_of_ble_eq_true rfl, Nat.le_of_ble_eq_true rfl⟩ (va_recv hK hP (ci := 7) (q0 := 0) rfl rfl) hP hK hD hS hA rfl hl.1 rfl (Nat.le_of_ble_eq_true rfl) d_M_putBeginning_92 ⟨Nat.zero_le _, Nat.zero_le _⟩ (fun σ92 H locs hE hP hD hS => ?_)
            refine lv_aload_n hx hb d_M_putBeginning_95 rfl (lv_at hl 0 rfl) ?_
            refine lv_bipush (v := 34) hx hb d_M_putBeginning_96 (by decide) ?_
            refine mm_v (b0 := (mA md 0)) (As := [.int 34]) (rest := []) ⟨hx, hb, hml, hown, hta⟩ (c_M_put l md _ σ92 34 _ hE) ok_M_340 ⟨Nat.le_of_ble_eq_true rfl, Nat.le_of_ble_eq_true rfl⟩ (va_recv hK hP (ci := 7) (q0 := 0) rfl rfl) hP hK hD hS hA rfl hl.1 rfl (Nat.le_of_ble_eq_true rfl) d_M_putBeginning_98 ⟨Nat.zero_le _, Nat.zero_le _⟩ (fun σ98 H locs hE hP hD hS => ?_)
            refine lv_aload_n hx hb d_M_putBeginning_101 rfl (lv_at hl 0 rfl) ?_
            refine va_get (D := (mG md)) (ci := 7) (v := .int (mp_valueEnd σ98)) (C := R_M) (T := F_M) (N := 37) hx hb hta i_M hown hK hP 0 rfl rfl 22 (by decide) (hta _ fl_M_151) (fun _ h9 => h9) rfl d_M_putBeginning_102 ?_
            refine lv_iconst (v := 1) hx hb d_M_putBeginning_105 (by decide) ?_
            refine lv_iadd hx hb d_M_putBeginning_106 ?_
            refine lv_istore_n (lv' := [(2, .int ((mp_valueEnd σ98) + 1)), (0, .ref (mA md 0)), (1, .int v1), (3, .int v3)]) hx hb d_M_putBeginning_107 rfl hl (by decide) rfl (fun ls hl => ?_)
            refine lv_goto (tgt := 22) hx hb d_M_putBeginning_108 (by decide) ?_
            exact ih22 ((mp_valueEnd σ98) + 1) σ98 _ _ hP hD hS _ (lv_sub hl [1, 2, 0] rfl) hE
          · have hE := hE.2 cc47
            refine lv_aload_n hx hb d_M_putBeginning_50 rfl (lv_at hl 0 rfl) ?_
            refine lv_aload_n hx hb d_M_putBeginning_51 rfl (lv_at hl 0 rfl) ?_
            refine lv_aload_n hx hb d_M_putBeginning_52 rfl (lv_at hl 0 rfl) ?_
            refine va_get (D := (mG md)) (ci := 7) (v := .int (mp_nameAt σ)) (C := R_M) (T := F_M) (N := 37) hx hb hta i_M hown hK hP 0 rfl rfl 19 (by decide) (hta _ fl_M_142) (fun _ h9 => h9) rfl d_M_putBeginning_53 ?_
            refine lv_iload_n hx hb d_M_putBeginning_56 rfl (lv_at hl 2 rfl) ?_
            refine lv_iadd hx hb d_M_putBeginning_57 ?_
            obtain ⟨hc58_0, hE⟩ := hE
            refine ro_V (b0 := (mA md 0)) (As := [.int ((mp_nameAt σ) + v3)]) (rest := [.ref (mA md 0)]) ⟨hx, hb, hml, hown, hta⟩ (f_M_x l md σ ((mp_nameAt σ) + v3) hc58_0) ok_M_95 ⟨Nat.le_of_ble_eq_true rfl, Nat.le_of_ble_eq_true rfl⟩ blind_rM (va_recv hK hP (ci := 7) (q0 := 0) rfl rfl) (rM_of hP hK) rfl hl.1 rfl (Nat.le_of_ble_eq_true rfl) d_M_putBeginning_58 ⟨Nat.zero_le _, Nat.zero_le _⟩ (fun r58 hrr => ?_)
            subst hrr
            refine mm_v (b0 := (mA md 0)) (As := [.int (mX σ ((mp_nameAt σ) + v3))]) (rest := []) ⟨hx, hb, hml, hown, hta⟩ (c_M_put l md _ σ (mX σ ((mp_nameAt σ) + v3)) _ hE) ok_M_340 ⟨Nat.le_of_ble_eq_true rfl, Nat.le_of_ble_eq_true rfl⟩ (va_recv hK hP (ci := 7) (q0 := 0) rfl rfl) hP hK hD hS hA rfl hl.1 rfl (Nat.le_of_ble_eq_true rfl) d_M_putBeginning_61 ⟨Nat.zero_le _, Nat.zero_le _⟩ (fun σ61 H locs hE hP hD hS => ?_)
            refine lv_iinc (v := v3 + 1) (lv' := [(3, .int (v3 + 1)), (0, .ref (mA md 0)), (1, .int v1)]) hx hb d_M_putBeginning_64 hl (k := 2) rfl rfl (by decide) rfl (fun ls hl => ?_)
            refine lv_goto (tgt := 42) hx hb d_M_putBeginning_67 (by decide) ?_
            exact ih42 (v3 + 1) σ61 _ _ hP hD hS _ (lv_sub hl [1, 2, 0] rfl) hE
      intro v2 σ H locs hP hD hS ls hl hE
      unfold w_M_putBeginning_L22 at hE
      refine lv_aload_n hx hb d_M_putBeginning_22 rfl (lv_at hl 0 rfl) ?_
      refine lv_iload_n hx hb d_M_putBeginning_23 rfl (lv_at hl 2 rfl) ?_
      refine lv_aload_n hx hb d_M_putBeginning_24 rfl (lv_at hl 0 rfl) ?_
      refine va_get (D := (mG md)) (ci := 7) (v := .int (mp_size σ)) (C := R_M) (T := F_M) (N := 37) hx hb hta i_M hown hK hP 0 rfl rfl 7 (by decide) (hta _ fl_M_92) (fun _ h9 => h9) rfl d_M_putBeginning_25 ?_
      refine mm_i (b0 := (mA md 0)) (As := [.int v2, .int (mp_size σ)]) (rest := []) ⟨hx, hb, hml, hown, hta⟩ (c_M_nextAttribute l md _ σ v2 (mp_size σ) _ hE) ok_M_157 ⟨Nat.le_of_ble_eq_true rfl, Nat.le_of_ble_eq_true rfl⟩ (va_recv hK hP (ci := 7) (q0 := 0) rfl rfl) hP hK hD hS hA rfl hl.1 rfl (Nat.le_of_ble_eq_true rfl) d_M_putBeginning_28 ⟨Nat.zero_le _, Nat.zero_le _⟩ (fun r28 σ28 H locs hE hP hD hS => ?_)
      refine lv_if_eq (tgt := 111) hx hb d_M_putBeginning_31 (by decide) (fun cc31 => ?_) (fun cc31 => ?_)
      · have hE := hE.1 cc31
        refine lv_aload_n hx hb d_M_putBeginning_111 rfl (lv_at hl 0 rfl) ?_
        refine va_get (D := (mG md)) (ci := 7) (v := .ref (mA md 12)) (C := R_M) (T := F_M) (N := 37) hx hb hta i_M hown hK hP 0 rfl rfl 27 (by decide) (hta _ fl_M_49) (fun _ h9 => h9) rfl d_M_putBeginning_112 ?_
        refine lv_iload_n hx hb d_M_putBeginning_115 rfl (lv_at hl 1 rfl) ?_
        obtain ⟨hI116, hE⟩ := hE
        refine va_iald (D := (mG md)) (f := mp_first σ28) hx hb hK hP 12 0 rfl rfl hI116 d_M_putBeginning_116 ?_
        refine lv_iconst (v := -1) hx hb d_M_putBeginning_117 (by decide) ?_
        refine lv_icmp_ne (tgt := 127) hx hb d_M_putBeginning_118 (by decide) (fun cc118 => ?_) (fun cc118 => ?_)
        · have hE := hE.2 cc118
          exact J127  σ28 _ _ hP hD hS _ (lv_sub hl [0] rfl) hE
        · have hE := hE.1 cc118
          refine lv_aload_n hx hb d_M_putBeginning_121 rfl (lv_at hl 0 rfl) ?_
          refine lv_bipush (v := 47) hx hb d_M_putBeginning_122 (by decide) ?_
          refine mm_v (b0 := (mA md 0)) (As := [.int 47]) (rest := []) ⟨hx, hb, hml, hown, hta⟩ (c_M_put l md _ σ28 47 _ hE) ok_M_340 ⟨Nat.le_of_ble_eq_true rfl, Nat.le_of_ble_eq_true rfl⟩ (va_recv hK hP (ci := 7) (q0 := 0) rfl rfl) hP hK hD hS hA rfl hl.1 rfl (Nat.le_of_ble_eq_true rfl) d_M_putBeginning_124 ⟨Nat.zero_le _, Nat.zero_le _⟩ (fun σ124 H locs hE hP hD hS => ?_)
          exact J127  σ124 _ _ hP hD hS _ (lv_sub hl [0] rfl) hE
      · have hE := hE.2 cc31
        refine lv_aload_n hx hb d_M_putBeginning_34 rfl (lv_at hl 0 rfl) ?_
        refine lv_bipush (v := 32) hx hb d_M_putBeginning_35 (by decide) ?_
        refine mm_v (b0 := (mA md 0)) (As := [.int 32]) (rest := []) ⟨hx, hb, hml, hown, hta⟩ (c_M_put l md _ σ28 32 _ hE) ok_M_340 ⟨Nat.le_of_ble_eq_true rfl, Nat.le_of_ble_eq_true rfl⟩ (va_recv hK hP (ci := 7) (q0 := 0) rfl rfl) hP hK hD hS hA rfl hl.1 rfl (Nat.le_of_ble_eq_true rfl) d_M_putBeginning_37 ⟨Nat.zero_le _, Nat.zero_le _⟩ (fun σ37 H locs hE hP hD hS => ?_)
        refine lv_iconst (v := 0) hx hb d_M_putBeginning_40 (by decide) ?_
        refine lv_istore_n (lv' := [(3, .int 0), (0, .ref (mA md 0)), (1, .int v1), (2, .int v2)]) hx hb d_M_putBeginning_41 rfl hl (by decide) rfl (fun ls hl => ?_)
        obtain ⟨n42, hE⟩ := hE
        exact L42  n42 0 σ37 _ _ hP hD hS _ (lv_sub hl [1, 2, 0] rfl) hE
  unfold w_M_putBeginning at hE
  refine lv_aload_n hx hb d_M_putBeginning_0 rfl (lv_at hl 0 rfl) ?_
  refine lv_bipush (v := 60) hx hb d_M_putBeginning_1 (by decide) ?_
  refine mm_v (b0 := (mA md 0)) (As := [.int 60]) (rest := []) ⟨hx, hb, hml, hown, hta⟩ (c_M_put l md _ σ 60 _ hE) ok_M_340 ⟨Nat.le_of_ble_eq_true rfl, Nat.le_of_ble_eq_true rfl⟩ (va_recv hK hP (ci := 7) (q0 := 0) rfl rfl) hP hK hD hS hA rfl hl.1 rfl (Nat.le_of_ble_eq_true rfl) d_M_putBeginning_3 ⟨Nat.zero_le _, Nat.zero_le _⟩ (fun σ3 H locs hE hP hD hS => ?_)
  refine lv_aload_n hx hb d_M_putBeginning_6 rfl (lv_at hl 0 rfl) ?_
  refine lv_iload_n hx hb d_M_putBeginning_7 rfl (lv_at hl 1 rfl) ?_
  refine mm_v (b0 := (mA md 0)) (As := [.int x0]) (rest := []) ⟨hx, hb, hml, hown, hta⟩ (c_M_putName l md _ σ3 x0 _ hE) ok_M_358 ⟨Nat.le_of_ble_eq_true rfl, Nat.le_of_ble_eq_true rfl⟩ (va_recv hK hP (ci := 7) (q0 := 0) rfl rfl) hP hK hD hS hA rfl hl.1 rfl (Nat.le_of_ble_eq_true rfl) d_M_putBeginning_8 ⟨Nat.zero_le _, Nat.zero_le _⟩ (fun σ8 H locs hE hP hD hS => ?_)
  refine lv_aload_n hx hb d_M_putBeginning_11 rfl (lv_at hl 0 rfl) ?_
  refine lv_aload_n hx hb d_M_putBeginning_12 rfl (lv_at hl 0 rfl) ?_
  refine va_get (D := (mG md)) (ci := 7) (v := .ref (mA md 9)) (C := R_M) (T := F_M) (N := 37) hx hb hta i_M hown hK hP 0 rfl rfl 24 (by decide) (hta _ fl_M_40) (fun _ h9 => h9) rfl d_M_putBeginning_13 ?_
  refine lv_iload_n hx hb d_M_putBeginning_16 rfl (lv_at hl 1 rfl) ?_
  obtain ⟨hI17, hE⟩ := hE
  refine va_iald (D := (mG md)) (f := mp_begins σ8) hx hb hK hP 9 0 rfl rfl hI17 d_M_putBeginning_17 ?_
  refine ro_V (b0 := (mA md 0)) (As := [.int ((mp_begins σ8) x0.toNatClampNeg)]) (rest := []) ⟨hx, hb, hml, hown, hta⟩ (c_M_behindName l md σ8 ((mp_begins σ8) x0.toNatClampNeg)  _ hE) ok_M_154 ⟨Nat.le_of_ble_eq_true rfl, Nat.le_of_ble_eq_true rfl⟩ blind_rM (va_recv hK hP (ci := 7) (q0 := 0) rfl rfl) (rM_of hP hK) rfl hl.1 rfl (Nat.le_of_ble_eq_true rfl) d_M_putBeginning_18 ⟨Nat.zero_le _, Nat.zero_le _⟩ (fun r18 hE => ?_)
  refine lv_istore_n (lv' := [(2, .int r18), (0, .ref (mA md 0)), (1, .int x0)]) hx hb d_M_putBeginning_21 rfl hl (by decide) rfl (fun ls hl => ?_)
  obtain ⟨n22, hE⟩ := hE
  exact L22 x0 n22 r18 σ8 _ _ hP hD hS _ (lv_sub hl [1, 2, 0] rfl) hE

theorem d_M_putEnding_0 : decode b_M_putEnding 0 = .ok (.aload_n 0, 1) := by decide +kernel
theorem d_M_putEnding_1 : decode b_M_putEnding 1 = .ok (.bipush 60, 2) := by decide +kernel
theorem d_M_putEnding_3 : decode b_M_putEnding 3 = .ok (.invokevirtual 340, 3) := by decide +kernel
theorem d_M_putEnding_6 : decode b_M_putEnding 6 = .ok (.aload_n 0, 1) := by decide +kernel
theorem d_M_putEnding_7 : decode b_M_putEnding 7 = .ok (.bipush 47, 2) := by decide +kernel
theorem d_M_putEnding_9 : decode b_M_putEnding 9 = .ok (.invokevirtual 340, 3) := by decide +kernel
theorem d_M_putEnding_12 : decode b_M_putEnding 12 = .ok (.aload_n 0, 1) := by decide +kernel
theorem d_M_putEnding_13 : decode b_M_putEnding 13 = .ok (.iload_n 1, 1) := by decide +kernel
theorem d_M_putEnding_14 : decode b_M_putEnding 14 = .ok (.invokevirtual 358, 3) := by decide +kernel
theorem d_M_putEnding_17 : decode b_M_putEnding 17 = .ok (.aload_n 0, 1) := by decide +kernel
theorem d_M_putEnding_18 : decode b_M_putEnding 18 = .ok (.bipush 62, 2) := by decide +kernel
theorem d_M_putEnding_20 : decode b_M_putEnding 20 = .ok (.invokevirtual 340, 3) := by decide +kernel
theorem d_M_putEnding_23 : decode b_M_putEnding 23 = .ok (.return_, 1) := by decide +kernel
def w_M_putEnding  (σ : MPS) (x0 : Int32) (post : MPS → Prop) : Prop := w_M_put σ 60 (fun σ3 => w_M_put σ3 47 (fun σ9 => w_M_putName σ9 x0 (fun σ14 => w_M_put σ14 62 (fun σ20 => post σ20))))
set_option maxHeartbeats 4000000 in
set_option maxRecDepth 100000 in
theorem c_M_putEnding (l : Launch) (md : MD) (sz : Nat) (σ : MPS) (x0 : Int32)  (post : MPS → Prop) (hE : w_M_putEnding σ x0 post) : Met l y_M_putEnding ws_M_putEnding { frames := 5, cells := 0, slots := 0, locals := 106 } (va_Pc [.ref (mA md 0), .int x0] (gM md σ sz)) (va_Qv post (eM md (va_A (MW md σ) sz)) (va_A (MW md σ) sz)) 0 0 (va_A (MW md σ) sz) := by
  refine Met.ofW (cc := b_M_putEnding) (maxL := 2) (ret := none) (by decide) rfl ?_
  intro p e s m args below meth c s₁ B hml hv
  obtain ⟨rfl, hsz, hP, hK, hD0⟩ := hv
  have hx := B.exec
  have hb := B.bytes
  have hr := B.returns
  have hta : ∀ w ∈ aW, w.before _ s = true := fun w h => atoms_spec (ws := ws_M_putEnding) B.pre w (List.mem_cons_of_mem _ h)
  have hown : s.vm.findClass R_M = some m.cls := findClass_of_methodNamed B.named
  have hlocks := B.notSynchronized
  subst hsz
  have hD := hD0.self (sz := s.heap.size)
  generalize hAe : va_A (MW md σ) s.heap.size = A at hD ⊢
  have hA : ∀ q : Nat, s.heap.size ≤ q → A q := fun q h => by rw [← hAe]; exact Or.inr h
  have hS : va_S A s.heap s.heap [] := va_S.rf
  have hP : va_P (mG md) classes (MW md σ) s.heap := hP
  have hl := lv_entry ([.ref (mA md 0), .int x0]) (n := 2) (Nat.le_of_ble_eq_true rfl)
  rw [lg_entry_eq]
  generalize (lg_sl ([.ref (mA md 0), .int x0]) ++ List.replicate (2 - (lg_sl ([.ref (mA md 0), .int x0])).length) Slot.unset).toArray = ls at hl ⊢
  have hl : lv_has ls 2 [(0, .ref (mA md 0)), (1, .int x0)] := hl
  unfold w_M_putEnding at hE
  refine lv_aload_n hx hb d_M_putEnding_0 rfl (lv_at hl 0 rfl) ?_
  refine lv_bipush (v := 60) hx hb d_M_putEnding_1 (by decide) ?_
  refine mm_v (b0 := (mA md 0)) (As := [.int 60]) (rest := []) ⟨hx, hb, hml, hown, hta⟩ (c_M_put l md _ σ 60 _ hE) ok_M_340 ⟨Nat.le_of_ble_eq_true rfl, Nat.le_of_ble_eq_true rfl⟩ (va_recv hK hP (ci := 7) (q0 := 0) rfl rfl) hP hK hD hS hA rfl hl.1 rfl (Nat.le_of_ble_eq_true rfl) d_M_putEnding_3 ⟨Nat.zero_le _, Nat.zero_le _⟩ (fun σ3 H locs hE hP hD hS => ?_)
  refine lv_aload_n hx hb d_M_putEnding_6 rfl (lv_at hl 0 rfl) ?_
  refine lv_bipush (v := 47) hx hb d_M_putEnding_7 (by decide) ?_
  refine mm_v (b0 := (mA md 0)) (As := [.int 47]) (rest := []) ⟨hx, hb, hml, hown, hta⟩ (c_M_put l md _ σ3 47 _ hE) ok_M_340 ⟨Nat.le_of_ble_eq_true rfl, Nat.le_of_ble_eq_true rfl⟩ (va_recv hK hP (ci := 7) (q0 := 0) rfl rfl) hP hK hD hS hA rfl hl.1 rfl (Nat.le_of_ble_eq_true rfl) d_M_putEnding_9 ⟨Nat.zero_le _, Nat.zero_le _⟩ (fun σ9 H locs hE hP hD hS => ?_)
  refine lv_aload_n hx hb d_M_putEnding_12 rfl (lv_at hl 0 rfl) ?_
  refine lv_iload_n hx hb d_M_putEnding_13 rfl (lv_at hl 1 rfl) ?_
  refine mm_v (b0 := (mA md 0)) (As := [.int x0]) (rest := []) ⟨hx, hb, hml, hown, hta⟩ (c_M_putName l md _ σ9 x0 _ hE) ok_M_358 ⟨Nat.le_of_ble_eq_true rfl, Nat.le_of_ble_eq_true rfl⟩ (va_recv hK hP (ci := 7) (q0 := 0) rfl rfl) hP hK hD hS hA rfl hl.1 rfl (Nat.le_of_ble_eq_true rfl) d_M_putEnding_14 ⟨Nat.zero_le _, Nat.zero_le _⟩ (fun σ14 H locs hE hP hD hS => ?_)
  refine lv_aload_n hx hb d_M_putEnding_17 rfl (lv_at hl 0 rfl) ?_
  refine lv_bipush (v := 62) hx hb d_M_putEnding_18 (by decide) ?_
  refine mm_v (b0 := (mA md 0)) (As := [.int 62]) (rest := []) ⟨hx, hb, hml, hown, hta⟩ (c_M_put l md _ σ14 62 _ hE) ok_M_340 ⟨Nat.le_of_ble_eq_true rfl, Nat.le_of_ble_eq_true rfl⟩ (va_recv hK hP (ci := 7) (q0 := 0) rfl rfl) hP hK hD hS hA rfl hl.1 rfl (Nat.le_of_ble_eq_true rfl) d_M_putEnding_20 ⟨Nat.zero_le _, Nat.zero_le _⟩ (fun σ20 H locs hE hP hD hS => ?_)
  exact W.vret hx hb hr (fun t ht hW => ⟨⟨σ20, rfl, hE, by rw [ht]; exact hP, va_K.moved hW.alike hK, hD⟩, hS.F ht⟩) hS.2.2 d_M_putEnding_23
