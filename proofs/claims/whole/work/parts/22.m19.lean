-- printed by wip/gen: the reference
theorem ok_M_361 : okV "PlainPagesModel" 361 R_M y_M_putBeginning b_M_putBeginning 4 none 1 := ⟨aW_in 1303 (by decide +kernel) rfl, aW_in 1305 (by decide +kernel) rfl, aW_in 80 (by decide +kernel) rfl, aW_in 92 (by decide +kernel) rfl, cd_M_putBeginning, rfl, by decide +kernel, by decide +kernel, by decide +kernel⟩
theorem ok_M_364 : okV "PlainPagesModel" 364 R_M y_M_putEnding b_M_putEnding 2 none 1 := ⟨aW_in 1311 (by decide +kernel) rfl, aW_in 1313 (by decide +kernel) rfl, aW_in 82 (by decide +kernel) rfl, aW_in 92 (by decide +kernel) rfl, cd_M_putEnding, rfl, by decide +kernel, by decide +kernel, by decide +kernel⟩
theorem d_M_write_0 : decode b_M_write 0 = .ok (.aload_n 0, 1) := by decide +kernel
theorem d_M_write_1 : decode b_M_write 1 = .ok (.aload_n 0, 1) := by decide +kernel
theorem d_M_write_2 : decode b_M_write 2 = .ok (.iload_n 1, 1) := by decide +kernel
theorem d_M_write_3 : decode b_M_write 3 = .ok (.invokevirtual 323, 3) := by decide +kernel
theorem d_M_write_6 : decode b_M_write 6 = .ok (.ifCond .eq 7, 3) := by decide +kernel
theorem d_M_write_9 : decode b_M_write 9 = .ok (.iconst 0, 1) := by decide +kernel
theorem d_M_write_10 : decode b_M_write 10 = .ok (.goto 4, 3) := by decide +kernel
theorem d_M_write_13 : decode b_M_write 13 = .ok (.iconst 1, 1) := by decide +kernel
theorem d_M_write_14 : decode b_M_write 14 = .ok (.putfield 70, 3) := by decide +kernel
theorem d_M_write_17 : decode b_M_write 17 = .ok (.aload_n 0, 1) := by decide +kernel
theorem d_M_write_18 : decode b_M_write 18 = .ok (.getfield 70, 3) := by decide +kernel
theorem d_M_write_21 : decode b_M_write 21 = .ok (.ifCond .le 5, 3) := by decide +kernel
theorem d_M_write_24 : decode b_M_write 24 = .ok (.iconst 0, 1) := by decide +kernel
theorem d_M_write_25 : decode b_M_write 25 = .ok (.ireturn, 1) := by decide +kernel
theorem d_M_write_26 : decode b_M_write 26 = .ok (.aload_n 0, 1) := by decide +kernel
theorem d_M_write_27 : decode b_M_write 27 = .ok (.iconst 0, 1) := by decide +kernel
theorem d_M_write_28 : decode b_M_write 28 = .ok (.putfield 337, 3) := by decide +kernel
theorem d_M_write_31 : decode b_M_write 31 = .ok (.aload_n 0, 1) := by decide +kernel
theorem d_M_write_32 : decode b_M_write 32 = .ok (.iload_n 1, 1) := by decide +kernel
theorem d_M_write_33 : decode b_M_write 33 = .ok (.invokevirtual 351, 3) := by decide +kernel
theorem d_M_write_36 : decode b_M_write 36 = .ok (.istore_n 2, 1) := by decide +kernel
theorem d_M_write_37 : decode b_M_write 37 = .ok (.iload_n 1, 1) := by decide +kernel
theorem d_M_write_38 : decode b_M_write 38 = .ok (.istore_n 3, 1) := by decide +kernel
theorem d_M_write_39 : decode b_M_write 39 = .ok (.iload_n 3, 1) := by decide +kernel
theorem d_M_write_40 : decode b_M_write 40 = .ok (.iload_n 2, 1) := by decide +kernel
theorem d_M_write_41 : decode b_M_write 41 = .ok (.if_icmp .gt 109, 3) := by decide +kernel
theorem d_M_write_44 : decode b_M_write 44 = .ok (.aload_n 0, 1) := by decide +kernel
theorem d_M_write_45 : decode b_M_write 45 = .ok (.getfield 36, 3) := by decide +kernel
theorem d_M_write_48 : decode b_M_write 48 = .ok (.iload_n 3, 1) := by decide +kernel
theorem d_M_write_49 : decode b_M_write 49 = .ok (.baload, 1) := by decide +kernel
theorem d_M_write_50 : decode b_M_write 50 = .ok (.ifCond .eq 11, 3) := by decide +kernel
theorem d_M_write_53 : decode b_M_write 53 = .ok (.aload_n 0, 1) := by decide +kernel
theorem d_M_write_54 : decode b_M_write 54 = .ok (.iload_n 3, 1) := by decide +kernel
theorem d_M_write_55 : decode b_M_write 55 = .ok (.invokevirtual 361, 3) := by decide +kernel
theorem d_M_write_58 : decode b_M_write 58 = .ok (.goto 20, 3) := by decide +kernel
theorem d_M_write_61 : decode b_M_write 61 = .ok (.aload_n 0, 1) := by decide +kernel
theorem d_M_write_62 : decode b_M_write 62 = .ok (.aload_n 0, 1) := by decide +kernel
theorem d_M_write_63 : decode b_M_write 63 = .ok (.getfield 40, 3) := by decide +kernel
theorem d_M_write_66 : decode b_M_write 66 = .ok (.iload_n 3, 1) := by decide +kernel
theorem d_M_write_67 : decode b_M_write 67 = .ok (.iaload, 1) := by decide +kernel
theorem d_M_write_68 : decode b_M_write 68 = .ok (.aload_n 0, 1) := by decide +kernel
theorem d_M_write_69 : decode b_M_write 69 = .ok (.getfield 43, 3) := by decide +kernel
theorem d_M_write_72 : decode b_M_write 72 = .ok (.iload_n 3, 1) := by decide +kernel
theorem d_M_write_73 : decode b_M_write 73 = .ok (.iaload, 1) := by decide +kernel
theorem d_M_write_74 : decode b_M_write 74 = .ok (.iconst 1, 1) := by decide +kernel
theorem d_M_write_75 : decode b_M_write 75 = .ok (.invokevirtual 354, 3) := by decide +kernel
theorem d_M_write_78 : decode b_M_write 78 = .ok (.aload_n 0, 1) := by decide +kernel
theorem d_M_write_79 : decode b_M_write 79 = .ok (.getfield 36, 3) := by decide +kernel
theorem d_M_write_82 : decode b_M_write 82 = .ok (.iload_n 3, 1) := by decide +kernel
theorem d_M_write_83 : decode b_M_write 83 = .ok (.baload, 1) := by decide +kernel
theorem d_M_write_84 : decode b_M_write 84 = .ok (.ifCond .eq 17, 3) := by decide +kernel
theorem d_M_write_87 : decode b_M_write 87 = .ok (.aload_n 0, 1) := by decide +kernel
theorem d_M_write_88 : decode b_M_write 88 = .ok (.getfield 49, 3) := by decide +kernel
theorem d_M_write_91 : decode b_M_write 91 = .ok (.iload_n 3, 1) := by decide +kernel
theorem d_M_write_92 : decode b_M_write 92 = .ok (.iaload, 1) := by decide +kernel
theorem d_M_write_93 : decode b_M_write 93 = .ok (.iconst (-1), 1) := by decide +kernel
theorem d_M_write_94 : decode b_M_write 94 = .ok (.if_icmp .eq 7, 3) := by decide +kernel
theorem d_M_write_97 : decode b_M_write 97 = .ok (.iconst (-1), 1) := by decide +kernel
theorem d_M_write_98 : decode b_M_write 98 = .ok (.goto 4, 3) := by decide +kernel
theorem d_M_write_101 : decode b_M_write 101 = .ok (.iload_n 3, 1) := by decide +kernel
theorem d_M_write_102 : decode b_M_write 102 = .ok (.istore 4, 2) := by decide +kernel
theorem d_M_write_104 : decode b_M_write 104 = .ok (.iload 4, 2) := by decide +kernel
theorem d_M_write_106 : decode b_M_write 106 = .ok (.ifCond .lt 38, 3) := by decide +kernel
theorem d_M_write_109 : decode b_M_write 109 = .ok (.iload 4, 2) := by decide +kernel
theorem d_M_write_111 : decode b_M_write 111 = .ok (.iload_n 1, 1) := by decide +kernel
theorem d_M_write_112 : decode b_M_write 112 = .ok (.if_icmp .eq 32, 3) := by decide +kernel
theorem d_M_write_115 : decode b_M_write 115 = .ok (.aload_n 0, 1) := by decide +kernel
theorem d_M_write_116 : decode b_M_write 116 = .ok (.getfield 52, 3) := by decide +kernel
theorem d_M_write_119 : decode b_M_write 119 = .ok (.iload 4, 2) := by decide +kernel
theorem d_M_write_121 : decode b_M_write 121 = .ok (.iaload, 1) := by decide +kernel
theorem d_M_write_122 : decode b_M_write 122 = .ok (.iconst (-1), 1) := by decide +kernel
theorem d_M_write_123 : decode b_M_write 123 = .ok (.if_icmp .ne 21, 3) := by decide +kernel
theorem d_M_write_126 : decode b_M_write 126 = .ok (.aload_n 0, 1) := by decide +kernel
theorem d_M_write_127 : decode b_M_write 127 = .ok (.getfield 46, 3) := by decide +kernel
theorem d_M_write_130 : decode b_M_write 130 = .ok (.iload 4, 2) := by decide +kernel
theorem d_M_write_132 : decode b_M_write 132 = .ok (.iaload, 1) := by decide +kernel
theorem d_M_write_133 : decode b_M_write 133 = .ok (.istore 4, 2) := by decide +kernel
theorem d_M_write_135 : decode b_M_write 135 = .ok (.aload_n 0, 1) := by decide +kernel
theorem d_M_write_136 : decode b_M_write 136 = .ok (.iload 4, 2) := by decide +kernel
theorem d_M_write_138 : decode b_M_write 138 = .ok (.invokevirtual 364, 3) := by decide +kernel
theorem d_M_write_141 : decode b_M_write 141 = .ok (.goto (-37), 3) := by decide +kernel
theorem d_M_write_144 : decode b_M_write 144 = .ok (.iinc 3 1, 3) := by decide +kernel
theorem d_M_write_147 : decode b_M_write 147 = .ok (.goto (-108), 3) := by decide +kernel
theorem d_M_write_150 : decode b_M_write 150 = .ok (.aload_n 0, 1) := by decide +kernel
theorem d_M_write_151 : decode b_M_write 151 = .ok (.getfield 337, 3) := by decide +kernel
theorem d_M_write_154 : decode b_M_write 154 = .ok (.ireturn, 1) := by decide +kernel
def w_M_write_J144  (v1 : Int32) (v2 : Int32) (K39 : Int32 → MPS → Prop) (post : Int32 → MPS → Prop) (v3 : Int32) (σ : MPS) : Prop := K39 (v3 + 1) σ
def w_M_write_L104  (v1 : Int32) (v2 : Int32) (v3 : Int32) (K39 : Int32 → MPS → Prop) (post : Int32 → MPS → Prop) : Nat → Int32 → MPS → Prop
  | 0, _, _ => False
  | n104 + 1, v4, σ => ((v4 < 0 → w_M_write_J144 v1 v2 (K39) post v3 σ) ∧ (¬ v4 < 0 → ((v4 = v1 → w_M_write_J144 v1 v2 (K39) post v3 σ) ∧ (¬ v4 = v1 → (vp_in v4 1000 ∧ ((((mp_next σ) v4.toNatClampNeg) = (-1) → (vp_in v4 1000 ∧ w_M_putEnding σ ((mp_up σ) v4.toNatClampNeg) (fun σ138 => w_M_write_L104 v1 v2 v3 (K39) post n104 ((mp_up σ) v4.toNatClampNeg) σ138))) ∧ (¬ ((mp_next σ) v4.toNatClampNeg) = (-1) → w_M_write_J144 v1 v2 (K39) post v3 σ)))))))
def w_M_write_J102  (v1 : Int32) (v2 : Int32) (K39 : Int32 → MPS → Prop) (post : Int32 → MPS → Prop) (v3 : Int32) (t0 : Int32) (σ : MPS) : Prop := (∃ n104, w_M_write_L104 v1 v2 v3 (K39) post n104 t0 σ)
def w_M_write_J101  (v1 : Int32) (v2 : Int32) (K39 : Int32 → MPS → Prop) (post : Int32 → MPS → Prop) (v3 : Int32) (σ : MPS) : Prop := w_M_write_J102 v1 v2 (K39) post v3 v3 σ
def w_M_write_J78  (v1 : Int32) (v2 : Int32) (K39 : Int32 → MPS → Prop) (post : Int32 → MPS → Prop) (v3 : Int32) (σ : MPS) : Prop := (vp_in v3 1000 ∧ ((((mp_isElement σ) v3.toNatClampNeg) = 0 → w_M_write_J101 v1 v2 (K39) post v3 σ) ∧ (¬ ((mp_isElement σ) v3.toNatClampNeg) = 0 → (vp_in v3 1000 ∧ ((((mp_first σ) v3.toNatClampNeg) = (-1) → w_M_write_J101 v1 v2 (K39) post v3 σ) ∧ (¬ ((mp_first σ) v3.toNatClampNeg) = (-1) → w_M_write_J102 v1 v2 (K39) post v3 (-1) σ))))))
def w_M_write_L39  (v1 : Int32) (v2 : Int32) (post : Int32 → MPS → Prop) : Nat → Int32 → MPS → Prop
  | 0, _, _ => False
  | n39 + 1, v3, σ => ((v2 < v3 → post (mp_outs σ) σ) ∧ (¬ v2 < v3 → (vp_in v3 1000 ∧ ((((mp_isElement σ) v3.toNatClampNeg) = 0 → (vp_in v3 1000 ∧ (vp_in v3 1000 ∧ w_M_putRow σ ((mp_begins σ) v3.toNatClampNeg) ((mp_ends σ) v3.toNatClampNeg) 1 (fun σ75 => w_M_write_J78 v1 v2 (w_M_write_L39 v1 v2 post n39) post v3 σ75)))) ∧ (¬ ((mp_isElement σ) v3.toNatClampNeg) = 0 → w_M_putBeginning σ v3 (fun σ55 => w_M_write_J78 v1 v2 (w_M_write_L39 v1 v2 post n39) post v3 σ55))))))
def w_M_write_J14   (post : Int32 → MPS → Prop) (v1 : Int32) (t0 : Int32) (σ : MPS) : Prop := (∀ σ14 : MPS, σ14 = ms_thrown σ t0 → (((mp_thrown σ14) ≤ 0 → (∀ σ28 : MPS, σ28 = ms_outs σ14 0 → w_M_lastIn σ28 v1 (fun r33 => (∃ n39, w_M_write_L39 v1 r33 post n39 v1 σ28)))) ∧ (¬ (mp_thrown σ14) ≤ 0 → post 0 σ14)))
def w_M_write  (σ : MPS) (x0 : Int32) (post : Int32 → MPS → Prop) : Prop := w_M_isNode σ x0 (fun r3 => ((r3 = 0 → w_M_write_J14 post x0 1 σ) ∧ (¬ r3 = 0 → w_M_write_J14 post x0 0 σ)))
set_option maxHeartbeats 4000000 in
set_option maxRecDepth 100000 in
theorem c_M_write (l : Launch) (md : MD) (sz : Nat) (σ : MPS) (x0 : Int32)  (post : Int32 → MPS → Prop) (hE : w_M_write σ x0 post) : Met l y_M_write ws_M_write { frames := 6, cells := 0, slots := 0, locals := 129 } (va_Pc [.ref (mA md 0), .int x0] (gM md σ sz)) (va_Qi post (eM md (va_A (MW md σ) sz)) (va_A (MW md σ) sz)) 0 0 (va_A (MW md σ) sz) := by
  refine Met.ofW (cc := b_M_write) (maxL := 5) (ret := (some .int)) (by decide) rfl ?_
  intro p e s m args below meth c s₁ B hml hv
  obtain ⟨rfl, hsz, hP, hK, hD0⟩ := hv
  have hx := B.exec
  have hb := B.bytes
  have hr := B.returns
  have hta : ∀ w ∈ aW, w.before _ s = true := fun w h => atoms_spec (ws := ws_M_write) B.pre w (List.mem_cons_of_mem _ h)
  have hown : s.vm.findClass R_M = some m.cls := findClass_of_methodNamed B.named
  have hlocks := B.notSynchronized
  subst hsz
  have hD := hD0.self (sz := s.heap.size)
  generalize hAe : va_A (MW md σ) s.heap.size = A at hD ⊢
  have hA : ∀ q : Nat, s.heap.size ≤ q → A q := fun q h => by rw [← hAe]; exact Or.inr h
  have hS : va_S A s.heap s.heap [] := va_S.rf
  have hP : va_P (mG md) classes (MW md σ) s.heap := hP
  have hl := lv_entry ([.ref (mA md 0), .int x0]) (n := 5) (Nat.le_of_ble_eq_true rfl)
  rw [lg_entry_eq]
  generalize (lg_sl ([.ref (mA md 0), .int x0]) ++ List.replicate (5 - (lg_sl ([.ref (mA md 0), .int x0])).length) Slot.unset).toArray = ls at hl ⊢
  have hl : lv_has ls 5 [(0, .ref (mA md 0)), (1, .int x0)] := hl
  have L39 : ∀ (v1 : Int32) (v2 : Int32) (n39 : Nat) (v3 : Int32) (σ : MPS) (H : Heap) (locs : List Loc) (hP : va_P (mG md) classes (MW md σ) H) (hD : va_D A (MW md σ)) (hS : va_S A s.heap H locs) (ls : Array Slot) (hl : lv_has ls 5 [(0, .ref (mA md 0)), (1, .int v1), (2, .int v2), (3, .int v3)]) (hE : w_M_write_L39 v1 v2 post n39 v3 σ), W p l e (headSpec ws_M_write { frames := 6, cells := 0, slots := 0, locals := 129 }).room s m ([.ref (mA md 0), .int x0] : List Value).toArray below meth c H locs 0 0 (MQ below (va_Qi post (eM md A) A) ([.ref (mA md 0), .int x0] : List Value).toArray s 0 0 A) (F0 m 39 ls []) := by
    intro v1 v2 n39
    induction n39 with
    | zero => intro v3 σ H locs hP hD hS ls hl hE; exact hE.elim
    | succ n39 ih39 =>
      have J144 : ∀ (v3 : Int32) (σ : MPS) (H : Heap) (locs : List Loc) (hP : va_P (mG md) classes (MW md σ) H) (hD : va_D A (MW md σ)) (hS : va_S A s.heap H locs) (ls : Array Slot) (hl : lv_has ls 5 [(0, .ref (mA md 0)), (1, .int v1), (2, .int v2), (3, .int v3)]) (hE : w_M_write_J144 v1 v2 (w_M_write_L39 v1 v2 post n39) post v3 σ), W p l e (headSpec ws_M_write { frames := 6, cells := 0, slots := 0, locals := 129 }).room s m ([.ref (mA md 0), .int x0] : List Value).toArray below meth c H locs 0 0 (MQ below (va_Qi post (eM md A) A) ([.ref (mA md 0), .int x0] : List Value).toArray s 0 0 A) (F0 m 144 ls []) := by
        intro  v3 σ H locs hP hD hS ls hl hE
        unfold w_M_write_J144 at hE
        refine lv_iinc (v := v3 + 1) (lv' := [(3, .int (v3 + 1)), (0, .ref (mA md 0)), (1, .int v1), (2, .int v2)]) hx hb d_M_write_144 hl (k := 3) rfl rfl (by decide) rfl (fun ls hl => ?_)
        refine lv_goto (tgt := 39) hx hb d_M_write_147 (by decide) ?_
        exact ih39 (v3 + 1) σ _ _ hP hD hS _ (lv_sub hl [1, 2, 3, 0] rfl) hE
      have L104 : ∀ (v3 : Int32) (n104 : Nat) (v4 : Int32) (σ : MPS) (H : Heap) (locs : List Loc) (hP : va_P (mG md) classes (MW md σ) H) (hD : va_D A (MW md σ)) (hS : va_S A s.heap H locs) (ls : Array Slot) (hl : lv_has ls 5 [(0, .ref (mA md 0)), (1, .int v1), (2, .int v2), (3, .int v3), (4, .int v4)]) (hE : w_M_write_L104 v1 v2 v3 (w_M_write_L39 v1 v2 post n39) post n104 v4 σ), W p l e (headSpec ws_M_write { frames := 6, cells := 0, slots := 0, locals := 129 }).room s m ([.ref (mA md 0), .int x0] : List Value).toArray below meth c H locs 0 0 (MQ below (va_Qi post (eM md A) A) ([.ref (mA md 0), .int x0] : List Value).toArray s 0 0 A) (F0 m 104 ls []) := by
        intro v3 n104
        induction n104 with
        | zero => intro v4 σ H locs hP hD hS ls hl hE; exact hE.elim
        | succ n104 ih104 =>
          intro v4 σ H locs hP hD hS ls hl hE
          unfold w_M_write_L104 at hE
          refine lv_iload hx hb d_M_write_104 (lv_at hl 4 rfl) ?_
          refine lv_if_lt (tgt := 144) hx hb d_M_write_106 (by decide) (fun cc106 => ?_) (fun cc106 => ?_)
          · have hE := hE.1 cc106
            exact J144  v3 σ _ _ hP hD hS _ (lv_sub hl [0, 1, 2, 3] rfl) hE
          · have hE := hE.2 cc106
            refine lv_iload hx hb d_M_write_109 (lv_at hl 4 rfl) ?_
            refine lv_iload_n hx hb d_M_write_111 rfl (lv_at hl 1 rfl) ?_
            refine lv_icmp_eq (tgt := 144) hx hb d_M_write_112 (by decide) (fun cc112 => ?_) (fun cc112 => ?_)
            · have hE := hE.1 cc112
              exact J144  v3 σ _ _ hP hD hS _ (lv_sub hl [0, 1, 2, 3] rfl) hE
            · have hE := hE.2 cc112
              refine lv_aload_n hx hb d_M_write_115 rfl (lv_at hl 0 rfl) ?_
              refine va_get (D := (mG md)) (ci := 7) (v := .ref (mA md 13)) (C := R_M) (T := F_M) (N := 37) hx hb hta i_M hown hK hP 0 rfl rfl 28 (by decide) (hta _ fl_M_52) (fun _ h9 => h9) rfl d_M_write_116 ?_
              refine lv_iload hx hb d_M_write_119 (lv_at hl 4 rfl) ?_
              obtain ⟨hI121, hE⟩ := hE
              refine va_iald (D := (mG md)) (f := mp_next σ) hx hb hK hP 13 0 rfl rfl hI121 d_M_write_121 ?_
              refine lv_iconst (v := -1) hx hb d_M_write_122 (by decide) ?_
              refine lv_icmp_ne (tgt := 144) hx hb d_M_write_123 (by decide) (fun cc123 => ?_) (fun cc123 => ?_)
              · have hE := hE.2 cc123
                exact J144  v3 σ _ _ hP hD hS _ (lv_sub hl [0, 1, 2, 3] rfl) hE
              · have hE := hE.1 cc123
                refine lv_aload_n hx hb d_M_write_126 rfl (lv_at hl 0 rfl) ?_
                refine va_get (D := (mG md)) (ci := 7) (v := .ref (mA md 11)) (C := R_M) (T := F_M) (N := 37) hx hb hta i_M hown hK hP 0 rfl rfl 26 (by decide) (hta _ fl_M_46) (fun _ h9 => h9) rfl d_M_write_127 ?_
                refine lv_iload hx hb d_M_write_130 (lv_at hl 4 rfl) ?_
                obtain ⟨hI132, hE⟩ := hE
                refine va_iald (D := (mG md)) (f := mp_up σ) hx hb hK hP 11 0 rfl rfl hI132 d_M_write_132 ?_
                refine lv_istore (lv' := [(4, .int ((mp_up σ) v4.toNatClampNeg)), (0, .ref (mA md 0)), (1, .int v1), (2, .int v2), (3, .int v3)]) hx hb d_M_write_133 hl (by decide) rfl (fun ls hl => ?_)
                refine lv_aload_n hx hb d_M_write_135 rfl (lv_at hl 1 rfl) ?_
                refine lv_iload hx hb d_M_write_136 (lv_at hl 0 rfl) ?_
                refine mm_v (b0 := (mA md 0)) (As := [.int ((mp_up σ) v4.toNatClampNeg)]) (rest := []) ⟨hx, hb, hml, hown, hta⟩ (c_M_putEnding l md _ σ ((mp_up σ) v4.toNatClampNeg) _ hE) ok_M_364 ⟨Nat.le_of_ble_eq_true rfl, Nat.le_of_ble_eq_true rfl⟩ (va_recv hK hP (ci := 7) (q0 := 0) rfl rfl) hP hK hD hS hA rfl hl.1 rfl (Nat.le_of_ble_eq_true rfl) d_M_write_138 ⟨Nat.zero_le _, Nat.zero_le _⟩ (fun σ138 H locs hE hP hD hS => ?_)
                refine lv_goto (tgt := 104) hx hb d_M_write_141 (by decide) ?_
                exact ih104 ((mp_up σ) v4.toNatClampNeg) σ138 _ _ hP hD hS _ (lv_sub hl [1, 2, 3, 4, 0] rfl) hE
      have J102 : ∀ (v3 : Int32) (t0 : Int32) (σ : MPS) (H : Heap) (locs : List Loc) (hP : va_P (mG md) classes (MW md σ) H) (hD : va_D A (MW md σ)) (hS : va_S A s.heap H locs) (ls : Array Slot) (hl : lv_has ls 5 [(0, .ref (mA md 0)), (1, .int v1), (2, .int v2), (3, .int v3)]) (hE : w_M_write_J102 v1 v2 (w_M_write_L39 v1 v2 post n39) post v3 t0 σ), W p l e (headSpec ws_M_write { frames := 6, cells := 0, slots := 0, locals := 129 }).room s m ([.ref (mA md 0), .int x0] : List Value).toArray below meth c H locs 0 0 (MQ below (va_Qi post (eM md A) A) ([.ref (mA md 0), .int x0] : List Value).toArray s 0 0 A) (F0 m 102 ls [.int t0]) := by
        intro  v3 t0 σ H locs hP hD hS ls hl hE
        unfold w_M_write_J102 at hE
        refine lv_istore (lv' := [(4, .int t0), (0, .ref (mA md 0)), (1, .int v1), (2, .int v2), (3, .int v3)]) hx hb d_M_write_102 hl (by decide) rfl (fun ls hl => ?_)
        obtain ⟨n104, hE⟩ := hE
        exact L104 v3 n104 t0 σ _ _ hP hD hS _ (lv_sub hl [1, 2, 3, 4, 0] rfl) hE
      have J101 : ∀ (v3 : Int32) (σ : MPS) (H : Heap) (locs : List Loc) (hP : va_P (mG md) classes (MW md σ) H) (hD : va_D A (MW md σ)) (hS : va_S A s.heap H locs) (ls : Array Slot) (hl : lv_has ls 5 [(0, .ref (mA md 0)), (1, .int v1), (2, .int v2), (3, .int v3)]) (hE : w_M_write_J101 v1 v2 (w_M_write_L39 v1 v2 post n39) post v3 σ), W p l e (headSpec ws_M_write { frames := 6, cells := 0, slots := 0, locals := 129 }).room s m ([.ref (mA md 0), .int x0] : List Value).toArray below meth c H locs 0 0 (MQ below (va_Qi post (eM md A) A) ([.ref (mA md 0), .int x0] : List Value).toArray s 0 0 A) (F0 m 101 ls []) := by
        intro  v3 σ H locs hP hD hS ls hl hE
        unfold w_M_write_J101 at hE
        refine lv_iload_n hx hb d_M_write_101 rfl (lv_at hl 3 rfl) ?_
        exact J102  v3 v3 σ _ _ hP hD hS _ (lv_sub hl [0, 1, 2, 3] rfl) hE
      have J78 : ∀ (v3 : Int32) (σ : MPS) (H : Heap) (locs : List Loc) (hP : va_P (mG md) classes (MW md σ) H) (hD : va_D A (MW md σ)) (hS : va_S A s.heap H locs) (ls : Array Slot) (hl : lv_has ls 5 [(0, .ref (mA md 0)), (1, .int v1), (2, .int v2), (3, .int v3)]) (hE : w_M_write_J78 v1 v2 (w_M_write_L39 v1 v2 post n39) post v3 σ), W p l e (headSpec ws_M_write { frames := 6, cells := 0, slots := 0, locals := 129 }).room s m ([.ref (mA md 0), .int x0] : List Value).toArray below meth c H locs 0 0 (MQ below (va_Qi post (eM md A) A) ([.ref (mA md 0), .int x0] : List Value).toArray s 0 0 A) (F0 m 78 ls []) := by
        intro  v3 σ H locs hP hD hS ls hl hE
        unfold w_M_write_J78 at hE
        refine lv_aload_n hx hb d_M_write_78 rfl (lv_at hl 0 rfl) ?_
        refine va_get (D := (mG md)) (ci := 7) (v := .ref (mA md 8)) (C := R_M) (T := F_M) (N := 37) hx hb hta i_M hown hK hP 0 rfl rfl 23 (by decide) (hta _ fl_M_36) (fun _ h9 => h9) rfl d_M_write_79 ?_
        refine lv_iload_n hx hb d_M_write_82 rfl (lv_at hl 3 rfl) ?_
        obtain ⟨hI83, hE⟩ := hE
        refine va_zald (D := (mG md)) (f := mp_isElement σ) hx hb hK hP 8 2 rfl rfl hI83 d_M_write_83 ?_
        refine lv_if_eq (tgt := 101) hx hb d_M_write_84 (by decide) (fun cc84 => ?_) (fun cc84 => ?_)
        · have hE := hE.1 cc84
          exact J101  v3 σ _ _ hP hD hS _ (lv_sub hl [0, 1, 2, 3] rfl) hE
        · have hE := hE.2 cc84
          refine lv_aload_n hx hb d_M_write_87 rfl (lv_at hl 0 rfl) ?_
          refine va_get (D := (mG md)) (ci := 7) (v := .ref (mA md 12)) (C := R_M) (T := F_M) (N := 37) hx hb hta i_M hown hK hP 0 rfl rfl 27 (by decide) (hta _ fl_M_49) (fun _ h9 => h9) rfl d_M_write_88 ?_
          refine lv_iload_n hx hb d_M_write_91 rfl (lv_at hl 3 rfl) ?_
          obtain ⟨hI92, hE⟩ := hE
          refine va_iald (D := (mG md)) (f := mp_first σ) hx hb hK hP 12 0 rfl rfl hI92 d_M_write_92 ?_
          refine lv_iconst (v := -1) hx hb d_M_write_93 (by decide) ?_
          refine lv_icmp_eq (tgt := 101) hx hb d_M_write_94 (by decide) (fun cc94 => ?_) (fun cc94 => ?_)
          · have hE := hE.1 cc94
            exact J101  v3 σ _ _ hP hD hS _ (lv_sub hl [0, 1, 2, 3] rfl) hE
          · have hE := hE.2 cc94
            refine lv_iconst (v := -1) hx hb d_M_write_97 (by decide) ?_
            refine lv_goto (tgt := 102) hx hb d_M_write_98 (by decide) ?_
            exact J102  v3 (-1) σ _ _ hP hD hS _ (lv_sub hl [0, 1, 2, 3] rfl) hE
      intro v3 σ H locs hP hD hS ls hl hE
      unfold w_M_write_L39 at hE
      refine lv_iload_n hx hb d_M_write_39 rfl (lv_at hl 3 rfl) ?_
      refine lv_iload_n hx hb d_M_write_40 rfl (lv_at hl 2 rfl) ?_
      refine lv_icmp_gt (tgt := 150) hx hb d_M_write_41 (by decide) (fun cc41 => ?_) (fun cc41 => ?_)
      · have hE := hE.1 cc41
        refine lv_aload_n hx hb d_M_write_150 rfl (lv_at hl 0 rfl) ?_
        refine va_get (D := (mG md)) (ci := 7) (v := .int (mp_outs σ)) (C := R_M) (T := F_M) (N := 37) hx hb hta i_M hown hK hP 0 rfl rfl 8 (by decide) (hta _ fl_M_337) (fun _ h9 => h9) rfl d_M_write_151 ?_
        exact W.iret (v := mp_outs σ) hx hb hr (fun t ht hW => ⟨⟨_, σ, rfl, hE, by rw [ht]; exact hP, va_K.moved hW.alike hK, hD⟩, hS.F ht⟩) hS.2.2 d_M_write_154
      · have hE := hE.2 cc41
        refine lv_aload_n hx hb d_M_write_44 rfl (lv_at hl 0 rfl) ?_
        refine va_get (D := (mG md)) (ci := 7) (v := .ref (mA md 8)) (C := R_M) (T := F_M) (N := 37) hx hb hta i_M hown hK hP 0 rfl rfl 23 (by decide) (hta _ fl_M_36) (fun _ h9 => h9) rfl d_M_write_45 ?_
        refine lv_iload_n hx hb d_M_write_48 rfl (lv_at hl 3 rfl) ?_
        obtain ⟨hI49, hE⟩ := hE
        refine va_zald (D := (mG md)) (f := mp_isElement σ) hx hb hK hP 8 2 rfl rfl hI49 d_M_write_49 ?_
        refine lv_if_eq (tgt := 61) hx hb d_M_write_50 (by decide) (fun cc50 => ?_) (fun cc50 => ?_)
        · have hE := hE.1 cc50
          refine lv_aload_n hx hb d_M_write_61 rfl (lv_at hl 0 rfl) ?_
          refine lv_aload_n hx hb d_M_write_62 rfl (lv_at hl 0 rfl) ?_
          refine va_get (D := (mG md)) (ci := 7) (v := .ref (mA md 9)) (C := R_M) (T := F_M) (N := 37) hx hb hta i_M hown hK hP 0 rfl rfl 24 (by decide) (hta _ fl_M_40) (fun _ h9 => h9) rfl d_M_write_63 ?_
          refine lv_iload_n hx hb d_M_write_66 rfl (lv_at hl 3 rfl) ?_
          obtain ⟨hI67, hE⟩ := hE
          refine va_iald (D := (mG md)) (f := mp_begins σ) hx hb hK hP 9 0 rfl rfl hI67 d_M_write_67 ?_
          refine lv_aload_n hx hb d_M_write_68 rfl (lv_at hl 0 rfl) ?_
          refine va_get (D := (mG md)) (ci := 7) (v := .ref (mA md 10)) (C := R_M) (T := F_M) (N := 37) hx hb hta i_M hown hK hP 0 rfl rfl 25 (by decide) (hta _ fl_M_43) (fun _ h9 => h9) rfl d_M_write_69 ?_
          refine lv_iload_n hx hb d_M_write_72 rfl (lv_at hl 3 rfl) ?_
          obtain ⟨hI73, hE⟩ := hE
          refine va_iald (D := (mG md)) (f := mp_ends σ) hx hb hK hP 10 0 rfl rfl hI73 d_M_write_73 ?_
          refine lv_iconst (v := 1) hx hb d_M_write_74 (by decide) ?_
          refine mm_v (b0 := (mA md 0)) (As := [.int ((mp_begins σ) v3.toNatClampNeg), .int ((mp_ends σ) v3.toNatClampNeg), .int 1]) (rest := []) ⟨hx, hb, hml, hown, hta⟩ (c_M_putRow l md _ σ ((mp_begins σ) v3.toNatClampNeg) ((mp_ends σ) v3.toNatClampNeg) 1 _ hE) ok_M_354 ⟨Nat.le_of_ble_eq_true rfl, Nat.le_of_ble_eq_true rfl⟩ (va_recv hK hP (ci := 7) (q0 := 0) rfl rfl) hP hK hD hS hA rfl hl.1 rfl (Nat.le_of_ble_eq_true rfl) d_M_write_75 ⟨Nat.zero_le _, Nat.zero_le _⟩ (fun σ75 H locs hE hP hD hS => ?_)
          exact J78  v3 σ75 _ _ hP hD hS _ (lv_sub hl [0, 1, 2, 3] rfl) hE
        · have hE := hE.2 cc50
          refine lv_aload_n hx hb d_M_write_53 rfl (lv_at hl 0 rfl) ?_
          refine lv_iload_n hx hb d_M_write_54 rfl (lv_at hl 3 rfl) ?_
          refine mm_v (b0 := (mA md 0)) (As := [.int v3]) (rest := []) ⟨hx, hb, hml, hown, hta⟩ (c_M_putBeginning l md _ σ v3 _ hE) ok_M_361 ⟨Nat.le_of_ble_eq_true rfl, Nat.le_of_ble_eq_true rfl⟩ (va_recv hK hP (ci := 7) (q0 := 0) rfl rfl) hP hK hD hS hA rfl hl.1 rfl (Nat.le_of_ble_eq_true rfl) d_M_write_55 ⟨Nat.zero_le _, Nat.zero_le _⟩ (fun σ55 H locs hE hP hD hS => ?_)
          refine lv_goto (tgt := 78) hx hb d_M_write_58 (by decide) ?_
          exact J78  v3 σ55 _ _ hP hD hS _ (lv_sub hl [0, 1, 2, 3] rfl) hE
  have J14 : ∀ (v1 : Int32) (t0 : Int32) (σ : MPS) (H : Heap) (locs : List Loc) (hP : va_P (mG md) classes (MW md σ) H) (hD : va_D A (MW md σ)) (hS : va_S A s.heap H locs) (ls : Array Slot) (hl : lv_has ls 5 [(0, .ref (mA md 0)), (1, .int v1)]) (hE : w_M_write_J14 post v1 t0 σ), W p l e (headSpec ws_M_write { frames := 6, cells := 0, slots := 0, locals := 129 }).room s m ([.ref (mA md 0), .int x0] : List Value).toArray below meth c H locs 0 0 (MQ below (va_Qi post (eM md A) A) ([.ref (mA md 0), .int x0] : List Value).toArray s 0 0 A) (F0 m 14 ls [.int t0, .ref (mA md 0)]) := by
    intro  v1 t0 σ H locs hP hD hS ls hl hE
    unfold w_M_write_J14 at hE
    refine va_put (D := (mG md)) (ci := 7) (v := .int t0) (ty := .int) (C := R_M) (T := F_M) (N := 37) hx hb hta i_M t_M t_M_ok n_M hown hK hP hD hS 0 rfl rfl 0 (by decide) (hta _ fl_M_70) (fun _ h9 => h9) rfl (by decide +kernel) rfl rfl (Nat.le_of_ble_eq_true rfl) d_M_write_14 (fun H locs hP hD hS => ?_)
    have hP := mwP_thrown hP
    have hD := mwD_thrown hD
    have hE := hE _ rfl
    generalize (ms_thrown σ t0 : MPS) = σ14 at hP hD hE
    refine lv_aload_n hx hb d_M_write_17 rfl (lv_at hl 0 rfl) ?_
    refine va_get (D := (mG md)) (ci := 7) (v := .int (mp_thrown σ14)) (C := R_M) (T := F_M) (N := 37) hx hb hta i_M hown hK hP 0 rfl rfl 0 (by decide) (hta _ fl_M_70) (fun _ h9 => h9) rfl d_M_write_18 ?_
    refine lv_if_le (tgt := 26) hx hb d_M_write_21 (by decide) (fun cc21 => ?_) (fun cc21 => ?_)
    · have hE := hE.1 cc21
      refine lv_aload_n hx hb d_M_write_26 rfl (lv_at hl 0 rfl) ?_
      refine lv_iconst (v := 0) hx hb d_M_write_27 (by decide) ?_
      refine va_put (D := (mG md)) (ci := 7) (v := .int 0) (ty := .int) (C := R_M) (T := F_M) (N := 37) hx hb hta i_M t_M t_M_ok n_M hown hK hP hD hS 0 rfl rfl 8 (by decide) (hta _ fl_M_337) (fun _ h9 => h9) rfl (by decide +kernel) rfl rfl (Nat.le_of_ble_eq_true rfl) d_M_write_28 (fun H locs hP hD hS => ?_)
      have hP := mwP_outs hP
      have hD := mwD_outs hD
      have hE := hE _ rfl
      generalize (ms_outs σ14 0 : MPS) = σ28 at hP hD hE
      refine lv_aload_n hx hb d_M_write_31 rfl (lv_at hl 0 rfl) ?_
      refine lv_iload_n hx hb d_M_write_32 rfl (lv_at hl 1 rfl) ?_
      refine ro_V (b0 := (mA md 0)) (As := [.int v1]) (rest := []) ⟨hx, hb, hml, hown, hta⟩ (c_M_lastIn l md σ28 v1  _ hE) ok_M_351 ⟨Nat.le_of_ble_eq_true rfl, Nat.le_of_ble_eq_true rfl⟩ blind_rM (va_recv hK hP (ci := 7) (q0 := 0) rfl rfl) (rM_of hP hK) rfl hl.1 rfl (Nat.le_of_ble_eq_true rfl) d_M_write_33 ⟨Nat.zero_le _, Nat.zero_le _⟩ (fun r33 hE => ?_)
      refine lv_istore_n (lv' := [(2, .int r33), (0, .ref (mA md 0)), (1, .int v1)]) hx hb d_M_write_36 rfl hl (by decide) rfl (fun ls hl => ?_)
      refine lv_iload_n hx hb d_M_write_37 rfl (lv_at hl 2 rfl) ?_
      refine lv_istore_n (lv' := [(3, .int v1), (2, .int r33), (0, .ref (mA md 0)), (1, .int v1)]) hx hb d_M_write_38 rfl hl (by decide) rfl (fun ls hl => ?_)
      obtain ⟨n39, hE⟩ := hE
      exact L39 v1 r33 n39 v1 σ28 _ _ hP hD hS _ (lv_sub hl [2, 3, 1, 0] rfl) hE
    · have hE := hE.2 cc21
      refine lv_iconst (v := 0) hx hb d_M_write_24 (by decide) ?_
      exact W.iret (v := 0) hx hb hr (fun t ht hW => ⟨⟨_, σ14, rfl, hE, by rw [ht]; exact hP, va_K.moved hW.alike hK, hD⟩, hS.F ht⟩) hS.2.2 d_M_write_25
  unfold w_M_write at hE
  refine lv_aload_n hx hb d_M_write_0 rfl (lv_at hl 0 rfl) ?_
  refine lv_aload_n hx hb d_M_write_1 rfl (lv_at hl 0 rfl) ?_
  refine lv_iload_n hx hb d_M_write_2 rfl (lv_at hl 1 rfl) ?_
  refine ro_V (b0 := (mA md 0)) (As := [.int x0]) (rest := [.ref (mA md 0)]) ⟨hx, hb, hml, hown, hta⟩ (c_M_isNode l md σ x0  _ hE) ok_M_323 ⟨Nat.le_of_ble_eq_true rfl, Nat.le_of_ble_eq_true rfl⟩ blind_rM (va_recv hK hP (ci := 7) (q0 := 0) rfl rfl) (rM_of hP hK) rfl hl.1 rfl (Nat.le_of_ble_eq_true rfl) d_M_write_3 ⟨Nat.zero_le _, Nat.zero_le _⟩ (fun r3 hE => ?_)
  refine lv_if_eq (tgt := 13) hx hb d_M_write_6 (by decide) (fun cc6 => ?_) (fun cc6 => ?_)
  · have hE := hE.1 cc6
    refine lv_iconst (v := 1) hx hb d_M_write_13 (by decide) ?_
    exact J14  x0 1 σ _ _ hP hD hS _ (lv_sub hl [0, 1] rfl) hE
  · have hE := hE.2 cc6
    refine lv_iconst (v := 0) hx hb d_M_write_9 (by decide) ?_
    refine lv_goto (tgt := 14) hx hb d_M_write_10 (by decide) ?_
    exact J14  x0 0 σ _ _ hP hD hS _ (lv_sub hl [0, 1] rfl) hE

theorem d_M_output_0 : decode b_M_output 0 = .ok (.aload_n 0, 1) := by decide +kernel
theorem d_M_output_1 : decode b_M_output 1 = .ok (.iconst 0, 1) := by decide +kernel
theorem d_M_output_2 : decode b_M_output 2 = .ok (.putfield 70, 3) := by decide +kernel
theorem d_M_output_5 : decode b_M_output 5 = .ok (.iload_n 1, 1) := by decide +kernel
theorem d_M_output_6 : decode b_M_output 6 = .ok (.ifCond .lt 24, 3) := by decide +kernel
theorem d_M_output_9 : decode b_M_output 9 = .ok (.iload_n 1, 1) := by decide +kernel
theorem d_M_output_10 : decode b_M_output 10 = .ok (.aload_n 0, 1) := by decide +kernel
theorem d_M_output_11 : decode b_M_output 11 = .ok (.getfield 337, 3) := by decide +kernel
theorem d_M_output_14 : decode b_M_output 14 = .ok (.if_icmp .ge 16, 3) := by decide +kernel
theorem d_M_output_17 : decode b_M_output 17 = .ok (.aload_n 0, 1) := by decide +kernel
theorem d_M_output_18 : decode b_M_output 18 = .ok (.getfield 19, 3) := by decide +kernel
theorem d_M_output_21 : decode b_M_output 21 = .ok (.iload_n 1, 1) := by decide +kernel
theorem d_M_output_22 : decode b_M_output 22 = .ok (.baload, 1) := by decide +kernel
theorem d_M_output_23 : decode b_M_output 23 = .ok (.sipush 255, 3) := by decide +kernel
theorem d_M_output_26 : decode b_M_output 26 = .ok (.iand, 1) := by decide +kernel
theorem d_M_output_27 : decode b_M_output 27 = .ok (.goto 4, 3) := by decide +kernel
theorem d_M_output_30 : decode b_M_output 30 = .ok (.iconst (-1), 1) := by decide +kernel
theorem d_M_output_31 : decode b_M_output 31 = .ok (.ireturn, 1) := by decide +kernel
def w_M_output  (σ : MPS) (x0 : Int32) (post : Int32 → MPS → Prop) : Prop := (∀ σ2 : MPS, σ2 = ms_thrown σ 0 → ((x0 < 0 → post (-1) σ2) ∧ (¬ x0 < 0 → (((mp_outs σ2) ≤ x0 → post (-1) σ2) ∧ (¬ (mp_outs σ2) ≤ x0 → (vp_in x0 24000 ∧ post (((mp_output σ2) x0.toNatClampNeg) &&& 255) σ2))))))
set_option maxHeartbeats 4000000 in
set_option maxRecDepth 100000 in
theorem c_M_output (l : Launch) (md : MD) (sz : Nat) (σ : MPS) (x0 : Int32)  (post : Int32 → MPS → Prop) (hE : w_M_output σ x0 post) : Met l y_M_output ws_M_output { frames := 0, cells := 0, slots := 0, locals := 0 } (va_Pc [.ref (mA md 0), .int x0] (gM md σ sz)) (va_Qi post (eM md (va_A (MW md σ) sz)) (va_A (MW md σ) sz)) 0 0 (va_A (MW md σ) sz) := by
  refine Met.ofW (cc := b_M_output) (maxL := 2) (ret := (some .int)) (by decide) rfl ?_
  intro p e s m args below meth c s₁ B hml hv
  obtain ⟨rfl, hsz, hP, hK, hD0⟩ := hv
  have hx := B.exec
  have hb := B.bytes
  have hr := B.returns
  have hta : ∀ w ∈ aW, w.before _ s = true := fun w h => atoms_spec (ws := ws_M_output) B.pre w (List.mem_cons_of_mem _ h)
  have hown : s.vm.findClass R_M = some m.cls := findClass_of_methodNamed B.named
  have hlocks := B.notSynchronized
  subst hsz
  have hD := hD0.self (sz := s.heap.size)
  generalize hAe : va_A (MW md σ) s.heap.size = A at hD ⊢
  have hA : ∀ q : Nat, s.heap.size ≤ q → A q := fun q h => by rw [← hAe]; exact Or.inr h
  have hS : va_S A s.heap s.heap [] := va_S.rf
  have hP : va_P (mG md) classes (MW md σ) s.heap := hP
  have hl := lv_entry ([.ref (mA md 0), .int x0]) (n := 2) (Nat.le_of_ble_eq_true rfl)
  rw [lg_entry_eq]
  generalize (lg_sl ([.ref (mA md 0), .int x0]) ++ List.replicate (2 - (lg_sl ([.ref (mA md 0), .int x0])).length) Slot.unset).toArray = ls at hl ⊢
  have hl : lv_has ls 2 [(0, .ref (mA md 0)), (1, .int x0)] := hl
  unfold w_M_output at hE
  refine lv_aload_n hx hb d_M_output_0 rfl (lv_at hl 0 rfl) ?_
  refine lv_iconst (v := 0) hx hb d_M_output_1 (by decide) ?_
  refine va_put (D := (mG md)) (ci := 7) (v := .int 0) (ty := .int) (C := R_M) (T := F_M) (N := 37) hx hb hta i_M t_M t_M_ok n_M hown hK hP hD hS 0 rfl rfl 0 (by decide) (hta _ fl_M_70) (fun _ h9 => h9) rfl (by decide +kernel) rfl rfl (Nat.le_of_ble_eq_true rfl) d_M_output_2 (fun H locs hP hD hS => ?_)
  have hP := mwP_thrown hP
  have hD := mwD_thrown hD
  have hE := hE _ rfl
  generalize (ms_thrown σ 0 : MPS) = σ2 at hP hD hE
  refine lv_iload_n hx hb d_M_output_5 rfl (lv_at hl 1 rfl) ?_
  refine lv_if_lt (tgt := 30) hx hb d_M_output_6 (by decide) (fun cc6 => ?_) (fun cc6 => ?_)
  · have hE := hE.1 cc6
    refine lv_iconst (v := -1) hx hb d_M_output_30 (by decide) ?_
    exact W.iret (v := (-1)) hx hb hr (fun t ht hW => ⟨⟨_, σ2, rfl, hE, by rw [ht]; exact hP, va_K.moved hW.alike hK, hD⟩, hS.F ht⟩) hS.2.2 d_M_output_31
  · have hE := hE.2 cc6
    refine lv_iload_n hx hb d_M_output_9 rfl (lv_at hl 1 rfl) ?_
    refine lv_aload_n hx hb d_M_output_10 rfl (lv_at hl 0 rfl) ?_
    refine va_get (D := (mG md)) (ci := 7) (v := .int (mp_outs σ2)) (C := R_M) (T := F_M) (N := 37) hx hb hta i_M hown hK hP 0 rfl rfl 8 (by decide) (hta _ fl_M_337) (fun _ h9 => h9) rfl d_M_output_11 ?_
    refine lv_icmp_ge (tgt := 30) hx hb d_M_output_14 (by decide) (fun cc14 => ?_) (fun cc14 => ?_)
    · have hE := hE.1 cc14
      refine lv_iconst (v := -1) hx hb d_M_output_30 (by decide) ?_
      exact W.iret (v := (-1)) hx hb hr (fun t ht hW => ⟨⟨_, σ2, rfl, hE, by rw [ht]; exact hP, va_K.moved hW.alike hK, hD⟩, hS.F ht⟩) hS.2.2 d_M_output_31
    · have hE := hE.2 cc14
      refine lv_aload_n hx hb d_M_output_17 rfl (lv_at hl 0 rfl) ?_
      refine va_get (D := (mG md)) (ci := 7) (v := .ref (mA md 4)) (C := R_M) (T := F_M) (N := 37) hx hb hta i_M hown hK hP 0 rfl rfl 4 (by decide) (hta _ fl_M_19) (fun _ h9 => h9) rfl d_M_output_18 ?_
      refine lv_iload_n hx hb d_M_output_21 rfl (lv_at hl 1 rfl) ?_
      obtain ⟨hI22, hE⟩ := hE
      refine va_bald (D := (mG md)) (f := mp_output σ2) hx hb hK hP 4 1 rfl rfl hI22 d_M_output_22 ?_
      refine lv_sipush (v := 255) hx hb d_M_output_23 (by decide) ?_
      refine lv_iand hx hb d_M_output_26 ?_
      refine lv_goto (tgt := 31) hx hb d_M_output_27 (by decide) ?_
      exact W.iret (v := ((mp_output σ2) x0.toNatClampNeg) &&& 255) hx hb hr (fun t ht hW => ⟨⟨_, σ2, rfl, hE, by rw [ht]; exact hP, va_K.moved hW.alike hK, hD⟩, hS.F ht⟩) hS.2.2 d_M_output_31

theorem d_M_about_0 : decode b_M_about 0 = .ok (.aload_n 0, 1) := by decide +kernel
theorem d_M_about_1 : decode b_M_about 1 = .ok (.iconst 0, 1) := by decide +kernel
theorem d_M_about_2 : decode b_M_about 2 = .ok (.putfield 70, 3) := by decide +kernel
theorem d_M_about_5 : decode b_M_about 5 = .ok (.iload_n 1, 1) := by decide +kernel
theorem d_M_about_6 : decode b_M_about 6 = .ok (.ifCond .ne 10, 3) := by decide +kernel
theorem d_M_about_9 : decode b_M_about 9 = .ok (.aload_n 0, 1) := by decide +kernel
theorem d_M_about_10 : decode b_M_about 10 = .ok (.getfield 73, 3) := by decide +kernel
theorem d_M_about_13 : decode b_M_about 13 = .ok (.goto 62, 3) := by decide +kernel
theorem d_M_about_16 : decode b_M_about 16 = .ok (.iload_n 1, 1) := by decide +kernel
theorem d_M_about_17 : decode b_M_about 17 = .ok (.iconst 1, 1) := by decide +kernel
theorem d_M_about_18 : decode b_M_about 18 = .ok (.if_icmp .ne 21, 3) := by decide +kernel
theorem d_M_about_21 : decode b_M_about 21 = .ok (.aload_n 0, 1) := by decide +kernel
theorem d_M_about_22 : decode b_M_about 22 = .ok (.getfield 214, 3) := by decide +kernel
theorem d_M_about_25 : decode b_M_about 25 = .ok (.ifCond .eq 10, 3) := by decide +kernel
theorem d_M_about_28 : decode b_M_about 28 = .ok (.aload_n 0, 1) := by decide +kernel
theorem d_M_about_29 : decode b_M_about 29 = .ok (.getfield 175, 3) := by decide +kernel
theorem d_M_about_32 : decode b_M_about 32 = .ok (.goto 43, 3) := by decide +kernel
theorem d_M_about_35 : decode b_M_about 35 = .ok (.iconst 0, 1) := by decide +kernel
theorem d_M_about_36 : decode b_M_about 36 = .ok (.goto 39, 3) := by decide +kernel
theorem d_M_about_39 : decode b_M_about 39 = .ok (.iload_n 1, 1) := by decide +kernel
theorem d_M_about_40 : decode b_M_about 40 = .ok (.iconst 2, 1) := by decide +kernel
theorem d_M_about_41 : decode b_M_about 41 = .ok (.if_icmp .ne 21, 3) := by decide +kernel
theorem d_M_about_44 : decode b_M_about 44 = .ok (.aload_n 0, 1) := by decide +kernel
theorem d_M_about_45 : decode b_M_about 45 = .ok (.getfield 214, 3) := by decide +kernel
theorem d_M_about_48 : decode b_M_about 48 = .ok (.ifCond .eq 10, 3) := by decide +kernel
theorem d_M_about_51 : decode b_M_about 51 = .ok (.aload_n 0, 1) := by decide +kernel
theorem d_M_about_52 : decode b_M_about 52 = .ok (.getfield 181, 3) := by decide +kernel
theorem d_M_about_55 : decode b_M_about 55 = .ok (.goto 20, 3) := by decide +kernel
theorem d_M_about_58 : decode b_M_about 58 = .ok (.iconst 0, 1) := by decide +kernel
theorem d_M_about_59 : decode b_M_about 59 = .ok (.goto 16, 3) := by decide +kernel
theorem d_M_about_62 : decode b_M_about 62 = .ok (.iload_n 1, 1) := by decide +kernel
theorem d_M_about_63 : decode b_M_about 63 = .ok (.iconst 3, 1) := by decide +kernel
theorem d_M_about_64 : decode b_M_about 64 = .ok (.if_icmp .ne 10, 3) := by decide +kernel
theorem d_M_about_67 : decode b_M_about 67 = .ok (.aload_n 0, 1) := by decide +kernel
theorem d_M_about_68 : decode b_M_about 68 = .ok (.getfield 337, 3) := by decide +kernel
theorem d_M_about_71 : decode b_M_about 71 = .ok (.goto 4, 3) := by decide +kernel
theorem d_M_about_74 : decode b_M_about 74 = .ok (.iconst (-1), 1) := by decide +kernel
theorem d_M_about_75 : decode b_M_about 75 = .ok (.ireturn, 1) := by decide +kernel
def w_M_about  (σ : MPS) (x0 : Int32) (post : Int32 → MPS → Prop) : Prop := (∀ σ2 : MPS, σ2 = ms_thrown σ 0 → ((x0 = 0 → post (mp_taped σ2) σ2) ∧ (¬ x0 = 0 → ((x0 = 1 → (((mp_known σ2) = 0 → post 0 σ2) ∧ (¬ (mp_known σ2) = 0 → post (mp_nodes σ2) σ2))) ∧ (¬ x0 = 1 → ((x0 = 2 → (((mp_known σ2) = 0 → post 0 σ2) ∧ (¬ (mp_known σ2) = 0 → post (mp_elements σ2) σ2))) ∧ (¬ x0 = 2 → ((x0 = 3 → post (mp_outs σ2) σ2) ∧ (¬ x0 = 3 → post (-1) σ2)))))))))
set_option maxHeartbeats 4000000 in
set_option maxRecDepth 100000 in
theorem c_M_about (l : Launch) (md : MD) (sz : Nat) (σ : MPS) (x0 : Int32)  (post : Int32 → MPS → Prop) (hE : w_M_about σ x0 post) : Met l y_M_about ws_M_about { frames := 0, cells := 0, slots := 0, locals := 0 } (va_Pc [.ref (mA md 0), .int x0] (gM md σ sz)) (va_Qi post (eM md (va_A (MW md σ) sz)) (va_A (MW md σ) sz)) 0 0 (va_A (MW md σ) sz) := by
  refine Met.ofW (cc := b_M_about) (maxL := 2) (ret := (some .int)) (by decide) rfl ?_
  intro p e s m args below meth c s₁ B hml hv
  obtain ⟨rfl, hsz, hP, hK, hD0⟩ := hv
  have hx := B.exec
  have hb := B.bytes
  have hr := B.returns
  have hta : ∀ w ∈ aW, w.before _ s = true := fun w h => atoms_spec (ws := ws_M_about) B.pre w (List.mem_cons_of_mem _ h)
  have hown : s.vm.findClass R_M = some m.cls := findClass_of_methodNamed B.named
  have hlocks := B.notSynchronized
  subst hsz
  have hD := hD0.self (sz := s.heap.size)
  generalize hAe : va_A (MW md σ) s.heap.size = A at hD ⊢
  have hA : ∀ q : Nat, s.heap.size ≤ q → A q := fun q h => by rw [← hAe]; exact Or.inr h
  have hS : va_S A s.heap s.heap [] := va_S.rf
  have hP : va_P (mG md) classes (MW md σ) s.heap := hP
  have hl := lv_entry ([.ref (mA md 0), .int x0]) (n := 2) (Nat.le_of_ble_eq_true rfl)
  rw [lg_entry_eq]
  generalize (lg_sl ([.ref (mA md 0), .int x0]) ++ List.replicate (2 - (lg_sl ([.ref (mA md 0), .int x0])).length) Slot.unset).toArray = ls at hl ⊢
  have hl : lv_has ls 2 [(0, .ref (mA md 0)), (1, .int x0)] := hl
  unfold w_M_about at hE
  refine lv_aload_n hx hb d_M_about_0 rfl (lv_at hl 0 rfl) ?_
  refine lv_iconst (v := 0) hx hb d_M_about_1 (by decide) ?_
  refine va_put (D := (mG md)) (ci := 7) (v := .int 0) (ty := .int) (C := R_M) (T := F_M) (N := 37) hx hb hta i_M t_M t_M_ok n_M hown hK hP hD hS 0 rfl rfl 0 (by decide) (hta _ fl_M_70) (fun _ h9 => h9) rfl (by decide +kernel) rfl rfl (Nat.le_of_ble_eq_true rfl) d_M_about_2 (fun H locs hP hD hS => ?_)
  have hP := mwP_thrown hP
  have hD := mwD_thrown hD
  have hE := hE _ rfl
  generalize (ms_thrown σ 0 : MPS) = σ2 at hP hD hE
  refine lv_iload_n hx hb d_M_about_5 rfl (lv_at hl 1 rfl) ?_
  refine lv_if_ne (tgt := 16) hx hb d_M_about_6 (by decide) (fun cc6 => ?_) (fun cc6 => ?_)
  · have hE := hE.2 cc6
    refine lv_iload_n hx hb d_M_about_16 rfl (lv_at hl 1 rfl) ?_
    refine lv_iconst (v := 1) hx hb d_M_about_17 (by decide) ?_
    refine lv_icmp_ne (tgt := 39) hx hb d_M_about_18 (by decide) (fun cc18 => ?_) (fun cc18 => ?_)
    · have hE := hE.2 cc18
      refine lv_iload_n hx hb d_M_about_39 rfl (lv_at hl 1 rfl) ?_
      refine lv_iconst (v := 2) hx hb d_M_about_40 (by decide) ?_
      refine lv_icmp_ne (tgt := 62) hx hb d_M_about_41 (by decide) (fun cc41 => ?_) (fun cc41 => ?_)
      · have hE := hE.2 cc41
        refine lv_iload_n hx hb d_M_about_62 rfl (lv_at hl 1 rfl) ?_
        refine lv_iconst (v := 3) hx hb d_M_about_63 (by decide) ?_
        refine lv_icmp_ne (tgt := 74) hx hb d_M_about_64 (by decide) (fun cc64 => ?_) (fun cc64 => ?_)
        · have hE := hE.2 cc64
          refine lv_iconst (v := -1) hx hb d_M_about_74 (by decide) ?_
          exact W.iret (v := (-1)) hx hb hr (fun t ht hW => ⟨⟨_, σ2, rfl, hE, by rw [ht]; exact hP, va_K.moved hW.alike hK, hD⟩, hS.F ht⟩) hS.2.2 d_M_about_75
        · have hE := hE.1 cc64
          refine lv_aload_n hx hb d_M_about_67 rfl (lv_at hl 0 rfl) ?_
          refine va_get (D := (mG md)) (ci := 7) (v := .int (mp_outs σ2)) (C := R_M) (T := F_M) (N := 37) hx hb hta i_M hown hK hP 0 rfl rfl 8 (by decide) (hta _ fl_M_337) (fun _ h9 => h9) rfl d_M_about_68 ?_
          refine lv_goto (tgt := 75) hx hb d_M_about_71 (by decide) ?_
          exact W.iret (v := mp_outs σ2) hx hb hr (fun t ht hW => ⟨⟨_, σ2, rfl, hE, by rw [ht]; exact hP, va_K.moved hW.alike hK, hD⟩, hS.F ht⟩) hS.2.2 d_M_about_75
      · have hE := hE.1 cc41
        refine lv_aload_n hx hb d_M_about_44 rfl (lv_at hl 0 rfl) ?_
        refine va_get (D := (mG md)) (ci := 7) (v := .int (mp_known σ2)) (C := R_M) (T := F_M) (N := 37) hx hb hta i_M hown hK hP 0 rfl rfl 11 (by decide) (hta _ fl_M_214) (fun _ h9 => h9) rfl d_M_about_45 ?_
        refine lv_if_eq (tgt := 58) hx hb d_M_about_48 (by decide) (fun cc48 => ?_) (fun cc48 => ?_)
        · have hE := hE.1 cc48
          refine lv_iconst (v := 0) hx hb d_M_about_58 (by decide) ?_
          refine lv_goto (tgt := 75) hx hb d_M_about_59 (by decide) ?_
          exact W.iret (v := 0) hx hb hr (fun t ht hW => ⟨⟨_, σ2, rfl, hE, by rw [ht]; exact hP, va_K.moved hW.alike hK, hD⟩, hS.F ht⟩) hS.2.2 d_M_about_75
        · have hE := hE.2 cc48
          refine lv_aload_n hx hb d_M_about_51 rfl (lv_at hl 0 rfl) ?_
          refine va_get (D := (mG md)) (ci := 7) (v := .int (mp_elements σ2)) (C := R_M) (T := F_M) (N := 37) hx hb hta i_M hown hK hP 0 rfl rfl 14 (by decide) (hta _ fl_M_181) (fun _ h9 => h9) rfl d_M_about_52 ?_
          refine lv_goto (tgt := 75) hx hb d_M_about_55 (by decide) ?_
          exact W.iret (v := mp_elements σ2) hx hb hr (fun t ht hW => ⟨⟨_, σ2, rfl, hE, by rw [ht]; exact hP, va_K.moved hW.alike hK, hD⟩, hS.F ht⟩) hS.2.2 d_M_about_75
    · have hE := hE.1 cc18
      refine lv_aload_n hx hb d_M_about_21 rfl (lv_at hl 0 rfl) ?_
      refine va_get (D := (mG md)) (ci := 7) (v := .int (mp_known σ2)) (C := R_M) (T := F_M) (N := 37) hx hb hta i_M hown hK hP 0 rfl rfl 11 (by decide) (hta _ fl_M_214) (fun _ h9 => h9) rfl d_M_about_22 ?_
      refine lv_if_eq (tgt := 35) hx hb d_M_about_25 (by decide) (fun cc25 => ?_) (fun cc25 => ?_)
      · have hE := hE.1 cc25
        refine lv_iconst (v := 0) hx hb d_M_about_35 (by decide) ?_
        refine lv_goto (tgt := 75) hx hb d_M_about_36 (by decide) ?_
        exact W.iret (v := 0) hx hb hr (fun t ht hW => ⟨⟨_, σ2, rfl, hE, by rw [ht]; exact hP, va_K.moved hW.alike hK, hD⟩, hS.F ht⟩) hS.2.2 d_M_about_75
      · have hE := hE.2 cc25
        refine lv_aload_n hx hb d_M_about_28 rfl (lv_at hl 0 rfl) ?_
        refine va_get (D := (mG md)) (ci := 7) (v := .int (mp_nodes σ2)) (C := R_M) (T := F_M) (N := 37) hx hb hta i_M hown hK hP 0 rfl rfl 32 (by decide) (hta _ fl_M_175) (fun _ h9 => h9) rfl d_M_about_29 ?_
        refine lv_goto (tgt := 75) hx hb d_M_about_32 (by decide) ?_
        exact W.iret (v := mp_nodes σ2) hx hb hr (fun t ht hW => ⟨⟨_, σ2, rfl, hE, by rw [ht]; exact hP, va_K.moved hW.alike hK, hD⟩, hS.F ht⟩) hS.2.2 d_M_about_75
  · have hE := hE.1 cc6
    refine lv_aload_n hx hb d_M_about_9 rfl (lv_at hl 0 rfl) ?_
    refine va_get (D := (mG md)) (ci := 7) (v := .int (mp_taped σ2)) (C := R_M) (T := F_M) (N := 37) hx hb hta i_M hown hK hP 0 rfl rfl 6 (by decide) (hta _ fl_M_73) (fun _ h9 => h9) rfl d_M_about_10 ?_
    refine lv_goto (tgt := 75) hx hb d_M_about_13 (by decide) ?_
    exact W.iret (v := mp_taped σ2) hx hb hr (fun t ht hW => ⟨⟨_, σ2, rfl, hE, by rw [ht]; exact hP, va_K.moved hW.alike hK, hD⟩, hS.F ht⟩) hS.2.2 d_M_about_75
