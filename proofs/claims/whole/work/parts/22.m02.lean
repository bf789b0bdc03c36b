-- printed by wip/gen: the reference
theorem fl_M_49 : Cond.fieldLink "PlainPagesModel" 49 "PlainPagesModel" "first" "[I" ∈ aW := aW_in 931 (by decide +kernel) rfl
theorem fl_M_52 : Cond.fieldLink "PlainPagesModel" 52 "PlainPagesModel" "next" "[I" ∈ aW := aW_in 932 (by decide +kernel) rfl
theorem d_M_holdsAll_0 : decode b_M_holdsAll 0 = .ok (.iload_n 2, 1) := by decide +kernel
theorem d_M_holdsAll_1 : decode b_M_holdsAll 1 = .ok (.iconst 1, 1) := by decide +kernel
theorem d_M_holdsAll_2 : decode b_M_holdsAll 2 = .ok (.if_icmp .eq 16, 3) := by decide +kernel
theorem d_M_holdsAll_5 : decode b_M_holdsAll 5 = .ok (.iload_n 2, 1) := by decide +kernel
theorem d_M_holdsAll_6 : decode b_M_holdsAll 6 = .ok (.iconst 2, 1) := by decide +kernel
theorem d_M_holdsAll_7 : decode b_M_holdsAll 7 = .ok (.if_icmp .eq 11, 3) := by decide +kernel
theorem d_M_holdsAll_10 : decode b_M_holdsAll 10 = .ok (.iload_n 2, 1) := by decide +kernel
theorem d_M_holdsAll_11 : decode b_M_holdsAll 11 = .ok (.bipush 19, 2) := by decide +kernel
theorem d_M_holdsAll_13 : decode b_M_holdsAll 13 = .ok (.if_icmp .eq 5, 3) := by decide +kernel
theorem d_M_holdsAll_16 : decode b_M_holdsAll 16 = .ok (.iconst 1, 1) := by decide +kernel
theorem d_M_holdsAll_17 : decode b_M_holdsAll 17 = .ok (.ireturn, 1) := by decide +kernel
theorem d_M_holdsAll_18 : decode b_M_holdsAll 18 = .ok (.iconst 0, 1) := by decide +kernel
theorem d_M_holdsAll_19 : decode b_M_holdsAll 19 = .ok (.istore_n 3, 1) := by decide +kernel
theorem d_M_holdsAll_20 : decode b_M_holdsAll 20 = .ok (.iconst 1, 1) := by decide +kernel
theorem d_M_holdsAll_21 : decode b_M_holdsAll 21 = .ok (.istore 4, 2) := by decide +kernel
theorem d_M_holdsAll_23 : decode b_M_holdsAll 23 = .ok (.aload_n 0, 1) := by decide +kernel
theorem d_M_holdsAll_24 : decode b_M_holdsAll 24 = .ok (.getfield 49, 3) := by decide +kernel
theorem d_M_holdsAll_27 : decode b_M_holdsAll 27 = .ok (.iload_n 1, 1) := by decide +kernel
theorem d_M_holdsAll_28 : decode b_M_holdsAll 28 = .ok (.iaload, 1) := by decide +kernel
theorem d_M_holdsAll_29 : decode b_M_holdsAll 29 = .ok (.istore 5, 2) := by decide +kernel
theorem d_M_holdsAll_31 : decode b_M_holdsAll 31 = .ok (.iload 5, 2) := by decide +kernel
theorem d_M_holdsAll_33 : decode b_M_holdsAll 33 = .ok (.ifCond .lt 119, 3) := by decide +kernel
theorem d_M_holdsAll_36 : decode b_M_holdsAll 36 = .ok (.iload 4, 2) := by decide +kernel
theorem d_M_holdsAll_38 : decode b_M_holdsAll 38 = .ok (.ifCond .eq 114, 3) := by decide +kernel
theorem d_M_holdsAll_41 : decode b_M_holdsAll 41 = .ok (.aload_n 0, 1) := by decide +kernel
theorem d_M_holdsAll_42 : decode b_M_holdsAll 42 = .ok (.getfield 36, 3) := by decide +kernel
theorem d_M_holdsAll_45 : decode b_M_holdsAll 45 = .ok (.iload 5, 2) := by decide +kernel
theorem d_M_holdsAll_47 : decode b_M_holdsAll 47 = .ok (.baload, 1) := by decide +kernel
theorem d_M_holdsAll_48 : decode b_M_holdsAll 48 = .ok (.ifCond .ne 6, 3) := by decide +kernel
theorem d_M_holdsAll_51 : decode b_M_holdsAll 51 = .ok (.goto 89, 3) := by decide +kernel
theorem d_M_holdsAll_54 : decode b_M_holdsAll 54 = .ok (.aload_n 0, 1) := by decide +kernel
theorem d_M_holdsAll_55 : decode b_M_holdsAll 55 = .ok (.iload 5, 2) := by decide +kernel
theorem d_M_holdsAll_57 : decode b_M_holdsAll 57 = .ok (.invokevirtual 302, 3) := by decide +kernel
theorem d_M_holdsAll_60 : decode b_M_holdsAll 60 = .ok (.istore 6, 2) := by decide +kernel
theorem d_M_holdsAll_62 : decode b_M_holdsAll 62 = .ok (.iload_n 2, 1) := by decide +kernel
theorem d_M_holdsAll_63 : decode b_M_holdsAll 63 = .ok (.iconst 1, 1) := by decide +kernel
theorem d_M_holdsAll_64 : decode b_M_holdsAll 64 = .ok (.if_icmp .ne 32, 3) := by decide +kernel
theorem d_M_holdsAll_67 : decode b_M_holdsAll 67 = .ok (.iload_n 3, 1) := by decide +kernel
theorem d_M_holdsAll_68 : decode b_M_holdsAll 68 = .ok (.ifCond .ne 9, 3) := by decide +kernel
theorem d_M_holdsAll_71 : decode b_M_holdsAll 71 = .ok (.iload 6, 2) := by decide +kernel
theorem d_M_holdsAll_73 : decode b_M_holdsAll 73 = .ok (.iconst 2, 1) := by decide +kernel
theorem d_M_holdsAll_74 : decode b_M_holdsAll 74 = .ok (.if_icmp .eq 14, 3) := by decide +kernel
theorem d_M_holdsAll_77 : decode b_M_holdsAll 77 = .ok (.iload_n 3, 1) := by decide +kernel
theorem d_M_holdsAll_78 : decode b_M_holdsAll 78 = .ok (.iconst 1, 1) := by decide +kernel
theorem d_M_holdsAll_79 : decode b_M_holdsAll 79 = .ok (.if_icmp .ne 13, 3) := by decide +kernel
theorem d_M_holdsAll_82 : decode b_M_holdsAll 82 = .ok (.iload 6, 2) := by decide +kernel
theorem d_M_holdsAll_84 : decode b_M_holdsAll 84 = .ok (.iconst 4, 1) := by decide +kernel
theorem d_M_holdsAll_85 : decode b_M_holdsAll 85 = .ok (.if_icmp .ne 7, 3) := by decide +kernel
theorem d_M_holdsAll_88 : decode b_M_holdsAll 88 = .ok (.iconst 1, 1) := by decide +kernel
theorem d_M_holdsAll_89 : decode b_M_holdsAll 89 = .ok (.goto 46, 3) := by decide +kernel
theorem d_M_holdsAll_92 : decode b_M_holdsAll 92 = .ok (.iconst 0, 1) := by decide +kernel
theorem d_M_holdsAll_93 : decode b_M_holdsAll 93 = .ok (.goto 42, 3) := by decide +kernel
theorem d_M_holdsAll_96 : decode b_M_holdsAll 96 = .ok (.iload_n 2, 1) := by decide +kernel
theorem d_M_holdsAll_97 : decode b_M_holdsAll 97 = .ok (.iconst 2, 1) := by decide +kernel
theorem d_M_holdsAll_98 : decode b_M_holdsAll 98 = .ok (.if_icmp .ne 21, 3) := by decide +kernel
theorem d_M_holdsAll_101 : decode b_M_holdsAll 101 = .ok (.iload_n 3, 1) := by decide +kernel
theorem d_M_holdsAll_102 : decode b_M_holdsAll 102 = .ok (.ifCond .ne 13, 3) := by decide +kernel
theorem d_M_holdsAll_105 : decode b_M_holdsAll 105 = .ok (.iload 6, 2) := by decide +kernel
theorem d_M_holdsAll_107 : decode b_M_holdsAll 107 = .ok (.iconst 3, 1) := by decide +kernel
theorem d_M_holdsAll_108 : decode b_M_holdsAll 108 = .ok (.if_icmp .ne 7, 3) := by decide +kernel
theorem d_M_holdsAll_111 : decode b_M_holdsAll 111 = .ok (.iconst 1, 1) := by decide +kernel
theorem d_M_holdsAll_112 : decode b_M_holdsAll 112 = .ok (.goto 23, 3) := by decide +kernel
theorem d_M_holdsAll_115 : decode b_M_holdsAll 115 = .ok (.iconst 0, 1) := by decide +kernel
theorem d_M_holdsAll_116 : decode b_M_holdsAll 116 = .ok (.goto 19, 3) := by decide +kernel
theorem d_M_holdsAll_119 : decode b_M_holdsAll 119 = .ok (.iload_n 3, 1) := by decide +kernel
theorem d_M_holdsAll_120 : decode b_M_holdsAll 120 = .ok (.ifCond .ne 14, 3) := by decide +kernel
theorem d_M_holdsAll_123 : decode b_M_holdsAll 123 = .ok (.iload 6, 2) := by decide +kernel
theorem d_M_holdsAll_125 : decode b_M_holdsAll 125 = .ok (.bipush 20, 2) := by decide +kernel
theorem d_M_holdsAll_127 : decode b_M_holdsAll 127 = .ok (.if_icmp .ne 7, 3) := by decide +kernel
theorem d_M_holdsAll_130 : decode b_M_holdsAll 130 = .ok (.iconst 1, 1) := by decide +kernel
theorem d_M_holdsAll_131 : decode b_M_holdsAll 131 = .ok (.goto 4, 3) := by decide +kernel
theorem d_M_holdsAll_134 : decode b_M_holdsAll 134 = .ok (.iconst 0, 1) := by decide +kernel
theorem d_M_holdsAll_135 : decode b_M_holdsAll 135 = .ok (.istore 4, 2) := by decide +kernel
theorem d_M_holdsAll_137 : decode b_M_holdsAll 137 = .ok (.iinc 3 1, 3) := by decide +kernel
theorem d_M_holdsAll_140 : decode b_M_holdsAll 140 = .ok (.aload_n 0, 1) := by decide +kernel
theorem d_M_holdsAll_141 : decode b_M_holdsAll 141 = .ok (.getfield 52, 3) := by decide +kernel
theorem d_M_holdsAll_144 : decode b_M_holdsAll 144 = .ok (.iload 5, 2) := by decide +kernel
theorem d_M_holdsAll_146 : decode b_M_holdsAll 146 = .ok (.iaload, 1) := by decide +kernel
theorem d_M_holdsAll_147 : decode b_M_holdsAll 147 = .ok (.istore 5, 2) := by decide +kernel
theorem d_M_holdsAll_149 : decode b_M_holdsAll 149 = .ok (.goto (-118), 3) := by decide +kernel
theorem d_M_holdsAll_152 : decode b_M_holdsAll 152 = .ok (.iload 4, 2) := by decide +kernel
theorem d_M_holdsAll_154 : decode b_M_holdsAll 154 = .ok (.ifCond .eq 21, 3) := by decide +kernel
theorem d_M_holdsAll_157 : decode b_M_holdsAll 157 = .ok (.iload_n 3, 1) := by decide +kernel
theorem d_M_holdsAll_158 : decode b_M_holdsAll 158 = .ok (.iload_n 2, 1) := by decide +kernel
theorem d_M_holdsAll_159 : decode b_M_holdsAll 159 = .ok (.iconst 1, 1) := by decide +kernel
theorem d_M_holdsAll_160 : decode b_M_holdsAll 160 = .ok (.if_icmp .ne 7, 3) := by decide +kernel
theorem d_M_holdsAll_163 : decode b_M_holdsAll 163 = .ok (.iconst 2, 1) := by decide +kernel
theorem d_M_holdsAll_164 : decode b_M_holdsAll 164 = .ok (.goto 4, 3) := by decide +kernel
theorem d_M_holdsAll_167 : decode b_M_holdsAll 167 = .ok (.iconst 1, 1) := by decide +kernel
theorem d_M_holdsAll_168 : decode b_M_holdsAll 168 = .ok (.if_icmp .ne 7, 3) := by decide +kernel
theorem d_M_holdsAll_171 : decode b_M_holdsAll 171 = .ok (.iconst 1, 1) := by decide +kernel
theorem d_M_holdsAll_172 : decode b_M_holdsAll 172 = .ok (.goto 4, 3) := by decide +kernel
theorem d_M_holdsAll_175 : decode b_M_holdsAll 175 = .ok (.iconst 0, 1) := by decide +kernel
theorem d_M_holdsAll_176 : decode b_M_holdsAll 176 = .ok (.ireturn, 1) := by decide +kernel
def w_M_holdsAll_J168  (σ : MPS) (post : Int32 → Prop) (t0 : Int32) (t1 : Int32) : Prop := ((t1 = t0 → post 1) ∧ (¬ t1 = t0 → post 0))
def w_M_holdsAll_J152  (σ : MPS) (post : Int32 → Prop) (v2 : Int32) (v3 : Int32) (v4 : Int32) : Prop := ((v4 = 0 → post 0) ∧ (¬ v4 = 0 → ((v2 = 1 → w_M_holdsAll_J168 σ post 2 v3) ∧ (¬ v2 = 1 → w_M_holdsAll_J168 σ post 1 v3))))
def w_M_holdsAll_J140  (σ : MPS) (v2 : Int32) (K31 : Int32 → Int32 → Int32 → Prop) (post : Int32 → Prop) (v3 : Int32) (v4 : Int32) (v5 : Int32) : Prop := (vp_in v5 1000 ∧ K31 v3 v4 ((mp_next σ) v5.toNatClampNeg))
def w_M_holdsAll_J135  (σ : MPS) (v2 : Int32) (K31 : Int32 → Int32 → Int32 → Prop) (post : Int32 → Prop) (v3 : Int32) (v5 : Int32) (t0 : Int32) : Prop := w_M_holdsAll_J140 σ v2 (K31) post (v3 + 1) t0 v5
def w_M_holdsAll_J134  (σ : MPS) (v2 : Int32) (K31 : Int32 → Int32 → Int32 → Prop) (post : Int32 → Prop) (v3 : Int32) (v5 : Int32) : Prop := w_M_holdsAll_J135 σ v2 (K31) post v3 v5 0
def w_M_holdsAll_J115  (σ : MPS) (v2 : Int32) (K31 : Int32 → Int32 → Int32 → Prop) (post : Int32 → Prop) (v3 : Int32) (v5 : Int32) : Prop := w_M_holdsAll_J135 σ v2 (K31) post v3 v5 0
def w_M_holdsAll_J92  (σ : MPS) (v2 : Int32) (K31 : Int32 → Int32 → Int32 → Prop) (post : Int32 → Prop) (v3 : Int32) (v5 : Int32) : Prop := w_M_holdsAll_J135 σ v2 (K31) post v3 v5 0
def w_M_holdsAll_J88  (σ : MPS) (v2 : Int32) (K31 : Int32 → Int32 → Int32 → Prop) (post : Int32 → Prop) (v3 : Int32) (v5 : Int32) : Prop := w_M_holdsAll_J135 σ v2 (K31) post v3 v5 1
def w_M_holdsAll_J77  (σ : MPS) (v2 : Int32) (K31 : Int32 → Int32 → Int32 → Prop) (post : Int32 → Prop) (v3 : Int32) (v5 : Int32) (v6 : Int32) : Prop := ((v3 = 1 → ((v6 = 4 → w_M_holdsAll_J88 σ v2 (K31) post v3 v5) ∧ (¬ v6 = 4 → w_M_holdsAll_J92 σ v2 (K31) post v3 v5))) ∧ (¬ v3 = 1 → w_M_holdsAll_J92 σ v2 (K31) post v3 v5))
def w_M_holdsAll_L31  (σ : MPS) (v2 : Int32) (post : Int32 → Prop) : Nat → Int32 → Int32 → Int32 → Prop
  | 0, _, _, _ => False
  | n31 + 1, v3, v4, v5 => ((v5 < 0 → w_M_holdsAll_J152 σ post v2 v3 v4) ∧ (¬ v5 < 0 → ((v4 = 0 → w_M_holdsAll_J152 σ post v2 v3 v4) ∧ (¬ v4 = 0 → (vp_in v5 1000 ∧ ((((mp_isElement σ) v5.toNatClampNeg) = 0 → w_M_holdsAll_J140 σ v2 (w_M_holdsAll_L31 σ v2 post n31) post v3 v4 v5) ∧ (¬ ((mp_isElement σ) v5.toNatClampNeg) = 0 → w_M_kindOf σ v5 (fun r57 => ((v2 = 1 → ((v3 = 0 → ((r57 = 2 → w_M_holdsAll_J88 σ v2 (w_M_holdsAll_L31 σ v2 post n31) post v3 v5) ∧ (¬ r57 = 2 → w_M_holdsAll_J77 σ v2 (w_M_holdsAll_L31 σ v2 post n31) post v3 v5 r57))) ∧ (¬ v3 = 0 → w_M_holdsAll_J77 σ v2 (w_M_holdsAll_L31 σ v2 post n31) post v3 v5 r57))) ∧ (¬ v2 = 1 → ((v2 = 2 → ((v3 = 0 → ((r57 = 3 → w_M_holdsAll_J135 σ v2 (w_M_holdsAll_L31 σ v2 post n31) post v3 v5 1) ∧ (¬ r57 = 3 → w_M_holdsAll_J115 σ v2 (w_M_holdsAll_L31 σ v2 post n31) post v3 v5))) ∧ (¬ v3 = 0 → w_M_holdsAll_J115 σ v2 (w_M_holdsAll_L31 σ v2 post n31) post v3 v5))) ∧ (¬ v2 = 2 → ((v3 = 0 → ((r57 = 20 → w_M_holdsAll_J135 σ v2 (w_M_holdsAll_L31 σ v2 post n31) post v3 v5 1) ∧ (¬ r57 = 20 → w_M_holdsAll_J134 σ v2 (w_M_holdsAll_L31 σ v2 post n31) post v3 v5))) ∧ (¬ v3 = 0 → w_M_holdsAll_J134 σ v2 (w_M_holdsAll_L31 σ v2 post n31) post v3 v5))))))))))))))
def w_M_holdsAll_J18  (σ : MPS) (post : Int32 → Prop) (v1 : Int32) (v2 : Int32) : Prop := (vp_in v1 1000 ∧ (∃ n31, w_M_holdsAll_L31 σ v2 post n31 0 1 ((mp_first σ) v1.toNatClampNeg)))
def w_M_holdsAll  (σ : MPS) (x0 : Int32) (x1 : Int32) (post : Int32 → Prop) : Prop := ((x1 = 1 → w_M_holdsAll_J18 σ post x0 x1) ∧ (¬ x1 = 1 → ((x1 = 2 → w_M_holdsAll_J18 σ post x0 x1) ∧ (¬ x1 = 2 → ((x1 = 19 → w_M_holdsAll_J18 σ post x0 x1) ∧ (¬ x1 = 19 → post 1))))))
set_option maxHeartbeats 4000000 in
set_option maxRecDepth 100000 in
theorem c_M_holdsAll (l : Launch) (md : MD) (σ : MPS) (x0 : Int32) (x1 : Int32)  (post : Int32 → Prop) (hE : w_M_holdsAll σ x0 x1 post) : Met l y_M_holdsAll ws_M_holdsAll { frames := 6, cells := 0, slots := 0, locals := 131 } (va_Pc [.ref (mA md 0), .int x0, .int x1] (rM md σ)) (vp_Si post) 0 0 (fun _ => False) := by
  refine Met.ofW (cc := b_M_holdsAll) (maxL := 7) (ret := (some .boolean)) (by decide) rfl ?_
  intro p e s m args below meth c s₁ B hml hv
  obtain ⟨rfl, hP, hK⟩ := hv
  have hS : va_S (fun _ : Nat => False) s.heap s.heap [] := va_S.rf
  have hx := B.exec
  have hb := B.bytes
  have hr := B.returns
  have hta : ∀ w ∈ aW, w.before _ s = true := fun w h => atoms_spec (ws := ws_M_holdsAll) B.pre w (List.mem_cons_of_mem _ h)
  have hown : s.vm.findClass R_M = some m.cls := findClass_of_methodNamed B.named
  have hlocks := B.notSynchronized
  have hl := lv_entry ([.ref (mA md 0), .int x0, .int x1]) (n := 7) (Nat.le_of_ble_eq_true rfl)
  rw [lg_entry_eq]
  generalize (lg_sl ([.ref (mA md 0), .int x0, .int x1]) ++ List.replicate (7 - (lg_sl ([.ref (mA md 0), .int x0, .int x1])).length) Slot.unset).toArray = ls at hl ⊢
  have hl : lv_has ls 7 [(0, .ref (mA md 0)), (1, .int x0), (2, .int x1)] := hl
  have J168 : ∀ (t0 : Int32) (t1 : Int32) (ls : Array Slot) (hl : lv_has ls 7 []) (hE : w_M_holdsAll_J168 σ post t0 t1), W p l e (headSpec ws_M_holdsAll { frames := 6, cells := 0, slots := 0, locals := 131 }).room s m ([.ref (mA md 0), .int x0, .int x1] : List Value).toArray below meth c s.heap [] 0 0 (MQ below (vp_Si post) ([.ref (mA md 0), .int x0, .int x1] : List Value).toArray s 0 0 (fun _ => False)) (F0 m 168 ls [.int t0, .int t1]) := by
    intro  t0 t1 ls hl hE
    unfold w_M_holdsAll_J168 at hE
    refine lv_icmp_ne (tgt := 175) hx hb d_M_holdsAll_168 (by decide) (fun cc168 => ?_) (fun cc168 => ?_)
    · have hE := hE.2 cc168
      refine lv_iconst (v := 0) hx hb d_M_holdsAll_175 (by decide) ?_
      exact W.zret (v := 0) hx hb hr rfl (fun t ht hW => ⟨_, rfl, hE, ht⟩) (fun q h => by cases h) d_M_holdsAll_176
    · have hE := hE.1 cc168
      refine lv_iconst (v := 1) hx hb d_M_holdsAll_171 (by decide) ?_
      refine lv_goto (tgt := 176) hx hb d_M_holdsAll_172 (by decide) ?_
      exact W.zret (v := 1) hx hb hr rfl (fun t ht hW => ⟨_, rfl, hE, ht⟩) (fun q h => by cases h) d_M_holdsAll_176
  have J152 : ∀ (v2 : Int32) (v3 : Int32) (v4 : Int32) (ls : Array Slot) (hl : lv_has ls 7 [(2, .int v2), (3, .int v3), (4, .int v4)]) (hE : w_M_holdsAll_J152 σ post v2 v3 v4), W p l e (headSpec ws_M_holdsAll { frames := 6, cells := 0, slots := 0, locals := 131 }).room s m ([.ref (mA md 0), .int x0, .int x1] : List Value).toArray below meth c s.heap [] 0 0 (MQ below (vp_Si post) ([.ref (mA md 0), .int x0, .int x1] : List Value).toArray s 0 0 (fun _ => False)) (F0 m 152 ls []) := by
    intro  v2 v3 v4 ls hl hE
    unfold w_M_holdsAll_J152 at hE
    refine lv_iload hx hb d_M_holdsAll_152 (lv_at hl 2 rfl) ?_
    refine lv_if_eq (tgt := 175) hx hb d_M_holdsAll_154 (by decide) (fun cc154 => ?_) (fun cc154 => ?_)
    · have hE := hE.1 cc154
      refine lv_iconst (v := 0) hx hb d_M_holdsAll_175 (by decide) ?_
      exact W.zret (v := 0) hx hb hr rfl (fun t ht hW => ⟨_, rfl, hE, ht⟩) (fun q h => by cases h) d_M_holdsAll_176
    · have hE := hE.2 cc154
      refine lv_iload_n hx hb d_M_holdsAll_157 rfl (lv_at hl 1 rfl) ?_
      refine lv_iload_n hx hb d_M_holdsAll_158 rfl (lv_at hl 0 rfl) ?_
      refine lv_iconst (v := 1) hx hb d_M_holdsAll_159 (by decide) ?_
      refine lv_icmp_ne (tgt := 167) hx hb d_M_holdsAll_160 (by decide) (fun cc160 => ?_) (fun cc160 => ?_)
      · have hE := hE.2 cc160
        refine lv_iconst (v := 1) hx hb d_M_holdsAll_167 (by decide) ?_
        exact J168  1 v3 _ (lv_sub hl [] rfl) hE
      · have hE := hE.1 cc160
        refine lv_iconst (v := 2) hx hb d_M_holdsAll_163 (by decide) ?_
        refine lv_goto (tgt := 168) hx hb d_M_holdsAll_164 (by decide) ?_
        exact J168  2 v3 _ (lv_sub hl [] rfl) hE
  have L31 : ∀ (v2 : Int32) (n31 : Nat) (v3 : Int32) (v4 : Int32) (v5 : Int32) (ls : Array Slot) (hl : lv_has ls 7 [(0, .ref (mA md 0)), (2, .int v2), (3, .int v3), (4, .int v4), (5, .int v5)]) (hE : w_M_holdsAll_L31 σ v2 post n31 v3 v4 v5), W p l e (headSpec ws_M_holdsAll { frames := 6, cells := 0, slots := 0, locals := 131 }).room s m ([.ref (mA md 0), .int x0, .int x1] : List Value).toArray below meth c s.heap [] 0 0 (MQ below (vp_Si post) ([.ref (mA md 0), .int x0, .int x1] : List Value).toArray s 0 0 (fun _ => False)) (F0 m 31 ls []) := by
    intro v2 n31
    induction n31 with
    | zero => intro v3 v4 v5 ls hl hE; exact hE.elim
    | succ n31 ih31 =>
      have J140 : ∀ (v3 : Int32) (v4 : Int32) (v5 : Int32) (ls : Array Slot) (hl : lv_has ls 7 [(0, .ref (mA md 0)), (2, .int v2), (3, .int v3), (4, .int v4), (5, .int v5)]) (hE : w_M_holdsAll_J140 σ v2 (w_M_holdsAll_L31 σ v2 post n31) post v3 v4 v5), W p l e (headSpec ws_M_holdsAll { frames := 6, cells := 0, slots := 0, locals := 131 }).room s m ([.ref (mA md 0), .int x0, .int x1] : List Value).toArray below meth c s.heap [] 0 0 (MQ below (vp_Si post) ([.ref (mA md 0), .int x0, .int x1] : List Value).toArray s 0 0 (fun _ => False)) (F0 m 140 ls []) := by
        intro  v3 v4 v5 ls hl hE
        unfold w_M_holdsAll_J140 at hE
        refine lv_aload_n hx hb d_M_holdsAll_140 rfl (lv_at hl 0 rfl) ?_
        refine va_get (D := (mG md)) (ci := 7) (v := .ref (mA md 13)) (C := R_M) (T := F_M) (N := 37) hx hb hta i_M hown hK hP 0 rfl rfl 28 (by decide) (hta _ fl_M_52) (fun _ h9 => h9) rfl d_M_holdsAll_141 ?_
        refine lv_iload hx hb d_M_holdsAll_144 (lv_at hl 4 rfl) ?_
        obtain ⟨hI146, hE⟩ := hE
        refine va_iald (D := (mG md)) (f := mp_next σ) hx hb hK hP 13 0 rfl rfl hI146 d_M_holdsAll_146 ?_
        refine lv_istore (lv' := [(5, .int ((mp_next σ) v5.toNatClampNeg)), (0, .ref (mA md 0)), (2, .int v2), (3, .int v3), (4, .int v4)]) hx hb d_M_holdsAll_147 hl (by decide) rfl (fun ls hl => ?_)
        refine lv_goto (tgt := 31) hx hb d_M_holdsAll_149 (by decide) ?_
        exact ih31 v3 v4 ((mp_next σ) v5.toNatClampNeg) _ (lv_sub hl [1, 2, 3, 4, 0] rfl) hE
      have J135 : ∀ (v3 : Int32) (v5 : Int32) (t0 : Int32) (ls : Array Slot) (hl : lv_has ls 7 [(0, .ref (mA md 0)), (2, .int v2), (3, .int v3), (5, .int v5)]) (hE : w_M_holdsAll_J135 σ v2 (w_M_holdsAll_L31 σ v2 post n31) post v3 v5 t0), W p l e (headSpec ws_M_holdsAll { frames := 6, cells := 0, slots := 0, locals := 131 }).room s m ([.ref (mA md 0), .int x0, .int x1] : List Value).toArray below meth c s.heap [] 0 0 (MQ below (vp_Si post) ([.ref (mA md 0), .int x0, .int x1] : List Value).toArray s 0 0 (fun _ => False)) (F0 m 135 ls [.int t0]) := by
        intro  v3 v5 t0 ls hl hE
        unfold w_M_holdsAll_J135 at hE
        refine lv_istore (lv' := [(4, .int t0), (0, .ref (mA md 0)), (2, .int v2), (3, .int v3), (5, .int v5)]) hx hb d_M_holdsAll_135 hl (by decide) rfl (fun ls hl => ?_)
        refine lv_iinc (v := v3 + 1) (lv' := [(3, .int (v3 + 1)), (4, .int t0), (0, .ref (mA md 0)), (2, .int v2), (5, .int v5)]) hx hb d_M_holdsAll_137 hl (k := 3) rfl rfl (by decide) rfl (fun ls hl => ?_)
        exact J140  (v3 + 1) t0 v5 _ (lv_sub hl [2, 3, 0, 1, 4] rfl) hE
      have J134 : ∀ (v3 : Int32) (v5 : Int32) (ls : Array Slot) (hl : lv_has ls 7 [(0, .ref (mA md 0)), (2, .int v2), (3, .int v3), (5, .int v5)]) (hE : w_M_holdsAll_J134 σ v2 (w_M_holdsAll_L31 σ v2 post n31) post v3 v5), W p l e (headSpec ws_M_holdsAll { frames := 6, cells := 0, slots := 0, locals := 131 }).room s m ([.ref (mA md 0), .int x0, .int x1] : List Value).toArray below meth c s.heap [] 0 0 (MQ below (vp_Si post) ([.ref (mA md 0), .int x0, .int x1] : List Value).toArray s 0 0 (fun _ => False)) (F0 m 134 ls []) := by
        intro  v3 v5 ls hl hE
        unfold w_M_holdsAll_J134 at hE
        refine lv_iconst (v := 0) hx hb d_M_holdsAll_134 (by decide) ?_
        exact J135  v3 v5 0 _ (lv_sub hl [0, 1, 2, 3] rfl) hE
      have J115 : ∀ (v3 : Int32) (v5 : Int32) (ls : Array Slot) (hl : lv_has ls 7 [(0, .ref (mA md 0)), (2, .int v2), (3, .int v3), (5, .int v5)]) (hE : w_M_holdsAll_J115 σ v2 (w_M_holdsAll_L31 σ v2 post n31) post v3 v5), W p l e (headSpec ws_M_holdsAll { frames := 6, cells := 0, slots := 0, locals := 131 }).room s m ([.ref (mA md 0), .int x0, .int x1] : List Value).toArray below meth c s.heap [] 0 0 (MQ below (vp_Si post) ([.ref (mA md 0), .int x0, .int x1] : List Value).toArray s 0 0 (fun _ => False)) (F0 m 115 ls []) := by
        intro  v3 v5 ls hl hE
        unfold w_M_holdsAll_J115 at hE
        refine lv_iconst (v := 0) hx hb d_M_holdsAll_115 (by decide) ?_
        refine lv_goto (tgt := 135) hx hb d_M_holdsAll_116 (by decide) ?_
        exact J135  v3 v5 0 _ (lv_sub hl [0, 1, 2, 3] rfl) hE
      have J92 : ∀ (v3 : Int32) (v5 : Int32) (ls : Array Slot) (hl : lv_has ls 7 [(0, .ref (mA md 0)), (2, .int v2), (3, .int v3), (5, .int v5)]) (hE : w_M_holdsAll_J92 σ v2 (w_M_holdsAll_L31 σ v2 post n31) post v3 v5), W p l e (headSpec ws_M_holdsAll { frames := 6, cells := 0, slots := 0, locals := 131 }).room s m ([.ref (mA md 0), .int x0, .int x1] : List Value).toArray below meth c s.heap [] 0 0 (MQ below (vp_Si post) ([.ref (mA md 0), .int x0, .int x1] : List Value).toArray s 0 0 (fun _ => False)) (F0 m 92 ls []) := by
        intro  v3 v5 ls hl hE
        unfold w_M_holdsAll_J92 at hE
        refine lv_iconst (v := 0) hx hb d_M_holdsAll_92 (by decide) ?_
        refine lv_goto (tgt := 135) hx hb d_M_holdsAll_93 (by decide) ?_
        exact J135  v3 v5 0 _ (lv_sub hl [0, 1, 2, 3] rfl) hE
      have J88 : ∀ (v3 : Int32) (v5 : Int32) (ls : Array Slot) (hl : lv_has ls 7 [(0, .ref (mA md 0)), (2, .int v2), (3, .int v3), (5, .int v5)]) (hE : w_M_holdsAll_J88 σ v2 (w_M_holdsAll_L31 σ v2 post n31) post v3 v5), W p l e (headSpec ws_M_holdsAll { frames := 6, cells := 0, slots := 0, locals := 131 }).room s m ([.ref (mA md 0), .int x0, .int x1] : List Value).toArray below meth c s.heap [] 0 0 (MQ below (vp_Si post) ([.ref (mA md 0), .int x0, .int x1] : List Value).toArray s 0 0 (fun _ => False)) (F0 m 88 ls []) := by
        intro  v3 v5 ls hl hE
        unfold w_M_holdsAll_J88 at hE
        refine lv_iconst (v := 1) hx hb d_M_holdsAll_88 (by decide) ?_
        refine lv_goto (tgt := 135) hx hb d_M_holdsAll_89 (by decide) ?_
        exact J135  v3 v5 1 _ (lv_sub hl [0, 1, 2, 3] rfl) hE
      have J77 : ∀ (v3 : Int32) (v5 : Int32) (v6 : Int32) (ls : Array Slot) (hl : lv_has ls 7 [(0, .ref (mA md 0)), (2, .int v2), (3, .int v3), (5, .int v5), (6, .int v6)]) (hE : w_M_holdsAll_J77 σ v2 (w_M_holdsAll_L31 σ v2 post n31) post v3 v5 v6), W p l e (headSpec ws_M_holdsAll { frames := 6, cells := 0, slots := 0, locals := 131 }).room s m ([.ref (mA md 0), .int x0, .int x1] : List Value).toArray below meth c s.heap [] 0 0 (MQ below (vp_Si post) ([.ref (mA md 0), .int x0, .int x1] : List Value).toArray s 0 0 (fun _ => False)) (F0 m 77 ls []) := by
        intro  v3 v5 v6 ls hl hE
        unfold w_M_holdsAll_J77 at hE
        refine lv_iload_n hx hb d_M_holdsAll_77 rfl (lv_at hl 2 rfl) ?_
        refine lv_iconst (v := 1) hx hb d_M_holdsAll_78 (by decide) ?_
        refine lv_icmp_ne (tgt := 92) hx hb d_M_holdsAll_79 (by decide) (fun cc79 => ?_) (fun cc79 => ?_)
        · have hE := hE.2 cc79
          exact J92  v3 v5 _ (lv_sub hl [0, 1, 2, 3] rfl) hE
        · have hE := hE.1 cc79
          refine lv_iload hx hb d_M_holdsAll_82 (lv_at hl 4 rfl) ?_
          refine lv_iconst (v := 4) hx hb d_M_holdsAll_84 (by decide) ?_
          refine lv_icmp_ne (tgt := 92) hx hb d_M_holdsAll_85 (by decide) (fun cc85 => ?_) (fun cc85 => ?_)
          · have hE := hE.2 cc85
            exact J92  v3 v5 _ (lv_sub hl [0, 1, 2, 3] rfl) hE
          · have hE := hE.1 cc85
            exact J88  v3 v5 _ (lv_sub hl [0, 1, 2, 3] rfl) hE
      intro v3 v4 v5 ls hl hE
      unfold w_M_holdsAll_L31 at hE
      refine lv_iload hx hb d_M_holdsAll_31 (lv_at hl 4 rfl) ?_
      refine lv_if_lt (tgt := 152) hx hb d_M_holdsAll_33 (by decide) (fun cc33 => ?_) (fun cc33 => ?_)
      · have hE := hE.1 cc33
        exact J152  v2 v3 v4 _ (lv_sub hl [1, 2, 3] rfl) hE
      · have hE := hE.2 cc33
        refine lv_iload hx hb d_M_holdsAll_36 (lv_at hl 3 rfl) ?_
        refine lv_if_eq (tgt := 152) hx hb d_M_holdsAll_38 (by decide) (fun cc38 => ?_) (fun cc38 => ?_)
        · have hE := hE.1 cc38
          exact J152  v2 v3 v4 _ (lv_sub hl [1, 2, 3] rfl) hE
        · have hE := hE.2 cc38
          refine lv_aload_n hx hb d_M_holdsAll_41 rfl (lv_at hl 0 rfl) ?_
          refine va_get (D := (mG md)) (ci := 7) (v := .ref (mA md 8)) (C := R_M) (T := F_M) (N := 37) hx hb hta i_M hown hK hP 0 rfl rfl 23 (by decide) (hta _ fl_M_36) (fun _ h9 => h9) rfl d_M_holdsAll_42 ?_
          refine lv_iload hx hb d_M_holdsAll_45 (lv_at hl 4 rfl) ?_
          obtain ⟨hI47, hE⟩ := hE
          refine va_zald (D := (mG md)) (f := mp_isElement σ) hx hb hK hP 8 2 rfl rfl hI47 d_M_holdsAll_47 ?_
          refine lv_if_ne (tgt := 54) hx hb d_M_holdsAll_48 (by decide) (fun cc48 => ?_) (fun cc48 => ?_)
          · have hE := hE.2 cc48
            refine lv_aload_n hx hb d_M_holdsAll_54 rfl (lv_at hl 0 rfl) ?_
            refine lv_iload hx hb d_M_holdsAll_55 (lv_at hl 4 rfl) ?_
            refine ro_V (b0 := (mA md 0)) (As := [.int v5]) (rest := []) ⟨hx, hb, hml, hown, hta⟩ (c_M_kindOf l md σ v5  _ hE) ok_M_302 ⟨Nat.le_of_ble_eq_true rfl, Nat.le_of_ble_eq_true rfl⟩ blind_rM (va_recv hK hP (ci := 7) (q0 := 0) rfl rfl) (rM_of hP hK) rfl hl.1 rfl (Nat.le_of_ble_eq_true rfl) d_M_holdsAll_57 ⟨Nat.zero_le _, Nat.zero_le _⟩ (fun r57 hE => ?_)
            refine lv_istore (lv' := [(6, .int r57), (0, .ref (mA md 0)), (2, .int v2), (3, .int v3), (4, .int v4), (5, .int v5)]) hx hb d_M_holdsAll_60 hl (by decide) rfl (fun ls hl => ?_)
            refine lv_iload_n hx hb d_M_holdsAll_62 rfl (lv_at hl 2 rfl) ?_
            refine lv_iconst (v := 1) hx hb d_M_holdsAll_63 (by decide) ?_
            refine lv_icmp_ne (tgt := 96) hx hb d_M_holdsAll_64 (by decide) (fun cc64 => ?_) (fun cc64 => ?_)
            · have hE := hE.2 cc64
              refine lv_iload_n hx hb d_M_holdsAll_96 rfl (lv_at hl 2 rfl) ?_
              refine lv_iconst (v := 2) hx hb d_M_holdsAll_97 (by decide) ?_
              refine lv_icmp_ne (tgt := 119) hx hb d_M_holdsAll_98 (by decide) (fun cc98 => ?_) (fun cc98 => ?_)
              · have hE := hE.2 cc98
                refine lv_iload_n hx hb d_M_holdsAll_119 rfl (lv_at hl 3 rfl) ?_
                refine lv_if_ne (tgt := 134) hx hb d_M_holdsAll_120 (by decide) (fun cc120 => ?_) (fun cc120 => ?_)
                · have hE := hE.2 cc120
                  exact J134  v3 v5 _ (lv_sub hl [1, 2, 3, 5] rfl) hE
                · have hE := hE.1 cc120
                  refine lv_iload hx hb d_M_holdsAll_123 (lv_at hl 0 rfl) ?_
                  refine lv_bipush (v := 20) hx hb d_M_holdsAll_125 (by decide) ?_
                  refine lv_icmp_ne (tgt := 134) hx hb d_M_holdsAll_127 (by decide) (fun cc127 => ?_) (fun cc127 => ?_)
                  · have hE := hE.2 cc127
                    exact J134  v3 v5 _ (lv_sub hl [1, 2, 3, 5] rfl) hE
                  · have hE := hE.1 cc127
                    refine lv_iconst (v := 1) hx hb d_M_holdsAll_130 (by decide) ?_
                    refine lv_goto (tgt := 135) hx hb d_M_holdsAll_131 (by decide) ?_
                    exact J135  v3 v5 1 _ (lv_sub hl [1, 2, 3, 5] rfl) hE
              · have hE := hE.1 cc98
                refine lv_iload_n hx hb d_M_holdsAll_101 rfl (lv_at hl 3 rfl) ?_
                refine lv_if_ne (tgt := 115) hx hb d_M_holdsAll_102 (by decide) (fun cc102 => ?_) (fun cc102 => ?_)
                · have hE := hE.2 cc102
                  exact J115  v3 v5 _ (lv_sub hl [1, 2, 3, 5] rfl) hE
                · have hE := hE.1 cc102
                  refine lv_iload hx hb d_M_holdsAll_105 (lv_at hl 0 rfl) ?_
                  refine lv_iconst (v := 3) hx hb d_M_holdsAll_107 (by decide) ?_
                  refine lv_icmp_ne (tgt := 115) hx hb d_M_holdsAll_108 (by decide) (fun cc108 => ?_) (fun cc108 => ?_)
                  · have hE := hE.2 cc108
                    exact J115  v3 v5 _ (lv_sub hl [1, 2, 3, 5] rfl) hE
                  · have hE := hE.1 cc108
                    refine lv_iconst (v := 1) hx hb d_M_holdsAll_111 (by decide) ?_
                    refine lv_goto (tgt := 135) hx hb d_M_holdsAll_112 (by decide) ?_
                    exact J135  v3 v5 1 _ (lv_sub hl [1, 2, 3, 5] rfl) hE
            · have hE := hE.1 cc64
              refine lv_iload_n hx hb d_M_holdsAll_67 rfl (lv_at hl 3 rfl) ?_
              refine lv_if_ne (tgt := 77) hx hb d_M_holdsAll_68 (by decide) (fun cc68 => ?_) (fun cc68 => ?_)
              · have hE := hE.2 cc68
                exact J77  v3 v5 r57 _ (lv_sub hl [1, 2, 3, 5, 0] rfl) hE
              · have hE := hE.1 cc68
                refine lv_iload hx hb d_M_holdsAll_71 (lv_at hl 0 rfl) ?_
                refine lv_iconst (v := 2) hx hb d_M_holdsAll_73 (by decide) ?_
                refine lv_icmp_eq (tgt := 88) hx hb d_M_holdsAll_74 (by decide) (fun cc74 => ?_) (fun cc74 => ?_)
                · have hE := hE.1 cc74
                  exact J88  v3 v5 _ (lv_sub hl [1, 2, 3, 5] rfl) hE
                · have hE := hE.2 cc74
                  exact J77  v3 v5 r57 _ (lv_sub hl [1, 2, 3, 5, 0] rfl) hE
          · have hE := hE.1 cc48
            refine lv_goto (tgt := 140) hx hb d_M_holdsAll_51 (by decide) ?_
            exact J140  v3 v4 v5 _ (lv_sub hl [0, 1, 2, 3, 4] rfl) hE
  have J18 : ∀ (v1 : Int32) (v2 : Int32) (ls : Array Slot) (hl : lv_has ls 7 [(0, .ref (mA md 0)), (1, .int v1), (2, .int v2)]) (hE : w_M_holdsAll_J18 σ post v1 v2), W p l e (headSpec ws_M_holdsAll { frames := 6, cells := 0, slots := 0, locals := 131 }).room s m ([.ref (mA md 0), .int x0, .int x1] : List Value).toArray below meth c s.heap [] 0 0 (MQ below (vp_Si post) ([.ref (mA md 0), .int x0, .int x1] : List Value).toArray s 0 0 (fun _ => False)) (F0 m 18 ls []) := by
    intro  v1 v2 ls hl hE
    unfold w_M_holdsAll_J18 at hE
    refine lv_iconst (v := 0) hx hb d_M_holdsAll_18 (by decide) ?_
    refine lv_istore_n (lv' := [(3, .int 0), (0, .ref (mA md 0)), (1, .int v1), (2, .int v2)]) hx hb d_M_holdsAll_19 rfl hl (by decide) rfl (fun ls hl => ?_)
    refine lv_iconst (v := 1) hx hb d_M_holdsAll_20 (by decide) ?_
    refine lv_istore (lv' := [(4, .int 1), (3, .int 0), (0, .ref (mA md 0)), (1, .int v1), (2, .int v2)]) hx hb d_M_holdsAll_21 hl (by decide) rfl (fun ls hl => ?_)
    refine lv_aload_n hx hb d_M_holdsAll_23 rfl (lv_at hl 2 rfl) ?_
    refine va_get (D := (mG md)) (ci := 7) (v := .ref (mA md 12)) (C := R_M) (T := F_M) (N := 37) hx hb hta i_M hown hK hP 0 rfl rfl 27 (by decide) (hta _ fl_M_49) (fun _ h9 => h9) rfl d_M_holdsAll_24 ?_
    refine lv_iload_n hx hb d_M_holdsAll_27 rfl (lv_at hl 3 rfl) ?_
    obtain ⟨hI28, hE⟩ := hE
    refine va_iald (D := (mG md)) (f := mp_first σ) hx hb hK hP 12 0 rfl rfl hI28 d_M_holdsAll_28 ?_
    refine lv_istore (lv' := [(5, .int ((mp_first σ) v1.toNatClampNeg)), (4, .int 1), (3, .int 0), (0, .ref (mA md 0)), (1, .int v1), (2, .int v2)]) hx hb d_M_holdsAll_29 hl (by decide) rfl (fun ls hl => ?_)
    obtain ⟨n31, hE⟩ := hE
    exact L31 v2 n31 0 1 ((mp_first σ) v1.toNatClampNeg) _ (lv_sub hl [3, 5, 2, 1, 0] rfl) hE
  unfold w_M_holdsAll at hE
  refine lv_iload_n hx hb d_M_holdsAll_0 rfl (lv_at hl 2 rfl) ?_
  refine lv_iconst (v := 1) hx hb d_M_holdsAll_1 (by decide) ?_
  refine lv_icmp_eq (tgt := 18) hx hb d_M_holdsAll_2 (by decide) (fun cc2 => ?_) (fun cc2 => ?_)
  · have hE := hE.1 cc2
    exact J18  x0 x1 _ (lv_sub hl [0, 1, 2] rfl) hE
  · have hE := hE.2 cc2
    refine lv_iload_n hx hb d_M_holdsAll_5 rfl (lv_at hl 2 rfl) ?_
    refine lv_iconst (v := 2) hx hb d_M_holdsAll_6 (by decide) ?_
    refine lv_icmp_eq (tgt := 18) hx hb d_M_holdsAll_7 (by decide) (fun cc7 => ?_) (fun cc7 => ?_)
    · have hE := hE.1 cc7
      exact J18  x0 x1 _ (lv_sub hl [0, 1, 2] rfl) hE
    · have hE := hE.2 cc7
      refine lv_iload_n hx hb d_M_holdsAll_10 rfl (lv_at hl 2 rfl) ?_
      refine lv_bipush (v := 19) hx hb d_M_holdsAll_11 (by decide) ?_
      refine lv_icmp_eq (tgt := 18) hx hb d_M_holdsAll_13 (by decide) (fun cc13 => ?_) (fun cc13 => ?_)
      · have hE := hE.1 cc13
        exact J18  x0 x1 _ (lv_sub hl [0, 1, 2] rfl) hE
      · have hE := hE.2 cc13
        refine lv_iconst (v := 1) hx hb d_M_holdsAll_16 (by decide) ?_
        exact W.zret (v := 1) hx hb hr rfl (fun t ht hW => ⟨_, rfl, hE, ht⟩) (fun q h => by cases h) d_M_holdsAll_17
theorem fl_M_214 : Cond.fieldLink "PlainPagesModel" 214 "PlainPagesModel" "known" "Z" ∈ aW := aW_in 915 (by decide +kernel) rfl
theorem fl_M_175 : Cond.fieldLink "PlainPagesModel" 175 "PlainPagesModel" "nodes" "I" ∈ aW := aW_in 936 (by decide +kernel) rfl
theorem d_M_isNode_0 : decode b_M_isNode 0 = .ok (.aload_n 0, 1) := by decide +kernel
theorem d_M_isNode_1 : decode b_M_isNode 1 = .ok (.getfield 214, 3) := by decide +kernel
theorem d_M_isNode_4 : decode b_M_isNode 4 = .ok (.ifCond .eq 19, 3) := by decide +kernel
theorem d_M_isNode_7 : decode b_M_isNode 7 = .ok (.iload_n 1, 1) := by decide +kernel
theorem d_M_isNode_8 : decode b_M_isNode 8 = .ok (.ifCond .lt 15, 3) := by decide +kernel
theorem d_M_isNode_11 : decode b_M_isNode 11 = .ok (.iload_n 1, 1) := by decide +kernel
theorem d_M_isNode_12 : decode b_M_isNode 12 = .ok (.aload_n 0, 1) := by decide +kernel
theorem d_M_isNode_13 : decode b_M_isNode 13 = .ok (.getfield 175, 3) := by decide +kernel
theorem d_M_isNode_16 : decode b_M_isNode 16 = .ok (.if_icmp .ge 7, 3) := by decide +kernel
theorem d_M_isNode_19 : decode b_M_isNode 19 = .ok (.iconst 1, 1) := by decide +kernel
theorem d_M_isNode_20 : decode b_M_isNode 20 = .ok (.goto 4, 3) := by decide +kernel
theorem d_M_isNode_23 : decode b_M_isNode 23 = .ok (.iconst 0, 1) := by decide +kernel
theorem d_M_isNode_24 : decode b_M_isNode 24 = .ok (.ireturn, 1) := by decide +kernel
def w_M_isNode  (σ : MPS) (x0 : Int32) (post : Int32 → Prop) : Prop := (((mp_known σ) = 0 → post 0) ∧ (¬ (mp_known σ) = 0 → ((x0 < 0 → post 0) ∧ (¬ x0 < 0 → (((mp_nodes σ) ≤ x0 → post 0) ∧ (¬ (mp_nodes σ) ≤ x0 → post 1))))))
set_option maxHeartbeats 4000000 in
set_option maxRecDepth 100000 in
theorem c_M_isNode (l : Launch) (md : MD) (σ : MPS) (x0 : Int32)  (post : Int32 → Prop) (hE : w_M_isNode σ x0 post) : Met l y_M_isNode ws_M_isNode { frames := 0, cells := 0, slots := 0, locals := 0 } (va_Pc [.ref (mA md 0), .int x0] (rM md σ)) (vp_Si post) 0 0 (fun _ => False) := by
  refine Met.ofW (cc := b_M_isNode) (maxL := 2) (ret := (some .boolean)) (by decide) rfl ?_
  intro p e s m args below meth c s₁ B hml hv
  obtain ⟨rfl, hP, hK⟩ := hv
  have hS : va_S (fun _ : Nat => False) s.heap s.heap [] := va_S.rf
  have hx := B.exec
  have hb := B.bytes
  have hr := B.returns
  have hta : ∀ w ∈ aW, w.before _ s = true := fun w h => atoms_spec (ws := ws_M_isNode) B.pre w (List.mem_cons_of_mem _ h)
  have hown : s.vm.findClass R_M = some m.cls := findClass_of_methodNamed B.named
  have hlocks := B.notSynchronized
  have hl := lv_entry ([.ref (mA md 0), .int x0]) (n := 2) (Nat.le_of_ble_eq_true rfl)
  rw [lg_entry_eq]
  generalize (lg_sl ([.ref (mA md 0), .int x0]) ++ List.replicate (2 - (lg_sl ([.ref (mA md 0), .int x0])).length) Slot.unset).toArray = ls at hl ⊢
  have hl : lv_has ls 2 [(0, .ref (mA md 0)), (1, .int x0)] := hl
  unfold w_M_isNode at hE
  refine lv_aload_n hx hb d_M_isNode_0 rfl (lv_at hl 0 rfl) ?_
  refine va_get (D := (mG md)) (ci := 7) (v := .int (mp_known σ)) (C := R_M) (T := F_M) (N := 37) hx hb hta i_M hown hK hP 0 rfl rfl 11 (by decide) (hta _ fl_M_214) (fun _ h9 => h9) rfl d_M_isNode_1 ?_
  refine lv_if_eq (tgt := 23) hx hb d_M_isNode_4 (by decide) (fun cc4 => ?_) (fun cc4 => ?_)
  · have hE := hE.1 cc4
    refine lv_iconst (v := 0) hx hb d_M_isNode_23 (by decide) ?_
    exact W.zret (v := 0) hx hb hr rfl (fun t ht hW => ⟨_, rfl, hE, ht⟩) (fun q h => by cases h) d_M_isNode_24
  · have hE := hE.2 cc4
    refine lv_iload_n hx hb d_M_isNode_7 rfl (lv_at hl 1 rfl) ?_
    refine lv_if_lt (tgt := 23) hx hb d_M_isNode_8 (by decide) (fun cc8 => ?_) (fun cc8 => ?_)
    · have hE := hE.1 cc8
      refine lv_iconst (v := 0) hx hb d_M_isNode_23 (by decide) ?_
      exact W.zret (v := 0) hx hb hr rfl (fun t ht hW => ⟨_, rfl, hE, ht⟩) (fun q h => by cases h) d_M_isNode_24
    · have hE := hE.2 cc8
      refine lv_iload_n hx hb d_M_isNode_11 rfl (lv_at hl 1 rfl) ?_
      refine lv_aload_n hx hb d_M_isNode_12 rfl (lv_at hl 0 rfl) ?_
      refine va_get (D := (mG md)) (ci := 7) (v := .int (mp_nodes σ)) (C := R_M) (T := F_M) (N := 37) hx hb hta i_M hown hK hP 0 rfl rfl 32 (by decide) (hta _ fl_M_175) (fun _ h9 => h9) rfl d_M_isNode_13 ?_
      refine lv_icmp_ge (tgt := 23) hx hb d_M_isNode_16 (by decide) (fun cc16 => ?_) (fun cc16 => ?_)
      · have hE := hE.1 cc16
        refine lv_iconst (v := 0) hx hb d_M_isNode_23 (by decide) ?_
        exact W.zret (v := 0) hx hb hr rfl (fun t ht hW => ⟨_, rfl, hE, ht⟩) (fun q h => by cases h) d_M_isNode_24
      · have hE := hE.2 cc16
        refine lv_iconst (v := 1) hx hb d_M_isNode_19 (by decide) ?_
        refine lv_goto (tgt := 24) hx hb d_M_isNode_20 (by decide) ?_
        exact W.zret (v := 1) hx hb hr rfl (fun t ht hW => ⟨_, rfl, hE, ht⟩) (fun q h => by cases h) d_M_isNode_24
theorem fl_M_55 : Cond.fieldLink "PlainPagesModel" 55 "PlainPagesModel" "depth" "[I" ∈ aW := aW_in 933 (by decide +kernel) rfl
theorem d_M_lastIn_0 : decode b_M_lastIn 0 = .ok (.iload_n 1, 1) := by decide +kernel
theorem d_M_lastIn_1 : decode b_M_lastIn 1 = .ok (.istore_n 2, 1) := by decide +kernel
theorem d_M_lastIn_2 : decode b_M_lastIn 2 = .ok (.iload_n 2, 1) := by decide +kernel
theorem d_M_lastIn_3 : decode b_M_lastIn 3 = .ok (.iconst 1, 1) := by decide +kernel
theorem d_M_lastIn_4 : decode b_M_lastIn 4 = .ok (.iadd, 1) := by decide +kernel
theorem d_M_lastIn_5 : decode b_M_lastIn 5 = .ok (.aload_n 0, 1) := by decide +kernel
theorem d_M_lastIn_6 : decode b_M_lastIn 6 = .ok (.getfield 175, 3) := by decide +kernel
theorem d_M_lastIn_9 : decode b_M_lastIn 9 = .ok (.if_icmp .ge 26, 3) := by decide +kernel
theorem d_M_lastIn_12 : decode b_M_lastIn 12 = .ok (.aload_n 0, 1) := by decide +kernel
theorem d_M_lastIn_13 : decode b_M_lastIn 13 = .ok (.getfield 55, 3) := by decide +kernel
theorem d_M_lastIn_16 : decode b_M_lastIn 16 = .ok (.iload_n 2, 1) := by decide +kernel
theorem d_M_lastIn_17 : decode b_M_lastIn 17 = .ok (.iconst 1, 1) := by decide +kernel
theorem d_M_lastIn_18 : decode b_M_lastIn 18 = .ok (.iadd, 1) := by decide +kernel
theorem d_M_lastIn_19 : decode b_M_lastIn 19 = .ok (.iaload, 1) := by decide +kernel
theorem d_M_lastIn_20 : decode b_M_lastIn 20 = .ok (.aload_n 0, 1) := by decide +kernel
theorem d_M_lastIn_21 : decode b_M_lastIn 21 = .ok (.getfield 55, 3) := by decide +kernel
theorem d_M_lastIn_24 : decode b_M_lastIn 24 = .ok (.iload_n 1, 1) := by decide +kernel
theorem d_M_lastIn_25 : decode b_M_lastIn 25 = .ok (.iaload, 1) := by decide +kernel
theorem d_M_lastIn_26 : decode b_M_lastIn 26 = .ok (.if_icmp .le 9, 3) := by decide +kernel
theorem d_M_lastIn_29 : decode b_M_lastIn 29 = .ok (.iinc 2 1, 3) := by decide +kernel
theorem d_M_lastIn_32 : decode b_M_lastIn 32 = .ok (.goto (-30), 3) := by decide +kernel
theorem d_M_lastIn_35 : decode b_M_lastIn 35 = .ok (.iload_n 2, 1) := by decide +kernel
theorem d_M_lastIn_36 : decode b_M_lastIn 36 = .ok (.ireturn, 1) := by decide +kernel
def w_M_lastIn_L2  (σ : MPS) (v1 : Int32) (post : Int32 → Prop) : Nat → Int32 → Prop
  | 0, _ => False
  | n2 + 1, v2 => (((mp_nodes σ) ≤ (v2 + 1) → post v2) ∧ (¬ (mp_nodes σ) ≤ (v2 + 1) → (vp_in (v2 + 1) 1000 ∧ (vp_in v1 1000 ∧ ((((mp_depth σ) (v2 + 1).toNatClampNeg) ≤ ((mp_depth σ) v1.toNatClampNeg) → post v2) ∧ (¬ ((mp_depth σ) (v2 + 1).toNatClampNeg) ≤ ((mp_depth σ) v1.toNatClampNeg) → w_M_lastIn_L2 σ v1 post n2 (v2 + 1)))))))
def w_M_lastIn  (σ : MPS) (x0 : Int32) (post : Int32 → Prop) : Prop := (∃ n2, w_M_lastIn_L2 σ x0 post n2 x0)
set_option maxHeartbeats 4000000 in
set_option maxRecDepth 100000 in
theorem c_M_lastIn (l : Launch) (md : MD) (σ : MPS) (x0 : Int32)  (post : Int32 → Prop) (hE : w_M_lastIn σ x0 post) : Met l y_M_lastIn ws_M_lastIn { frames := 0, cells := 0, slots := 0, locals := 0 } (va_Pc [.ref (mA md 0), .int x0] (rM md σ)) (vp_Si post) 0 0 (fun _ => False) := by
  refine Met.ofW (cc := b_M_lastIn) (maxL := 3) (ret := (some .int)) (by decide) rfl ?_
  intro p e s m args below meth c s₁ B hml hv
  obtain ⟨rfl, hP, hK⟩ := hv
  have hS : va_S (fun _ : Nat => False) s.heap s.heap [] := va_S.rf
  have hx := B.exec
  have hb := B.bytes
  have hr := B.returns
  have hta : ∀ w ∈ aW, w.before _ s = true := fun w h => atoms_spec (ws := ws_M_lastIn) B.pre w (List.mem_cons_of_mem _ h)
  have hown : s.vm.findClass R_M = some m.cls := findClass_of_methodNamed B.named
  have hlocks := B.notSynchronized
  have hl := lv_entry ([.ref (mA md 0), .int x0]) (n := 3) (Nat.le_of_ble_eq_true rfl)
  rw [lg_entry_eq]
  generalize (lg_sl ([.ref (mA md 0), .int x0]) ++ List.replicate (3 - (lg_sl ([.ref (mA md 0), .int x0])).length) Slot.unset).toArray = ls at hl ⊢
  have hl : lv_has ls 3 [(0, .ref (mA md 0)), (1, .int x0)] := hl
  have L2 : ∀ (v1 : Int32) (n2 : Nat) (v2 : Int32) (ls : Array Slot) (hl : lv_has ls 3 [(0, .ref (mA md 0)), (1, .int v1), (2, .int v2)]) (hE : w_M_lastIn_L2 σ v1 post n2 v2), W p l e (headSpec ws_M_lastIn { frames := 0, cells := 0, slots := 0, locals := 0 }).room s m ([.ref (mA md 0), .int x0] : List Value).toArray below meth c s.heap [] 0 0 (MQ below (vp_Si post) ([.ref (mA md 0), .int x0] : List Value).toArray s 0 0 (fun _ => False)) (F0 m 2 ls []) := by
    intro v1 n2
    induction n2 with
    | zero => intro v2 ls hl hE; exact hE.elim
    | succ n2 ih2 =>
      intro v2 ls hl hE
      unfold w_M_lastIn_L2 at hE
      refine lv_iload_n hx hb d_M_lastIn_2 rfl (lv_at hl 2 rfl) ?_
      refine lv_iconst (v := 1) hx hb d_M_lastIn_3 (by decide) ?_
      refine lv_iadd hx hb d_M_lastIn_4 ?_
      refine lv_aload_n hx hb d_M_lastIn_5 rfl (lv_at hl 0 rfl) ?_
      refine va_get (D := (mG md)) (ci := 7) (v := .int (mp_nodes σ)) (C := R_M) (T := F_M) (N := 37) hx hb hta i_M hown hK hP 0 rfl rfl 32 (by decide) (hta _ fl_M_175) (fun _ h9 => h9) rfl d_M_lastIn_6 ?_
      refine lv_icmp_ge (tgt := 35) hx hb d_M_lastIn_9 (by decide) (fun cc9 => ?_) (fun cc9 => ?_)
      · have hE := hE.1 cc9
        refine lv_iload_n hx hb d_M_lastIn_35 rfl (lv_at hl 2 rfl) ?_
        exact W.iret (v := v2) hx hb hr (fun t ht hW => ⟨_, rfl, hE, ht⟩) (fun q h => by cases h) d_M_lastIn_36
      · have hE := hE.2 cc9
        refine lv_aload_n hx hb d_M_lastIn_12 rfl (lv_at hl 0 rfl) ?_
        refine va_get (D := (mG md)) (ci := 7) (v := .ref (mA md 14)) (C := R_M) (T := F_M) (N := 37) hx hb hta i_M hown hK hP 0 rfl rfl 29 (by decide) (hta _ fl_M_55) (fun _ h9 => h9) rfl d_M_lastIn_13 ?_
        refine lv_iload_n hx hb d_M_lastIn_16 rfl (lv_at hl 2 rfl) ?_
        refine lv_iconst (v := 1) hx hb d_M_lastIn_17 (by decide) ?_
        refine lv_iadd hx hb d_M_lastIn_18 ?_
        obtain ⟨hI19, hE⟩ := hE
        refine va_iald (D := (mG md)) (f := mp_depth σ) hx hb hK hP 14 0 rfl rfl hI19 d_M_lastIn_19 ?_
        refine lv_aload_n hx hb d_M_lastIn_20 rfl (lv_at hl 0 rfl) ?_
        refine va_get (D := (mG md)) (ci := 7) (v := .ref (mA md 14)) (C := R_M) (T := F_M) (N := 37) hx hb hta i_M hown hK hP 0 rfl rfl 29 (by decide) (hta _ fl_M_55) (fun _ h9 => h9) rfl d_M_lastIn_21 ?_
        refine lv_iload_n hx hb d_M_lastIn_24 rfl (lv_at hl 1 rfl) ?_
        obtain ⟨hI25, hE⟩ := hE
        refine va_iald (D := (mG md)) (f := mp_depth σ) hx hb hK hP 14 0 rfl rfl hI25 d_M_lastIn_25 ?_
        refine lv_icmp_le (tgt := 35) hx hb d_M_lastIn_26 (by decide) (fun cc26 => ?_) (fun cc26 => ?_)
        · have hE := hE.1 cc26
          refine lv_iload_n hx hb d_M_lastIn_35 rfl (lv_at hl 2 rfl) ?_
          exact W.iret (v := v2) hx hb hr (fun t ht hW => ⟨_, rfl, hE, ht⟩) (fun q h => by cases h) d_M_lastIn_36
        · have hE := hE.2 cc26
          refine lv_iinc (v := v2 + 1) (lv' := [(2, .int (v2 + 1)), (0, .ref (mA md 0)), (1, .int v1)]) hx hb d_M_lastIn_29 hl (k := 2) rfl rfl (by decide) rfl (fun ls hl => ?_)
          refine lv_goto (tgt := 2) hx hb d_M_lastIn_32 (by decide) ?_
          exact ih2 (v2 + 1) _ (lv_sub hl [1, 2, 0] rfl) hE
  unfold w_M_lastIn at hE
  refine lv_iload_n hx hb d_M_lastIn_0 rfl (lv_at hl 1 rfl) ?_
  refine lv_istore_n (lv' := [(2, .int x0), (0, .ref (mA md 0)), (1, .int x0)]) hx hb d_M_lastIn_1 rfl hl (by decide) rfl (fun ls hl => ?_)
  obtain ⟨n2, hE⟩ := hE
  exact L2 x0 n2 x0 _ (lv_sub hl [1, 2, 0] rfl) hE
theorem fl_M_16 : Cond.fieldLink "PlainPagesModel" 16 "PlainPagesModel" "ready" "[B" ∈ aW := aW_in 907 (by decide +kernel) rfl
theorem d_M_feed_0 : decode b_M_feed 0 = .ok (.aload_n 0, 1) := by decide +kernel
theorem d_M_feed_1 : decode b_M_feed 1 = .ok (.iconst 0, 1) := by decide +kernel
theorem d_M_feed_2 : decode b_M_feed 2 = .ok (.putfield 70, 3) := by decide +kernel
theorem d_M_feed_5 : decode b_M_feed 5 = .ok (.iconst 0, 1) := by decide +kernel
theorem d_M_feed_6 : decode b_M_feed 6 = .ok (.istore 6, 2) := by decide +kernel
theorem d_M_feed_8 : decode b_M_feed 8 = .ok (.iload 6, 2) := by decide +kernel
theorem d_M_feed_10 : decode b_M_feed 10 = .ok (.iconst 4, 1) := by decide +kernel
theorem d_M_feed_11 : decode b_M_feed 11 = .ok (.if_icmp .ge 92, 3) := by decide +kernel
theorem d_M_feed_14 : decode b_M_feed 14 = .ok (.bipush 24, 2) := by decide +kernel
theorem d_M_feed_16 : decode b_M_feed 16 = .ok (.bipush 8, 2) := by decide +kernel
theorem d_M_feed_18 : decode b_M_feed 18 = .ok (.iload 6, 2) := by decide +kernel
theorem d_M_feed_20 : decode b_M_feed 20 = .ok (.imul, 1) := by decide +kernel
theorem d_M_feed_21 : decode b_M_feed 21 = .ok (.isub, 1) := by decide +kernel
theorem d_M_feed_22 : decode b_M_feed 22 = .ok (.istore 7, 2) := by decide +kernel
theorem d_M_feed_24 : decode b_M_feed 24 = .ok (.aload_n 0, 1) := by decide +kernel
theorem d_M_feed_25 : decode b_M_feed 25 = .ok (.getfield 16, 3) := by decide +kernel
theorem d_M_feed_28 : decode b_M_feed 28 = .ok (.iload 6, 2) := by decide +kernel
theorem d_M_feed_30 : decode b_M_feed 30 = .ok (.iload_n 1, 1) := by decide +kernel
theorem d_M_feed_31 : decode b_M_feed 31 = .ok (.iload 7, 2) := by decide +kernel
theorem d_M_feed_33 : decode b_M_feed 33 = .ok (.ishr, 1) := by decide +kernel
theorem d_M_feed_34 : decode b_M_feed 34 = .ok (.i2b, 1) := by decide +kernel
theorem d_M_feed_35 : decode b_M_feed 35 = .ok (.bastore, 1) := by decide +kernel
theorem d_M_feed_36 : decode b_M_feed 36 = .ok (.aload_n 0, 1) := by decide +kernel
theorem d_M_feed_37 : decode b_M_feed 37 = .ok (.getfield 16, 3) := by decide +kernel
theorem d_M_feed_40 : decode b_M_feed 40 = .ok (.iconst 4, 1) := by decide +kernel
theorem d_M_feed_41 : decode b_M_feed 41 = .ok (.iload 6, 2) := by decide +kernel
theorem d_M_feed_43 : decode b_M_feed 43 = .ok (.iadd, 1) := by decide +kernel
theorem d_M_feed_44 : decode b_M_feed 44 = .ok (.iload_n 2, 1) := by decide +kernel
theorem d_M_feed_45 : decode b_M_feed 45 = .ok (.iload 7, 2) := by decide +kernel
theorem d_M_feed_47 : decode b_M_feed 47 = .ok (.ishr, 1) := by decide +kernel
theorem d_M_feed_48 : decode b_M_feed 48 = .ok (.i2b, 1) := by decide +kernel
theorem d_M_feed_49 : decode b_M_feed 49 = .ok (.bastore, 1) := by decide +kernel
theorem d_M_feed_50 : decode b_M_feed 50 = .ok (.aload_n 0, 1) := by decide +kernel
theorem d_M_feed_51 : decode b_M_feed 51 = .ok (.getfield 16, 3) := by decide +kernel
theorem d_M_feed_54 : decode b_M_feed 54 = .ok (.bipush 8, 2) := by decide +kernel
theorem d_M_feed_56 : decode b_M_feed 56 = .ok (.iload 6, 2) := by decide +kernel
theorem d_M_feed_58 : decode b_M_feed 58 = .ok (.iadd, 1) := by decide +kernel
theorem d_M_feed_59 : decode b_M_feed 59 = .ok (.iload_n 3, 1) := by decide +kernel
theorem d_M_feed_60 : decode b_M_feed 60 = .ok (.iload 7, 2) := by decide +kernel
theorem d_M_feed_62 : decode b_M_feed 62 = .ok (.ishr, 1) := by decide +kernel
theorem d_M_feed_63 : decode b_M_feed 63 = .ok (.i2b, 1) := by decide +kernel
theorem d_M_feed_64 : decode b_M_feed 64 = .ok (.bastore, 1) := by decide +kernel
theorem d_M_feed_65 : decode b_M_feed 65 = .ok (.aload_n 0, 1) := by decide +kernel
theorem d_M_feed_66 : decode b_M_feed 66 = .ok (.getfield 16, 3) := by decide +kernel
theorem d_M_feed_69 : decode b_M_feed 69 = .ok (.bipush 12, 2) := by decide +kernel
theorem d_M_feed_71 : decode b_M_feed 71 = .ok (.iload 6, 2) := by decide +kernel
theorem d_M_feed_73 : decode b_M_feed 73 = .ok (.iadd, 1) := by decide +kernel
theorem d_M_feed_74 : decode b_M_feed 74 = .ok (.iload 4, 2) := by decide +kernel
theorem d_M_feed_76 : decode b_M_feed 76 = .ok (.iload 7, 2) := by decide +kernel
theorem d_M_feed_78 : decode b_M_feed 78 = .ok (.ishr, 1) := by decide +kernel
theorem d_M_feed_79 : decode b_M_feed 79 = .ok (.i2b, 1) := by decide +kernel
theorem d_M_feed_80 : decode b_M_feed 80 = .ok (.bastore, 1) := by decide +kernel
theorem d_M_feed_81 : decode b_M_feed 81 = .ok (.aload_n 0, 1) := by decide +kernel
theorem d_M_feed_82 : decode b_M_feed 82 = .ok (.getfield 16, 3) := by decide +kernel
theorem d_M_feed_85 : decode b_M_feed 85 = .ok (.bipush 16, 2) := by decide +kernel
theorem d_M_feed_87 : decode b_M_feed 87 = .ok (.iload 6, 2) := by decide +kernel
theorem d_M_feed_89 : decode b_M_feed 89 = .ok (.iadd, 1) := by decide +kernel
theorem d_M_feed_90 : decode b_M_feed 90 = .ok (.iload 5, 2) := by decide +kernel
theorem d_M_feed_92 : decode b_M_feed 92 = .ok (.iload 7, 2) := by decide +kernel
theorem d_M_feed_94 : decode b_M_feed 94 = .ok (.ishr, 1) := by decide +kernel
theorem d_M_feed_95 : decode b_M_feed 95 = .ok (.i2b, 1) := by decide +kernel
theorem d_M_feed_96 : decode b_M_feed 96 = .ok (.bastore, 1) := by decide +kernel
theorem d_M_feed_97 : decode b_M_feed 97 = .ok (.iinc 6 1, 3) := by decide +kernel
theorem d_M_feed_100 : decode b_M_feed 100 = .ok (.goto (-92), 3) := by decide +kernel
theorem d_M_feed_103 : decode b_M_feed 103 = .ok (.return_, 1) := by decide +kernel
def w_M_feed_L8  (v1 : Int32) (v2 : Int32) (v3 : Int32) (v4 : Int32) (v5 : Int32) (post : MPS → Prop) : Nat → Int32 → MPS → Prop
  | 0, _, _ => False
  | n8 + 1, v6, σ => ((4 ≤ v6 → post σ) ∧ (¬ 4 ≤ v6 → (vp_in v6 20 ∧ (∀ σ35 : MPS, σ35 = ms_ready σ (upd (mp_ready σ) v6.toNatClampNeg (vp_nar .byte ((v1 >>> ((24 - (8 * v6)) &&& 31)).toInt8.toInt32))) → (vp_in (4 + v6) 20 ∧ (∀ σ49 : MPS, σ49 = ms_ready σ35 (upd (mp_ready σ35) (4 + v6).toNatClampNeg (vp_nar .byte ((v2 >>> ((24 - (8 * v6)) &&& 31)).toInt8.toInt32))) → (vp_in (8 + v6) 20 ∧ (∀ σ64 : MPS, σ64 = ms_ready σ49 (upd (mp_ready σ49) (8 + v6).toNatClampNeg (vp_nar .byte ((v3 >>> ((24 - (8 * v6)) &&& 31)).toInt8.toInt32))) → (vp_in (12 + v6) 20 ∧ (∀ σ80 : MPS, σ80 = ms_ready σ64 (upd (mp_ready σ64) (12 + v6).toNatClampNeg (vp_nar .byte ((v4 >>> ((24 - (8 * v6)) &&& 31)).toInt8.toInt32))) → (vp_in (16 + v6) 20 ∧ (∀ σ96 : MPS, σ96 = ms_ready σ80 (upd (mp_ready σ80) (16 + v6).toNatClampNeg (vp_nar .byte ((v5 >>> ((24 - (8 * v6)) &&& 31)).toInt8.toInt32))) → w_M_feed_L8 v1 v2 v3 v4 v5 post n8 (v6 + 1) σ96))))))))))))
def w_M_feed  (σ : MPS) (x0 : Int32) (x1 : Int32) (x2 : Int32) (x3 : Int32) (x4 : Int32) (post : MPS → Prop) : Prop := (∀ σ2 : MPS, σ2 = ms_thrown σ 0 → (∃ n8, w_M_feed_L8 x0 x1 x2 x3 x4 post n8 0 σ2))
set_option maxHeartbeats 4000000 in
set_option maxRecDepth 100000 in
theorem c_M_feed (l : Launch) (md : MD) (sz : Nat) (σ : MPS) (x0 : Int32) (x1 : Int32) (x2 : Int32) (x3 : Int32) (x4 : Int32)  (post : MPS → Prop) (hE : w_M_feed σ x0 x1 x2 x3 x4 post) : Met l y_M_feed ws_M_feed { frames := 0, cells := 0, slots := 0, locals := 0 } (va_Pc [.ref (mA md 0), .int x0, .int x1, .int x2, .int x3, .int x4] (gM md σ sz)) (va_Qv post (eM md (va_A (MW md σ) sz)) (va_A (MW md σ) sz)) 0 0 (va_A (MW md σ) sz) := by
  refine Met.ofW (cc := b_M_feed) (maxL := 8) (ret := none) (by decide) rfl ?_
  intro p e s m args below meth c s₁ B hml hv
  obtain ⟨rfl, hsz, hP, hK, hD0⟩ := hv
  have hx := B.exec
  have hb := B.bytes
  have hr := B.returns
  have hta : ∀ w ∈ aW, w.before _ s = true := fun w h => atoms_spec (ws := ws_M_feed) B.pre w (List.mem_cons_of_mem _ h)
  have hown : s.vm.findClass R_M = some m.cls := findClass_of_methodNamed B.named
  have hlocks := B.notSynchronized
  subst hsz
  have hD := hD0.self (sz := s.heap.size)
  generalize hAe : va_A (MW md σ) s.heap.size = A at hD ⊢
  have hA : ∀ q : Nat, s.heap.size ≤ q → A q := fun q h => by rw [← hAe]; exact Or.inr h
  have hS : va_S A s.heap s.heap [] := va_S.rf
  have hP : va_P (mG md) classes (MW md σ) s.heap := hP
  have hl := lv_entry ([.ref (mA md 0), .int x0, .int x1, .int x2, .int x3, .int x4]) (n := 8) (Nat.le_of_ble_eq_true rfl)
  rw [lg_entry_eq]
  generalize (lg_sl ([.ref (mA md 0), .int x0, .int x1, .int x2, .int x3, .int x4]) ++ List.replicate (8 - (lg_sl ([.ref (mA md 0), .int x0, .int x1, .int x2, .int x3, .int x4])).length) Slot.unset).toArray = ls at hl ⊢
  have hl : lv_has ls 8 [(0, .ref (mA md 0)), (1, .int x0), (2, .int x1), (3, .int x2), (4, .int x3), (5, .int x4)] := hl
  have L8 : ∀ (v1 : Int32) (v2 : Int32) (v3 : Int32) (v4 : Int32) (v5 : Int32) (n8 : Nat) (v6 : Int32) (σ : MPS) (H : Heap) (locs : List Loc) (hP : va_P (mG md) classes (MW md σ) H) (hD : va_D A (MW md σ)) (hS : va_S A s.heap H locs) (ls : Array Slot) (hl : lv_has ls 8 [(0, .ref (mA md 0)), (1, .int v1), (2, .int v2), (3, .int v3), (4, .int v4), (5, .int v5), (6, .int v6)]) (hE : w_M_feed_L8 v1 v2 v3 v4 v5 post n8 v6 σ), W p l e (headSpec ws_M_feed { frames := 0, cells := 0, slots := 0, locals := 0 }).room s m ([.ref (mA md 0), .int x0, .int x1, .int x2, .int x3, .int x4] : List Value).toArray below meth c H locs 0 0 (MQ below (va_Qv post (eM md A) A) ([.ref (mA md 0), .int x0, .int x1, .int x2, .int x3, .int x4] : List Value).toArray s 0 0 A) (F0 m 8 ls []) := by
    intro v1 v2 v3 v4 v5 n8
    induction n8 with
    | zero => intro v6 σ H locs hP hD hS ls hl hE; exact hE.elim
    | succ n8 ih8 =>
      intro v6 σ H locs hP hD hS ls hl hE
      unfold w_M_feed_L8 at hE
      refine lv_iload hx hb d_M_feed_8 (lv_at hl 6 rfl) ?_
      refine lv_iconst (v := 4) hx hb d_M_feed_10 (by decide) ?_
      refine lv_icmp_ge (tgt := 103) hx hb d_M_feed_11 (by decide) (fun cc11 => ?_) (fun cc11 => ?_)
      · have hE := hE.1 cc11
        exact W.vret hx hb hr (fun t ht hW => ⟨⟨σ, rfl, hE, by rw [ht]; exact hP, va_K.moved hW.alike hK, hD⟩, hS.F ht⟩) hS.2.2 d_M_feed_103
      · have hE := hE.2 cc11
        refine lv_bipush (v := 24) hx hb d_M_feed_14 (by decide) ?_
        refine lv_bipush (v := 8) hx hb d_M_feed_16 (by decide) ?_
        refine lv_iload hx hb d_M_feed_18 (lv_at hl 6 rfl) ?_
        refine lv_imul hx hb d_M_feed_20 ?_
        refine lv_isub hx hb d_M_feed_21 ?_
        refine lv_istore (lv' := [(7, .int (24 - (8 * v6))), (0, .ref (mA md 0)), (1, .int v1), (2, .int v2), (3, .int v3), (4, .int v4), (5, .int v5), (6, .int v6)]) hx hb d_M_feed_22 hl (by decide) rfl (fun ls hl => ?_)
        refine lv_aload_n hx hb d_M_feed_24 rfl (lv_at hl 1 rfl) ?_
        refine va_get (D := (mG md)) (ci := 7) (v := .ref (mA md 3)) (C := R_M) (T := F_M) (N := 37) hx hb hta i_M hown hK hP 0 rfl rfl 3 (by decide) (hta _ fl_M_16) (fun _ h9 => h9) rfl d_M_feed_25 ?_
        refine lv_iload hx hb d_M_feed_28 (lv_at hl 7 rfl) ?_
        refine lv_iload_n hx hb d_M_feed_30 rfl (lv_at hl 2 rfl) ?_
        refine lv_iload hx hb d_M_feed_31 (lv_at hl 0 rfl) ?_
        refine lv_ishr hx hb d_M_feed_33 ?_
        refine lv_i2b hx hb d_M_feed_34 rfl ?_
        obtain ⟨hI35, hE⟩ := hE
        refine va_bast (D := (mG md)) (f := mp_ready σ) hx hb hK hP hD hS 3 1 rfl rfl hI35 d_M_feed_35 (fun H locs hP hD hS => ?_)
        have hP := mwP_ready hP
        have hD := mwD_ready hD
        have hE := hE _ rfl
        generalize (ms_ready σ (upd (mp_ready σ) v6.toNatClampNeg (vp_nar .byte ((v1 >>> ((24 - (8 * v6)) &&& 31)).toInt8.toInt32))) : MPS) = σ35 at hP hD hE
        refine lv_aload_n hx hb d_M_feed_36 rfl (lv_at hl 1 rfl) ?_
        refine va_get (D := (mG md)) (ci := 7) (v := .ref (mA md 3)) (C := R_M) (T := F_M) (N := 37) hx hb hta i_M hown hK hP 0 rfl rfl 3 (by decide) (hta _ fl_M_16) (fun _ h9 => h9) rfl d_M_feed_37 ?_
        refine lv_iconst (v := 4) hx hb d_M_feed_40 (by decide) ?_
        refine lv_iload hx hb d_M_feed_41 (lv_at hl 7 rfl) ?_
        refine lv_iadd hx hb d_M_feed_43 ?_
        refine lv_iload_n hx hb d_M_feed_44 rfl (lv_at hl 3 rfl) ?_
        refine lv_iload hx hb d_M_feed_45 (lv_at hl 0 rfl) ?_
        refine lv_ishr hx hb d_M_feed_47 ?_
        refine lv_i2b hx hb d_M_feed_48 rfl ?_
        obtain ⟨hI49, hE⟩ := hE
        refine va_bast (D := (mG md)) (f := mp_ready σ35) hx hb hK hP hD hS 3 1 rfl rfl hI49 d_M_feed_49 (fun H locs hP hD hS => ?_)
        have hP := mwP_ready hP
        have hD := mwD_ready hD
        have hE := hE _ rfl
        generalize (ms_ready σ35 (upd (mp_ready σ35) (4 + v6).toNatClampNeg (vp_nar .byte ((v2 >>> ((24 - (8 * v6)) &&& 31)).toInt8.toInt32))) : MPS) = σ49 at hP hD hE
        refine lv_aload_n hx hb d_M_feed_50 rfl (lv_at hl 1 rfl) ?_
        refine va_get (D := (mG md)) (ci := 7) (v := .ref (mA md 3)) (C := R_M) (T := F_M) (N := 37) hx hb hta i_M hown hK hP 0 rfl rfl 3 (by decide) (hta _ fl_M_16) (fun _ h9 => h9) rfl d_M_feed_51 ?_
        refine lv_bipush (v := 8) hx hb d_M_feed_54 (by decide) ?_
        refine lv_iload hx hb d_M_feed_56 (lv_at hl 7 rfl) ?_
        refine lv_iadd hx hb d_M_feed_58 ?_
        refine lv_iload_n hx hb d_M_feed_59 rfl (lv_at hl 4 rfl) ?_
        refine lv_iload hx hb d_M_feed_60 (lv_at hl 0 rfl) ?_
        refine lv_ishr hx hb d_M_feed_62 ?_
        refine lv_i2b hx hb d_M_feed_63 rfl ?_
        obtain ⟨hI64, hE⟩ := hE
        refine va_bast (D := (mG md)) (f := mp_ready σ49) hx hb hK hP hD hS 3 1 rfl rfl hI64 d_M_feed_64 (fun H locs hP hD hS => ?_)
        have hP := mwP_ready hP
        have hD := mwD_ready hD
        have hE := hE _ rfl
        generalize (ms_ready σ49 (upd (mp_ready σ49) (8 + v6).toNatClampNeg (vp_nar .byte ((v3 >>> ((24 - (8 * v6)) &&& 31)).toInt8.toInt32))) : MPS) = σ64 at hP hD hE
        refine lv_aload_n hx hb d_M_feed_65 rfl (lv_at hl 1 rfl) ?_
        refine va_get (D := (mG md)) (ci := 7) (v := .ref (mA md 3)) (C := R_M) (T := F_M) (N := 37) hx hb hta i_M hown hK hP 0 rfl rfl 3 (by decide) (hta _ fl_M_16) (fun _ h9 => h9) rfl d_M_feed_66 ?_
        refine lv_bipush (v := 12) hx hb d_M_feed_69 (by decide) ?_
        refine lv_iload hx hb d_M_feed_71 (lv_at hl 7 rfl) ?_
        refine lv_iadd hx hb d_M_feed_73 ?_
        refine lv_iload hx hb d_M_feed_74 (lv_at hl 5 rfl) ?_
        refine lv_iload hx hb d_M_feed_76 (lv_at hl 0 rfl) ?_
        refine lv_ishr hx hb d_M_feed_78 ?_
        refine lv_i2b hx hb d_M_feed_79 rfl ?_
        obtain ⟨hI80, hE⟩ := hE
        refine va_bast (D := (mG md)) (f := mp_ready σ64) hx hb hK hP hD hS 3 1 rfl rfl hI80 d_M_feed_80 (fun H locs hP hD hS => ?_)
        have hP := mwP_ready hP
        have hD := mwD_ready hD
        have hE := hE _ rfl
        generalize (ms_ready σ64 (upd (mp_ready σ64) (12 + v6).toNatClampNeg (vp_nar .byte ((v4 >>> ((24 - (8 * v6)) &&& 31)).toInt8.toInt32))) : MPS) = σ80 at hP hD hE
        refine lv_aload_n hx hb d_M_feed_81 rfl (lv_at hl 1 rfl) ?_
        refine va_get (D := (mG md)) (ci := 7) (v := .ref (mA md 3)) (C := R_M) (T := F_M) (N := 37) hx hb hta i_M hown hK hP 0 rfl rfl 3 (by decide) (hta _ fl_M_16) (fun _ h9 => h9) rfl d_M_feed_82 ?_
        refine lv_bipush (v := 16) hx hb d_M_feed_85 (by decide) ?_
        refine lv_iload hx hb d_M_feed_87 (lv_at hl 7 rfl) ?_
        refine lv_iadd hx hb d_M_feed_89 ?_
        refine lv_iload hx hb d_M_feed_90 (lv_at hl 6 rfl) ?_
        refine lv_iload hx hb d_M_feed_92 (lv_at hl 0 rfl) ?_
        refine lv_ishr hx hb d_M_feed_94 ?_
        refine lv_i2b hx hb d_M_feed_95 rfl ?_
        obtain ⟨hI96, hE⟩ := hE
        refine va_bast (D := (mG md)) (f := mp_ready σ80) hx hb hK hP hD hS 3 1 rfl rfl hI96 d_M_feed_96 (fun H locs hP hD hS => ?_)
        have hP := mwP_ready hP
        have hD := mwD_ready hD
        have hE := hE _ rfl
        generalize (ms_ready σ80 (upd (mp_ready σ80) (16 + v6).toNatClampNeg (vp_nar .byte ((v5 >>> ((24 - (8 * v6)) &&& 31)).toInt8.toInt32))) : MPS) = σ96 at hP hD hE
        refine lv_iinc (v := v6 + 1) (lv' := [(6, .int (v6 + 1)), (7, .int (24 - (8 * v6))), (0, .ref (mA md 0)), (1, .int v1), (2, .int v2), (3, .int v3), (4, .int v4), (5, .int v5)]) hx hb d_M_feed_97 hl (k := 7) rfl rfl (by decide) rfl (fun ls hl => ?_)
        refine lv_goto (tgt := 8) hx hb d_M_feed_100 (by decide) ?_
        exact ih8 (v6 + 1) σ96 _ _ hP hD hS _ (lv_sub hl [2, 3, 4, 5, 6, 7, 0] rfl) hE
  unfold w_M_feed at hE
  refine lv_aload_n hx hb d_M_feed_0 rfl (lv_at hl 0 rfl) ?_
  refine lv_iconst (v := 0) hx hb d_M_feed_1 (by decide) ?_
  refine va_put (D := (mG md)) (ci := 7) (v := .int 0) (ty := .int) (C := R_M) (T := F_M) (N := 37) hx hb hta i_M t_M t_M_ok n_M hown hK hP hD hS 0 rfl rfl 0 (by decide) (hta _ fl_M_70) (fun _ h9 => h9) rfl (by decide +kernel) rfl rfl (Nat.le_of_ble_eq_true rfl) d_M_feed_2 (fun H locs hP hD hS => ?_)
  have hP := mwP_thrown hP
  have hD := mwD_thrown hD
  have hE := hE _ rfl
  generalize (ms_thrown σ 0 : MPS) = σ2 at hP hD hE
  refine lv_iconst (v := 0) hx hb d_M_feed_5 (by decide) ?_
  refine lv_istore (lv' := [(6, .int 0), (0, .ref (mA md 0)), (1, .int x0), (2, .int x1), (3, .int x2), (4, .int x3), (5, .int x4)]) hx hb d_M_feed_6 hl (by decide) rfl (fun ls hl => ?_)
  obtain ⟨n8, hE⟩ := hE
  exact L8 x0 x1 x2 x3 x4 n8 0 σ2 _ _ hP hD hS _ (lv_sub hl [1, 2, 3, 4, 5, 6, 0] rfl) hE
