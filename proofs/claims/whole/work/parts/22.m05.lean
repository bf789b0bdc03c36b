-- printed by wip/gen: the reference

def w_M_characterAt_t_J251   (post : Int32 → MPS → Prop) (v5 : Int32) (σ : MPS) : Prop := post v5 σ
def w_M_characterAt_t_J223   (post : Int32 → MPS → Prop) (v5 : Int32) (t0 : Int32) (σ : MPS) : Prop := ((t0 = 0 → post (-1) σ) ∧ (¬ t0 = 0 → ((1114111 < v5 → post (-1) σ) ∧ (¬ 1114111 < v5 → ((v5 < 55296 → w_M_characterAt_t_J251 post v5 σ) ∧ (¬ v5 < 55296 → ((v5 ≤ 57343 → post (-1) σ) ∧ (¬ v5 ≤ 57343 → w_M_characterAt_t_J251 post v5 σ))))))))
def w_M_characterAt_t_J218   (post : Int32 → MPS → Prop) (v5 : Int32) (σ : MPS) : Prop := w_M_characterAt_t_J223 post v5 1 σ
def w_M_characterAt_t_J215   (post : Int32 → MPS → Prop) (v5 : Int32) (t0 : Int32) (t1 : Int32) (σ : MPS) : Prop := ((t1 < t0 → w_M_characterAt_t_J223 post v5 0 σ) ∧ (¬ t1 < t0 → w_M_characterAt_t_J218 post v5 σ))
def w_M_characterAt_t_L124  (v2 : Int32) (post : Int32 → MPS → Prop) : Nat → Int32 → Int32 → MPS → Prop
  | 0, _, _, _ => False
  | n124 + 1, v5, v6, σ => (((mp_width σ) ≤ v6 → (((mp_width σ) = 1 → w_M_characterAt_t_J218 post v5 σ) ∧ (¬ (mp_width σ) = 1 → (((mp_width σ) = 2 → w_M_characterAt_t_J215 post v5 128 v5 σ) ∧ (¬ (mp_width σ) = 2 → (((mp_width σ) = 3 → w_M_characterAt_t_J215 post v5 2048 v5 σ) ∧ (¬ (mp_width σ) = 3 → w_M_characterAt_t_J215 post v5 65536 v5 σ))))))) ∧ (¬ (mp_width σ) ≤ v6 → (vp_in (v2 + v6) 4000 ∧ ((((((mp_tape σ) (v2 + v6).toNatClampNeg) &&& 255) >>> (6 &&& 31)) = 2 → w_M_characterAt_t_L124 v2 post n124 ((v5 <<< (6 &&& 31)) ||| ((((mp_tape σ) (v2 + v6).toNatClampNeg) &&& 255) &&& 63)) (v6 + 1) σ) ∧ (¬ ((((mp_tape σ) (v2 + v6).toNatClampNeg) &&& 255) >>> (6 &&& 31)) = 2 → post (-1) σ)))))
def w_M_characterAt_t_J119   (post : Int32 → MPS → Prop) (v2 : Int32) (t0 : Int32) (σ : MPS) : Prop := (∃ n124, w_M_characterAt_t_L124 v2 post n124 t0 1 σ)
def w_M_characterAt_t_J71   (post : Int32 → MPS → Prop) (v2 : Int32) (v3 : Int32) (v4 : Int32) (t0 : Int32) (σ : MPS) : Prop := (∀ σ71 : MPS, σ71 = ms_width σ t0 → (((mp_width σ71) = 0 → post (-1) σ71) ∧ (¬ (mp_width σ71) = 0 → (((v2 + (mp_width σ71)) ≤ v3 → (((mp_width σ71) = 1 → w_M_characterAt_t_J119 post v2 v4 σ71) ∧ (¬ (mp_width σ71) = 1 → w_M_characterAt_t_J119 post v2 (v4 &&& (255 >>> (((mp_width σ71) + 1) &&& 31))) σ71))) ∧ (¬ (v2 + (mp_width σ71)) ≤ v3 → post (-1) σ71)))))
def w_M_characterAt_t  (σ : MPS) (x1 : Int32) (x2 : Int32) (post : Int32 → MPS → Prop) : Prop := (vp_in x1 4000 ∧ ((128 ≤ (((mp_tape σ) x1.toNatClampNeg) &&& 255) → ((194 ≤ (((mp_tape σ) x1.toNatClampNeg) &&& 255) → ((224 ≤ (((mp_tape σ) x1.toNatClampNeg) &&& 255) → ((240 ≤ (((mp_tape σ) x1.toNatClampNeg) &&& 255) → ((245 ≤ (((mp_tape σ) x1.toNatClampNeg) &&& 255) → w_M_characterAt_t_J71 post x1 x2 (((mp_tape σ) x1.toNatClampNeg) &&& 255) 0 σ) ∧ (¬ 245 ≤ (((mp_tape σ) x1.toNatClampNeg) &&& 255) → w_M_characterAt_t_J71 post x1 x2 (((mp_tape σ) x1.toNatClampNeg) &&& 255) 4 σ))) ∧ (¬ 240 ≤ (((mp_tape σ) x1.toNatClampNeg) &&& 255) → w_M_characterAt_t_J71 post x1 x2 (((mp_tape σ) x1.toNatClampNeg) &&& 255) 3 σ))) ∧ (¬ 224 ≤ (((mp_tape σ) x1.toNatClampNeg) &&& 255) → w_M_characterAt_t_J71 post x1 x2 (((mp_tape σ) x1.toNatClampNeg) &&& 255) 2 σ))) ∧ (¬ 194 ≤ (((mp_tape σ) x1.toNatClampNeg) &&& 255) → w_M_characterAt_t_J71 post x1 x2 (((mp_tape σ) x1.toNatClampNeg) &&& 255) 0 σ))) ∧ (¬ 128 ≤ (((mp_tape σ) x1.toNatClampNeg) &&& 255) → w_M_characterAt_t_J71 post x1 x2 (((mp_tape σ) x1.toNatClampNeg) &&& 255) 1 σ)))
set_option maxHeartbeats 4000000 in
set_option maxRecDepth 100000 in
theorem c_M_characterAt_t (l : Launch) (md : MD) (sz : Nat) (σ : MPS) (x1 : Int32) (x2 : Int32)  (post : Int32 → MPS → Prop) (hE : w_M_characterAt_t σ x1 x2 post) : Met l y_M_characterAt ws_M_characterAt { frames := 0, cells := 0, slots := 0, locals := 0 } (va_Pc [.ref (mA md 0), .ref (mA md 1), .int x1, .int x2] (gM md σ sz)) (va_Qi post (eM md (va_A (MW md σ) sz)) (va_A (MW md σ) sz)) 0 0 (va_A (MW md σ) sz) := by
  refine Met.ofW (cc := b_M_characterAt) (maxL := 8) (ret := (some .int)) (by decide) rfl ?_
  intro p e s m args below meth c s₁ B hml hv
  obtain ⟨rfl, hsz, hP, hK, hD0⟩ := hv
  have hx := B.exec
  have hb := B.bytes
  have hr := B.returns
  have hta : ∀ w ∈ aW, w.before _ s = true := fun w h => atoms_spec (ws := ws_M_characterAt) B.pre w (List.mem_cons_of_mem _ h)
  have hown : s.vm.findClass R_M = some m.cls := findClass_of_methodNamed B.named
  have hlocks := B.notSynchronized
  subst hsz
  have hD := hD0.self (sz := s.heap.size)
  generalize hAe : va_A (MW md σ) s.heap.size = A at hD ⊢
  have hA : ∀ q : Nat, s.heap.size ≤ q → A q := fun q h => by rw [← hAe]; exact Or.inr h
  have hS : va_S A s.heap s.heap [] := va_S.rf
  have hP : va_P (mG md) classes (MW md σ) s.heap := hP
  have hl := lv_entry ([.ref (mA md 0), .ref (mA md 1), .int x1, .int x2]) (n := 8) (Nat.le_of_ble_eq_true rfl)
  rw [lg_entry_eq]
  generalize (lg_sl ([.ref (mA md 0), .ref (mA md 1), .int x1, .int x2]) ++ List.replicate (8 - (lg_sl ([.ref (mA md 0), .ref (mA md 1), .int x1, .int x2])).length) Slot.unset).toArray = ls at hl ⊢
  have hl : lv_has ls 8 [(0, .ref (mA md 0)), (1, .ref (mA md 1)), (2, .int x1), (3, .int x2)] := hl
  have J251 : ∀ (v5 : Int32) (σ : MPS) (H : Heap) (locs : List Loc) (hP : va_P (mG md) classes (MW md σ) H) (hD : va_D A (MW md σ)) (hS : va_S A s.heap H locs) (ls : Array Slot) (hl : lv_has ls 8 [(5, .int v5)]) (hE : w_M_characterAt_t_J251 post v5 σ), W p l e (headSpec ws_M_characterAt { frames := 0, cells := 0, slots := 0, locals := 0 }).room s m ([.ref (mA md 0), .ref (mA md 1), .int x1, .int x2] : List Value).toArray below meth c H locs 0 0 (MQ below (va_Qi post (eM md A) A) ([.ref (mA md 0), .ref (mA md 1), .int x1, .int x2] : List Value).toArray s 0 0 A) (F0 m 251 ls []) := by
    intro  v5 σ H locs hP hD hS ls hl hE
    unfold w_M_characterAt_t_J251 at hE
    refine lv_iload hx hb d_M_characterAt_251 (lv_at hl 0 rfl) ?_
    refine lv_goto (tgt := 257) hx hb d_M_characterAt_253 (by decide) ?_
    exact W.iret (v := v5) hx hb hr (fun t ht hW => ⟨⟨_, σ, rfl, hE, by rw [ht]; exact hP, va_K.moved hW.alike hK, hD⟩, hS.F ht⟩) hS.2.2 d_M_characterAt_257
  have J223 : ∀ (v5 : Int32) (t0 : Int32) (σ : MPS) (H : Heap) (locs : List Loc) (hP : va_P (mG md) classes (MW md σ) H) (hD : va_D A (MW md σ)) (hS : va_S A s.heap H locs) (ls : Array Slot) (hl : lv_has ls 8 [(5, .int v5)]) (hE : w_M_characterAt_t_J223 post v5 t0 σ), W p l e (headSpec ws_M_characterAt { frames := 0, cells := 0, slots := 0, locals := 0 }).room s m ([.ref (mA md 0), .ref (mA md 1), .int x1, .int x2] : List Value).toArray below meth c H locs 0 0 (MQ below (va_Qi post (eM md A) A) ([.ref (mA md 0), .ref (mA md 1), .int x1, .int x2] : List Value).toArray s 0 0 A) (F0 m 223 ls [.int t0]) := by
    intro  v5 t0 σ H locs hP hD hS ls hl hE
    unfold w_M_characterAt_t_J223 at hE
    refine lv_istore (lv' := [(6, .int t0), (5, .int v5)]) hx hb d_M_characterAt_223 hl (by decide) rfl (fun ls hl => ?_)
    refine lv_iload hx hb d_M_characterAt_225 (lv_at hl 0 rfl) ?_
    refine lv_if_eq (tgt := 256) hx hb d_M_characterAt_227 (by decide) (fun cc227 => ?_) (fun cc227 => ?_)
    · have hE := hE.1 cc227
      refine lv_iconst (v := -1) hx hb d_M_characterAt_256 (by decide) ?_
      exact W.iret (v := (-1)) hx hb hr (fun t ht hW => ⟨⟨_, σ, rfl, hE, by rw [ht]; exact hP, va_K.moved hW.alike hK, hD⟩, hS.F ht⟩) hS.2.2 d_M_characterAt_257
    · have hE := hE.2 cc227
      refine lv_iload hx hb d_M_characterAt_230 (lv_at hl 1 rfl) ?_
      refine lv_ldc hx hb hown (hta _ ct_M_80) d_M_characterAt_232 ?_
      refine lv_icmp_gt (tgt := 256) hx hb d_M_characterAt_234 (by decide) (fun cc234 => ?_) (fun cc234 => ?_)
      · have hE := hE.1 cc234
        refine lv_iconst (v := -1) hx hb d_M_characterAt_256 (by decide) ?_
        exact W.iret (v := (-1)) hx hb hr (fun t ht hW => ⟨⟨_, σ, rfl, hE, by rw [ht]; exact hP, va_K.moved hW.alike hK, hD⟩, hS.F ht⟩) hS.2.2 d_M_characterAt_257
      · have hE := hE.2 cc234
        refine lv_iload hx hb d_M_characterAt_237 (lv_at hl 1 rfl) ?_
        refine lv_ldc hx hb hown (hta _ ct_M_81) d_M_characterAt_239 ?_
        refine lv_icmp_lt (tgt := 251) hx hb d_M_characterAt_241 (by decide) (fun cc241 => ?_) (fun cc241 => ?_)
        · have hE := hE.1 cc241
          exact J251  v5 σ _ _ hP hD hS _ (lv_sub hl [1] rfl) hE
        · have hE := hE.2 cc241
          refine lv_iload hx hb d_M_characterAt_244 (lv_at hl 1 rfl) ?_
          refine lv_ldc hx hb hown (hta _ ct_M_82) d_M_characterAt_246 ?_
          refine lv_icmp_le (tgt := 256) hx hb d_M_characterAt_248 (by decide) (fun cc248 => ?_) (fun cc248 => ?_)
          · have hE := hE.1 cc248
            refine lv_iconst (v := -1) hx hb d_M_characterAt_256 (by decide) ?_
            exact W.iret (v := (-1)) hx hb hr (fun t ht hW => ⟨⟨_, σ, rfl, hE, by rw [ht]; exact hP, va_K.moved hW.alike hK, hD⟩, hS.F ht⟩) hS.2.2 d_M_characterAt_257
          · have hE := hE.2 cc248
            exact J251  v5 σ _ _ hP hD hS _ (lv_sub hl [1] rfl) hE
  have J218 : ∀ (v5 : Int32) (σ : MPS) (H : Heap) (locs : List Loc) (hP : va_P (mG md) classes (MW md σ) H) (hD : va_D A (MW md σ)) (hS : va_S A s.heap H locs) (ls : Array Slot) (hl : lv_has ls 8 [(5, .int v5)]) (hE : w_M_characterAt_t_J218 post v5 σ), W p l e (headSpec ws_M_characterAt { frames := 0, cells := 0, slots := 0, locals := 0 }).room s m ([.ref (mA md 0), .ref (mA md 1), .int x1, .int x2] : List Value).toArray below meth c H locs 0 0 (MQ below (va_Qi post (eM md A) A) ([.ref (mA md 0), .ref (mA md 1), .int x1, .int x2] : List Value).toArray s 0 0 A) (F0 m 218 ls []) := by
    intro  v5 σ H locs hP hD hS ls hl hE
    unfold w_M_characterAt_t_J218 at hE
    refine lv_iconst (v := 1) hx hb d_M_characterAt_218 (by decide) ?_
    refine lv_goto (tgt := 223) hx hb d_M_characterAt_219 (by decide) ?_
    exact J223  v5 1 σ _ _ hP hD hS _ (lv_sub hl [0] rfl) hE
  have J215 : ∀ (v5 : Int32) (t0 : Int32) (t1 : Int32) (σ : MPS) (H : Heap) (locs : List Loc) (hP : va_P (mG md) classes (MW md σ) H) (hD : va_D A (MW md σ)) (hS : va_S A s.heap H locs) (ls : Array Slot) (hl : lv_has ls 8 [(5, .int v5)]) (hE : w_M_characterAt_t_J215 post v5 t0 t1 σ), W p l e (headSpec ws_M_characterAt { frames := 0, cells := 0, slots := 0, locals := 0 }).room s m ([.ref (mA md 0), .ref (mA md 1), .int x1, .int x2] : List Value).toArray below meth c H locs 0 0 (MQ below (va_Qi post (eM md A) A) ([.ref (mA md 0), .ref (mA md 1), .int x1, .int x2] : List Value).toArray s 0 0 A) (F0 m 215 ls [.int t0, .int t1]) := by
    intro  v5 t0 t1 σ H locs hP hD hS ls hl hE
    unfold w_M_characterAt_t_J215 at hE
    refine lv_icmp_lt (tgt := 222) hx hb d_M_characterAt_215 (by decide) (fun cc215 => ?_) (fun cc215 => ?_)
    · have hE := hE.1 cc215
      refine lv_iconst (v := 0) hx hb d_M_characterAt_222 (by decide) ?_
      exact J223  v5 0 σ _ _ hP hD hS _ (lv_sub hl [0] rfl) hE
    · have hE := hE.2 cc215
      exact J218  v5 σ _ _ hP hD hS _ (lv_sub hl [0] rfl) hE
  have L124 : ∀ (v2 : Int32) (n124 : Nat) (v5 : Int32) (v6 : Int32) (σ : MPS) (H : Heap) (locs : List Loc) (hP : va_P (mG md) classes (MW md σ) H) (hD : va_D A (MW md σ)) (hS : va_S A s.heap H locs) (ls : Array Slot) (hl : lv_has ls 8 [(0, .ref (mA md 0)), (1, .ref (mA md 1)), (2, .int v2), (5, .int v5), (6, .int v6)]) (hE : w_M_characterAt_t_L124 v2 post n124 v5 v6 σ), W p l e (headSpec ws_M_characterAt { frames := 0, cells := 0, slots := 0, locals := 0 }).room s m ([.ref (mA md 0), .ref (mA md 1), .int x1, .int x2] : List Value).toArray below meth c H locs 0 0 (MQ below (va_Qi post (eM md A) A) ([.ref (mA md 0), .ref (mA md 1), .int x1, .int x2] : List Value).toArray s 0 0 A) (F0 m 124 ls []) := by
    intro v2 n124
    induction n124 with
    | zero => intro v5 v6 σ H locs hP hD hS ls hl hE; exact hE.elim
    | succ n124 ih124 =>
      intro v5 v6 σ H locs hP hD hS ls hl hE
      unfold w_M_characterAt_t_L124 at hE
      refine lv_iload hx hb d_M_characterAt_124 (lv_at hl 4 rfl) ?_
      refine lv_aload_n hx hb d_M_characterAt_126 rfl (lv_at hl 0 rfl) ?_
      refine va_get (D := (mG md)) (ci := 7) (v := .int (mp_width σ)) (C := R_M) (T := F_M) (N := 37) hx hb hta i_M hown hK hP 0 rfl rfl 12 (by decide) (hta _ fl_M_76) (fun _ h9 => h9) rfl d_M_characterAt_127 ?_
      refine lv_icmp_ge (tgt := 175) hx hb d_M_characterAt_130 (by decide) (fun cc130 => ?_) (fun cc130 => ?_)
      · have hE := hE.1 cc130
        refine lv_aload_n hx hb d_M_characterAt_175 rfl (lv_at hl 0 rfl) ?_
        refine va_get (D := (mG md)) (ci := 7) (v := .int (mp_width σ)) (C := R_M) (T := F_M) (N := 37) hx hb hta i_M hown hK hP 0 rfl rfl 12 (by decide) (hta _ fl_M_76) (fun _ h9 => h9) rfl d_M_characterAt_176 ?_
        refine lv_iconst (v := 1) hx hb d_M_characterAt_179 (by decide) ?_
        refine lv_icmp_eq (tgt := 218) hx hb d_M_characterAt_180 (by decide) (fun cc180 => ?_) (fun cc180 => ?_)
        · have hE := hE.1 cc180
          exact J218  v5 σ _ _ hP hD hS _ (lv_sub hl [3] rfl) hE
        · have hE := hE.2 cc180
          refine lv_iload hx hb d_M_characterAt_183 (lv_at hl 3 rfl) ?_
          refine lv_aload_n hx hb d_M_characterAt_185 rfl (lv_at hl 0 rfl) ?_
          refine va_get (D := (mG md)) (ci := 7) (v := .int (mp_width σ)) (C := R_M) (T := F_M) (N := 37) hx hb hta i_M hown hK hP 0 rfl rfl 12 (by decide) (hta _ fl_M_76) (fun _ h9 => h9) rfl d_M_characterAt_186 ?_
          refine lv_iconst (v := 2) hx hb d_M_characterAt_189 (by decide) ?_
          refine lv_icmp_ne (tgt := 199) hx hb d_M_characterAt_190 (by decide) (fun cc190 => ?_) (fun cc190 => ?_)
          · have hE := hE.2 cc190
            refine lv_aload_n hx hb d_M_characterAt_199 rfl (lv_at hl 0 rfl) ?_
            refine va_get (D := (mG md)) (ci := 7) (v := .int (mp_width σ)) (C := R_M) (T := F_M) (N := 37) hx hb hta i_M hown hK hP 0 rfl rfl 12 (by decide) (hta _ fl_M_76) (fun _ h9 => h9) rfl d_M_characterAt_200 ?_
            refine lv_iconst (v := 3) hx hb d_M_characterAt_203 (by decide) ?_
            refine lv_icmp_ne (tgt := 213) hx hb d_M_characterAt_204 (by decide) (fun cc204 => ?_) (fun cc204 => ?_)
            · have hE := hE.2 cc204
              refine lv_ldc hx hb hown (hta _ ct_M_79) d_M_characterAt_213 ?_
              exact J215  v5 65536 v5 σ _ _ hP hD hS _ (lv_sub hl [3] rfl) hE
            · have hE := hE.1 cc204
              refine lv_sipush (v := 2048) hx hb d_M_characterAt_207 (by decide) ?_
              refine lv_goto (tgt := 215) hx hb d_M_characterAt_210 (by decide) ?_
              exact J215  v5 2048 v5 σ _ _ hP hD hS _ (lv_sub hl [3] rfl) hE
          · have hE := hE.1 cc190
            refine lv_sipush (v := 128) hx hb d_M_characterAt_193 (by decide) ?_
            refine lv_goto (tgt := 215) hx hb d_M_characterAt_196 (by decide) ?_
            exact J215  v5 128 v5 σ _ _ hP hD hS _ (lv_sub hl [3] rfl) hE
      · have hE := hE.2 cc130
        refine lv_aload_n hx hb d_M_characterAt_133 rfl (lv_at hl 1 rfl) ?_
        refine lv_iload_n hx hb d_M_characterAt_134 rfl (lv_at hl 2 rfl) ?_
        refine lv_iload hx hb d_M_characterAt_135 (lv_at hl 4 rfl) ?_
        refine lv_iadd hx hb d_M_characterAt_137 ?_
        obtain ⟨hI138, hE⟩ := hE
        refine va_bald (D := (mG md)) (f := mp_tape σ) hx hb hK hP 1 1 rfl rfl hI138 d_M_characterAt_138 ?_
        refine lv_sipush (v := 255) hx hb d_M_characterAt_139 (by decide) ?_
        refine lv_iand hx hb d_M_characterAt_142 ?_
        refine lv_istore (lv' := [(7, .int (((mp_tape σ) (v2 + v6).toNatClampNeg) &&& 255)), (0, .ref (mA md 0)), (1, .ref (mA md 1)), (2, .int v2), (5, .int v5), (6, .int v6)]) hx hb d_M_characterAt_143 hl (by decide) rfl (fun ls hl => ?_)
        refine lv_iload hx hb d_M_characterAt_145 (lv_at hl 0 rfl) ?_
        refine lv_bipush (v := 6) hx hb d_M_characterAt_147 (by decide) ?_
        refine lv_ishr hx hb d_M_characterAt_149 ?_
        refine lv_iconst (v := 2) hx hb d_M_characterAt_150 (by decide) ?_
        refine lv_icmp_eq (tgt := 156) hx hb d_M_characterAt_151 (by decide) (fun cc151 => ?_) (fun cc151 => ?_)
        · have hE := hE.1 cc151
          refine lv_iload hx hb d_M_characterAt_156 (lv_at hl 4 rfl) ?_
          refine lv_bipush (v := 6) hx hb d_M_characterAt_158 (by decide) ?_
          refine lv_ishl hx hb d_M_characterAt_160 ?_
          refine lv_iload hx hb d_M_characterAt_161 (lv_at hl 0 rfl) ?_
          refine lv_bipush (v := 63) hx hb d_M_characterAt_163 (by decide) ?_
          refine lv_iand hx hb d_M_characterAt_165 ?_
          refine lv_ior hx hb d_M_characterAt_166 ?_
          refine lv_istore (lv' := [(5, .int ((v5 <<< (6 &&& 31)) ||| ((((mp_tape σ) (v2 + v6).toNatClampNeg) &&& 255) &&& 63))), (7, .int (((mp_tape σ) (v2 + v6).toNatClampNeg) &&& 255)), (0, .ref (mA md 0)), (1, .ref (mA md 1)), (2, .int v2), (6, .int v6)]) hx hb d_M_characterAt_167 hl (by decide) rfl (fun ls hl => ?_)
          refine lv_iinc (v := v6 + 1) (lv' := [(6, .int (v6 + 1)), (5, .int ((v5 <<< (6 &&& 31)) ||| ((((mp_tape σ) (v2 + v6).toNatClampNeg) &&& 255) &&& 63))), (7, .int (((mp_tape σ) (v2 + v6).toNatClampNeg) &&& 255)), (0, .ref (mA md 0)), (1, .ref (mA md 1)), (2, .int v2)]) hx hb d_M_characterAt_169 hl (k := 5) rfl rfl (by decide) rfl (fun ls hl => ?_)
          refine lv_goto (tgt := 124) hx hb d_M_characterAt_172 (by decide) ?_
          exact ih124 ((v5 <<< (6 &&& 31)) ||| ((((mp_tape σ) (v2 + v6).toNatClampNeg) &&& 255) &&& 63)) (v6 + 1) σ _ _ hP hD hS _ (lv_sub hl [3, 4, 5, 1, 0] rfl) hE
        · have hE := hE.2 cc151
          refine lv_iconst (v := -1) hx hb d_M_characterAt_154 (by decide) ?_
          exact W.iret (v := (-1)) hx hb hr (fun t ht hW => ⟨⟨_, σ, rfl, hE, by rw [ht]; exact hP, va_K.moved hW.alike hK, hD⟩, hS.F ht⟩) hS.2.2 d_M_characterAt_155
  have J119 : ∀ (v2 : Int32) (t0 : Int32) (σ : MPS) (H : Heap) (locs : List Loc) (hP : va_P (mG md) classes (MW md σ) H) (hD : va_D A (MW md σ)) (hS : va_S A s.heap H locs) (ls : Array Slot) (hl : lv_has ls 8 [(0, .ref (mA md 0)), (1, .ref (mA md 1)), (2, .int v2)]) (hE : w_M_characterAt_t_J119 post v2 t0 σ), W p l e (headSpec ws_M_characterAt { frames := 0, cells := 0, slots := 0, locals := 0 }).room s m ([.ref (mA md 0), .ref (mA md 1), .int x1, .int x2] : List Value).toArray below meth c H locs 0 0 (MQ below (va_Qi post (eM md A) A) ([.ref (mA md 0), .ref (mA md 1), .int x1, .int x2] : List Value).toArray s 0 0 A) (F0 m 119 ls [.int t0]) := by
    intro  v2 t0 σ H locs hP hD hS ls hl hE
    unfold w_M_characterAt_t_J119 at hE
    refine lv_istore (lv' := [(5, .int t0), (0, .ref (mA md 0)), (1, .ref (mA md 1)), (2, .int v2)]) hx hb d_M_characterAt_119 hl (by decide) rfl (fun ls hl => ?_)
    refine lv_iconst (v := 1) hx hb d_M_characterAt_121 (by decide) ?_
    refine lv_istore (lv' := [(6, .int 1), (5, .int t0), (0, .ref (mA md 0)), (1, .ref (mA md 1)), (2, .int v2)]) hx hb d_M_characterAt_122 hl (by decide) rfl (fun ls hl => ?_)
    obtain ⟨n124, hE⟩ := hE
    exact L124 v2 n124 t0 1 σ _ _ hP hD hS _ (lv_sub hl [2, 3, 4, 1, 0] rfl) hE
  have J71 : ∀ (v2 : Int32) (v3 : Int32) (v4 : Int32) (t0 : Int32) (σ : MPS) (H : Heap) (locs : List Loc) (hP : va_P (mG md) classes (MW md σ) H) (hD : va_D A (MW md σ)) (hS : va_S A s.heap H locs) (ls : Array Slot) (hl : lv_has ls 8 [(0, .ref (mA md 0)), (1, .ref (mA md 1)), (2, .int v2), (3, .int v3), (4, .int v4)]) (hE : w_M_characterAt_t_J71 post v2 v3 v4 t0 σ), W p l e (headSpec ws_M_characterAt { frames := 0, cells := 0, slots := 0, locals := 0 }).room s m ([.ref (mA md 0), .ref (mA md 1), .int x1, .int x2] : List Value).toArray below meth c H locs 0 0 (MQ below (va_Qi post (eM md A) A) ([.ref (mA md 0), .ref (mA md 1), .int x1, .int x2] : List Value).toArray s 0 0 A) (F0 m 71 ls [.int t0, .ref (mA md 0)]) := by
    intro  v2 v3 v4 t0 σ H locs hP hD hS ls hl hE
    unfold w_M_characterAt_t_J71 at hE
    refine va_put (D := (mG md)) (ci := 7) (v := .int t0) (ty := .int) (C := R_M) (T := F_M) (N := 37) hx hb hta i_M t_M t_M_ok n_M hown hK hP hD hS 0 rfl rfl 12 (by decide) (hta _ fl_M_76) (fun _ h9 => h9) rfl (by decide +kernel) rfl rfl (Nat.le_of_ble_eq_true rfl) d_M_characterAt_71 (fun H locs hP hD hS => ?_)
    have hP := mwP_width hP
    have hD := mwD_width hD
    have hE := hE _ rfl
    generalize (ms_width σ t0 : MPS) = σ71 at hP hD hE
    refine lv_aload_n hx hb d_M_characterAt_74 rfl (lv_at hl 0 rfl) ?_
    refine va_get (D := (mG md)) (ci := 7) (v := .int (mp_width σ71)) (C := R_M) (T := F_M) (N := 37) hx hb hta i_M hown hK hP 0 rfl rfl 12 (by decide) (hta _ fl_M_76) (fun _ h9 => h9) rfl d_M_characterAt_75 ?_
    refine lv_if_eq (tgt := 91) hx hb d_M_characterAt_78 (by decide) (fun cc78 => ?_) (fun cc78 => ?_)
    · have hE := hE.1 cc78
      refine lv_iconst (v := -1) hx hb d_M_characterAt_91 (by decide) ?_
      exact W.iret (v := (-1)) hx hb hr (fun t ht hW => ⟨⟨_, σ71, rfl, hE, by rw [ht]; exact hP, va_K.moved hW.alike hK, hD⟩, hS.F ht⟩) hS.2.2 d_M_characterAt_92
    · have hE := hE.2 cc78
      refine lv_iload_n hx hb d_M_characterAt_81 rfl (lv_at hl 2 rfl) ?_
      refine lv_aload_n hx hb d_M_characterAt_82 rfl (lv_at hl 0 rfl) ?_
      refine va_get (D := (mG md)) (ci := 7) (v := .int (mp_width σ71)) (C := R_M) (T := F_M) (N := 37) hx hb hta i_M hown hK hP 0 rfl rfl 12 (by decide) (hta _ fl_M_76) (fun _ h9 => h9) rfl d_M_characterAt_83 ?_
      refine lv_iadd hx hb d_M_characterAt_86 ?_
      refine lv_iload_n hx hb d_M_characterAt_87 rfl (lv_at hl 3 rfl) ?_
      refine lv_icmp_le (tgt := 93) hx hb d_M_characterAt_88 (by decide) (fun cc88 => ?_) (fun cc88 => ?_)
      · have hE := hE.1 cc88
        refine lv_aload_n hx hb d_M_characterAt_93 rfl (lv_at hl 0 rfl) ?_
        refine va_get (D := (mG md)) (ci := 7) (v := .int (mp_width σ71)) (C := R_M) (T := F_M) (N := 37) hx hb hta i_M hown hK hP 0 rfl rfl 12 (by decide) (hta _ fl_M_76) (fun _ h9 => h9) rfl d_M_characterAt_94 ?_
        refine lv_iconst (v := 1) hx hb d_M_characterAt_97 (by decide) ?_
        refine lv_icmp_ne (tgt := 106) hx hb d_M_characterAt_98 (by decide) (fun cc98 => ?_) (fun cc98 => ?_)
        · have hE := hE.2 cc98
          refine lv_iload hx hb d_M_characterAt_106 (lv_at hl 4 rfl) ?_
          refine lv_sipush (v := 255) hx hb d_M_characterAt_108 (by decide) ?_
          refine lv_aload_n hx hb d_M_characterAt_111 rfl (lv_at hl 0 rfl) ?_
          refine va_get (D := (mG md)) (ci := 7) (v := .int (mp_width σ71)) (C := R_M) (T := F_M) (N := 37) hx hb hta i_M hown hK hP 0 rfl rfl 12 (by decide) (hta _ fl_M_76) (fun _ h9 => h9) rfl d_M_characterAt_112 ?_
          refine lv_iconst (v := 1) hx hb d_M_characterAt_115 (by decide) ?_
          refine lv_iadd hx hb d_M_characterAt_116 ?_
          refine lv_ishr hx hb d_M_characterAt_117 ?_
          refine lv_iand hx hb d_M_characterAt_118 ?_
          exact J119  v2 (v4 &&& (255 >>> (((mp_width σ71) + 1) &&& 31))) σ71 _ _ hP hD hS _ (lv_sub hl [0, 1, 2] rfl) hE
        · have hE := hE.1 cc98
          refine lv_iload hx hb d_M_characterAt_101 (lv_at hl 4 rfl) ?_
          refine lv_goto (tgt := 119) hx hb d_M_characterAt_103 (by decide) ?_
          exact J119  v2 v4 σ71 _ _ hP hD hS _ (lv_sub hl [0, 1, 2] rfl) hE
      · have hE := hE.2 cc88
        refine lv_iconst (v := -1) hx hb d_M_characterAt_91 (by decide) ?_
        exact W.iret (v := (-1)) hx hb hr (fun t ht hW => ⟨⟨_, σ71, rfl, hE, by rw [ht]; exact hP, va_K.moved hW.alike hK, hD⟩, hS.F ht⟩) hS.2.2 d_M_characterAt_92
  unfold w_M_characterAt_t at hE
  refine lv_aload_n hx hb d_M_characterAt_0 rfl (lv_at hl 1 rfl) ?_
  refine lv_iload_n hx hb d_M_characterAt_1 rfl (lv_at hl 2 rfl) ?_
  obtain ⟨hI2, hE⟩ := hE
  refine va_bald (D := (mG md)) (f := mp_tape σ) hx hb hK hP 1 1 rfl rfl hI2 d_M_characterAt_2 ?_
  refine lv_sipush (v := 255) hx hb d_M_characterAt_3 (by decide) ?_
  refine lv_iand hx hb d_M_characterAt_6 ?_
  refine lv_istore (lv' := [(4, .int (((mp_tape σ) x1.toNatClampNeg) &&& 255)), (0, .ref (mA md 0)), (1, .ref (mA md 1)), (2, .int x1), (3, .int x2)]) hx hb d_M_characterAt_7 hl (by decide) rfl (fun ls hl => ?_)
  refine lv_aload_n hx hb d_M_characterAt_9 rfl (lv_at hl 1 rfl) ?_
  refine lv_iload hx hb d_M_characterAt_10 (lv_at hl 0 rfl) ?_
  refine lv_sipush (v := 128) hx hb d_M_characterAt_12 (by decide) ?_
  refine lv_icmp_ge (tgt := 22) hx hb d_M_characterAt_15 (by decide) (fun cc15 => ?_) (fun cc15 => ?_)
  · have hE := hE.1 cc15
    refine lv_iload hx hb d_M_characterAt_22 (lv_at hl 0 rfl) ?_
    refine lv_sipush (v := 194) hx hb d_M_characterAt_24 (by decide) ?_
    refine lv_icmp_ge (tgt := 34) hx hb d_M_characterAt_27 (by decide) (fun cc27 => ?_) (fun cc27 => ?_)
    · have hE := hE.1 cc27
      refine lv_iload hx hb d_M_characterAt_34 (lv_at hl 0 rfl) ?_
      refine lv_sipush (v := 224) hx hb d_M_characterAt_36 (by decide) ?_
      refine lv_icmp_ge (tgt := 46) hx hb d_M_characterAt_39 (by decide) (fun cc39 => ?_) (fun cc39 => ?_)
      · have hE := hE.1 cc39
        refine lv_iload hx hb d_M_characterAt_46 (lv_at hl 0 rfl) ?_
        refine lv_sipush (v := 240) hx hb d_M_characterAt_48 (by decide) ?_
        refine lv_icmp_ge (tgt := 58) hx hb d_M_characterAt_51 (by decide) (fun cc51 => ?_) (fun cc51 => ?_)
        · have hE := hE.1 cc51
          refine lv_iload hx hb d_M_characterAt_58 (lv_at hl 0 rfl) ?_
          refine lv_sipush (v := 245) hx hb d_M_characterAt_60 (by decide) ?_
          refine lv_icmp_ge (tgt := 70) hx hb d_M_characterAt_63 (by decide) (fun cc63 => ?_) (fun cc63 => ?_)
          · have hE := hE.1 cc63
            refine lv_iconst (v := 0) hx hb d_M_characterAt_70 (by decide) ?_
            exact J71  x1 x2 (((mp_tape σ) x1.toNatClampNeg) &&& 255) 0 σ _ _ hP hD hS _ (lv_sub hl [1, 2, 3, 4, 0] rfl) hE
          · have hE := hE.2 cc63
            refine lv_iconst (v := 4) hx hb d_M_characterAt_66 (by decide) ?_
            refine lv_goto (tgt := 71) hx hb d_M_characterAt_67 (by decide) ?_
            exact J71  x1 x2 (((mp_tape σ) x1.toNatClampNeg) &&& 255) 4 σ _ _ hP hD hS _ (lv_sub hl [1, 2, 3, 4, 0] rfl) hE
        · have hE := hE.2 cc51
          refine lv_iconst (v := 3) hx hb d_M_characterAt_54 (by decide) ?_
          refine lv_goto (tgt := 71) hx hb d_M_characterAt_55 (by decide) ?_
          exact J71  x1 x2 (((mp_tape σ) x1.toNatClampNeg) &&& 255) 3 σ _ _ hP hD hS _ (lv_sub hl [1, 2, 3, 4, 0] rfl) hE
      · have hE := hE.2 cc39
        refine lv_iconst (v := 2) hx hb d_M_characterAt_42 (by decide) ?_
        refine lv_goto (tgt := 71) hx hb d_M_characterAt_43 (by decide) ?_
        exact J71  x1 x2 (((mp_tape σ) x1.toNatClampNeg) &&& 255) 2 σ _ _ hP hD hS _ (lv_sub hl [1, 2, 3, 4, 0] rfl) hE
    · have hE := hE.2 cc27
      refine lv_iconst (v := 0) hx hb d_M_characterAt_30 (by decide) ?_
      refine lv_goto (tgt := 71) hx hb d_M_characterAt_31 (by decide) ?_
      exact J71  x1 x2 (((mp_tape σ) x1.toNatClampNeg) &&& 255) 0 σ _ _ hP hD hS _ (lv_sub hl [1, 2, 3, 4, 0] rfl) hE
  · have hE := hE.2 cc15
    refine lv_iconst (v := 1) hx hb d_M_characterAt_18 (by decide) ?_
    refine lv_goto (tgt := 71) hx hb d_M_characterAt_19 (by decide) ?_
    exact J71  x1 x2 (((mp_tape σ) x1.toNatClampNeg) &&& 255) 1 σ _ _ hP hD hS _ (lv_sub hl [1, 2, 3, 4, 0] rfl) hE
