/-! PURE: end, wipe, fault, output, about of both. -/
section SM
variable {σ : PPS} {τ : MPS}
theorem k_end {n m : Nat} {x : Int32} (hn : (pTp σ).1 = nI n) (hn4 : n ≤ 4000) {post : Int32 → PPS → Prop} (h0 : (∀ m, x = nI m → m ≤ 20 → n + m ≤ 4000 → False) → post (-1) σ)
    (h1 : ∀ m tp' rd', x = nI m → m ≤ 20 → n + m ≤ 4000 → tp'.1 = nI (n + m) → (∀ k, k < n → tp'.2 k = (pTp σ).2 k) → (∀ k, k < m → tp'.2 (n + k) = pRd σ k) → (∀ k, k < 20 → rd' k = 0) → post (nI (n + m)) (sRd (sTp σ tp') rd')) : w_X_end σ x post := by
  unfold w_X_end
  refine ⟨fun a => h0 (fun m e _ _ => nI_pos (n := m) (by omega) (e ▸ a)), fun a => ?_⟩
  obtain ⟨m, hm, rfl⟩ := nI_of a
  refine pk_lt 20 m (fun b => h0 (fun m' e hm' _ => ?_)) (fun b => ?_) rfl rfl (by decide) hm
  · have := (nI_eq hm (by omega)).mp e; omega
  rw [hn, nI_add]
  refine pk_le (n + m) 4000 (fun c => ?_) (fun c => h0 (fun m' e hm' hc => ?_)) rfl rfl (by omega) (by decide)
  · -- zeros at the end
    have zer : ∀ tp', tp'.1 = nI (n + m) → (∀ k, k < n → tp'.2 k = (pTp σ).2 k) → (∀ k, k < m → tp'.2 (n + k) = pRd σ k) → ∀ q i, i + q = 20 → ∀ rd, (∀ k, k < i → rd k = 0) → ∃ g, w_X_end_L58 post g (nI i) (sRd (sTp σ tp') rd) := by
      intro tp' t1 t2 t3 q
      induction q with
      | zero =>
        intro i hi rd hr
        have : i = 20 := by omega
        subst this
        refine ⟨1, ?_⟩
        unfold w_X_end_L58
        refine br_t (by decide) ?_
        have := h1 m tp' rd rfl b c t1 t2 t3 hr
        show post tp'.1 _
        rw [t1]; exact this
      | succ q ih =>
        intro i hi rd hr
        obtain ⟨g, hg⟩ := ih (i + 1) (by omega) (upd rd i 0) (fun k hk => by
          by_cases e : k = i
          · rw [e, upd_s]
          · rw [upd_n e]; exact hr k (by omega))
        refine ⟨g + 1, ?_⟩
        unfold w_X_end_L58
        refine br_f (nI_ge (by omega) (by decide)) ⟨vp_in_nI (by omega) (by decide), fa_eq ?_⟩
        rw [nI_clamp (by omega), nI_1]
        exact hg
    have cpy : ∀ q i, i + q = m → ∀ tp', tp'.1 = nI (n + i) → (∀ k, k < n → tp'.2 k = (pTp σ).2 k) → (∀ k, k < i → tp'.2 (n + k) = pRd σ k) → ∃ g, w_X_end_L32 (nI m) post g (nI i) (sTp σ tp') := by
      intro q
      induction q with
      | zero =>
        intro i hi tp' t1 t2 t3
        have : i = m := by omega
        subst this
        refine ⟨1, ?_⟩
        unfold w_X_end_L32
        exact br_t (nI_le (Nat.le_refl _) hm) (zer tp' t1 t2 t3 20 0 rfl (pRd σ) (fun k hk => absurd hk (Nat.not_lt_zero k)))
      | succ q ih =>
        intro i hi tp' t1 t2 t3
        have ea : sAdd 4000 tp' (pRd σ i) = (nI (n + (i + 1)), upd tp'.2 (n + i) (pRd σ i)) := by
          unfold sAdd
          rw [t1, if_neg (nI_ge (b := 4000) (by omega) (by decide)), nI_clamp (by omega), nI_1]; rfl
        obtain ⟨g, hg⟩ := ih (i + 1) (by omega) (sAdd 4000 tp' (pRd σ i)) (by rw [ea]) (fun k hk => by rw [ea]; show upd tp'.2 (n + i) _ k = _; rw [upd_n (by omega)]; exact t2 k hk) (fun k hk => by
          rw [ea]
          show upd tp'.2 (n + i) _ (n + k) = _
          by_cases e : k = i
          · rw [e, upd_s]
          · rw [upd_n (by omega)]; exact t3 k (by omega))
        refine ⟨g + 1, ?_⟩
        unfold w_X_end_L32
        refine br_f (nI_ge (by omega) hm) ⟨vp_in_nI (by omega) (by decide), fa_eq ?_⟩
        rw [nI_clamp (by omega), nI_1]
        exact hg
    exact cpy m 0 (Nat.zero_add m) (pTp σ) (by rw [Nat.add_zero]; exact hn) (fun k _ => rfl) (fun k hk => absurd hk (Nat.not_lt_zero k))
  · have := (nI_eq hm (by omega)).mp e
    omega
theorem r_endM {n : Nat} {x : Int32} (hn : mp_taped τ = nI n) (hn4 : n ≤ 4000) {post : Int32 → MPS → Prop} (h0 : (∀ m, x = nI m → m ≤ 20 → n + m ≤ 4000 → False) → ∀ τ', Js τ τ' → post (-1) τ')
    (h1 : ∀ m τ', x = nI m → m ≤ 20 → n + m ≤ 4000 → (∀ j, ¬ j = 0 → ¬ j = 6 → τ'.1 j = τ.1 j) → (∀ j, ¬ j = 1 → ¬ j = 3 → τ'.2 j = τ.2 j) → mp_taped τ' = nI (n + m) → (∀ k, k < n → mp_tape τ' k = mp_tape τ k) → (∀ k, k < m → mp_tape τ' (n + k) = vp_nar .byte (mp_ready τ k)) → (∀ k, k < 20 → mp_ready τ' k = 0) → post (nI (n + m)) τ') : w_M_end τ x post := by
  unfold w_M_end
  refine fa_eq ?_
  have J0 : Js τ (ms_thrown τ 0) := Js.set τ (by decide)
  refine ⟨fun a => h0 (fun m e _ _ => nI_pos (n := m) (by omega) (e ▸ a)) _ J0, fun a => ?_⟩
  obtain ⟨m, hm, rfl⟩ := nI_of a
  refine pk_lt 20 m (fun b => h0 (fun m' e hm' _ => ?_) _ J0) (fun b => ?_) rfl rfl (by decide) hm
  · have := (nI_eq hm (by omega)).mp e; omega
  rw [show mp_taped (ms_thrown τ 0) = nI n from hn, nI_add]
  refine pk_le (n + m) 4000 (fun c => ?_) (fun c => h0 (fun m' e hm' hc => ?_) _ J0) rfl rfl (by omega) (by decide)
  · have zer : ∀ q i, i + q = 20 → ∀ τ1 : MPS, (∀ j, ¬ j = 0 → ¬ j = 6 → τ1.1 j = τ.1 j) → (∀ j, ¬ j = 1 → ¬ j = 3 → τ1.2 j = τ.2 j) → mp_taped τ1 = nI (n + m) → (∀ k, k < n → mp_tape τ1 k = mp_tape τ k) → (∀ k, k < m → mp_tape τ1 (n + k) = vp_nar .byte (mp_ready τ k)) → (∀ k, k < i → mp_ready τ1 k = 0) → ∃ g, w_M_end_L71 post g (nI i) τ1 := by
      intro q
      induction q with
      | zero =>
        intro i hi τ1 p1 p2 p3 p4 p5 p6
        have : i = 20 := by omega
        subst this
        refine ⟨1, ?_⟩
        unfold w_M_end_L71
        refine br_t (by decide) ?_
        rw [p3]
        exact h1 m τ1 rfl b c p1 p2 p3 p4 p5 p6
      | succ q ih =>
        intro i hi τ1 p1 p2 p3 p4 p5 p6
        obtain ⟨g, hg⟩ := ih (i + 1) (by omega) (ms_ready τ1 (upd (mp_ready τ1) i (vp_nar .byte 0))) p1 (fun j a b => (va_up_ne τ1.2 _ b).trans (p2 j a b)) p3 p4 p5 (fun k hk => by
          show upd (mp_ready τ1) i _ k = 0
          by_cases e : k = i
          · rw [e, upd_s]; rfl
          · rw [upd_n e]; exact p6 k (by omega))
        refine ⟨g + 1, ?_⟩
        unfold w_M_end_L71
        refine br_f (nI_ge (b := 20) (by omega) (by decide)) ⟨vp_in_nI (by omega) (by decide), fa_eq ?_⟩
        rw [nI_clamp (by omega), nI_1]
        exact hg
    have cpy : ∀ q i, i + q = m → ∀ τ1 : MPS, (∀ j, ¬ j = 0 → τ1.1 j = τ.1 j) → (∀ j, ¬ j = 1 → τ1.2 j = τ.2 j) → (∀ k, k < n → mp_tape τ1 k = mp_tape τ k) → (∀ k, k < i → mp_tape τ1 (n + k) = vp_nar .byte (mp_ready τ k)) → ∃ g, w_M_end_L31 (nI m) post g (nI i) τ1 := by
      intro q
      induction q with
      | zero =>
        intro i hi τ1 p1 p2 p4 p5
        have : i = m := by omega
        subst this
        refine ⟨1, ?_⟩
        unfold w_M_end_L31
        refine br_t (nI_le (Nat.le_refl _) hm) (fa_eq ?_)
        have et : mp_taped τ1 = nI n := (p1 6 (by decide)).trans hn
        rw [et, nI_add]
        exact zer 20 0 rfl _ (fun j a b => (va_up_ne τ1.1 _ b).trans (p1 j a)) (fun j a b => p2 j a) rfl p4 p5 (fun k hk => absurd hk (Nat.not_lt_zero k))
      | succ q ih =>
        intro i hi τ1 p1 p2 p4 p5
        have et : mp_taped τ1 = nI n := (p1 6 (by decide)).trans hn
        have er : mp_ready τ1 = mp_ready τ := p2 3 (by decide)
        obtain ⟨g, hg⟩ := ih (i + 1) (by omega) (ms_tape τ1 (upd (mp_tape τ1) (n + i) (vp_nar .byte (mp_ready τ i)))) p1 (fun j a => (va_up_ne τ1.2 _ a).trans (p2 j a)) (fun k hk => by
          show upd (mp_tape τ1) (n + i) _ k = _
          rw [upd_n (by omega)]; exact p4 k hk) (fun k hk => by
          show upd (mp_tape τ1) (n + i) _ (n + k) = _
          by_cases e : k = i
          · rw [e, upd_s]
          · rw [upd_n (by omega)]; exact p5 k (by omega))
        refine ⟨g + 1, ?_⟩
        unfold w_M_end_L31
        rw [et, er, show nI n + nI i = nI (n + i) from nI_add n i]
        refine br_f (nI_ge (by omega) hm) ⟨vp_in_nI (by omega) (by decide), vp_in_nI (by omega) (by decide), fa_eq ?_⟩
        rw [nI_clamp (by omega), nI_clamp (by omega), nI_1]
        exact hg
    exact cpy m 0 (Nat.zero_add m) _ (fun j hj => va_up_ne τ.1 _ hj) (fun j _ => rfl) (fun k _ => rfl) (fun k hk => absurd hk (Nat.not_lt_zero k))
  · have := (nI_eq hm (by omega)).mp e
    omega
theorem bt_nar {c m : Int32} (h : Bt c m) : Bt c (vp_nar .byte m) := by
  obtain ⟨b, hb, e1, e2⟩ := h
  refine ⟨b, hb, e1, ?_⟩
  rw [e2, vp_nar_byte]
  congr 1
  apply low8
  rw [bp_b]
theorem c1_end {x : Int32} (h : RL σ τ) {post : Int32 → PPS → Int32 → MPS → Prop} (hq : ∀ r σ' τ', RL σ' τ' → post r σ' r τ') : w_X_end σ x (fun r σ' => w_M_end τ x (fun r' τ' => post r σ' r' τ')) := by
  obtain ⟨n, hn4, t1, t2, t3⟩ := h.tp
  refine k_end (m := 0) t1 hn4 (fun hno => r_endM t2 hn4 (fun _ τ' j => hq _ _ _ (h.js j)) (fun m τ' e a b _ _ _ _ _ _ => (hno m e a b).elim)) (fun m tp' rd' e hm hc a1 a2 a3 a4 => r_endM t2 hn4 (fun hno τ' _ => (hno m e hm hc).elim) (fun m' τ' e' hm' hc' b1 b2 b3 b4 b5 b6 => ?_))
  have hmm : m' = m := by
    rw [e] at e'
    exact ((nI_eq (by omega) (by omega)).mp e').symm
  subst hmm
  refine hq _ _ _ ⟨fun k hk => ?_, ⟨n + m', by omega, a1, b3, fun k hk => ?_⟩, ?_, ?_, ?_, ?_, ?_⟩
  · show Bt (rd' k) _
    rw [a4 k hk, b6 k hk]; exact bt_0
  · show Bt (tp'.2 k) _
    by_cases hkn : k < n
    · rw [a2 k hkn, b4 k hkn]; exact t3 k hkn
    · have ek : k = n + (k - n) := by omega
      rw [ek, a3 (k - n) (by omega), b5 (k - n) (by omega)]
      exact bt_nar (h.rd _ (by omega))
  · rw [show mp_outs τ' = mp_outs τ from b1 8 (by decide) (by decide), show mp_output τ' = mp_output τ from b2 4 (by decide) (by decide)]; exact h.sh
  · rw [show mp_fault τ' = mp_fault τ from b1 9 (by decide) (by decide)]; exact h.fs
  · rw [show mp_faultAt τ' = mp_faultAt τ from b1 10 (by decide) (by decide)]; exact h.fp
  · unfold Dcl; rw [show mp_declaration τ' = mp_declaration τ from b2 5 (by decide) (by decide)]; exact h.dc
  · exact (h.bk.sig (σ' := sRd (sTp σ tp') rd') rfl rfl rfl rfl).tau (b1 11 (by decide) (by decide)) (fun j hj => b1 j (by omega) (by omega)) (fun j hj => b2 j (by omega) (by omega))
theorem c2_wipe (h : RL σ τ) {post : PPS → MPS → Prop} (hq : ∀ σ' τ', RL σ' τ' → post σ' τ') : w_X_wipe σ (fun σ' => w_M_wipe τ (fun τ' => post σ' τ')) := by
  refine fa_eq (fa_eq (fa_eq (hq _ _ ⟨h.rd, ⟨0, by decide, rfl, rfl, fun k hk => absurd hk (Nat.not_lt_zero k)⟩, h.sh, h.fs, h.fp, h.dc, ?_⟩)))
  exact (h.bk.sig (σ' := sTp σ (sClr (pTp σ))) rfl rfl rfl rfl).tau rfl (fun j hj => by
    show va_up (va_up τ.1 0 _) 6 _ j = _
    rw [va_n (by omega), va_n (by omega)]) (fun j _ => rfl)
theorem c6_fault {x : Int32} (h : RL σ τ) {post : Int32 → Int32 → MPS → Prop} (hq : ∀ r τ', RL σ τ' → post r r τ') : w_X_fault σ x (fun r => w_M_fault τ x (fun r' τ' => post r r' τ')) := by
  have J0 : RL σ (ms_thrown τ 0) := h.js (Js.set τ (by decide))
  unfold w_X_fault w_M_fault
  refine ⟨fun a => fa_eq (br_t a ?_), fun a => ⟨fun b => fa_eq (br_f a (br_t b ?_)), fun b => fa_eq (br_f a (br_f b ?_))⟩⟩
  · rw [h.fs]; exact hq _ _ J0
  · rw [h.fp]; exact hq _ _ J0
  · exact hq _ _ J0
theorem c14_output {x : Int32} (h : RL σ τ) {post : Int32 → Int32 → MPS → Prop} (hq : ∀ r τ', RL σ τ' → post r r τ') : w_X_output σ x (fun r => w_M_output τ x (fun r' τ' => post r r' τ')) := by
  have J0 : RL σ (ms_thrown τ 0) := h.js (Js.set τ (by decide))
  obtain ⟨m, hm, s1, s2, s3⟩ := h.sh
  unfold w_X_output w_M_output
  refine fa_eq ?_
  refine ⟨fun a => ?_, fun a => ?_⟩
  · rw [sG_neg a]; exact hq _ _ J0
  · obtain ⟨k, hk, rfl⟩ := nI_of a
    rw [sG s1 (by omega) hk, show mp_outs (ms_thrown τ 0) = nI m from s2]
    refine pk_le m k (fun b => ?_) (fun b => ⟨vp_in_nI (by omega) (by decide), ?_⟩) rfl rfl (by omega) hk
    · rw [xx_out b]; exact hq _ _ J0
    · rw [xx_in b, s3 k b, nI_clamp hk]; exact hq _ _ J0
theorem c15_about {x : Int32} (h : RL σ τ) {post : Int32 → Int32 → MPS → Prop} (hq : ∀ r τ', RL σ τ' → post r r τ') : w_X_about σ x (fun r => w_M_about τ x (fun r' τ' => post r r' τ')) := by
  have J0 : RL σ (ms_thrown τ 0) := h.js (Js.set τ (by decide))
  obtain ⟨n, hn, t1, t2, _⟩ := h.tp
  obtain ⟨m, hm, s1, s2, _⟩ := h.sh
  have hb : (mp_known τ = 0 ∧ (pNd σ).1 = 0 ∧ pEl σ = 0) ∨ (mp_known τ = 1 ∧ (pNd σ).1 = mp_nodes τ ∧ pEl σ = mp_elements τ) := by
    rcases h.bk with ⟨a, b⟩ | ⟨a, t, n, S, _, _, _, _, ⟨e, g, aa, ls, A, hb⟩, hM, _⟩
    · exact Or.inl ⟨a, b.1, b.2.2.2⟩
    · exact Or.inr ⟨a, hb.nd.1.trans hM.1.symm, e.trans hM.2.1.symm⟩
  unfold w_X_about w_M_about
  refine ⟨fun a => fa_eq (br_t a ?_), fun a => ⟨fun b => fa_eq (br_f a (br_t b ?_)), fun b => ⟨fun c => fa_eq (br_f a (br_f b (br_t c ?_))), fun c => ⟨fun d => fa_eq (br_f a (br_f b (br_f c (br_t d ?_)))), fun d => fa_eq (br_f a (br_f b (br_f c (br_f d ?_))))⟩⟩⟩⟩
  · rw [t1, ← t2]; exact hq _ _ J0
  · rcases hb with ⟨k0, e1, e2⟩ | ⟨k0, e1, e2⟩
    · refine br_t k0 ?_
      rw [e1]; exact hq _ _ J0
    · refine br_f (by show ¬ mp_known τ = 0; rw [k0]; decide) ?_
      rw [e1]; exact hq _ _ J0
  · rcases hb with ⟨k0, e1, e2⟩ | ⟨k0, e1, e2⟩
    · refine br_t k0 ?_
      rw [e2]; exact hq _ _ J0
    · refine br_f (by show ¬ mp_known τ = 0; rw [k0]; decide) ?_
      rw [e2]; exact hq _ _ J0
  · rw [s1, ← s2]; exact hq _ _ J0
  · exact hq _ _ J0
end SM
