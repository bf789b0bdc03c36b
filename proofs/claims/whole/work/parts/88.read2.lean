/-! PURE: read of both. -/
section RE
variable {t : Nat → Int32} {n : Nat} {σ : PPS} {τ : MPS}
theorem PC.K {S S' : GS} (h : PC t n S (.inr S')) : S.K ≤ S'.K := by
  rcases h with ⟨_, h⟩ | ⟨_, _, _, h⟩ | ⟨_, _, _, _, h⟩ | ⟨_, _, _, _, _, h⟩ | ⟨_, _, h⟩
  · rcases h with ⟨k, na, os, _, _, _, _, hA⟩ | ⟨p, _, _, rfl⟩ | ⟨k, os, p, _, _, _, _, rfl⟩
    · obtain ⟨e, q, cs, _, _, _, _, _, _, rfl⟩ := hA
      rw [addAt_K]; exact Nat.le_refl _
    · rw [tagEnd_K]; exact Nat.le_refl _
    · rw [shut_K]; exact Nat.le_refl _
  · obtain ⟨k, os, e, p, _, _, _, _, _, rfl⟩ := h
    rw [shut_K]; exact Nat.le_refl _
  · cases h
  · obtain ⟨e, _, _, rfl⟩ := h
    rw [addEl_K]; omega
  · obtain ⟨e, cs, _, _, _, rfl⟩ := h
    rw [addTx_K]; omega
theorem RN.K : ∀ (m : Nat) (S S' : GS), RN t n m S (.inr S') → S.K ≤ S'.K
  | 0, S, S', h => by
    rcases h with ⟨_, h⟩ | ⟨_, p, _, h⟩
    · cases h; exact Nat.le_refl _
    · cases h
  | m + 1, S, S', h => by
    obtain ⟨_, S1, hP, hR⟩ := h
    exact Nat.le_trans hP.K (RN.K m S1 S' hR)
theorem RD.pos {S : GS} (h : RD t n (.inr S)) : 0 < S.K := by
  obtain ⟨a, _, S1, hB, m, hR, _⟩ := h
  obtain ⟨e, _, _, rfl⟩ := hB
  have := RN.K m _ _ hR
  rw [addEl_K] at this
  omega
theorem r_read (hn4 : n ≤ 4000) (ht : mp_taped τ = nI n) (hb : ∀ k, k < n → Bt (t k) (mp_tape τ k)) (hD : Dcl τ) {post : Int32 → MPS → Prop}
    (h0 : ∀ p τ', RD t n (.inl p) → (∀ j, (j = 6 ∨ j = 8) → τ'.1 j = τ.1 j) → (∀ j, (j = 1 ∨ j = 3 ∨ j = 4 ∨ j = 5) → τ'.2 j = τ.2 j) → mp_fault τ' = 1 → mp_faultAt τ' = nI p → mp_known τ' = 0 → mp_thrown τ' = 1 → post 0 τ')
    (h1 : ∀ S τ', RD t n (.inr S) → MB S τ' → Inv t n S → Gd t n S → MT τ' t n → (∀ j, (j = 6 ∨ j = 8) → τ'.1 j = τ.1 j) → (∀ j, (j = 1 ∨ j = 3 ∨ j = 4 ∨ j = 5) → τ'.2 j = τ.2 j) → mp_fault τ' = 0 → mp_faultAt τ' = -1 → mp_known τ' = 1 → mp_thrown τ' = 0 → post (nI S.K) τ') : w_M_read τ post := by
  have key : ∀ q i, i + q = n → ∀ τ1 : MPS, τ1.1 = τ.1 → (∀ j, ¬ j = 2 → τ1.2 j = τ.2 j) → (∀ k, k < i → Bt (t k) (mp_text τ1 k)) → ∃ g, w_M_read_L2 post g (nI i) τ1 := by
    intro q
    induction q with
    | zero =>
      intro i hi τ1 p1 p2 p3
      have : i = n := by omega
      subst this
      have et : mp_taped τ1 = nI i := by show τ1.1 6 = _; rw [p1]; exact ht
      refine ⟨1, ?_⟩
      unfold w_M_read_L2
      rw [et]
      refine br_t (nI_le (Nat.le_refl _) (by omega)) (fa_eq ?_)
      have hT : MT (ms_size τ1 (nI i)) t i := ⟨rfl, hn4, fun k hk => p3 k hk⟩
      have hD1 : Dcl (ms_size τ1 (nI i)) := by
        unfold Dcl
        rw [show mp_declaration (ms_size τ1 (nI i)) = mp_declaration τ from p2 5 (by decide)]; exact hD
      have k1 : ∀ j, ¬ j = 7 → (ms_size τ1 (nI i)).1 j = τ.1 j := fun j hj => (va_up_ne τ1.1 _ hj).trans (by rw [p1])
      refine r_lookThrough hT hD1 (fun p τ2 hR kr a2 b2 => ?_) (fun S τ2 hR hM hI hG kr b2 => ?_)
      · refine br_f (by rw [b2]; decide) ?_
        unfold w_M_read_J53 w_M_read_J69 w_M_read_J84 w_M_tell w_M_read_J100
        refine ⟨Or.inl rfl, fa_eq (br_f (by show ¬ mp_bad τ2 = 0; rw [b2]; decide) (br_f (by show ¬ mp_bad τ2 = 0; rw [b2]; decide) (fa_eq (fa_eq (br_f (by show ¬ mp_bad τ2 = 0; rw [b2]; decide) (fa_eq (br_f (by show ¬ mp_bad τ2 = 0; rw [b2]; decide) ?_)))))))⟩
        refine h0 p _ hR (fun j hj => ?_) (fun j hj => (kr.2 j (by omega)).trans (p2 j (by omega))) rfl a2 rfl rfl
        show va_up (va_up (va_up (va_up τ2.1 11 _) 9 _) 10 _) 0 _ j = _
        rw [va_n (by omega), va_n (by omega), va_n (by omega), va_n (by omega)]
        exact (kr.1 j (by rcases hj with h | h <;> (subst h; decide))).trans (k1 j (by omega))
      · refine br_t b2 ?_
        unfold w_M_read_J53 w_M_read_J69 w_M_read_J84 w_M_tell w_M_read_J100
        refine ⟨Or.inr rfl, fa_eq (br_t b2 (br_t b2 (fa_eq (fa_eq (br_t b2 (fa_eq (br_t b2 ?_)))))))⟩
        have hT2 := hT.kr kr
        have := h1 S (ms_thrown (ms_faultAt (ms_fault (ms_known τ2 1) 0) (-1)) 0) hR ⟨hM.1, hM.2.1, fun k hk => (hM.2.2 k hk).mv (fun j _ _ => rfl) rfl rfl rfl rfl rfl rfl rfl rfl⟩ hI hG ⟨hT2.1, hT2.2.1, hT2.2.2⟩ (fun j hj => by
          show va_up (va_up (va_up (va_up τ2.1 11 _) 9 _) 10 _) 0 _ j = _
          rw [va_n (by omega), va_n (by omega), va_n (by omega), va_n (by omega)]
          exact (kr.1 j (by rcases hj with h | h <;> (subst h; decide))).trans (k1 j (by omega))) (fun j hj => (kr.2 j (by omega)).trans (p2 j (by omega))) rfl rfl rfl rfl
        rw [← hM.1] at this
        exact this
    | succ q ih =>
      intro i hi τ1 p1 p2 p3
      have et : mp_taped τ1 = nI n := by show τ1.1 6 = _; rw [p1]; exact ht
      have etp : mp_tape τ1 = mp_tape τ := p2 1 (by decide)
      obtain ⟨g, hg⟩ := ih (i + 1) (by omega) (ms_text τ1 (upd (mp_text τ1) i (vp_nar .byte (mp_tape τ i)))) p1 (fun j hj => (va_up_ne τ1.2 _ hj).trans (p2 j hj)) (fun k hk => by
        show Bt (t k) (upd (mp_text τ1) i _ k)
        by_cases e : k = i
        · rw [e, upd_s]; exact bt_nar (hb i (by omega))
        · rw [upd_n e]; exact p3 k (by omega))
      refine ⟨g + 1, ?_⟩
      unfold w_M_read_L2
      rw [et, etp]
      refine br_f (nI_ge (by omega) (by omega)) ⟨vp_in_nI (by omega) (by decide), vp_in_nI (by omega) (by decide), fa_eq ?_⟩
      rw [nI_clamp (by omega), nI_1]
      exact hg
  exact key n 0 (Nat.zero_add n) τ rfl (fun _ _ => rfl) (fun k hk => absurd hk (Nat.not_lt_zero k))
theorem kp_ne {σ' : PPS} (e : kp σ' = kp σ) : pRd σ' = pRd σ ∧ pTp σ' = pTp σ ∧ pSh σ' = pSh σ := by
  refine ⟨?_, kp_tp e, ?_⟩
  · exact congrArg (fun z : (Nat → Int32) × StS × StS × Int32 × Int32 => z.1) e
  · exact congrArg (fun z : (Nat → Int32) × StS × StS × Int32 × Int32 => z.2.2.1) e
/-- what the law asks of a call that may throw -/
def lawT (r1 : Int32) (g : Nat → Int64) (r2 th : Int32) (N : Prop) : Prop := ((th = r1 → ((r1 = 0 → ((g (0 : Int32).toNatClampNeg = r2.toInt64 → N) ∧ (¬ g (0 : Int32).toNatClampNeg = r2.toInt64 → False))) ∧ (¬ r1 = 0 → N))) ∧ (¬ th = r1 → False))
theorem lawT_ret {g : Nat → Int64} {r : Int32} {f : Nat → Int64} {N : Prop} (h : N) : lawT 0 (vp_updL f (0 : Int32).toNatClampNeg r.toInt64) r 0 N :=
  br_t rfl (br_t rfl (br_t pk_uLs h))
theorem lawT_thr {g : Nat → Int64} {r : Int32} {N : Prop} (h : N) : lawT 1 g r 1 N := br_t rfl (br_f (by decide) h)
theorem c3_read {f : Nat → Int64} (h : RL σ τ) {next : PPS → MPS → (Nat → Int64) → Prop} (hq : ∀ σ' τ' g, RL σ' τ' → next σ' τ' g) : w_L_read σ f (fun r v g => w_M_read τ (fun r' τ' => lawT r g r' (mp_thrown τ') (next v τ' g))) := by
  obtain ⟨n, hn4, t1, t2, t3⟩ := h.tp
  have hT : Tp σ (pTp σ).2 n := ⟨by rw [← t1], hn4⟩
  unfold w_L_read w_X_read
  refine k_firstFault hT (fun p σ' hR hpn hE hk => ?_) (fun S σ' hR hH hk => ?_)
  · obtain ⟨k1, k2, k3⟩ := kp_ne hk
    have hpm : ¬ nI p = -1 := nI_m1 (by omega)
    unfold w_X_keepFault w_X_keepFault_J11
    refine br_f hpm (fa_eq (fa_eq (br_f hpm (br_f hpm ?_))))
    refine r_read hn4 t2 t3 h.dc (fun p' τ' hR' q1 q2 f1 f2 f3 f4 => ?_) (fun S τ' hR' _ _ _ _ _ _ _ _ _ _ => by have := hR.det hR'; cases this)
    have := hR.det hR'
    cases this
    rw [f4]
    refine lawT_thr (g := f) (hq _ _ _ ⟨?_, ?_, ?_, f1.symm, f2.symm, ?_, Or.inl ⟨f3, hE⟩⟩)
    · rw [show mp_ready τ' = mp_ready τ from q2 3 (by decide)]
      show ∀ k, k < 20 → Bt (pRd σ' k) _
      rw [k1]; exact h.rd
    · rw [show mp_taped τ' = mp_taped τ from q1 6 (by decide), show mp_tape τ' = mp_tape τ from q2 1 (by decide)]
      show ∃ n, n ≤ 4000 ∧ (pTp σ').1 = nI n ∧ mp_taped τ = nI n ∧ ∀ k, k < n → Bt ((pTp σ').2 k) (mp_tape τ k)
      rw [k2]; exact h.tp
    · rw [show mp_outs τ' = mp_outs τ from q1 8 (by decide), show mp_output τ' = mp_output τ from q2 4 (by decide)]
      show ∃ m, m ≤ 24000 ∧ (pSh σ').1 = nI m ∧ mp_outs τ = nI m ∧ ∀ i, i < m → (pSh σ').2 i = mp_output τ i &&& 255
      rw [k3]; exact h.sh
    · unfold Dcl; rw [show mp_declaration τ' = mp_declaration τ from q2 5 (by decide)]; exact h.dc
  · obtain ⟨k1, k2, k3⟩ := kp_ne hk
    obtain ⟨hE, g, a, ls, A, hb⟩ := hH
    unfold w_X_keepFault w_X_keepFault_J11
    refine br_t rfl (fa_eq (fa_eq (br_t rfl (br_t rfl ?_))))
    rw [show (pNd (sFp (sFs σ' 0) (-1))).1 = nI S.K from hb.nd.1]
    refine r_read hn4 t2 t3 h.dc (fun p' τ' hR' _ _ _ _ _ _ => by have := hR.det hR'; cases this) (fun S' τ' hR' hM hI hG hMT q1 q2 f1 f2 f3 f4 => ?_)
    have := hR.det hR'
    cases this
    rw [f4]
    refine lawT_ret (g := f) (hq _ _ _ ⟨?_, ?_, ?_, f1.symm, f2.symm, ?_, Or.inr ⟨f3, _, n, S, hR, hI, hG, hR.pos, ⟨hE, g, a, ls, A, hb⟩, hM, hMT⟩⟩)
    · rw [show mp_ready τ' = mp_ready τ from q2 3 (by decide)]
      show ∀ k, k < 20 → Bt (pRd σ' k) _
      rw [k1]; exact h.rd
    · rw [show mp_taped τ' = mp_taped τ from q1 6 (by decide), show mp_tape τ' = mp_tape τ from q2 1 (by decide)]
      show ∃ n, n ≤ 4000 ∧ (pTp σ').1 = nI n ∧ mp_taped τ = nI n ∧ ∀ k, k < n → Bt ((pTp σ').2 k) (mp_tape τ k)
      rw [k2]; exact h.tp
    · rw [show mp_outs τ' = mp_outs τ from q1 8 (by decide), show mp_output τ' = mp_output τ from q2 4 (by decide)]
      show ∃ m, m ≤ 24000 ∧ (pSh σ').1 = nI m ∧ mp_outs τ = nI m ∧ ∀ i, i < m → (pSh σ').2 i = mp_output τ i &&& 255
      rw [k3]; exact h.sh
    · unfold Dcl; rw [show mp_declaration τ' = mp_declaration τ from q2 5 (by decide)]; exact h.dc
end RE
