/-! PURE: write of both. -/
section WRT
variable {t : Nat → Int32} {n : Nat} {σ : PPS} {τ : MPS} {S : GS} {g a : Nat → Nat → Int32} {ls : List Int32} {A : Nat} {O : List Int32}
theorem wsum_le : ∀ {j k : Nat}, j ≤ k → wsum S j ≤ wsum S k
  | j, 0, h => by rw [show j = 0 from by omega]; exact Nat.le_refl _
  | j, k + 1, h => by
    by_cases e : j = k + 1
    · rw [e]; exact Nat.le_refl _
    · have := wsum_le (show j ≤ k by omega)
      show wsum S j ≤ wsum S k + wk S k
      omega
theorem KN.wmax (h : KN σ τ t n S g a ls A) {j : Nat} (hj : j ≤ S.K) : wsum S j ≤ 24000 := by
  have h1 := h.gt.wt
  have h2 := h.inv.an
  have h3 := h.inv.n4
  have h4 := wsum_le (S := S) hj
  omega
def nodeT (t : Nat → Int32) (n : Nat) (S : GS) (j : Nat) : List Int32 := if S.el j = true then btag t n S j else escL (S.cs j)
theorem KN.fs_tx (h : KN σ τ t n S g a ls A) {j : Nat} (hj : j < S.K) (he : S.el j = false) : S.fs j = -1 := by
  by_cases hf : S.fs j = -1
  · exact hf
  · obtain ⟨q, h1, _, h3, _⟩ := h.past hj
    have := (h.fork hj hf h1 h3).2.2.2
    rw [he] at this; cases this
theorem nodeT_len (h : KN σ τ t n S g a ls A) {j : Nat} (hj : j < S.K) : (nodeT t n S j).length + (if S.fs j = -1 then 0 else S.nl j + 3) ≤ wk S j := by
  unfold nodeT
  cases he : S.el j with
  | true => rw [if_pos rfl]; exact btag_len he
  | false =>
    rw [if_neg (by decide), if_pos (h.fs_tx hj he)]
    have := escL_len (S.cs j)
    unfold wk
    rw [if_neg (by rw [he]; decide)]
    exact this
def wEnds (t : Nat → Int32) (n : Nat) (S : GS) (top j : Nat) : List Int32 := if S.fs j = -1 then (chF S top (j + 1) (j + 1) j).flatMap (etag t n S) else []
/-- what is written from node j on -/
def wr (t : Nat → Int32) (n : Nat) (S : GS) (top : Nat) : Nat → Nat → List Int32
  | 0, _ => []
  | m + 1, j => nodeT t n S j ++ (wEnds t n S top j ++ wr t n S top m (j + 1))
/-- what is known of the node that is written -/
def Top (S : GS) (top q : Nat) : Prop := (top < S.K) ∧ (S.pa top = nI q) ∧ (top < q) ∧ (q ≤ S.K) ∧ (∀ j, top < j → j < q → S.dp top < S.dp j)
theorem Top.tk {S : GS} {top q : Nat} (h : Top S top q) : top < S.K := h.1
theorem Top.pq {S : GS} {top q : Nat} (h : Top S top q) : S.pa top = nI q := h.2.1
theorem Top.tq {S : GS} {top q : Nat} (h : Top S top q) : top < q := h.2.2.1
theorem Top.qk {S : GS} {top q : Nat} (h : Top S top q) : q ≤ S.K := h.2.2.2.1
theorem Top.dd {S : GS} {top q : Nat} (h : Top S top q) : ∀ j, top < j → j < q → S.dp top < S.dp j := h.2.2.2.2
theorem KN.top (h : KN σ τ t n S g a ls A) {top : Nat} (ht : top < S.K) : ∃ q, Top S top q := by
  obtain ⟨q, h1, h2, h3, h4, _⟩ := h.past ht
  exact ⟨q, ht, h1, h2, h3, h4⟩
/-- within top, a node that holds something ends ahead of top's end -/
theorem Top.in_ (h : KN σ τ t n S g a ls A) {top q j q' : Nat} (hT : Top S top q) (hj : top ≤ j) (hjq : j < q) (hq : S.pa j = nI q') (hqK : q' ≤ S.K) (hjq' : j < q') : q' ≤ q := by
  have hK := h.K
  have hqk := hT.qk
  by_cases e : j = top
  · rw [e, hT.pq] at hq
    have := (nI_eq (by omega) (by omega)).mp hq
    omega
  · by_cases c : q' ≤ q
    · exact c
    · have htk := hT.tk
      obtain ⟨q2, p1, p2, p3, p4, p5⟩ := h.past (show j < S.K by omega)
      have : q2 = q' := by
        rw [hq] at p1
        exact ((nI_eq (by omega) (by omega)).mp p1).symm
      subst this
      obtain ⟨qt, t1, t2, t3, t4, t5⟩ := h.past hT.tk
      have : qt = q := by
        rw [hT.pq] at t1
        exact ((nI_eq (by omega) (by omega)).mp t1).symm
      subst this
      have d1 := p4 qt hjq (by omega)
      have d2 := t5 (by omega)
      have d3 := t4 j (by omega) hjq
      omega
theorem chain_at (h : KN σ τ t n S g a ls A) {top q j : Nat} (hT : Top S top q) (hj : top ≤ j) (hjq : j < q) (hf : S.fs j = -1) : ∃ b, Chn S top (j + 1) j (chF S top (j + 1) (j + 1) j) b ∧ top ≤ b ∧ b < j + 1 ∧ S.pa b = nI (j + 1) := by
  have := hT.qk
  exact chn_ex h hT.tk hT.pq hT.qk (by omega) hT.tq hT.dd (j + 1) j (by omega) hj (by omega) (h.leaf (by omega) hf)
/-- after node j and its ends -/
theorem after (h : KN σ τ t n S g a ls A) {top q j : Nat} (hT : Top S top q) (hj : top ≤ j) (hjq : j < q) (hO : O.length + EpA S top j ≤ wsum S j) : (O ++ nodeT t n S j).length + EpA S top j ≤ wsum S (j + 1) ∧ (j + 1 < q → (O ++ (nodeT t n S j ++ wEnds t n S top j)).length + EpA S top (j + 1) ≤ wsum S (j + 1)) ∧ (O ++ (nodeT t n S j ++ wEnds t n S top j)).length ≤ wsum S (j + 1) := by
  have hK := h.K
  have htk := hT.tk
  have hqk := hT.qk
  have hjK : j < S.K := by omega
  have hn := nodeT_len h hjK
  have es : wsum S (j + 1) = wsum S j + wk S j := rfl
  rw [List.length_append, List.length_append, List.length_append]
  unfold wEnds
  by_cases hf : S.fs j = -1
  · obtain ⟨b, hc, hb1, hb2, hb3⟩ := chain_at h hT hj hjq hf
    have hl := chn_len (t := t) (n := n) hK hc
    rw [if_pos hf] at hn ⊢
    refine ⟨by omega, fun hlt => ?_, by omega⟩
    obtain ⟨c1, c2, c3⟩ := chn_next h hT.pq hT.qk hlt hc hb2 hb3
    have : EpA S top b = EpA S top (j + 1) := by
      rcases Chn.end_ hc with z | ⟨z, w, q', h1, h2, h3, _⟩
      · exact absurd z c1
      · rw [EpA_up z h2 (by omega) h3, EpA_up (a := j + 1) (w := w) (by omega) (by rw [← c2, h2]) (by omega) (by omega)]
    omega
  · obtain ⟨q', p1, p2, p3, p4, p5⟩ := h.past hjK
    obtain ⟨f1, f2, f3, f4⟩ := h.fork hjK hf p1 p3
    rw [if_neg hf] at hn ⊢
    refine ⟨by omega, fun hlt => ?_, by simp only [List.length_nil]; omega⟩
    rw [EpA_up (a := j + 1) (w := j) (by omega) f2 (by omega) f3]
    simp only [List.length_nil]
    omega
def wBody (v1 v2 : Int32) (K23 : Int32 → Int32 → PPS → Prop) (post : PPS → Prop) (v4 r34 : Int32) (σ34 : PPS) : Prop := (((b2i (bEle σ34 v4)) = 0 → w_Scribe_putTold σ34 (tGet 14 (pNd σ34) v4 8) (tGet 14 (pNd σ34) v4 3) (fun σ103 => w_Scribe_putWritten_J106 v1 v2 K23 post r34 v4 σ103)) ∧ (¬ (b2i (bEle σ34 v4)) = 0 → w_Scribe_putBegin σ34 v4 (fun σ53 => (((tGet 14 (pNd σ53) v4 6) = (-1) → w_Scribe_putWritten_J77 v1 v2 K23 post v4 r34 σ53) ∧ (¬ (tGet 14 (pNd σ53) v4 6) = (-1) → w_Scribe_putWritten_J77 v1 v2 K23 post v4 v4 σ53)))))
theorem k_body (h : KN σ τ t n S g a ls A) {top q : Nat} (hT : Top S top q) {post : PPS → Prop} : ∀ m j x O, j + (m + 1) = q → top ≤ j → Str x O → O.length + EpA S top j ≤ wsum S j → (∀ x', Str x' (O ++ wr t n S top (m + 1) j) → post (sSh σ x')) → wBody (nI top) (nI q) (w_Scribe_putWritten_L23 (nI top) (nI q) post (m + 1)) post (nI j) (opv S top j) (sSh σ x) := by
  have hK := h.K
  have htk := hT.tk
  have hqk := hT.qk
  intro m
  induction m with
  | zero =>
    intro j x O hj htj hx hO hq
    have hjK : j < S.K := by omega
    obtain ⟨b1, _, b3⟩ := after h hT htj (by omega) hO
    have w0 := h.wmax (show j + 1 ≤ S.K by omega)
    have hf : S.fs j = -1 := by
      by_cases hf : S.fs j = -1
      · exact hf
      · obtain ⟨q', p1, p2, p3, p4, p5⟩ := h.past hjK
        obtain ⟨f1, _⟩ := h.fork hjK hf p1 p3
        have := Top.in_ h hT htj (by omega) p1 p3 p2
        omega
    obtain ⟨b, hc, hb1, hb2, hb3⟩ := chain_at h hT htj (by omega) hf
    have last : ∀ x1, Str x1 (O ++ nodeT t n S j) → w_Scribe_putWritten_L23 (nI top) (nI q) post (0 + 1) (opv S top j) (nI (j + 1)) (sSh σ x1) := fun x1 h1 => by
      unfold w_Scribe_putWritten_L23
      refine br_t (nI_le (by omega) (by omega)) ?_
      rw [show q = j + 1 from by omega]
      refine ⟨_, k_L6 (d := 0) h htk (show j + 1 ≤ S.K by omega) hc hjK ?_ h1 (by omega) (fun x' hx' => hq x' ?_)⟩
      · have := h.gt.up j hjK
        rcases this with ⟨_, y, _⟩ | ⟨u, y1, _, y3, y4⟩
        · omega
        · have := h.gx.d4 u (by omega) y4
          omega
      · show Str x' (O ++ (nodeT t n S j ++ (wEnds t n S top j ++ [])))
        unfold wEnds
        rw [if_pos hf, List.append_nil, ← List.append_assoc]
        exact hx'
    have e6 : ∀ x1, tGet 14 (pNd (sSh σ x1)) (nI j) 6 = -1 := fun x1 => (h.g6 hjK).trans hf
    unfold wBody
    rw [show bEle (sSh σ x) (nI j) = S.el j from h.bEle hjK]
    unfold nodeT at last b1
    cases he : S.el j with
    | true =>
      rw [he, if_pos rfl] at last
      have : O.length + wk S j ≤ 24000 := by have : wsum S (j + 1) = wsum S j + wk S j := rfl; omega
      refine bl_t rfl (k_putBegin h hjK he hx this (fun x1 h1 => br_t (e6 x1) ?_))
      unfold w_Scribe_putWritten_J77 w_Scribe_putWritten_J106
      rw [nI_1]
      exact last x1 h1
    | false =>
      rw [he, if_neg (by decide)] at last b1
      obtain ⟨f, l8, l3, lS⟩ := h.let2 hjK
      rw [lets_tx he] at l3 lS
      have l8 : tGet 14 (pNd (sSh σ x)) (nI j) 8 = nI f := l8
      have l3 : tGet 14 (pNd (sSh σ x)) (nI j) 3 = nI (S.cs j).length := l3
      rw [l8, l3]
      refine bl_f rfl (k_putTold h.bk.le h.lsl lS (h.txok hjK he) hx (by rw [List.length_append] at b1; omega) (fun x1 h1 => ?_))
      unfold w_Scribe_putWritten_J106
      rw [nI_1]
      exact last x1 h1
  | succ m ih =>
    intro j x O hj htj hx hO hq
    have hjK : j < S.K := by omega
    obtain ⟨b1, b2, b3⟩ := after h hT htj (by omega) hO
    have b2 := b2 (by omega)
    have w0 := h.wmax (show j + 1 ≤ S.K by omega)
    have eW : ∀ x', O ++ wr t n S top (m + 1 + 1) j = x' → (O ++ (nodeT t n S j ++ wEnds t n S top j)) ++ wr t n S top (m + 1) (j + 1) = x' := fun x' e => by
      rw [← e]
      show _ = O ++ (nodeT t n S j ++ (wEnds t n S top j ++ wr t n S top (m + 1) (j + 1)))
      rw [List.append_assoc, List.append_assoc]
    have eW := eW _ rfl
    have nextB : ∀ x1, Str x1 (O ++ (nodeT t n S j ++ wEnds t n S top j)) → wBody (nI top) (nI q) (w_Scribe_putWritten_L23 (nI top) (nI q) post (m + 1)) post (nI (j + 1)) (opv S top (j + 1)) (sSh σ x1) := fun x1 h1 =>
      ih (j + 1) x1 _ (by omega) (by omega) h1 b2 (fun x' hx' => hq x' (by rw [eW] at hx'; exact hx'))
    have eo : opv S top (j + 1) = S.up (j + 1) := by unfold opv; rw [if_neg (by omega)]
    have fin : ∀ v x1, (v = if S.fs j = -1 then opv S top j else nI j) → Str x1 (O ++ nodeT t n S j) → w_Scribe_putWritten_L23 (nI top) (nI q) post (m + 1 + 1) v (nI (j + 1)) (sSh σ x1) := fun v x1 ev h1 => by
      unfold w_Scribe_putWritten_L23
      refine br_f (nI_ge (by omega) (by omega)) ?_
      show w_Scribe_putEnds (sSh σ x1) v (nI (j + 1)) (nI top) (fun r34 σ34 => wBody (nI top) (nI q) (w_Scribe_putWritten_L23 (nI top) (nI q) post (m + 1)) post (nI (j + 1)) r34 σ34)
      by_cases hf : S.fs j = -1
      · obtain ⟨b, hc, hb1, hb2, hb3⟩ := chain_at h hT htj (by omega) hf
        obtain ⟨c1, c2, c3⟩ := chn_next h hT.pq hT.qk (show j + 1 < q by omega) hc hb2 hb3
        rw [if_pos hf] at ev
        rw [ev]
        refine ⟨_, k_L6 (d := 0) h htk (show j + 1 ≤ S.K by omega) hc hjK ?_ h1 (by omega) (fun x' hx' => ?_)⟩
        · rcases h.gt.up j hjK with ⟨_, y, _⟩ | ⟨u, y1, _, y3, y4⟩
          · omega
          · have := h.gx.d4 u (by omega) y4
            omega
        · have := nextB x' (by unfold wEnds; rw [if_pos hf, ← List.append_assoc]; exact hx')
          rw [eo, ← c2] at this
          show wBody _ _ _ _ _ (opv S top b) _
          rw [show opv S top b = S.up b from by unfold opv; rw [if_neg c1]]
          exact this
      · obtain ⟨q', p1, p2, p3, p4, p5⟩ := h.past hjK
        obtain ⟨f1, f2, f3, f4⟩ := h.fork hjK hf p1 p3
        rw [if_neg hf] at ev
        rw [ev]
        refine ⟨0 + 1, ?_⟩
        unfold w_Scribe_putEnds_L6
        have e10 : tGet 14 (pNd (sSh σ x1)) (nI j) 10 = nI q' := (h.g10 hjK).trans p1
        rw [e10]
        refine br_f (by decide) (br_f (nI_m1 (by omega)) (br_t (nI_lt f1 (by omega)) ?_))
        have := nextB x1 (by unfold wEnds; rw [if_neg hf, List.append_nil]; exact h1)
        rw [eo, f2] at this
        exact this
    have e6 : ∀ x1, tGet 14 (pNd (sSh σ x1)) (nI j) 6 = S.fs j := fun x1 => h.g6 hjK
    unfold wBody
    rw [show bEle (sSh σ x) (nI j) = S.el j from h.bEle hjK]
    unfold nodeT at fin b1
    cases he : S.el j with
    | true =>
      rw [he, if_pos rfl] at fin
      have : O.length + wk S j ≤ 24000 := by have : wsum S (j + 1) = wsum S j + wk S j := rfl; omega
      refine bl_t rfl (k_putBegin h hjK he hx this (fun x1 h1 => ?_))
      unfold w_Scribe_putWritten_J77 w_Scribe_putWritten_J106
      rw [nI_1, e6]
      by_cases hf : S.fs j = -1
      · exact br_t hf (fin _ x1 (by rw [if_pos hf]) h1)
      · exact br_f hf (fin _ x1 (by rw [if_neg hf]) h1)
    | false =>
      rw [he, if_neg (show ¬ (false = true) by decide)] at fin b1
      have hf := h.fs_tx hjK he
      obtain ⟨f, l8, l3, lS⟩ := h.let2 hjK
      rw [lets_tx he] at l3 lS
      have l8 : tGet 14 (pNd (sSh σ x)) (nI j) 8 = nI f := l8
      have l3 : tGet 14 (pNd (sSh σ x)) (nI j) 3 = nI (S.cs j).length := l3
      rw [l8, l3]
      refine bl_f rfl (k_putTold h.bk.le h.lsl lS (h.txok hjK he) hx (by rw [List.length_append] at b1; omega) (fun x1 h1 => ?_))
      unfold w_Scribe_putWritten_J106
      rw [nI_1]
      exact fin _ x1 (by rw [if_pos hf]) h1
theorem opv_top {top : Nat} : opv S top top = -1 := by unfold opv; rw [if_pos rfl]
theorem k_putWritten (h : KN σ τ t n S g a ls A) {top q : Nat} (hT : Top S top q) {post : PPS → Prop} (hq : ∀ x', Str x' (wr t n S top (q - top) top) → post (sSh σ x')) : w_Scribe_putWritten σ (nI top) post := by
  have hK := h.K
  have htk := hT.tk
  have htq := hT.tq
  have hqk := hT.qk
  unfold w_Scribe_putWritten
  refine fa_eq ⟨(q - top) + 1, ?_⟩
  rw [show tGet 14 (pNd (sSh σ (sClr (pSh σ)))) (nI top) 10 = nI q from (h.g10 htk).trans hT.pq]
  unfold w_Scribe_putWritten_L23
  refine br_f (nI_ge (by omega) (by omega)) ?_
  show w_Scribe_putEnds (sSh σ (sClr (pSh σ))) (-1) (nI top) (nI top) (fun r34 σ34 => wBody (nI top) (nI q) (w_Scribe_putWritten_L23 (nI top) (nI q) post (q - top)) post (nI top) r34 σ34)
  refine ⟨0 + 1, ?_⟩
  unfold w_Scribe_putEnds_L6
  refine br_f (by decide) (br_t rfl ?_)
  have := k_body h hT (post := post) (q - top - 1) top (sClr (pSh σ)) [] (by omega) (Nat.le_refl _) (Str.clr _) (by rw [EpA_top]; exact Nat.zero_le _) (fun x' hx' => hq x' (by rw [List.nil_append, show q - top - 1 + 1 = q - top from by omega] at hx'; exact hx'))
  rw [opv_top, show q - top - 1 + 1 = q - top from by omega] at this
  exact this
/-! the reference -/
theorem r_lastIn (h : KN σ τ t n S g a ls A) {k q : Nat} (hk : k < S.K) (hkq : k < q) (hqK : q ≤ S.K) (hd : ∀ j, k < j → j < q → S.dp k < S.dp j) (h5 : q < S.K → S.dp q ≤ S.dp k) {post : Int32 → Prop} (hp : post (nI (q - 1))) : w_M_lastIn τ (nI k) post := by
  have hK := h.K
  have dle : ∀ j, j < S.K → S.dp j < 2 ^ 30 := fun j hj => by
    rcases h.gt.up j hj with ⟨_, y, _⟩ | ⟨u, y1, _, y3, y4⟩
    · omega
    · have := h.gx.d4 u (by omega) y4
      omega
  have key : ∀ m j, j + m + 1 = q → k ≤ j → w_M_lastIn_L2 τ (nI k) post (m + 1) (nI j) := by
    intro m
    induction m with
    | zero =>
      intro j hj hkj
      have ej : j = q - 1 := by omega
      unfold w_M_lastIn_L2
      rw [h.mb.1, nI_1]
      refine pk_le S.K (j + 1) (fun c => by rw [ej]; exact hp) (fun c => ⟨h.in_ c, h.in_ hk, ?_⟩) rfl rfl (by omega) (by omega)
      rw [nI_clamp (by omega), nI_clamp (by omega), (h.mb.2.2 (j + 1) c).dp, (h.mb.2.2 k hk).dp]
      have := h5 (by omega)
      have d1 := dle k hk
      exact br_t (nI_le (by rw [show j + 1 = q from by omega]; exact this) (by omega)) (by rw [ej]; exact hp)
    | succ m ih =>
      intro j hj hkj
      unfold w_M_lastIn_L2
      rw [h.mb.1, nI_1]
      refine br_f (nI_ge (by omega) (by omega)) ⟨h.in_ (by omega), h.in_ hk, ?_⟩
      rw [nI_clamp (by omega), nI_clamp (by omega), (h.mb.2.2 (j + 1) (by omega)).dp, (h.mb.2.2 k hk).dp]
      have d1 := dle (j + 1) (by omega)
      exact br_f (nI_ge (hd (j + 1) (by omega) (by omega)) (by omega)) (ih (j + 1) (by omega) (by omega))
  exact ⟨_, key (q - k - 1) k (by omega) (Nat.le_refl _)⟩
theorem r_L104 (h0 : KN σ τ t n S g a ls A) {top e : Nat} {v2 v3 : Int32} (htK : top < S.K) {K39 : Int32 → MPS → Prop} {post : Int32 → MPS → Prop} : ∀ {L : List Nat} {a b : Nat} {τ1 : MPS} {O : List Int32}, Chn S top e a L b → a < S.K → Jz Lz τ τ1 → Ot τ1 O → O.length + EpA S top a ≤ 24000 → (∀ τ', Jz Lz τ τ' → Ot τ' (O ++ L.flatMap (etag t n S)) → w_M_write_J144 (nI top) v2 K39 post v3 τ') → w_M_write_L104 (nI top) v2 v3 K39 post (L.length + 1) (nI a) τ1
  | [], a, b, τ1, O, hc, ha, j1, hx, hO, hq => by
    have hK := h0.K
    have h1 := h0.jz j1
    obtain ⟨_, e2⟩ := hc
    have fin := hq τ1 j1 (by simpa using hx)
    show w_M_write_L104 (nI top) v2 v3 K39 post (0 + 1) (nI a) τ1
    unfold w_M_write_L104
    refine br_f (nI_pos (by omega)) ?_
    rcases e2 with z | ⟨z, hn, _⟩
    · exact br_t (by rw [z]) fin
    · refine br_f (fun y => z ((nI_eq (by omega) (by omega)).mp y)) ⟨h1.in_ ha, ?_⟩
      rw [nI_clamp (by omega), (h1.mb.2.2 a ha).nx]
      exact br_f hn fin
  | w :: L, a, b, τ1, O, hc, ha, j1, hx, hO, hq => by
    have hK := h0.K
    have h1 := h0.jz j1
    obtain ⟨c1, c2, c3, c4, c5, c6, c7, c8⟩ := hc
    have hEp := EpA_up c1 c4 (by omega) c6
    show w_M_write_L104 (nI top) v2 v3 K39 post ((L.length + 1) + 1) (nI a) τ1
    unfold w_M_write_L104
    refine br_f (nI_pos (by omega)) (br_f (fun y => c1 ((nI_eq (by omega) (by omega)).mp y)) ⟨h1.in_ ha, ?_⟩)
    rw [nI_clamp (by omega), (h1.mb.2.2 a ha).nx, (h1.mb.2.2 a ha).up, c4]
    refine br_t c2 ⟨h1.in_ ha, r_putEnding h1 c3 c5 hx (by omega) (fun τ2 j2 o2 => ?_)⟩
    exact r_L104 h0 htK c8 c3 (j1.trans (j2.mono (by decide))) o2 (by rw [List.length_append, etag_len]; omega) (fun τ' j' o' => hq τ' j' (by rw [List.flatMap_cons, ← List.append_assoc]; exact o'))
theorem r_writeL (h0 : KN σ τ t n S g a ls A) {top q : Nat} (hT : Top S top q) {post : Int32 → MPS → Prop} : ∀ m j τ1 O, j + m = q → top ≤ j → Jz Lz τ τ1 → Ot τ1 O → (j < q → O.length + EpA S top j ≤ wsum S j) → (∀ τ', Jz Lz τ τ' → Ot τ' (O ++ wr t n S top m j) → post (mp_outs τ') τ') → w_M_write_L39 (nI top) (nI (q - 1)) post (m + 1) (nI j) τ1 := by
  have hK := h0.K
  have htk := hT.tk
  have htq := hT.tq
  have hqk := hT.qk
  intro m
  induction m with
  | zero =>
    intro j τ1 O hj htj j1 hx hO hq
    unfold w_M_write_L39
    refine br_t (nI_lt (by omega) (by omega)) (hq τ1 j1 ?_)
    show Ot τ1 (O ++ [])
    rw [List.append_nil]; exact hx
  | succ m ih =>
    intro j τ1 O hj htj j1 hx hO hq
    have hO := hO (by omega)
    have hjK : j < S.K := by omega
    have h1 := h0.jz j1
    obtain ⟨b1, b2, b3⟩ := after h0 hT htj (by omega) hO
    have w0 := h0.wmax (show j + 1 ≤ S.K by omega)
    have eW : (O ++ (nodeT t n S j ++ wEnds t n S top j)) ++ wr t n S top m (j + 1) = O ++ wr t n S top (m + 1) j := by
      show _ = O ++ (nodeT t n S j ++ (wEnds t n S top j ++ wr t n S top m (j + 1)))
      rw [List.append_assoc, List.append_assoc]
    have nextB : ∀ τ2, Jz Lz τ τ2 → Ot τ2 (O ++ (nodeT t n S j ++ wEnds t n S top j)) → w_M_write_J144 (nI top) (nI (q - 1)) (w_M_write_L39 (nI top) (nI (q - 1)) post (m + 1)) post (nI j) τ2 := fun τ2 j2 o2 => by
      unfold w_M_write_J144
      rw [nI_1]
      exact ih (j + 1) τ2 _ (by omega) (by omega) j2 o2 b2 (fun τ' j' o' => hq τ' j' (by rw [eW] at o'; exact o'))
    have J78 : ∀ τ2, Jz Lz τ τ2 → Ot τ2 (O ++ nodeT t n S j) → w_M_write_J78 (nI top) (nI (q - 1)) (w_M_write_L39 (nI top) (nI (q - 1)) post (m + 1)) post (nI j) τ2 := fun τ2 j2 o2 => by
      have h2 := h0.jz j2
      have chain : S.fs j = -1 → w_M_write_J101 (nI top) (nI (q - 1)) (w_M_write_L39 (nI top) (nI (q - 1)) post (m + 1)) post (nI j) τ2 := fun hf => by
        unfold w_M_write_J101 w_M_write_J102
        obtain ⟨b, hc, hb1, hb2, hb3⟩ := chain_at h0 hT htj (by omega) hf
        refine ⟨_, r_L104 h0 htk hc hjK j2 o2 (by omega) (fun τ' j' o' => nextB τ' j' ?_)⟩
        unfold wEnds
        rw [if_pos hf, ← List.append_assoc]; exact o'
      unfold w_M_write_J78
      refine ⟨h2.in_ hjK, ?_⟩
      rw [h2.isEl hjK]
      cases he : S.el j with
      | false => exact bl_f rfl (chain (h0.fs_tx hjK he))
      | true =>
        refine bl_t rfl ⟨h2.in_ hjK, ?_⟩
        rw [nI_clamp (by omega), (h2.mb.2.2 j hjK).fs]
        by_cases hf : S.fs j = -1
        · exact br_t hf (chain hf)
        · refine br_f hf ?_
          unfold w_M_write_J102
          refine ⟨0 + 1, ?_⟩
          unfold w_M_write_L104
          refine br_t (by decide) (nextB τ2 j2 ?_)
          unfold wEnds
          rw [if_neg hf, List.append_nil]; exact o2
    unfold w_M_write_L39
    refine br_f (nI_nlt (by omega) (by omega)) ⟨h1.in_ hjK, ?_⟩
    rw [h1.isEl hjK]
    unfold nodeT at J78 b1
    cases he : S.el j with
    | true =>
      rw [he, if_pos rfl] at J78
      have : O.length + wk S j ≤ 24000 := by have : wsum S (j + 1) = wsum S j + wk S j := rfl; omega
      exact bl_t rfl (r_putBeginning h1 hjK he hx this (fun τ2 j2 o2 => J78 τ2 (j1.trans j2) o2))
    | false =>
      rw [he, if_neg (by decide)] at J78 b1
      have hc := h1.gd.tx j hjK he
      have hcl := Chars.le hc.1
      have hbn : S.bg j ≤ n := by
        have h3 := hc.1
        have := hc.2
        cases hL : S.cs j with
        | nil => rw [hL] at h3; have h3 : S.bg j = S.en j := h3; omega
        | cons c L =>
          rw [hL] at h3
          have := xx_lt h3.2.2.1
          omega
      refine bl_f rfl ⟨h1.in_ hjK, h1.in_ hjK, ?_⟩
      rw [nI_clamp (by omega), (h1.mb.2.2 j hjK).bg, (h1.mb.2.2 j hjK).en he]
      exact r_putRow (b := true) h1.mt (hcl.2.2 hbn) hc.1 hx (by rw [escBL_t]; rw [List.length_append] at b1; omega) (fun τ2 j2 o2 => J78 τ2 (j1.trans (j2.mono (by decide))) o2)
/-- both states after a putting -/
theorem RL.put {τ' : MPS} {x : StS} (h : RL σ τ) (hx : Str x O) (ho : Ot τ' O) (hO : O.length ≤ 24000) (d : Jz (0 :: Lz) τ τ') : RL (sSh σ x) τ' := by
  refine ⟨?_, ?_, ⟨O.length, hO, hx.1, ho.1, fun i hi => ?_⟩, ?_, ?_, ?_, ?_⟩
  · rw [show mp_ready τ' = mp_ready τ from d.2 3 (by decide)]; exact h.rd
  · rw [show mp_taped τ' = mp_taped τ from d.1 6 (by decide), show mp_tape τ' = mp_tape τ from d.2 1 (by decide)]; exact h.tp
  · have h1 := hx.2 i hi
    have h2 := ho.2 i hi
    rw [h1] at h2
    exact Option.some.inj h2
  · rw [show mp_fault τ' = mp_fault τ from d.1 9 (by decide)]; exact h.fs
  · rw [show mp_faultAt τ' = mp_faultAt τ from d.1 10 (by decide)]; exact h.fp
  · unfold Dcl; rw [show mp_declaration τ' = mp_declaration τ from d.2 5 (by decide)]; exact h.dc
  · exact (h.bk.sig (σ' := sSh σ x) rfl rfl rfl rfl).tau (d.1 11 (by decide)) (fun j hj => d.1 j (by unfold Lz; simp only [List.mem_cons, List.not_mem_nil, or_false]; omega)) (fun j hj => d.2 j (by omega))
theorem KN.jz0 {τ' : MPS} (h : KN σ τ t n S g a ls A) (d : Jz (0 :: Lz) τ τ') : KN σ τ' t n S g a ls A := ⟨h.rd, h.inv, h.gd, h.pos, h.bk, h.mb.jz d (by decide) (by decide), h.mt.jz d (by decide), (d.1 11 (by decide)).trans h.kn⟩
theorem wr_len (h : KN σ τ t n S g a ls A) {top q : Nat} (hT : Top S top q) : ∀ m j (O : List Int32), j + m = q → top ≤ j → (j < q → O.length + EpA S top j ≤ wsum S j) → (j = q → O.length ≤ wsum S q) → (O ++ wr t n S top m j).length ≤ wsum S q := by
  intro m
  induction m with
  | zero =>
    intro j O hj htj hO hO2
    show (O ++ []).length ≤ _
    rw [List.append_nil]
    exact hO2 (by omega)
  | succ m ih =>
    intro j O hj htj hO hO2
    obtain ⟨b1, b2, b3⟩ := after h hT htj (show j < q by omega) (hO (by omega))
    have eW : (O ++ (nodeT t n S j ++ wEnds t n S top j)) ++ wr t n S top m (j + 1) = O ++ wr t n S top (m + 1) j := by
      show _ = O ++ (nodeT t n S j ++ (wEnds t n S top j ++ wr t n S top m (j + 1)))
      rw [List.append_assoc, List.append_assoc]
    rw [← eW]
    exact ih (j + 1) _ (by omega) (by omega) b2 (fun e => by rw [← e]; exact b3)
/-- a call with a node's number -/
theorem pw_cases (h : RL σ τ) (x : Int32) : (((x < 0) ∨ (¬ x < 0 ∧ ¬ x < (pNd σ).1)) ∧ (∀ {post : Int32 → Prop}, post 0 → w_M_isNode τ x post)) ∨ ∃ t n S g a ls A k, KN σ τ t n S g a ls A ∧ k < S.K ∧ x = nI k ∧ x < (pNd σ).1 ∧ ∀ {post : Int32 → Prop}, post 1 → w_M_isNode τ x post := by
  rcases h.book with ⟨k0, hE⟩ | ⟨t, n, S, g, a, ls, A, hK⟩
  · refine Or.inl ⟨?_, fun {post} hp => br_t k0 hp⟩
    by_cases hx : x < 0
    · exact Or.inl hx
    · exact Or.inr ⟨hx, by rw [hE.1]; exact hx⟩
  · have hK9 := hK.K
    rcases pk_ix x (n := S.K) (by omega) with h1 | h1 | ⟨k, hk, e⟩
    · refine Or.inl ⟨Or.inl h1, fun {post} hp => r_isNode hK (fun _ => hp) (fun k e hk => ?_)⟩
      exact absurd (e ▸ h1) (nI_pos (by omega))
    · have hn : ¬ x < nI S.K := i_nlt.mpr h1
      refine Or.inl ⟨?_, fun {post} hp => r_isNode hK (fun _ => hp) (fun k e hk => ?_)⟩
      · by_cases hx : x < 0
        · exact Or.inl hx
        · exact Or.inr ⟨hx, by rw [hK.bk.nd.1]; exact hn⟩
      · exact absurd (by rw [e]; exact nI_lt hk (by omega)) hn
    · refine Or.inr ⟨t, n, S, g, a, ls, A, k, hK, hk, e, by rw [hK.bk.nd.1, e]; exact nI_lt hk (by omega), fun {post} hp => r_isNode hK (fun z => absurd e (fun e => z k e hk)) (fun _ _ _ => hp)⟩
theorem c13_write {f : Nat → Int64} (h : RL σ τ) (x : Int32) {next : PPS → MPS → (Nat → Int64) → Prop} (hq : ∀ σ' τ' g, RL σ' τ' → next σ' τ' g) : w_L_write σ f x (fun r v g => w_M_write τ x (fun r' τ' => lawT r g r' (mp_thrown τ') (next v τ' g))) := by
  unfold w_L_write w_X_write w_X_write_J15
  rcases pw_cases h x with ⟨hx, hN⟩ | ⟨t, n, S, g, a, ls, A, k, hK, hk, e, hlt, hN⟩
  · have thr : w_M_write τ x (fun r' τ' => lawT 1 f r' (mp_thrown τ') (next σ τ' f)) := by
      unfold w_M_write w_M_write_J14
      exact hN (br_t rfl (fa_eq (br_f (by show ¬ (1 : Int32) ≤ 0; decide) (lawT_thr (hq _ _ _ (h.js (Js.set τ (by decide))))))))
    rcases hx with hx | ⟨h1, h2⟩
    · exact br_t hx thr
    · exact br_f h1 (br_f h2 thr)
  · have hK9 := hK.K
    obtain ⟨q, hT⟩ := hK.top hk
    have htq := hT.tq
    have hqk := hT.qk
    subst e
    refine br_f (nI_pos (by omega)) (br_t hlt (k_putWritten hK hT (fun x' hx' => ?_)))
    show w_M_write τ (nI k) (fun r' τ' => lawT 0 (vp_updL f (0 : Int32).toNatClampNeg ((pSh (sSh σ x')).1).toInt64) r' (mp_thrown τ') (next (sSh σ x') τ' (vp_updL f (0 : Int32).toNatClampNeg ((pSh (sSh σ x')).1).toInt64)))
    unfold w_M_write w_M_write_J14
    refine hN ?_
    refine br_f (by decide) (fa_eq (br_t (by show (0 : Int32) ≤ 0; decide) (fa_eq ?_)))
    have d0 : Jz (0 :: Lz) τ (ms_outs (ms_thrown τ 0) 0) := ⟨fun j hj => by
      show va_up (va_up τ.1 0 _) 8 _ j = _
      rw [va_n (fun z => hj (by rw [z]; decide)), va_n (fun z => hj (by rw [z]; decide))], fun j hj => rfl⟩
    have hK2 := hK.jz0 d0
    obtain ⟨q2, p1, p2, p3, p4, p5⟩ := hK.past hk
    have : q2 = q := by
      have := hT.pq
      rw [p1] at this
      exact (nI_eq (by omega) (by omega)).mp this
    subst this
    refine r_lastIn hK2 hk p2 p3 p4 p5 ⟨_, r_writeL hK2 hT (q2 - k) k _ [] (by omega) (Nat.le_refl _) (Jz.refl _ _) ⟨rfl, fun i hi => absurd hi (Nat.not_lt_zero i)⟩ (fun _ => by rw [EpA_top]; exact Nat.zero_le _) (fun τ' j' o' => ?_)⟩
    rw [List.nil_append] at o'
    have hlen := wr_len hK hT (q2 - k) k [] (by omega) (Nat.le_refl _) (fun _ => by rw [EpA_top]; exact Nat.zero_le _) (fun z => by omega)
    rw [List.nil_append] at hlen
    have hw := hK.wmax hqk
    rw [show mp_thrown τ' = 0 from j'.1 0 (by decide)]
    have e1 : (pSh (sSh σ x')).1 = mp_outs τ' := hx'.1.trans o'.1.symm
    rw [← e1]
    exact lawT_ret (g := f) (hq _ _ _ (h.put hx' o' (by omega) (d0.trans (j'.mono (fun j hj => List.mem_cons_of_mem _ hj)))))
end WRT
