/-! PURE: plain of both. -/
section PLN
variable {t : Nat → Int32} {n : Nat} {σ : PPS} {τ : MPS} {S : GS} {g a : Nat → Nat → Int32} {ls : List Int32} {A : Nat} {O : List Int32}
def altT (t : Nat → Int32) (n : Nat) (S : GS) (k : Nat) : List Int32 := match (S.as k).find? (fun B => decide (nmB t n B = tx 13)) with
  | none => []
  | some B => encL B.cs
theorem altT_0 {k : Nat} (hall : ∀ B ∈ S.as k, ¬ nmB t n B = tx 13) : altT t n S k = [] := by
  unfold altT
  rw [List.find?_eq_none.mpr (fun B hB => by rw [decide_eq_true_eq]; exact hall B hB)]
theorem altT_1 (h : KN σ τ t n S g a ls A) {k : Nat} {B : Att} (hk : k < S.K) (hB : B ∈ S.as k) (hs : nmB t n B = tx 13) : altT t n S k = encL B.cs := by
  unfold altT
  cases hf : (S.as k).find? (fun B => decide (nmB t n B = tx 13)) with
  | none =>
    have := List.find?_eq_none.mp hf B hB
    rw [decide_eq_true_eq] at this
    exact absurd hs this
  | some C =>
    have h1 := List.mem_of_find?_eq_some hf
    have h2 := List.find?_some hf
    rw [decide_eq_true_eq] at h2
    rw [h.nmU hk h1 h2 hB hs]
def plT (t : Nat → Int32) (n : Nat) (S : GS) (j : Nat) : List Int32 := if kOf t n S j = some 21 then [10] else if kOf t n S j = some 22 then altT t n S j else if S.el j = true then [] else encL (S.cs j)
def plN (t : Nat → Int32) (n : Nat) (S : GS) (j : Nat) : Nat := if kOf t n S j = some 21 ∨ kOf t n S j = some 22 then (S.pa j).toNatClampNeg else j + 1
def pl (t : Nat → Int32) (n : Nat) (S : GS) (q : Nat) : Nat → Nat → List Int32
  | 0, _ => []
  | m + 1, j => if q ≤ j then [] else plT t n S j ++ pl t n S q m (plN t n S j)
theorem wat_le : ∀ {L : List Att} {B : Att}, B ∈ L → wat B ≤ (L.map wat).sum
  | [], B, h => by cases h
  | C :: L, B, h => by
    rw [List.map_cons, List.sum_cons]
    rcases List.mem_cons.mp h with e | e
    · rw [e]; omega
    · have := wat_le e; omega
theorem plT_len (h : KN σ τ t n S g a ls A) {j : Nat} (hj : j < S.K) : (plT t n S j).length ≤ wk S j := by
  unfold plT
  by_cases h1 : kOf t n S j = some 21
  · rw [if_pos h1]
    unfold wk
    rw [if_pos (kOf_el h1)]
    simp only [List.length_cons, List.length_nil]; omega
  rw [if_neg h1]
  by_cases h2 : kOf t n S j = some 22
  · rw [if_pos h2]
    unfold wk
    rw [if_pos (kOf_el h2)]
    by_cases hex : ∃ B ∈ S.as j, nmB t n B = tx 13
    · obtain ⟨B, hB, hs⟩ := hex
      rw [altT_1 h hj hB hs]
      have := encL_len B.cs
      have := wat_le hB
      unfold wat at this
      have e : ((S.as j).map wat).sum = ((S.as j).map (fun A => A.nl + 4 + 6 * A.cs.length)).sum := rfl
      omega
    · rw [altT_0 (fun B hB hs => hex ⟨B, hB, hs⟩)]
      exact Nat.zero_le _
  rw [if_neg h2]
  unfold wk
  cases he : S.el j with
  | true => rw [if_pos rfl]; exact Nat.zero_le _
  | false =>
    rw [if_neg (by decide), if_neg (by decide)]
    have := encL_len (S.cs j)
    omega
theorem tx17 : tx 17 = tx 13 := by decide +kernel
theorem we13' : wEq 6384756 3 13 := we13
/-- what stands in a node's place -/
theorem k_putInstead (h : KN σ τ t n S g a ls A) {j : Nat} (hj : j < S.K) (hk : kOf t n S j = some 21 ∨ kOf t n S j = some 22) {x : StS} (hx : Str x O) (hO : O.length + wk S j ≤ 24000) {post : PPS → Prop} (hq : ∀ x', Str x' (O ++ plT t n S j) → post (sSh σ x')) : w_Scribe_putInstead (sSh σ x) (nI j) (kOf t n S j) post := by
  have hl := plT_len h hj
  unfold w_Scribe_putInstead
  refine ⟨fun k e => kOf_lt e, ?_⟩
  unfold plT at hq hl
  by_cases h1 : kOf t n S j = some 21
  · rw [if_pos h1] at hq hl
    simp only [List.length_cons, List.length_nil] at hl
    exact br_t h1 (sh_add (hq _ (hx.ad (by omega) 10)))
  · have h2 : kOf t n S j = some 22 := hk.elim (fun z => absurd z h1) id
    rw [if_neg h1, if_pos h2] at hq hl
    refine br_f h1 ?_
    have hx2 : KN (sSh σ x) τ t n S g a ls A := ⟨h.rd, h.inv, h.gd, h.pos, h.bk, h.mb, h.mt, h.kn⟩
    refine k_attributeNamed hx2 hj (by decide) (fun B r f hB hs hr hv => ?_) (fun hall => ?_)
    · rw [tx17] at hs
      rw [altT_1 h hj hB hs] at hq hl
      obtain ⟨p, hP⟩ := AtP_of h hj (kOf_el h2) hB
      rw [hv.e4, hv.e1]
      exact k_putLetters h.bk.le h.lsl hv.sg (fun c hc => Cp.ok (Chars.ok hP.ch c hc)) hx (by omega) hq
    · rw [altT_0 (fun B hB hs => hall B hB (by rw [tx17]; exact hs)), List.append_nil] at hq
      rw [tGet5_m1, tGet5_m1]
      refine ⟨0 + 1, ?_⟩
      unfold w_Scribe_putLetters_L2
      exact br_t (by decide) (hq x hx)
/-- a node's end lies within top -/
theorem Top.past (h : KN σ τ t n S g a ls A) {top q j : Nat} (hT : Top S top q) (hj : top ≤ j) (hjq : j < q) : ∃ q', S.pa j = nI q' ∧ j < q' ∧ q' ≤ q ∧ q' ≤ S.K ∧ (∀ i, j < i → i < q' → S.dp j < S.dp i) ∧ (q' < S.K → S.dp q' ≤ S.dp j) := by
  have hqk := hT.qk
  obtain ⟨q', p1, p2, p3, p4, p5⟩ := h.past (show j < S.K by omega)
  exact ⟨q', p1, p2, Top.in_ h hT hj hjq p1 p3 p2, p3, p4, p5⟩
theorem plN_1 {j q' : Nat} (hk : kOf t n S j = some 21 ∨ kOf t n S j = some 22) (hp : S.pa j = nI q') (hq : q' < 2 ^ 31) : plN t n S j = q' := by
  unfold plN
  rw [if_pos hk, hp, nI_clamp hq]
theorem plN_0 {j : Nat} (hk : ¬ (kOf t n S j = some 21 ∨ kOf t n S j = some 22)) : plN t n S j = j + 1 := by
  unfold plN
  rw [if_neg hk]
theorem k_plainL (h : KN σ τ t n S g a ls A) {top q : Nat} (hT : Top S top q) {post : PPS → Prop} : ∀ m j s x O, q ≤ j + m → top ≤ j → j ≤ q → s ≤ j → Str x O → O.length ≤ wsum S j → (∀ x', Str x' (O ++ pl t n S q (m + 1) j) → post (sSh σ x')) → ∀ fu, q - j < fu → w_Scribe_putPlain_L23 (nI q) post fu (nI s) (nI j) (sSh σ x) := by
  have hK := h.K
  have hqk := hT.qk
  intro m
  induction m with
  | zero =>
    intro j s x O hm htj hjq hs hx hO hq fu hfu
    obtain ⟨f', rfl⟩ : ∃ f', fu = f' + 1 := ⟨fu - 1, by omega⟩
    unfold w_Scribe_putPlain_L23
    refine br_t (nI_le (by omega) (by omega)) (hq x ?_)
    unfold pl
    rw [if_pos (by omega), List.append_nil]; exact hx
  | succ m ih =>
    intro j s x O hm htj hjq hs hx hO hq fu hfu
    obtain ⟨f', rfl⟩ : ∃ f', fu = f' + 1 := ⟨fu - 1, by omega⟩
    unfold pl at hq
    by_cases hlt : q ≤ j
    · rw [if_pos hlt, List.append_nil] at hq
      unfold w_Scribe_putPlain_L23
      exact br_t (nI_le hlt (by omega)) (hq x hx)
    rw [if_neg hlt] at hq
    have hjK : j < S.K := by omega
    have hl := plT_len h hjK
    have es : wsum S (j + 1) = wsum S j + wk S j := rfl
    have w0 := h.wmax (show j + 1 ≤ S.K by omega)
    obtain ⟨q', p1, p2, p3, p4, p5, p6⟩ := Top.past h hT htj (show j < q by omega)
    unfold w_Scribe_putPlain_L23
    refine br_f (nI_ge (by omega) (by omega)) (fa_eq ?_)
    rw [show bKind (sSh σ x) (nI j) = kOf t n S j from h.kind hjK]
    refine br_f (nI_nlt hs (by omega)) ⟨fun k e => kOf_lt e, ?_⟩
    by_cases hk : kOf t n S j = some 21 ∨ kOf t n S j = some 22
    · rw [plN_1 hk p1 (by omega)] at hq
      have w1 := wsum_le (S := S) (show j + 1 ≤ q' by omega)
      have skip : ∀ x', Str x' (O ++ plT t n S j) → ∀ d i, i + d = q' → j < i → ∀ fu, q - i < fu → w_Scribe_putPlain_L23 (nI q) post fu (nI q') (nI i) (sSh σ x') := fun x' hx' => by
        intro d
        induction d with
        | zero =>
          intro i hi hji fu hfu
          have : i = q' := by omega
          subst this
          exact ih i i x' _ (by omega) (by omega) p3 (Nat.le_refl _) hx' (by rw [List.length_append]; omega) (fun x'' hx'' => hq x'' (by rw [← List.append_assoc]; exact hx'')) fu hfu
        | succ d ih2 =>
          intro i hi hji fu hfu
          obtain ⟨f2, rfl⟩ : ∃ f2, fu = f2 + 1 := ⟨fu - 1, by omega⟩
          unfold w_Scribe_putPlain_L23 w_Scribe_putPlain_J85 w_Scribe_putPlain_J128
          refine br_f (nI_ge (by omega) (by omega)) (fa_eq (br_t (nI_lt (by omega) (by omega)) (br_t (nI_lt (by omega) (by omega)) ?_)))
          rw [nI_1]
          exact ih2 (i + 1) (by omega) (by omega) f2 (by omega)
      have J62 : w_Scribe_putPlain_J62 (nI q) (w_Scribe_putPlain_L23 (nI q) post f') post (nI j) (kOf t n S j) (sSh σ x) := by
        unfold w_Scribe_putPlain_J62 w_Scribe_putPlain_J128
        refine k_putInstead h hjK hk hx (by omega) (fun x' hx' => ?_)
        rw [nI_1, show tGet 14 (pNd (sSh σ x')) (nI j) 10 = nI q' from (h.g10 hjK).trans p1]
        exact skip x' hx' (q' - (j + 1)) (j + 1) (by omega) (by omega) f' (by omega)
      by_cases h1 : kOf t n S j = some 21
      · exact br_t h1 J62
      · exact br_f h1 ⟨fun k e => kOf_lt e, br_t (hk.elim (fun z => absurd z h1) id) J62⟩
    · rw [plN_0 hk] at hq
      refine br_f (fun z => hk (Or.inl z)) ⟨fun k e => kOf_lt e, br_f (fun z => hk (Or.inr z)) ?_⟩
      have next : ∀ x', Str x' (O ++ plT t n S j) → w_Scribe_putPlain_J128 (nI q) (w_Scribe_putPlain_L23 (nI q) post f') post (nI s) (nI j) (sSh σ x') := fun x' hx' => by
        unfold w_Scribe_putPlain_J128
        rw [nI_1]
        exact ih (j + 1) s x' _ (by omega) (by omega) (by omega) (by omega) hx' (by rw [List.length_append]; omega) (fun x'' hx'' => hq x'' (by rw [← List.append_assoc]; exact hx'')) f' (by omega)
      unfold plT at next hl
      rw [if_neg (fun z => hk (Or.inl z)), if_neg (fun z => hk (Or.inr z))] at next hl
      unfold w_Scribe_putPlain_J85
      rw [show bEle (sSh σ x) (nI j) = S.el j from h.bEle hjK]
      refine br_f (nI_nlt hs (by omega)) ?_
      cases he : S.el j with
      | true =>
        rw [he, if_pos rfl] at next
        exact bl_t rfl (next x (by rw [List.append_nil]; exact hx))
      | false =>
        rw [he, if_neg (show ¬ (false = true) by decide)] at next hl
        obtain ⟨f, l8, l3, lS⟩ := h.let2 hjK
        rw [lets_tx he] at l3 lS
        have l8 : tGet 14 (pNd (sSh σ x)) (nI j) 8 = nI f := l8
        have l3 : tGet 14 (pNd (sSh σ x)) (nI j) 3 = nI (S.cs j).length := l3
        rw [l8, l3]
        exact bl_f rfl (k_putLetters h.bk.le h.lsl lS (h.txok hjK he) hx (by omega) next)
theorem k_putPlain (h : KN σ τ t n S g a ls A) {top q : Nat} (hT : Top S top q) {post : PPS → Prop} (hq : ∀ x', Str x' (pl t n S q (q - top + 1) top) → post (sSh σ x')) : w_Scribe_putPlain σ (nI top) post := by
  have hK := h.K
  have htk := hT.tk
  have htq := hT.tq
  have hqk := hT.qk
  unfold w_Scribe_putPlain
  refine fa_eq ⟨q - top + 1, ?_⟩
  rw [show tGet 14 (pNd (sSh σ (sClr (pSh σ)))) (nI top) 10 = nI q from (h.g10 htk).trans hT.pq]
  exact k_plainL h hT (q - top) top top (sClr (pSh σ)) [] (by omega) (Nat.le_refl _) (by omega) (Nat.le_refl _) (Str.clr _) (Nat.zero_le _) hq _ (by omega)
theorem KN.tEn (h : KN σ τ t n S g a ls A) {j : Nat} (hj : j < S.K) (he : S.el j = false) : S.en j ≤ n := by
  have hc := h.gd.tx j hj he
  have hcl := Chars.le hc.1
  have hbn : S.bg j ≤ n := by
    have h3 := hc.1
    have := hc.2
    cases hL : S.cs j with
    | nil => rw [hL] at h3; have h3 : S.bg j = S.en j := h3; omega
    | cons c L =>
      rw [hL] at h3
      have := xx_lt h3.2.2.1
      omega
  exact hcl.2.2 hbn
theorem r_plainL (h0 : KN σ τ t n S g a ls A) {top q : Nat} (hT : Top S top q) {post : Int32 → MPS → Prop} : ∀ m j τ1 O, q ≤ j + m → top ≤ j → j ≤ q → Jz Lz τ τ1 → Ot τ1 O → O.length ≤ wsum S j → (∀ τ', Jz Lz τ τ' → Ot τ' (O ++ pl t n S q (m + 1) j) → post (mp_outs τ') τ') → w_M_plain_L39 (nI (q - 1)) post (m + 1) (nI j) τ1 := by
  have hK := h0.K
  have htk := hT.tk
  have htq := hT.tq
  have hqk := hT.qk
  intro m
  induction m with
  | zero =>
    intro j τ1 O hm htj hjq j1 hx hO hq
    unfold w_M_plain_L39
    refine br_t (nI_lt (by omega) (by omega)) (hq τ1 j1 ?_)
    unfold pl
    rw [if_pos (by omega), List.append_nil]; exact hx
  | succ m ih =>
    intro j τ1 O hm htj hjq j1 hx hO hq
    unfold pl at hq
    by_cases hlt : q ≤ j
    · rw [if_pos hlt, List.append_nil] at hq
      unfold w_M_plain_L39
      exact br_t (nI_lt (by omega) (by omega)) (hq τ1 j1 hx)
    rw [if_neg hlt] at hq
    have hjK : j < S.K := by omega
    have h1 := h0.jz j1
    have hn := h1.mt.2.1
    have hl := plT_len h0 hjK
    have es : wsum S (j + 1) = wsum S j + wk S j := rfl
    have w0 := h0.wmax (show j + 1 ≤ S.K by omega)
    obtain ⟨q', p1, p2, p3, p4, p5, p6⟩ := Top.past h0 hT htj (show j < q by omega)
    -- the next node
    have jump : kOf t n S j = some 21 ∨ kOf t n S j = some 22 → ∀ τ2, Jz Lz τ τ2 → Ot τ2 (O ++ plT t n S j) → w_M_plain_J143 (nI (q - 1)) (w_M_plain_L39 (nI (q - 1)) post (m + 1)) post (nI j) τ2 := fun hk τ2 j2 o2 => by
      rw [plN_1 hk p1 (by omega)] at hq
      have w1 := wsum_le (S := S) (show j + 1 ≤ q' by omega)
      unfold w_M_plain_J143 w_M_plain_J156
      refine r_lastIn (h0.jz j2) hjK p2 p4 p5 p6 ?_
      rw [nI_1, show q' - 1 + 1 = q' from by omega]
      exact ih q' τ2 _ (by omega) (by omega) p3 j2 o2 (by rw [List.length_append]; omega) (fun τ' j' o' => hq τ' j' (by rw [← List.append_assoc]; exact o'))
    have step : ¬ (kOf t n S j = some 21 ∨ kOf t n S j = some 22) → ∀ τ2, Jz Lz τ τ2 → Ot τ2 (O ++ plT t n S j) → w_M_plain_J156 (nI (q - 1)) (w_M_plain_L39 (nI (q - 1)) post (m + 1)) post (nI j + 1) τ2 := fun hk τ2 j2 o2 => by
      rw [plN_0 hk] at hq
      unfold w_M_plain_J156
      rw [nI_1]
      exact ih (j + 1) τ2 _ (by omega) (by omega) (by omega) j2 o2 (by rw [List.length_append]; omega) (fun τ' j' o' => hq τ' j' (by rw [← List.append_assoc]; exact o'))
    unfold plT at jump step hl
    unfold w_M_plain_L39
    refine br_f (nI_nlt (by omega) (by omega)) ?_
    -- the two names
    have rest : ∀ r50 r61 : Int32, (kOf t n S j = some 21 → r50 = 1) → (¬ kOf t n S j = some 21 → r50 = 0) → (kOf t n S j = some 22 → r61 = 1) → (¬ kOf t n S j = some 22 → r61 = 0) → (vp_in (nI j) 1000 ∧ ((((mp_isElement τ1) (nI j).toNatClampNeg) = 0 → (vp_in (nI j) 1000 ∧ (vp_in (nI j) 1000 ∧ w_M_putRow τ1 ((mp_begins τ1) (nI j).toNatClampNeg) ((mp_ends τ1) (nI j).toNatClampNeg) 0 (fun σ89 => w_M_plain_J92 (nI (q - 1)) (w_M_plain_L39 (nI (q - 1)) post (m + 1)) post (nI j) r50 r61 σ89)))) ∧ (¬ ((mp_isElement τ1) (nI j).toNatClampNeg) = 0 → w_M_plain_J92 (nI (q - 1)) (w_M_plain_L39 (nI (q - 1)) post (m + 1)) post (nI j) r50 r61 τ1))) := fun r50 r61 a1 a0 b1 b0 => by
      refine ⟨h1.in_ hjK, ?_⟩
      rw [h1.isEl hjK]
      cases he : S.el j with
      | false =>
        have n21 : ¬ kOf t n S j = some 21 := fun z => by have := kOf_el z; rw [he] at this; cases this
        have n22 : ¬ kOf t n S j = some 22 := fun z => by have := kOf_el z; rw [he] at this; cases this
        rw [if_neg n21, if_neg n22, he, if_neg (show ¬ (false = true) by decide)] at step hl
        have step := step (fun z => z.elim n21 n22)
        have hc := h1.gd.tx j hjK he
        refine bl_f rfl ⟨h1.in_ hjK, h1.in_ hjK, ?_⟩
        rw [nI_clamp (by omega), (h1.mb.2.2 j hjK).bg, (h1.mb.2.2 j hjK).en he, a0 n21, b0 n22]
        refine r_putRow (b := false) h1.mt (h1.tEn hjK he) hc.1 hx (by rw [escBL_f]; omega) (fun τ2 j2 o2 => ?_)
        rw [escBL_f] at o2
        unfold w_M_plain_J92 w_M_plain_J103 w_M_plain_J133
        exact br_t rfl (br_t rfl (br_t rfl (br_t rfl (step τ2 (j1.trans (j2.mono (by decide))) o2))))
      | true =>
        refine bl_t rfl ?_
        unfold w_M_plain_J92 w_M_plain_J103 w_M_plain_J133
        by_cases h21 : kOf t n S j = some 21
        · have n22 : ¬ kOf t n S j = some 22 := fun z => by rw [h21] at z; cases z
          rw [if_pos h21] at jump hl
          simp only [List.length_cons, List.length_nil] at hl
          rw [a1 h21, b0 n22]
          exact br_f (by decide) (r_putN (b := 10) rfl (by decide) hx (by omega) (fun τ2 j2 o2 => br_t rfl (br_f (by decide) (jump (Or.inl h21) τ2 (j1.trans (j2.mono (by decide))) o2))))
        · rw [if_neg h21] at jump step hl
          rw [a0 h21]
          refine br_t rfl ?_
          by_cases h22 : kOf t n S j = some 22
          · rw [if_pos h22] at jump hl
            rw [b1 h22]
            refine br_f (by decide) (r_has (x := 13) (m := 3) (by decide) (by decide) we13 h1 hjK he (fun B τ2 hB hs _ d lat => br_f (by decide) ?_) (fun _ hall τ2 d => br_t rfl (br_t rfl (br_f (by decide) ?_))))
            · rw [altT_1 h0 hjK hB hs] at jump hl
              obtain ⟨p, hP⟩ := AtP_of h0 hjK he hB
              have hle := hP.le
              rw [lat.2.2.1, lat.2.2.2]
              refine r_putRow (b := false) (h1.mt.df d (by decide)) (by omega) hP.ch (hx.df d (by decide)) (by rw [escBL_f]; omega) (fun τ3 j3 o3 => br_t rfl (br_f (by decide) (jump (Or.inr h22) τ3 ((j1.trans (d.jz.mono (by decide))).trans (j3.mono (by decide))) ?_)))
              rw [escBL_f] at o3; exact o3
            · rw [altT_0 hall, List.append_nil] at jump
              exact jump (Or.inr h22) τ2 (j1.trans (d.jz.mono (by decide))) (hx.df d (by decide))
          · rw [if_neg h22, he, if_pos rfl, List.append_nil] at step
            rw [b0 h22]
            exact br_t rfl (br_t rfl (br_t rfl (step (fun z => z.elim h21 h22) τ1 j1 hx)))
    have k21 := kOf_is (t := t) (n := n) (S := S) (k := j) (i := 21) (by decide)
    have k22 := kOf_is (t := t) (n := n) (S := S) (k := j) (i := 22) (by decide)
    refine r_isNamed (x := 27) (m := 2) (by decide) (by decide) wk27 h1 hjK (fun he hs => ?_) (fun hn1 => ?_)
    · have y21 : kOf t n S j = some 21 := k21.mpr ⟨he, hs⟩
      refine r_isNamed (x := 28) (m := 3) (by decide) (by decide) wk28 h1 hjK (fun he2 hs2 => ?_) (fun hn2 => ?_)
      · have y22 : kOf t n S j = some 22 := k22.mpr ⟨he2, hs2⟩
        rw [y21] at y22; cases y22
      · exact rest 1 0 (fun _ => rfl) (fun z => absurd y21 z) (fun z => by rw [y21] at z; cases z) (fun _ => rfl)
    · have n21 : ¬ kOf t n S j = some 21 := fun z => hn1 (k21.mp z).1 (k21.mp z).2
      refine r_isNamed (x := 28) (m := 3) (by decide) (by decide) wk28 h1 hjK (fun he2 hs2 => ?_) (fun hn2 => ?_)
      · have y22 : kOf t n S j = some 22 := k22.mpr ⟨he2, hs2⟩
        exact rest 0 1 (fun z => absurd z n21) (fun _ => rfl) (fun _ => rfl) (fun z => absurd y22 z)
      · have n22 : ¬ kOf t n S j = some 22 := fun z => hn2 (k22.mp z).1 (k22.mp z).2
        exact rest 0 0 (fun z => absurd z n21) (fun _ => rfl) (fun z => absurd z n22) (fun _ => rfl)
theorem pl_len (h : KN σ τ t n S g a ls A) {top q : Nat} (hT : Top S top q) : ∀ m j (O : List Int32), top ≤ j → j ≤ q → O.length ≤ wsum S j → (O ++ pl t n S q m j).length ≤ wsum S q := by
  have hK := h.K
  have hqk := hT.qk
  intro m
  induction m with
  | zero =>
    intro j O htj hjq hO
    show (O ++ []).length ≤ _
    rw [List.append_nil]
    have := wsum_le (S := S) hjq
    omega
  | succ m ih =>
    intro j O htj hjq hO
    unfold pl
    by_cases hlt : q ≤ j
    · rw [if_pos hlt, List.append_nil]
      have := wsum_le (S := S) hjq
      omega
    · rw [if_neg hlt, ← List.append_assoc]
      have hl := plT_len h (show j < S.K by omega)
      have es : wsum S (j + 1) = wsum S j + wk S j := rfl
      obtain ⟨q', p1, p2, p3, p4, p5, p6⟩ := Top.past h hT htj (show j < q by omega)
      by_cases hk : kOf t n S j = some 21 ∨ kOf t n S j = some 22
      · rw [plN_1 hk p1 (by omega)]
        have w1 := wsum_le (S := S) (show j + 1 ≤ q' by omega)
        exact ih q' _ (by omega) p3 (by rw [List.length_append]; omega)
      · rw [plN_0 hk]
        exact ih (j + 1) _ (by omega) (by omega) (by rw [List.length_append]; omega)
theorem c12_plain {f : Nat → Int64} (h : RL σ τ) (x : Int32) {next : PPS → MPS → (Nat → Int64) → Prop} (hq : ∀ σ' τ' g, RL σ' τ' → next σ' τ' g) : w_L_plain σ f x (fun r v g => w_M_plain τ x (fun r' τ' => lawT r g r' (mp_thrown τ') (next v τ' g))) := by
  unfold w_L_plain w_X_plain w_X_plain_J15
  rcases pw_cases h x with ⟨hx, hN⟩ | ⟨t, n, S, g, a, ls, A, k, hK, hk, e, hlt, hN⟩
  · have thr : w_M_plain τ x (fun r' τ' => lawT 1 f r' (mp_thrown τ') (next σ τ' f)) := by
      unfold w_M_plain w_M_plain_J14
      exact hN (br_t rfl (fa_eq (br_f (by show ¬ (1 : Int32) ≤ 0; decide) (lawT_thr (hq _ _ _ (h.js (Js.set τ (by decide))))))))
    rcases hx with hx | ⟨h1, h2⟩
    · exact br_t hx thr
    · exact br_f h1 (br_f h2 thr)
  · have hK9 := hK.K
    obtain ⟨q, hT⟩ := hK.top hk
    have htq := hT.tq
    have hqk := hT.qk
    subst e
    refine br_f (nI_pos (by omega)) (br_t hlt (k_putPlain hK hT (fun x' hx' => ?_)))
    show w_M_plain τ (nI k) (fun r' τ' => lawT 0 (vp_updL f (0 : Int32).toNatClampNeg ((pSh (sSh σ x')).1).toInt64) r' (mp_thrown τ') (next (sSh σ x') τ' (vp_updL f (0 : Int32).toNatClampNeg ((pSh (sSh σ x')).1).toInt64)))
    unfold w_M_plain w_M_plain_J14
    refine hN ?_
    refine br_f (by decide) (fa_eq (br_t (by show (0 : Int32) ≤ 0; decide) (fa_eq ?_)))
    have d0 : Jz (0 :: Lz) τ (ms_outs (ms_thrown τ 0) 0) := ⟨fun j hj => by
      show va_up (va_up τ.1 0 _) 8 _ j = _
      rw [va_n (fun z => hj (by rw [z]; decide)), va_n (fun z => hj (by rw [z]; decide))], fun j hj => rfl⟩
    have hK2 := hK.jz0 d0
    obtain ⟨q2, p1, p2, p3, p4, p5⟩ := hK.past hk
    have : q2 = q := by
      have := hT.pq
      rw [p1] at this
      exact (nI_eq (by omega) (by omega)).mp this
    subst this
    refine r_lastIn hK2 hk p2 p3 p4 p5 ⟨_, r_plainL hK2 hT (q2 - k) k _ [] (by omega) (Nat.le_refl _) (by omega) (Jz.refl _ _) ⟨rfl, fun i hi => absurd hi (Nat.not_lt_zero i)⟩ (Nat.zero_le _) (fun τ' j' o' => ?_)⟩
    rw [List.nil_append] at o'
    have hlen := pl_len hK hT (q2 - k + 1) k [] (Nat.le_refl _) (by omega) (Nat.zero_le _)
    rw [List.nil_append] at hlen
    have hw := hK.wmax hqk
    rw [show mp_thrown τ' = 0 from j'.1 0 (by decide)]
    have e1 : (pSh (sSh σ x')).1 = mp_outs τ' := hx'.1.trans o'.1.symm
    rw [← e1]
    exact lawT_ret (g := f) (hq _ _ _ (h.put hx' o' (by omega) (d0.trans (j'.mono (fun j hj => List.mem_cons_of_mem _ hj)))))
end PLN
