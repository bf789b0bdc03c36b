/-! PURE: whether an element may be where it is. -/
section TH
variable {t : Nat → Int32} {n : Nat} {σ : PPS} {τ : MPS} {S : GS} {g a : Nat → Nat → Int32} {ls : List Int32} {A : Nat}
def AncA (t : Nat → Int32) (n : Nat) (S : GS) : Nat → Int32 → Prop
  | 0, _ => False
  | m + 1, v => ∃ u, u < S.K ∧ v = nI u ∧ (kOf t n S u = some 17 ∨ AncA t n S m (S.up u))
/-- an a is at or above -/
def InA (t : Nat → Int32) (n : Nat) (S : GS) (v : Int32) : Prop := ∃ m, AncA t n S m v
theorem inA_m1 (hK : S.K ≤ 900) : ¬ InA t n S (-1) := fun ⟨m, h⟩ => by
  cases m with
  | zero => exact h
  | succ m => obtain ⟨u, hu, e, _⟩ := h; exact nI_m1 (by omega) e.symm
theorem inA_iff (hK : S.K ≤ 900) {u : Nat} (hu : u < S.K) : InA t n S (nI u) ↔ kOf t n S u = some 17 ∨ InA t n S (S.up u) := by
  constructor
  · intro ⟨m, h⟩
    cases m with
    | zero => exact h.elim
    | succ m =>
      obtain ⟨u', hu', e, hh⟩ := h
      have : u = u' := (nI_eq (by omega) (by omega)).mp e
      subst this
      exact hh.elim Or.inl (fun z => Or.inr ⟨m, z⟩)
  · intro h
    rcases h with h | ⟨m, h⟩
    · exact ⟨1, u, hu, rfl, Or.inl h⟩
    · exact ⟨m + 1, u, hu, rfl, Or.inr h⟩
theorem KN.g1 (h : KN σ τ t n S g a ls A) {k : Nat} (hk : k < S.K) : tGet 14 (pNd σ) (nI k) 1 = S.up k := (h.get (c := 1) rfl hk (by decide)).trans (h.bk.row k hk).lnk.c1
theorem k_isInA (h : KN σ τ t n S g a ls A) {k : Nat} (hk : k < S.K) (he : S.el k = true) {post : Int32 → Prop} (h1 : InA t n S (S.up k) → post 1) (h0 : ¬ InA t n S (S.up k) → post 0) : w_Insp_isInA σ (nI k) post := by
  have hK := h.K
  unfold w_Insp_isInA
  rw [h.g1 hk]
  have key : ∀ q d v, d + q = 40 → (v = -1 ∨ ∃ u, u < S.K ∧ v = nI u ∧ S.dp u + d ≤ 39) → (InA t n S v → post 1) → (¬ InA t n S v → post 0) → ∃ f, w_Insp_isInA_L12 σ post f v (nI d) := by
    intro q
    induction q with
    | zero =>
      intro d v hd hv p1 p0
      refine ⟨1, ?_⟩
      unfold w_Insp_isInA_L12
      rcases hv with e | ⟨u, _, _, hz⟩
      · refine br_t (nI_le (a := 40) (by omega) (by omega)) (p0 ?_)
        rw [e]; exact inA_m1 hK
      · omega
    | succ q ih =>
      intro d v hd hv p1 p0
      rcases hv with e | ⟨u, hu, e, hz⟩
      · refine ⟨1, ?_⟩
        unfold w_Insp_isInA_L12
        have : post 0 := p0 (by rw [e]; exact inA_m1 hK)
        exact ⟨fun _ => this, fun _ => br_t e this⟩
      · subst e
        have hiff := inA_iff (t := t) (n := n) hK hu
        by_cases hA : kOf t n S u = some 17
        · refine ⟨1, ?_⟩
          unfold w_Insp_isInA_L12
          refine br_f (nI_ge (b := 40) (by omega) (by decide)) (br_f (nI_m1 (by omega)) (fa_eq ?_))
          rw [h.kind hu]
          exact ⟨fun k e => kOf_lt e, br_t hA (p1 (hiff.mpr (Or.inl hA)))⟩
        · have hup : S.up u = -1 ∨ ∃ w, w < S.K ∧ S.up u = nI w ∧ S.dp w + (d + 1) ≤ 39 := by
            rcases h.gt.up u hu with z | ⟨w, z1, z2, z3, _⟩
            · exact Or.inl z.1
            · exact Or.inr ⟨w, by omega, z2, by omega⟩
          obtain ⟨f, hf⟩ := ih (d + 1) (S.up u) (by omega) hup (fun z => p1 (hiff.mpr (Or.inr z))) (fun z => p0 (fun y => (hiff.mp y).elim hA z))
          refine ⟨f + 1, ?_⟩
          unfold w_Insp_isInA_L12
          refine br_f (nI_ge (b := 40) (by omega) (by decide)) (br_f (nI_m1 (by omega)) (fa_eq ?_))
          rw [h.kind hu, h.g1 hu, nI_1]
          exact ⟨fun k e => kOf_lt e, br_f hA hf⟩
  refine key 40 0 (S.up k) rfl ?_ h1 h0
  rcases h.gt.up k hk with z | ⟨w, z1, z2, z3, _⟩
  · exact Or.inl z.1
  · have := h.gx.d4 k hk he
    exact Or.inr ⟨w, by omega, z2, by omega⟩
theorem r_isInAnchor (h : KN σ τ t n S g a ls A) {k : Nat} (hk : k < S.K) {post : Int32 → Prop} (h1 : InA t n S (S.up k) → post 1) (h0 : ¬ InA t n S (S.up k) → post 0) : w_M_isInAnchor τ (nI k) post := by
  have hK := h.K
  unfold w_M_isInAnchor
  refine ⟨h.in_ hk, ?_⟩
  rw [nI_clamp (by omega), (h.mb.2.2 k hk).up]
  have key : ∀ q v, (v = -1 ∨ ∃ u, u < q ∧ u < S.K ∧ v = nI u ∧ S.el u = true) → (InA t n S v → post 1) → (¬ InA t n S v → post 0) → ∃ f, w_M_isInAnchor_L7 τ post f v := by
    intro q
    induction q with
    | zero =>
      intro v hv p1 p0
      refine ⟨1, ?_⟩
      unfold w_M_isInAnchor_L7 w_M_isInAnchor_J31
      rcases hv with e | ⟨u, hz, _⟩
      · have hn1 : v < 0 := by rw [e]; decide
        exact br_t hn1 (br_t hn1 (p0 (by rw [e]; exact inA_m1 hK)))
      · omega
    | succ q ih =>
      intro v hv p1 p0
      rcases hv with e | ⟨u, huq, hu, e, heu⟩
      · refine ⟨1, ?_⟩
        unfold w_M_isInAnchor_L7 w_M_isInAnchor_J31
        have hn1 : v < 0 := by rw [e]; decide
        exact br_t hn1 (br_t hn1 (p0 (by rw [e]; exact inA_m1 hK)))
      · subst e
        have hiff := inA_iff (t := t) (n := n) hK hu
        have hnp : ¬ nI u < 0 := nI_pos (by omega)
        by_cases hA : kOf t n S u = some 17
        · refine ⟨1, ?_⟩
          unfold w_M_isInAnchor_L7 w_M_isInAnchor_J31
          refine br_f hnp (r_kindOf h hu heu ?_)
          rw [hA]
          exact br_t (by decide) (br_f hnp (p1 (hiff.mpr (Or.inl hA))))
        · have hup : S.up u = -1 ∨ ∃ w, w < q ∧ w < S.K ∧ S.up u = nI w ∧ S.el w = true := by
            rcases h.gt.up u hu with z | ⟨w, z1, z2, z3, z4⟩
            · exact Or.inl z.1
            · exact Or.inr ⟨w, by omega, by omega, z2, z4⟩
          obtain ⟨f, hf⟩ := ih (S.up u) hup (fun z => p1 (hiff.mpr (Or.inr z))) (fun z => p0 (fun y => (hiff.mp y).elim hA z))
          refine ⟨f + 1, ?_⟩
          unfold w_M_isInAnchor_L7
          refine br_f hnp (r_kindOf h hu heu ?_)
          have hne : ¬ kNo (kOf t n S u) = 18 := by
            cases hk2 : kOf t n S u with
            | none => show ¬ (0 : Int32) = 18; decide
            | some i =>
              show ¬ nI (i + 1) = 18
              have hi := kOf_lt hk2
              intro z
              have := (nI_eq (a := i + 1) (b := 18) (by omega) (by decide)).mp z
              have : i = 17 := by omega
              rw [this] at hk2
              exact hA hk2
          refine br_f hne ⟨h.in_ hu, ?_⟩
          rw [nI_clamp (by omega), (h.mb.2.2 u hu).up]
          exact hf
  refine key S.K (S.up k) ?_ h1 h0
  rcases h.gt.up k hk with z | ⟨w, z1, z2, z3, z4⟩
  · exact Or.inl z.1
  · exact Or.inr ⟨w, by omega, by omega, z2, z4⟩
/-- an element of a kind may be where it is -/
def May (t : Nat → Int32) (n : Nat) (S : GS) (k i : Nat) : Prop := (S.up k = -1 ∧ kAs.getD i 0 = 1) ∨ ∃ u j, u < S.K ∧ S.up k = nI u ∧ kOf t n S u = some j ∧ kSays j (kAs.getD i 0) = true ∧ ¬ (i = 17 ∧ InA t n S (S.up k))
theorem k_mayBeThere (h : KN σ τ t n S g a ls A) {k i : Nat} (hk : k < S.K) (hki : kOf t n S k = some i) {post : Int32 → Prop} (h1 : May t n S k i → post 1) (h0 : ¬ May t n S k i → post 0) : w_Insp_mayBeThere σ (nI k) (some i) post := by
  have hK := h.K
  have hi := kOf_lt hki
  have he : S.el k = true := by
    unfold kOf at hki
    by_cases he : S.el k = true
    · exact he
    · rw [if_neg he] at hki; cases hki
  unfold w_Insp_mayBeThere w_Insp_mayBeThere_J71
  rw [h.g1 hk]
  rcases h.gt.up k hk with ⟨z, _, _⟩ | ⟨u, z1, z2, z3, z4⟩
  · refine br_t z ⟨i, rfl, hi, fun e => h1 (Or.inl ⟨z, e⟩), fun e => h0 (fun y => ?_)⟩
    rcases y with y | ⟨u, j, hu, y1, _⟩
    · exact e y.2
    · rw [z] at y1; exact nI_m1 (by omega) y1.symm
  · have huK : u < S.K := by omega
    rw [z2]
    have uniq : ∀ u', u' < S.K → nI u = nI u' → u' = u := fun u' hu' e => ((nI_eq (by omega) (by omega)).mp e).symm
    refine br_f (nI_m1 (by omega)) (fa_eq ?_)
    rw [h.kind huK]
    cases hj : kOf t n S u with
    | none =>
      refine br_t rfl (h0 (fun y => ?_))
      rcases y with y | ⟨u', j, hu', y1, y2, _⟩
      · rw [z2] at y; exact nI_m1 (by omega) y.1
      · rw [z2] at y1
        rw [uniq u' hu' y1, hj] at y2; cases y2
    | some j =>
      refine br_f (by intro z; cases z) ⟨i, rfl, hi, j, rfl, kOf_lt hj, ?_⟩
      cases hs : kSays j (kAs.getD i 0) with
      | false =>
        refine bl_f rfl (h0 (fun y => ?_))
        rcases y with y | ⟨u', j', hu', y1, y2, y3, _⟩
        · rw [z2] at y; exact nI_m1 (by omega) y.1
        · rw [z2] at y1
          rw [uniq u' hu' y1, hj] at y2
          cases y2
          rw [hs] at y3; cases y3
      | true =>
        refine bl_t rfl ?_
        by_cases e17 : i = 17
        · subst e17
          refine br_t rfl (k_isInA h hk he (fun hin => br_f (by decide) (h0 (fun y => ?_))) (fun hin => br_t rfl (h1 (Or.inr ⟨u, j, huK, z2, hj, hs, fun y => hin y.2⟩))))
          rcases y with y | ⟨_, _, _, _, _, _, y6⟩
          · rw [z2] at y; exact nI_m1 (by omega) y.1
          · exact y6 ⟨rfl, hin⟩
        · exact br_f (fun z => e17 (Option.some.inj z)) (h1 (Or.inr ⟨u, j, huK, z2, hj, hs, fun y => e17 y.1⟩))
/-- the same of the reference, within isPage -/
theorem r_may (h : KN σ τ t n S g a ls A) {k : Nat} (hk : k < S.K) (he : S.el k = true) {K33 : Int32 → MPS → Prop} {post : Int32 → MPS → Prop} (h1 : ∀ i, kOf t n S k = some i → May t n S k i → w_M_isPage_J111 K33 post (nI k) (nI (i + 1)) τ) (h0 : (∀ i, kOf t n S k = some i → ¬ May t n S k i) → w_M_isPage_J142 K33 post (nI k) τ) :
    (vp_in (nI k) 1000 ∧ ((((mp_up τ) (nI k).toNatClampNeg) = (-1) → w_M_isPage_J90 K33 post (nI k) (kNo (kOf t n S k)) (-1) τ) ∧ (¬ ((mp_up τ) (nI k).toNatClampNeg) = (-1) → (vp_in (nI k) 1000 ∧ w_M_kindOf τ ((mp_up τ) (nI k).toNatClampNeg) (fun r87 => w_M_isPage_J90 K33 post (nI k) (kNo (kOf t n S k)) r87 τ))))) := by
  have hK := h.K
  refine ⟨h.in_ hk, ?_⟩
  rw [nI_clamp (by omega), (h.mb.2.2 k hk).up]
  -- a kind that is none
  have none0 : kOf t n S k = none → w_M_isPage_J142 K33 post (nI k) τ := fun e => h0 (fun i z => by rw [e] at z; cases z)
  rcases h.gt.up k hk with ⟨z, _, _⟩ | ⟨u, z1, z2, z3, z4⟩
  · rw [z]
    refine br_t rfl ?_
    unfold w_M_isPage_J90
    cases hki : kOf t n S k with
    | none => exact r_mayHoldN (bl_f (by decide) (none0 hki))
    | some i =>
      have hi := kOf_lt hki
      show w_M_mayHold (-1) (nI (i + 1)) _
      refine r_mayHoldN ?_
      rw [may_n i hi]
      by_cases e1 : kAs.getD i 0 = 1
      · refine bl_t (decide_eq_true e1) ?_
        have hm := h1 i hki (Or.inl ⟨z, e1⟩)
        have n17 : ¬ i = 17 := fun e => by rw [e] at e1; revert e1; decide
        refine br_f (fun y => ?_) hm
        have := (nI_eq (a := i + 1) (b := 18) (by omega) (by decide)).mp y
        omega
      · refine bl_f (decide_eq_false e1) (h0 (fun i' e' y => ?_))
        rw [hki] at e'; cases e'
        rcases y with y | ⟨u, j, hu, y1, _⟩
        · exact e1 y.2
        · rw [z] at y1; exact nI_m1 (by omega) y1.symm
  · have huK : u < S.K := by omega
    have uniq : ∀ u', u' < S.K → S.up k = nI u' → u' = u := fun u' hu' e => by
      rw [z2] at e
      exact ((nI_eq (by omega) (by omega)).mp e).symm
    rw [z2]
    refine br_f (nI_m1 (by omega)) ⟨h.in_ hk, r_kindOf h huK z4 ?_⟩
    unfold w_M_isPage_J90
    cases hki : kOf t n S k with
    | none =>
      cases hj : kOf t n S u with
      | none => exact r_mayHold (j := 0) (by decide) (bl_f (may_k0 0 (by decide)) (none0 hki))
      | some j => exact r_mayHold (j := j + 1) (by have := kOf_lt hj; omega) (bl_f (may_k0 (j + 1) (by have := kOf_lt hj; omega)) (none0 hki))
    | some i =>
      have hi := kOf_lt hki
      cases hj : kOf t n S u with
      | none =>
        refine r_mayHold (j := 0) (by decide) (bl_f (may_0 i hi) (h0 (fun i' e' y => ?_)))
        rcases y with y | ⟨u', j, hu', y1, y2, _⟩
        · rw [z2] at y; exact nI_m1 (by omega) y.1
        · rw [uniq u' hu' y1, hj] at y2; cases y2
      | some j =>
        have hjl := kOf_lt hj
        refine r_mayHold (j := j + 1) (by omega) ?_
        rw [show kNo (some i) = nI (i + 1) from rfl, may_eq i hi j hjl]
        cases hs : kSays j (kAs.getD i 0) with
        | false =>
          refine bl_f rfl (h0 (fun i' e' y => ?_))
          rw [hki] at e'; cases e'
          rcases y with y | ⟨u', j', hu', y1, y2, y3, _⟩
          · rw [z2] at y; exact nI_m1 (by omega) y.1
          · rw [uniq u' hu' y1, hj] at y2
            cases y2
            rw [hs] at y3; cases y3
        | true =>
          refine bl_t rfl ?_
          by_cases e17 : i = 17
          · subst e17
            refine br_t (by decide) (r_isInAnchor h hk (fun hin => br_f (by decide) (h0 (fun i' e' y => ?_))) (fun hin => br_t rfl (h1 17 hki (Or.inr ⟨u, j, huK, z2, hj, hs, fun y => hin y.2⟩))))
            rw [hki] at e'; cases e'
            rcases y with y | ⟨_, _, _, _, _, _, y6⟩
            · rw [z2] at y; exact nI_m1 (by omega) y.1
            · exact y6 ⟨rfl, hin⟩
          · refine br_f (fun y => ?_) (h1 i hki (Or.inr ⟨u, j, huK, z2, hj, hs, fun y => e17 y.1⟩))
            have := (nI_eq (a := i + 1) (b := 18) (by omega) (by decide)).mp y
            omega
end TH
