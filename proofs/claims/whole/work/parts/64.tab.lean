/-! PURE: tables as functions of row and column; letters compared. -/
def Tab (wn : Nat) (s : StS) (K : Nat) (g : Nat → Nat → Int32) : Prop := s.1 = nI K ∧ ∀ r, r < K → ∀ c, c < wn → s.2 (r * wn + c) = g r c
def g2 (g : Nat → Nat → Int32) (r c : Nat) (v : Int32) : Nat → Nat → Int32 := fun r' c' => if r' = r ∧ c' = c then v else g r' c'
theorem g2_s {g : Nat → Nat → Int32} {r c : Nat} {v : Int32} : g2 g r c v r c = v := if_pos ⟨rfl, rfl⟩
theorem g2_r {g : Nat → Nat → Int32} {r c r' c' : Nat} {v : Int32} (h : ¬ r' = r) : g2 g r c v r' c' = g r' c' := if_neg (fun z => h z.1)
theorem g2_c {g : Nat → Nat → Int32} {r c r' c' : Nat} {v : Int32} (h : ¬ c' = c) : g2 g r c v r' c' = g r' c' := if_neg (fun z => h z.2)
section TB
variable {wn K : Nat} {s : StS} {g : Nat → Nat → Int32}
theorem Tab.get (h : Tab wn s K g) (hK : K < 2 ^ 31) {r c : Nat} {x : Int32} (hx : x = nI c) (hr : r < K) (hc : c < wn) (hw : wn < 2 ^ 31) : tGet wn s (nI r) x = g r c := by
  subst hx
  unfold tGet
  rw [if_neg (nI_pos (by omega)), h.1, if_neg (nI_ge hr hK), if_neg (nI_pos (by omega)), if_neg (nI_ge hc hw), nI_clamp (by omega), nI_clamp (by omega)]
  exact h.2 r hr c hc
theorem tGet_neg {x c : Int32} (h : x < 0) : tGet wn s x c = -1 := if_pos h
theorem tGet_m1 {c : Int32} : tGet wn s (-1) c = -1 := if_pos (by decide)
theorem Tab.out (h : Tab wn s K g) {r : Nat} {x : Int32} (hr : K ≤ r) (h31 : r < 2 ^ 31) : tGet wn s (nI r) x = -1 := by
  unfold tGet
  rw [if_neg (nI_pos h31), h.1, if_pos (nI_le hr h31)]
theorem tSet_m1 {c v : Int32} : tSet wn s (-1) c v = s := if_pos (by decide)
theorem Tab.set (h : Tab wn s K g) (hK : K < 2 ^ 31) {r c : Nat} {x : Int32} (hx : x = nI c) (hr : r < K) (hc : c < wn) (hw : wn < 2 ^ 31) (v : Int32) : Tab wn (tSet wn s (nI r) x v) K (g2 g r c v) := by
  subst hx
  unfold tSet
  rw [if_neg (nI_pos (by omega)), h.1, if_neg (nI_ge hr hK), if_neg (nI_pos (by omega)), if_neg (nI_ge hc hw), nI_clamp (by omega), nI_clamp (by omega)]
  refine ⟨rfl, fun r' hr' c' hc' => ?_⟩
  show upd s.2 (r * wn + c) v (r' * wn + c') = _
  by_cases e : r' = r ∧ c' = c
  · obtain ⟨rfl, rfl⟩ := e
    rw [g2_s]; simp [upd]
  · have hne : ¬ r' * wn + c' = r * wn + c := fun z => by
      apply e
      have h1 : (r' * wn + c') / wn = r' := by rw [Nat.mul_comm, Nat.mul_add_div (by omega), Nat.div_eq_of_lt hc']; omega
      have h2 : (r * wn + c) / wn = r := by rw [Nat.mul_comm, Nat.mul_add_div (by omega), Nat.div_eq_of_lt hc]; omega
      have : r' = r := by rw [← h1, ← h2, z]
      subst this
      exact ⟨rfl, by omega⟩
    unfold g2
    rw [if_neg e]
    simp only [upd, hne, if_false]
    exact h.2 r' hr' c' hc'
theorem Tab.add {most : Nat} (h : Tab wn s K g) (hK : K < most) (hm : most < 2 ^ 31) : tAddR most s = nI K ∧ Tab wn (tAdd most wn s) (K + 1) (fun r c => if r = K then -1 else g r c) := by
  unfold tAddR tAdd
  rw [h.1, if_pos (nI_lt hK hm), if_pos (nI_lt hK hm), nI_clamp (by omega)]
  refine ⟨rfl, nI_1 K, fun r hr c hc => ?_⟩
  show (if K * wn ≤ r * wn + c ∧ r * wn + c < (K + 1) * wn then -1 else s.2 (r * wn + c)) = (if r = K then -1 else g r c)
  by_cases e : r = K
  · subst e
    rw [if_pos ⟨by omega, by rw [Nat.succ_mul]; omega⟩, if_pos rfl]
  · have : (r + 1) * wn ≤ K * wn := Nat.mul_le_mul_right wn (by omega)
    rw [Nat.succ_mul] at this
    rw [if_neg (fun z => by omega), if_neg e]
    exact h.2 r (by omega) c hc
theorem Tab.clr : Tab wn (sClr s) 0 g := ⟨rfl, fun r hr => absurd hr (Nat.not_lt_zero r)⟩
theorem Tab.congr {g' : Nat → Nat → Int32} (h : Tab wn s K g) (e : ∀ r, r < K → ∀ c, c < wn → g r c = g' r c) : Tab wn s K g' := ⟨h.1, fun r hr c hc => (h.2 r hr c hc).trans (e r hr c hc)⟩
end TB
/-- a row stands in another from a place on -/
def Seg (l : List Int32) (f : Nat) (m : List Int32) : Prop := f + m.length ≤ l.length ∧ ∀ i, i < m.length → l[f + i]? = m[i]?
theorem Seg.app {l m : List Int32} {f : Nat} (h : Seg l f m) (L : List Int32) : Seg (l ++ L) f m := by
  refine ⟨by have := h.1; simp; omega, fun i hi => ?_⟩
  have := h.1
  rw [List.getElem?_append_left (by omega)]
  exact h.2 i hi
theorem Seg.end (l m : List Int32) : Seg (l ++ m) l.length m := by
  refine ⟨by simp, fun i hi => ?_⟩
  rw [List.getElem?_append_right (by omega), show l.length + i - l.length = i from by omega]
theorem Seg.end' (l m L : List Int32) : Seg (l ++ m ++ L) l.length m := (Seg.end l m).app L
theorem Seg.get {s : StS} {l m : List Int32} {f i : Nat} (h : Seg l f m) (hs : Str s l) (hl : l.length < 2 ^ 31) (hi : i < m.length) : sGet s (nI (f + i)) = m.getD i 0 := by
  have := h.1
  rw [hs.get hl (by omega), h.2 i hi, List.getD_eq_getElem?_getD, List.getElem?_eq_getElem hi]; rfl
theorem Seg.out {l m : List Int32} {f : Nat} (h : Seg l f m) : f + m.length ≤ l.length := h.1
theorem list_ext_getD {l m : List Int32} (h : l.length = m.length) (h2 : ∀ i, i < l.length → l.getD i 0 = m.getD i 0) : l = m := by
  apply List.ext_getElem h
  intro i h1 h3
  have := h2 i h1
  rw [List.getD_eq_getElem?_getD, List.getD_eq_getElem?_getD, List.getElem?_eq_getElem h1, List.getElem?_eq_getElem h3] at this
  exact this
/-- a constant text's letters -/
def tx (x : Nat) : List Int32 := tBy.getD x []
theorem tx_ok : ∀ x, x < 49 → (tx x).length = tLn.getD x 0 ∧ (tx x).length ≤ 38 ∧ ∀ i, i < (tx x).length → tCh x (nI i) = (tx x).getD i 0 := by decide +kernel
section LT
variable {σ : PPS} {ls l m : List Int32} {f f' : Nat}
theorem k_lettersAre {x : Nat} (hx : x < 49) (hs : Str (pLe σ) ls) (hl : ls.length ≤ 4000) (h : Seg ls f l) {post : Int32 → Prop} (hq : post (b2i (decide (l = tx x)))) : w_Book_lettersAre σ (nI f) (nI l.length) x post := by
  obtain ⟨t1, t2, t3⟩ := tx_ok x hx
  have hf := h.1
  unfold w_Book_lettersAre
  refine ⟨hx, ?_⟩
  rw [← t1]
  by_cases he : l.length = (tx x).length
  · refine br_t (by rw [he]) ?_
    have key : ∀ m i, i + m = (tx x).length → (∀ j, j < i → l.getD j 0 = (tx x).getD j 0) → ∃ g, w_Book_lettersAre_L13 σ (nI f) x post g (nI i) := by
      intro m
      induction m with
      | zero =>
        intro i hi ha
        refine ⟨1, ?_⟩
        unfold w_Book_lettersAre_L13
        refine ⟨hx, br_t (by rw [← t1]; exact nI_le (by omega) (by omega)) ?_⟩
        rw [decide_eq_true (list_ext_getD he (fun j hj => ha j (by omega)))] at hq
        exact hq
      | succ m ih =>
        intro i hi ha
        have hg : sGet (pLe σ) (nI f + nI i) = l.getD i 0 := by rw [nI_add]; exact h.get hs (by omega) (by omega)
        by_cases hc : l.getD i 0 = (tx x).getD i 0
        · obtain ⟨g, hg2⟩ := ih (i + 1) (by omega) (fun j hj => by
            by_cases e : j = i
            · rw [e]; exact hc
            · exact ha j (by omega))
          refine ⟨g + 1, ?_⟩
          unfold w_Book_lettersAre_L13
          refine ⟨hx, br_f (by rw [← t1]; exact nI_ge (by omega) (by omega)) ⟨hx, by rw [← t1]; exact vp_in_nI (by omega) (by omega), ?_⟩⟩
          rw [hg, t3 i (by omega), nI_1]
          exact br_t hc hg2
        · refine ⟨1, ?_⟩
          unfold w_Book_lettersAre_L13
          refine ⟨hx, br_f (by rw [← t1]; exact nI_ge (by omega) (by omega)) ⟨hx, by rw [← t1]; exact vp_in_nI (by omega) (by omega), ?_⟩⟩
          rw [hg, t3 i (by omega), nI_1]
          rw [decide_eq_false (fun z => hc (by rw [z]))] at hq
          exact br_f hc hq
    exact key _ 0 (Nat.zero_add _) (fun j hj => absurd hj (Nat.not_lt_zero j))
  · refine br_f (fun z => he ((nI_eq (by omega) (by omega)).mp z)) ?_
    rw [decide_eq_false (fun z => he (by rw [z]))] at hq
    exact hq
theorem k_lettersAgree (hs : Str (pLe σ) ls) (hl : ls.length ≤ 4000) (h : Seg ls f l) (h' : Seg ls f' m) (he : l.length = m.length) {post : Int32 → Prop} (hq : post (b2i (decide (l = m)))) : w_Book_lettersAgree σ (nI f) (nI f') (nI l.length) post := by
  have hf := h.1
  have hf' := h'.1
  have key : ∀ q i, i + q = l.length → (∀ j, j < i → l.getD j 0 = m.getD j 0) → ∃ g, w_Book_lettersAgree_L3 σ (nI f) (nI f') (nI l.length) post g (nI i) := by
    intro q
    induction q with
    | zero =>
      intro i hi ha
      refine ⟨1, ?_⟩
      unfold w_Book_lettersAgree_L3
      refine br_t (nI_le (by omega) (by omega)) ?_
      rw [decide_eq_true (list_ext_getD he (fun j hj => ha j (by omega)))] at hq
      exact hq
    | succ q ih =>
      intro i hi ha
      have hg : sGet (pLe σ) (nI f + nI i) = l.getD i 0 := by rw [nI_add]; exact h.get hs (by omega) (by omega)
      have hg' : sGet (pLe σ) (nI f' + nI i) = m.getD i 0 := by rw [nI_add]; exact h'.get hs (by omega) (by omega)
      by_cases hc : l.getD i 0 = m.getD i 0
      · obtain ⟨g, hg2⟩ := ih (i + 1) (by omega) (fun j hj => by
          by_cases e : j = i
          · rw [e]; exact hc
          · exact ha j (by omega))
        refine ⟨g + 1, ?_⟩
        unfold w_Book_lettersAgree_L3
        refine br_f (nI_ge (by omega) (by omega)) ?_
        rw [hg, hg', nI_1]
        exact br_t hc hg2
      · refine ⟨1, ?_⟩
        unfold w_Book_lettersAgree_L3
        refine br_f (nI_ge (by omega) (by omega)) ?_
        rw [hg, hg']
        rw [decide_eq_false (fun z => hc (by rw [z]))] at hq
        exact br_f hc hq
  exact key _ 0 (Nat.zero_add _) (fun j hj => absurd hj (Nat.not_lt_zero j))
end LT
