/-! PURE: the kinds of both. -/
def kidF (l : List Int32) : Nat → Option Nat
  | 0 => none
  | m + 1 => if l = tx (kLa.getD m 0) then some m else kidF l m
def kidx (l : List Int32) : Option Nat := kidF l 23
theorem kid_kd (l : List Int32) : ∀ m, kdF l m = match kidF l m with | none => -1 | some i => nI i
  | 0 => rfl
  | m + 1 => by
    unfold kdF kidF
    by_cases h : l = tx (kLa.getD m 0)
    · rw [if_pos h, if_pos h]
    · rw [if_neg h, if_neg h]; exact kid_kd l m
theorem kidF_lt (l : List Int32) : ∀ m i, kidF l m = some i → i < m
  | 0, i, h => by cases h
  | m + 1, i, h => by
    unfold kidF at h
    by_cases e : l = tx (kLa.getD m 0)
    · rw [if_pos e] at h; cases h; omega
    · rw [if_neg e] at h; have := kidF_lt l m i h; omega
theorem kidF_is (l : List Int32) : ∀ m i, kidF l m = some i → l = tx (kLa.getD i 0)
  | 0, i, h => by cases h
  | m + 1, i, h => by
    unfold kidF at h
    by_cases e : l = tx (kLa.getD m 0)
    · rw [if_pos e] at h; cases h; exact e
    · rw [if_neg e] at h; exact kidF_is l m i h
theorem kid_tx : ∀ i, i < 23 → kidx (tx (kLa.getD i 0)) = some i := by decide +kernel
theorem kid_no {l : List Int32} (h : ∀ i, i < 23 → ¬ l = tx (kLa.getD i 0)) : kidx l = none := by
  cases e : kidx l with
  | none => rfl
  | some i => exact absurd (kidF_is l 23 i e) (h i (kidF_lt l 23 i e))
theorem kid_iff {l : List Int32} {i : Nat} (hi : i < 23) : kidx l = some i ↔ l = tx (kLa.getD i 0) := ⟨kidF_is l 23 i, fun h => by rw [h]; exact kid_tx i hi⟩
/-- a node's kind -/
def kOf (t : Nat → Int32) (n : Nat) (S : GS) (k : Nat) : Option Nat := if S.el k = true then kidx (seg t n (S.bg k + 1) (S.nl k)) else none
/-- the reference's number of a kind -/
def kNo : Option Nat → Int32
  | none => 0
  | some i => nI (i + 1)
section KD
variable {t : Nat → Int32} {n : Nat} {σ : PPS} {τ : MPS} {S : GS} {g a : Nat → Nat → Int32} {ls : List Int32} {A : Nat}
theorem kOf_lt {k i : Nat} (h : kOf t n S k = some i) : i < 23 := by
  unfold kOf at h
  split at h
  · exact kidF_lt _ 23 i h
  · cases h
theorem KN.kind (h : KN σ τ t n S g a ls A) {k : Nat} (hk : k < S.K) : bKind σ (nI k) = kOf t n S k := by
  have e12 : tGet 14 (pNd σ) (nI k) 12 = g k 12 := h.get rfl hk (by decide)
  have hr := (h.bk.row k hk).kind
  unfold bKind kOf
  rw [e12, hr]
  by_cases he : S.el k = true
  · rw [if_pos he, if_pos he]
    have hl : lets t n S k = seg t n (S.bg k + 1) (S.nl k) := by unfold lets; rw [if_pos he]
    rw [hl]
    unfold kdOf
    rw [kid_kd]
    show _ = kidF _ 23
    cases e : kidF (seg t n (S.bg k + 1) (S.nl k)) 23 with
    | none => rfl
    | some i =>
      have hi := kidF_lt _ _ _ e
      show (if nI i < 0 then none else if 23 ≤ nI i then none else some (nI i).toNatClampNeg) = some i
      rw [if_neg (nI_pos (by omega)), if_neg (show ¬ (23 : Int32) ≤ nI i from nI_ge (b := 23) hi (by decide)), nI_clamp (by omega)]
  · rw [if_neg he, if_neg he]; rfl
theorem KN.bEle (h : KN σ τ t n S g a ls A) {k : Nat} (hk : k < S.K) : bEle σ (nI k) = S.el k := by
  have e0 : tGet 14 (pNd σ) (nI k) 0 = b2i (S.el k) := (h.get (c := 0) rfl hk (by decide)).trans (h.bk.row k hk).lnk.c0
  unfold Pilot.CPlainPagesLaw_law_r4091_10100c.bEle
  rw [e0]
  cases S.el k <;> decide
theorem r_isNamed {word : Int64} {m x k : Nat} (hx : x < 49) (hm8 : m ≤ 8) (hw : wEq word m x) (h : KN σ τ t n S g a ls A) (hk : k < S.K) {post : Int32 → Prop} (h1 : S.el k = true → seg t n (S.bg k + 1) (S.nl k) = tx x → post 1) (h0 : (S.el k = true → ¬ seg t n (S.bg k + 1) (S.nl k) = tx x) → post 0) : w_M_isNamed τ (nI k) word (nI m) post := by
  have hK := h.K
  have hn := h.mt.2.1
  unfold w_M_isNamed
  refine ⟨h.in_ hk, ?_⟩
  rw [h.isEl hk]
  cases he : S.el k with
  | false => exact bl_f rfl (h0 (fun z => by rw [he] at z; cases z))
  | true =>
    have hnm := (h.gd.nm k hk he).len
    refine bl_t rfl (r_nameSize h hk he ?_)
    refine pk_eq (S.nl k) m (fun e => ⟨h.in_ hk, ?_⟩) (fun e => h0 (fun _ z => e ((seg_tx hx hw).mpr z).1)) rfl rfl (by omega) (by omega)
    rw [nI_clamp (by omega), (h.mb.2.2 k hk).bg, nI_1]
    refine r_says' h.mt (by omega) hm8 hw ?_
    by_cases hs : stAt t n (S.bg k + 1) x = true
    · exact bl_t hs (h1 he ((seg_tx hx hw).mp ⟨e, hs⟩))
    · exact bl_f (Bool.eq_false_iff.mpr hs) (h0 (fun _ z => hs ((seg_tx hx hw).mpr z).2))
theorem wk29 : wEq 1752460652 4 29 := by unfold wEq; decide +kernel
theorem wk30 : wEq 1751474532 4 30 := by unfold wEq; decide +kernel
theorem wk31 : wEq 499985443941 5 31 := by unfold wEq; decide +kernel
theorem wk32 : wEq 1651467385 4 32 := by unfold wEq; decide +kernel
theorem wk34 : wEq 30060 2 34 := by unfold wEq; decide +kernel
theorem wk35 : wEq 28524 2 35 := by unfold wEq; decide +kernel
theorem wk36 : wEq 27753 2 36 := by unfold wEq; decide +kernel
theorem wk37 : wEq 112 1 37 := by unfold wEq; decide +kernel
theorem wk44 : wEq 25965 2 44 := by unfold wEq; decide +kernel
theorem wk45 : wEq 126943973305959 6 45 := by unfold wEq; decide +kernel
theorem wk26 : wEq 97 1 26 := by unfold wEq; decide +kernel
theorem wk46 : wEq 7369317 3 46 := by unfold wEq; decide +kernel
theorem wk47 : wEq 1668244581 4 47 := by unfold wEq; decide +kernel
theorem wk48 : wEq 26738 2 48 := by unfold wEq; decide +kernel
theorem wk27 : wEq 25202 2 27 := by unfold wEq; decide +kernel
theorem wk28 : wEq 6909287 3 28 := by unfold wEq; decide +kernel
theorem seg_xx {k l i : Nat} {x : Nat} (h : seg t n k l = tx x) (hi : i < l) : xx t n (k + i) = (tx x).getD i 0 := by
  rw [← h, List.getD_eq_getElem?_getD, seg_get t n l k i hi]; rfl
theorem hx_tx : ∀ i, i < 6 → tx (kLa.getD (9 + i) 0) = [104, nI (49 + i)] := by decide +kernel
theorem bq_tx : (tx 33).length = 10 ∧ (∀ i, i < 8 → (tx 33).getD i 0 = wb 7092165985996731759 8 i) ∧ (∀ i, i < 2 → (tx 33).getD (8 + i) 0 = wb 29797 2 i) := by decide +kernel
theorem r_kindOf {k : Nat} (h : KN σ τ t n S g a ls A) (hk : k < S.K) (he : S.el k = true) {post : Int32 → Prop} (hq : post (kNo (kOf t n S k))) : w_M_kindOf τ (nI k) post := by
  have hK := h.K
  have hn := h.mt.2.1
  have hnm := (h.gd.nm k hk he).len
  have hkO : kOf t n S k = kidx (seg t n (S.bg k + 1) (S.nl k)) := by unfold kOf; rw [if_pos he]
  rw [hkO] at hq
  have yes : ∀ i, i < 23 → seg t n (S.bg k + 1) (S.nl k) = tx (kLa.getD i 0) → ∀ v, v = nI (i + 1) → post v := fun i hi e v hv => by
    rw [e, kid_tx i hi] at hq
    rw [hv]; exact hq
  -- the chain of names
  have J104 : (∀ i, i < 6 → ¬ seg t n (S.bg k + 1) (S.nl k) = tx (kLa.getD (9 + i) 0)) → ¬ seg t n (S.bg k + 1) (S.nl k) = tx 33 → w_M_kindOf_J104 τ post (nI k) := fun nh nb => by
    unfold w_M_kindOf_J104
    refine r_isNamed (x := 29) (m := 4) (by decide) (by decide) wk29 h hk (fun _ e => br_f (by decide) (yes 0 (by decide) e _ rfl)) (fun n0 => br_t rfl ?_)
    refine r_isNamed (x := 30) (m := 4) (by decide) (by decide) wk30 h hk (fun _ e => br_f (by decide) (yes 1 (by decide) e _ rfl)) (fun n1 => br_t rfl ?_)
    refine r_isNamed (x := 31) (m := 5) (by decide) (by decide) wk31 h hk (fun _ e => br_f (by decide) (yes 2 (by decide) e _ rfl)) (fun n2 => br_t rfl ?_)
    refine r_isNamed (x := 32) (m := 4) (by decide) (by decide) wk32 h hk (fun _ e => br_f (by decide) (yes 3 (by decide) e _ rfl)) (fun n3 => br_t rfl ?_)
    refine r_isNamed (x := 34) (m := 2) (by decide) (by decide) wk34 h hk (fun _ e => br_f (by decide) (yes 5 (by decide) e _ rfl)) (fun n5 => br_t rfl ?_)
    refine r_isNamed (x := 35) (m := 2) (by decide) (by decide) wk35 h hk (fun _ e => br_f (by decide) (yes 6 (by decide) e _ rfl)) (fun n6 => br_t rfl ?_)
    refine r_isNamed (x := 36) (m := 2) (by decide) (by decide) wk36 h hk (fun _ e => br_f (by decide) (yes 7 (by decide) e _ rfl)) (fun n7 => br_t rfl ?_)
    refine r_isNamed (x := 37) (m := 1) (by decide) (by decide) wk37 h hk (fun _ e => br_f (by decide) (yes 8 (by decide) e _ rfl)) (fun n8 => br_t rfl ?_)
    refine r_isNamed (x := 44) (m := 2) (by decide) (by decide) wk44 h hk (fun _ e => br_f (by decide) (yes 15 (by decide) e _ rfl)) (fun n15 => br_t rfl ?_)
    refine r_isNamed (x := 45) (m := 6) (by decide) (by decide) wk45 h hk (fun _ e => br_f (by decide) (yes 16 (by decide) e _ rfl)) (fun n16 => br_t rfl ?_)
    refine r_isNamed (x := 26) (m := 1) (by decide) (by decide) wk26 h hk (fun _ e => br_f (by decide) (yes 17 (by decide) e _ rfl)) (fun n17 => br_t rfl ?_)
    refine r_isNamed (x := 46) (m := 3) (by decide) (by decide) wk46 h hk (fun _ e => br_f (by decide) (yes 18 (by decide) e _ rfl)) (fun n18 => br_t rfl ?_)
    refine r_isNamed (x := 47) (m := 4) (by decide) (by decide) wk47 h hk (fun _ e => br_f (by decide) (yes 19 (by decide) e _ rfl)) (fun n19 => br_t rfl ?_)
    refine r_isNamed (x := 48) (m := 2) (by decide) (by decide) wk48 h hk (fun _ e => br_f (by decide) (yes 20 (by decide) e _ rfl)) (fun n20 => br_t rfl ?_)
    refine r_isNamed (x := 27) (m := 2) (by decide) (by decide) wk27 h hk (fun _ e => br_f (by decide) (yes 21 (by decide) e _ rfl)) (fun n21 => br_t rfl ?_)
    refine r_isNamed (x := 28) (m := 3) (by decide) (by decide) wk28 h hk (fun _ e => br_f (by decide) (yes 22 (by decide) e _ rfl)) (fun n22 => br_t rfl ?_)
    rw [kid_no (fun i hi e => ?_)] at hq
    · exact hq
    · have hc : i = 0 ∨ i = 1 ∨ i = 2 ∨ i = 3 ∨ i = 4 ∨ i = 5 ∨ i = 6 ∨ i = 7 ∨ i = 8 ∨ (9 ≤ i ∧ i < 15) ∨ i = 15 ∨ i = 16 ∨ i = 17 ∨ i = 18 ∨ i = 19 ∨ i = 20 ∨ i = 21 ∨ i = 22 := by omega
      rcases hc with z | z | z | z | z | z | z | z | z | z | z | z | z | z | z | z | z | z
      · subst z; exact n0 he e
      · subst z; exact n1 he e
      · subst z; exact n2 he e
      · subst z; exact n3 he e
      · subst z; exact nb e
      · subst z; exact n5 he e
      · subst z; exact n6 he e
      · subst z; exact n7 he e
      · subst z; exact n8 he e
      · exact nh (i - 9) (by omega) (by rw [show 9 + (i - 9) = i from by omega]; exact e)
      · subst z; exact n15 he e
      · subst z; exact n16 he e
      · subst z; exact n17 he e
      · subst z; exact n18 he e
      · subst z; exact n19 he e
      · subst z; exact n20 he e
      · subst z; exact n21 he e
      · subst z; exact n22 he e
  have J68 : (∀ i, i < 6 → ¬ seg t n (S.bg k + 1) (S.nl k) = tx (kLa.getD (9 + i) 0)) → w_M_kindOf_J68 τ post (nI k) (nI (S.nl k)) (nI (S.bg k + 1)) := fun nh => by
    unfold w_M_kindOf_J68
    obtain ⟨b1, b2, b3⟩ := bq_tx
    refine pk_eq (S.nl k) 10 (fun e => r_says h.mt (by omega) (by decide) ?_) (fun e => J104 nh (fun z => e (by rw [← b1, ← z, seg_len]))) rfl rfl (by omega) (by decide)
    by_cases s8 : ∀ i, i < 8 → xx t n (S.bg k + 1 + i) = wb 7092165985996731759 8 i
    · refine bl_t (decide_eq_true s8) ?_
      rw [show nI (S.bg k + 1) + 8 = nI (S.bg k + 1 + 8) from nI_add _ 8]
      refine r_says h.mt (by omega) (by decide) ?_
      by_cases s2 : ∀ i, i < 2 → xx t n (S.bg k + 1 + 8 + i) = wb 29797 2 i
      · refine bl_t (decide_eq_true s2) (yes 4 (by decide) ?_ _ rfl)
        show _ = tx 33
        refine list_ext_getD (by rw [seg_len, b1, e]) (fun i hi => ?_)
        rw [seg_len] at hi
        rw [List.getD_eq_getElem?_getD, seg_get t n _ _ i hi]
        by_cases h8 : i < 8
        · rw [b2 i h8]; exact s8 i h8
        · have := s2 (i - 8) (by omega)
          rw [show S.bg k + 1 + 8 + (i - 8) = S.bg k + 1 + i from by omega] at this
          have hb := b3 (i - 8) (by omega)
          rw [show 8 + (i - 8) = i from by omega] at hb
          rw [hb]; exact this
      · refine bl_f (decide_eq_false s2) (J104 nh (fun z => s2 (fun i hi => ?_)))
        have := seg_xx z (i := 8 + i) (by omega)
        rw [show S.bg k + 1 + (8 + i) = S.bg k + 1 + 8 + i from by omega] at this
        rw [this]; exact b3 i hi
    · refine bl_f (decide_eq_false s8) (J104 nh (fun z => s8 (fun i hi => ?_)))
      rw [seg_xx z (i := i) (by omega)]; exact b2 i hi
  unfold w_M_kindOf
  refine r_nameSize h hk he ⟨h.in_ hk, ?_⟩
  rw [nI_clamp (by omega), (h.mb.2.2 k hk).bg, nI_1, nI_1, h.mt.x (by omega), h.mt.x (by omega)]
  have hlen : ∀ i, i < 6 → seg t n (S.bg k + 1) (S.nl k) = tx (kLa.getD (9 + i) 0) → S.nl k = 2 ∧ xx t n (S.bg k + 1) = 104 ∧ xx t n (S.bg k + 1 + 1) = nI (49 + i) := fun i hi e => by
    have hl : S.nl k = 2 := by
      have := congrArg List.length e
      rw [seg_len, hx_tx i hi] at this
      exact this
    have e0 := seg_xx e (i := 0) (by omega)
    have e1 := seg_xx e (i := 1) (by omega)
    rw [hx_tx i hi] at e0 e1
    exact ⟨hl, e0, e1⟩
  refine pk_eq (S.nl k) 2 (fun e => ⟨h.mt.k (by omega), ?_⟩) (fun e => J68 (fun i hi z => e (hlen i hi z).1)) rfl rfl (by omega) (by decide)
  by_cases h104 : xx t n (S.bg k + 1) = 104
  · refine br_t h104 ⟨h.mt.k (by omega), ?_⟩
    have hb1 : S.bg k + 1 + 1 < n := by omega
    obtain ⟨b, hb, eb⟩ := h.mt.byt.xx hb1
    rw [eb]
    refine pk_lt b 49 (fun c1 => J68 (fun i hi z => ?_)) (fun c1 => ⟨h.mt.k (by omega), ?_⟩) rfl rfl (by omega) (by decide)
    · have := (hlen i hi z).2.2
      rw [eb] at this
      have := (nI_eq (by omega) (by omega)).mp this
      omega
    · refine pk_lt 54 b (fun c2 => J68 (fun i hi z => ?_)) (fun c2 => ⟨h.mt.k (by omega), ?_⟩) rfl rfl (by decide) (by omega)
      · have := (hlen i hi z).2.2
        rw [eb] at this
        have := (nI_eq (by omega) (by omega)).mp this
        omega
      · refine yes (9 + (b - 49)) (by omega) ?_ _ ?_
        · rw [hx_tx (b - 49) (by omega), show 49 + (b - 49) = b from by omega, e]
          show [xx t n (S.bg k + 1), xx t n (S.bg k + 1 + 1)] = _
          rw [h104, eb]
        · rw [show (10 : Int32) + nI b = nI (10 + b) from nI_add 10 b, show nI (10 + b) - 49 = nI (10 + b - 49) from pk_sub (b := 49) (by omega)]
          congr 1; omega
  · exact br_f h104 (J68 (fun i hi z => h104 (hlen i hi z).2.1))
end KD
