/-! PURE: how the class takes characters. -/
theorem Tp.le {σ : PPS} {t : Nat → Int32} {n : Nat} (h : Tp σ t n) : n ≤ 4000 := h.2
section CT
variable {σ : PPS} {t : Nat → Int32} {n k : Nat}
theorem k_characterAt (hT : Tp σ t n) (hk : k ≤ 5000) {post : Int32 → Prop} (hq : post (u8 t n k)) : w_Signs_characterAt σ (nI k) post := by
  have hn := hT.2
  have hg : sGet (pTp σ) (nI k) = xx t n k := hT.get (by omega)
  have key : ∀ w, w ≤ 4 → ∀ m i c, i + m = w → post (u8f w (u8r t n m (k + i) c)) → ∃ f, w_Signs_characterAt_L66 σ (nI k) (nI w) post f c (nI i) := by
    intro w hw m
    induction m with
    | zero =>
      intro i c h hq
      refine ⟨1, ?_⟩
      unfold w_Signs_characterAt_L66
      refine br_t (nI_le (by omega) (by omega)) ?_
      unfold u8r u8f at hq
      simp only at hq
      by_cases hc : cCh c = true
      · refine bl_t hc ?_
        by_cases hb : cBy c = nI w
        · rw [if_pos ⟨hc, hb⟩] at hq; exact br_t hb hq
        · rw [if_neg (fun z => hb z.2)] at hq; exact br_f hb hq
      · rw [if_neg (fun z => hc z.1)] at hq; exact bl_f (Bool.eq_false_iff.mpr hc) hq
    | succ m ih =>
      intro i c h hq
      have hx : sGet (pTp σ) (nI k + nI i) = xx t n (k + i) := by rw [nI_add]; exact hT.get (by omega)
      unfold u8r at hq
      by_cases hc : (xx t n (k + i) &&& 192) = 128
      · rw [if_pos hc] at hq
        obtain ⟨f, hf⟩ := ih (i + 1) ((c <<< (6 &&& 31)) ||| (xx t n (k + i) &&& 63)) (by omega) (by rw [show k + (i + 1) = k + i + 1 from by omega]; exact hq)
        refine ⟨f + 1, ?_⟩
        unfold w_Signs_characterAt_L66
        refine br_f (nI_ge (by omega) (by omega)) ?_
        rw [hx]
        refine br_t hc ?_
        rw [nI_1]; exact hf
      · rw [if_neg hc] at hq
        refine ⟨1, ?_⟩
        unfold w_Signs_characterAt_L66
        refine br_f (nI_ge (by omega) (by omega)) ?_
        rw [hx]
        exact br_f hc hq
  have kJ : ∀ w, 1 ≤ w → w ≤ 4 → post (u8f w (u8r t n (w - 1) (k + 1) (xx t n k &&& (127 >>> (nI w &&& 31))))) → w_Signs_characterAt_J54 σ post (nI k) (xx t n k) (nI w) := fun w h1 hw hq => key w hw (w - 1) 1 _ (by omega) hq
  unfold w_Signs_characterAt
  rw [hg]
  unfold u8 at hq
  by_cases h1 : 128 ≤ xx t n k
  · rw [if_pos h1] at hq
    refine br_t h1 ?_
    by_cases h2 : xx t n k < 192
    · rw [if_pos h2] at hq; exact br_t h2 hq
    rw [if_neg h2] at hq
    refine br_f h2 ?_
    by_cases h3 : xx t n k < 248
    · rw [if_pos h3] at hq
      refine br_t h3 ?_
      unfold u8w at hq
      by_cases h4 : 224 ≤ xx t n k
      · rw [if_pos h4] at hq
        refine br_t h4 ?_
        by_cases h5 : 240 ≤ xx t n k
        · rw [if_pos h5] at hq; exact br_t h5 (kJ 4 (by omega) (by omega) hq)
        · rw [if_neg h5] at hq; exact br_f h5 (kJ 3 (by omega) (by omega) hq)
      · rw [if_neg h4] at hq; exact br_f h4 (kJ 2 (by omega) (by omega) hq)
    · rw [if_neg h3] at hq; exact br_f h3 hq
  · rw [if_neg h1] at hq; exact br_f h1 hq
theorem k_takeCharacter (hT : Tp σ t n) (hp : pPs σ = nI k) (hk : k ≤ n) {post : Int32 → PPS → Prop} (hq : post (u8 t n k) (sPs σ (nI (k + cByN (u8 t n k))))) : w_Reader_takeCharacter σ post := by
  have hn := hT.2
  unfold w_Reader_takeCharacter
  rw [hp]
  refine k_characterAt hT (by omega) (fa_eq ?_)
  rw [cBy_N, nI_add]; exact hq
theorem k_takeNumbered (hT : Tp σ t n) (hp : pPs σ = nI k) (hk : k ≤ n) {post : Int32 → PPS → Prop}
    (h1 : ∀ c p, num t n (hexq t n k) (if hexq t n k = 0 then 8 else 7) 0 (k + if hexq t n k = 0 then 2 else 3) 0 = some (c, p) → post c (sPs σ (nI p)))
    (h0 : num t n (hexq t n k) (if hexq t n k = 0 then 8 else 7) 0 (k + if hexq t n k = 0 then 2 else 3) 0 = none → ∀ p, post (-1) (sPs σ (nI p))) : w_Reader_takeNumbered σ post := by
  have hn := hT.2
  have loop : ∀ (hex : Int32) (most : Nat), most ≤ 7 → ∀ f d p c, d + f = most + 1 → p ≤ 5000 + d →
      (∀ c' p', num t n hex f d p c = some (c', p') → post c' (sPs σ (nI p'))) → (num t n hex f d p c = none → ∀ p', post (-1) (sPs σ (nI p'))) →
      ∃ g, w_Reader_takeNumbered_L77 hex (nI most) post g c (nI d) (sPs σ (nI p)) := by
    intro hex most hm f
    induction f with
    | zero =>
      intro d p c h hp2 a b
      refine ⟨1, ?_⟩
      unfold w_Reader_takeNumbered_L77
      exact br_t (nI_lt (by omega) (by omega)) (b rfl p)
    | succ f ih =>
      intro d p c h hp2 a b
      have hx : sGet (pTp (sPs σ (nI p))) (pPs (sPs σ (nI p))) = xx t n p := hT.get (by omega)
      have e1 : pPs (sPs σ (nI p)) + 1 = nI (p + 1) := nI_1 p
      unfold num at a b
      by_cases hc : cDv (xx t n p) hex = -1
      · rw [if_pos hc] at a b
        refine ⟨1, ?_⟩
        unfold w_Reader_takeNumbered_L77
        rw [hx]
        refine br_f (nI_nlt (by omega) (by omega)) (br_t hc ?_)
        by_cases hd : 0 < d
        · refine br_f (nI_nle hd (by omega)) ?_
          by_cases h59 : xx t n p = 59
          · rw [if_pos ⟨hd, h59⟩] at a
            refine br_t h59 (fa_eq (br_f (by decide) ?_))
            rw [e1]
            exact a c (p + 1) rfl
          · rw [if_neg (fun z => h59 z.2)] at b
            refine br_f h59 (fa_eq (br_t rfl ?_))
            rw [e1]
            exact b rfl (p + 1)
        · rw [if_neg (fun z => hd z.1)] at b
          refine br_t ?_ (fa_eq (br_t rfl ?_))
          · rw [show d = 0 from by omega]; decide
          · rw [e1]; exact b rfl (p + 1)
      · rw [if_neg hc] at a b
        obtain ⟨g, hg⟩ := ih (d + 1) (p + 1) (c * (if hex = 0 then 10 else 16) + cDv (xx t n p) hex) (by omega) (by omega) a b
        refine ⟨g + 1, ?_⟩
        unfold w_Reader_takeNumbered_L77
        rw [hx]
        refine br_f (nI_nlt (by omega) (by omega)) (br_f hc ?_)
        by_cases hh : hex = 0
        · rw [if_pos hh] at hg
          refine br_t hh (fa_eq ?_)
          rw [e1, nI_1]; exact hg
        · rw [if_neg hh] at hg
          refine br_f hh (fa_eq ?_)
          rw [e1, nI_1]; exact hg
  have e2 : sGet (pTp σ) (pPs σ + 2) = xx t n (k + 2) := by rw [hp, show nI k + 2 = nI (k + 2) from nI_add k 2]; exact hT.get (by omega)
  have J0 : hexq t n k = 0 → w_Reader_takeNumbered_J41 post 0 σ := fun hh => by
    rw [hh] at h1 h0
    refine br_t rfl (br_t rfl (fa_eq ?_))
    rw [hp, show nI k + 2 = nI (k + 2) from nI_add k 2]
    exact loop 0 7 (by omega) 8 0 (k + 2) 0 (by omega) (by omega) h1 h0
  have J1 : hexq t n k = 1 → w_Reader_takeNumbered_J41 post 1 σ := fun hh => by
    rw [hh] at h1 h0
    refine br_f (by decide) (br_f (by decide) (fa_eq ?_))
    rw [hp, show nI k + 3 = nI (k + 3) from nI_add k 3]
    exact loop 1 6 (by omega) 7 0 (k + 3) 0 (by omega) (by omega) h1 h0
  unfold w_Reader_takeNumbered w_Reader_takeNumbered_J36
  rw [e2]
  by_cases a : xx t n (k + 2) = 120
  · exact br_t a (J1 (if_pos (Or.inl a)))
  · refine br_f a ?_
    by_cases b : xx t n (k + 2) = 88
    · exact br_t b (J1 (if_pos (Or.inr b)))
    · exact br_f b (J0 (if_neg (fun z => z.elim a b)))
theorem k_standsAt {x : Nat} (hx : x < 49) (hT : Tp σ t n) (hk : k ≤ n) {post : Int32 → Prop} (hq : post (b2i (stAt t n k x))) : w_Reader_standsAt σ (nI k) x post := by
  have hn := hT.2
  have hl : ∀ x, x < 49 → tLn.getD x 0 ≤ 38 := by decide +kernel
  have hl := hl x hx
  have key : ∀ m i, i + m = tLn.getD x 0 → (∀ j, j < i → xx t n (k + j) = tCh x (nI j)) → ∃ f, w_Reader_standsAt_L2 σ (nI k) x post f (nI i) := by
    intro m
    induction m with
    | zero =>
      intro i h ha
      refine ⟨1, ?_⟩
      unfold w_Reader_standsAt_L2
      refine ⟨hx, br_t (nI_le (by omega) (by omega)) ?_⟩
      rw [show stAt t n k x = true from decide_eq_true (fun j hj => ha j (by omega))] at hq
      exact hq
    | succ m ih =>
      intro i h ha
      have hg : sGet (pTp σ) (nI k + nI i) = xx t n (k + i) := by rw [nI_add]; exact hT.get (by omega)
      by_cases hc : xx t n (k + i) = tCh x (nI i)
      · obtain ⟨f, hf⟩ := ih (i + 1) (by omega) (fun j hj => by
          by_cases e : j = i
          · rw [e]; exact hc
          · exact ha j (by omega))
        refine ⟨f + 1, ?_⟩
        unfold w_Reader_standsAt_L2
        refine ⟨hx, br_f (nI_ge (by omega) (by omega)) ⟨hx, vp_in_nI (by omega) (by omega), ?_⟩⟩
        rw [hg, nI_1]
        exact br_t hc hf
      · refine ⟨1, ?_⟩
        unfold w_Reader_standsAt_L2
        refine ⟨hx, br_f (nI_ge (by omega) (by omega)) ⟨hx, vp_in_nI (by omega) (by omega), ?_⟩⟩
        rw [hg, nI_1]
        rw [show stAt t n k x = false from decide_eq_false (fun z => hc (z i (by omega)))] at hq
        exact br_f hc hq
  exact key _ 0 (Nat.zero_add _) (fun j hj => absurd hj (Nat.not_lt_zero j))
theorem k_takeNamed (hT : Tp σ t n) (hp : pPs σ = nI k) (hk : k ≤ n) {post : Int32 → PPS → Prop} (h1 : ∀ c p, chA t n k = some (c, p) → post c (sPs σ (nI p))) (h0 : chA t n k = none → post (-1) σ) : w_Reader_takeNamed σ post := by
  unfold w_Reader_takeNamed
  rw [hp]
  unfold chA at h1 h0
  have e : ∀ j : Nat, nI k + nI j = nI (k + j) := fun j => nI_add k j
  refine k_standsAt (by decide) hT hk ?_
  by_cases a : stAt t n k 2 = true
  · rw [if_pos a] at h1
    exact bl_t a (fa_eq (by rw [show nI k + 5 = nI (k + 5) from e 5]; exact h1 38 _ rfl))
  rw [if_neg a] at h1 h0
  refine bl_f (Bool.eq_false_iff.mpr a) (k_standsAt (by decide) hT hk ?_)
  by_cases a : stAt t n k 3 = true
  · rw [if_pos a] at h1
    exact bl_t a (fa_eq (by rw [show nI k + 4 = nI (k + 4) from e 4]; exact h1 60 _ rfl))
  rw [if_neg a] at h1 h0
  refine bl_f (Bool.eq_false_iff.mpr a) (k_standsAt (by decide) hT hk ?_)
  by_cases a : stAt t n k 4 = true
  · rw [if_pos a] at h1
    exact bl_t a (fa_eq (by rw [show nI k + 4 = nI (k + 4) from e 4]; exact h1 62 _ rfl))
  rw [if_neg a] at h1 h0
  refine bl_f (Bool.eq_false_iff.mpr a) (k_standsAt (by decide) hT hk ?_)
  by_cases a : stAt t n k 5 = true
  · rw [if_pos a] at h1
    exact bl_t a (fa_eq (by rw [show nI k + 6 = nI (k + 6) from e 6]; exact h1 34 _ rfl))
  rw [if_neg a] at h1 h0
  refine bl_f (Bool.eq_false_iff.mpr a) (k_standsAt (by decide) hT hk ?_)
  by_cases a : stAt t n k 6 = true
  · rw [if_pos a] at h1
    exact bl_t a (fa_eq (by rw [show nI k + 6 = nI (k + 6) from e 6]; exact h1 39 _ rfl))
  rw [if_neg a] at h0
  exact bl_f (Bool.eq_false_iff.mpr a) (h0 rfl)
end CT
