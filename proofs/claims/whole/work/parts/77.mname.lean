/-! PURE: how the reference scans names, white and attributes. -/
section MN
variable {t : Nat → Int32} {n k : Nat} {τ : MPS}
theorem r_skipWhite {e : Nat} (hT : MT τ t n) (ha : mp_at τ = nI k) (hk : k ≤ n) (hr : Runs cWh t n k e) {post : MPS → Prop} (hq : ∀ τ', Df [13] τ τ' → mp_at τ' = nI e → post τ') : w_M_skipWhite τ post := by
  have hn := hT.2.1
  have he := hr.le cWh_m hk
  have key : ∀ m k τ1, e - k = m → k ≤ n → Runs cWh t n k e → Df [13] τ τ1 → mp_at τ1 = nI k → ∃ f, w_M_skipWhite_L0 post f τ1 := by
    intro m
    induction m with
    | zero =>
      intro k τ1 h hk hr d ha
      have hke : k = e := by have := hr.1; omega
      subst hke
      have hT1 := hT.df d (by decide)
      refine ⟨1, ?_⟩
      unfold w_M_skipWhite_L0
      rw [ha]
      refine ⟨hT1.k (by omega), ?_⟩
      rw [hT1.x (by omega)]
      exact bl_f hr.2.2 (hq τ1 d ha)
    | succ m ih =>
      intro k τ1 h hk hr d ha
      have hT1 := hT.df d (by decide)
      have hw : cWh (xx t n k) = true := hr.2.1 k (Nat.le_refl k) (by omega)
      have hkn := q_lt cWh_m hw
      obtain ⟨f, hf⟩ := ih (k + 1) (ms_at τ1 (nI (k + 1))) (by omega) (by omega) ⟨by have := hr.1; omega, fun j a b => hr.2.1 j (by omega) b, hr.2.2⟩ (d.trans (Df.set τ1 (by decide))) rfl
      refine ⟨f + 1, ?_⟩
      unfold w_M_skipWhite_L0
      rw [ha]
      refine ⟨hT1.k (by omega), ?_⟩
      rw [hT1.x (by omega), nI_1]
      exact bl_t hw (fa_eq hf)
  obtain ⟨f, hf⟩ := key _ k τ rfl hk hr (Df.refl τ) ha
  exact ⟨f, hf⟩
theorem r_takeName (hT : MT τ t n) (ha : mp_at τ = nI k) (hb : mp_bad τ = 0) (hk : k ≤ n) {post : Int32 → MPS → Prop}
    (h0 : ∀ p τ', NameF t n k p → Df [13, 16] τ τ' → mp_at τ' = nI p → mp_bad τ' = 1 → ∀ r, post r τ')
    (h1 : ∀ e τ', Name t n k e → Df [13, 16] τ τ' → mp_at τ' = nI e → mp_bad τ' = 0 → post (nI (e - k)) τ') : w_M_takeName τ post := by
  have hn := hT.2.1
  unfold w_M_takeName
  rw [ha]
  refine ⟨hT.k (by omega), ?_⟩
  rw [hT.x (by omega), cNs_1]
  by_cases hB : cBn (xx t n k) = true
  · refine bl_t hB ?_
    obtain ⟨e, hr⟩ := Runs.ex cGn_m t n k
    have hke := hr.1
    have he := hr.le cGn_m hk
    have key : ∀ m j τ1, (min e (k + 30)) - j = m → k ≤ j → j ≤ min e (k + 30) → Df [13, 16] τ τ1 → mp_at τ1 = nI j → mp_bad τ1 = 0 → ∃ f, w_M_takeName_L25 (nI k) post f τ1 := by
      intro m
      induction m with
      | zero =>
        intro j τ1 h hj hje d ha hb
        have hT1 := hT.df d (by decide)
        by_cases hl : e - k ≤ 30
        · have : j = e := by omega
          subst this
          refine ⟨1, ?_⟩
          unfold w_M_takeName_L25 w_M_takeName_J79
          rw [hb, ha]
          refine br_t rfl ⟨hT1.k (by omega), ?_⟩
          rw [hT1.x (by omega), cNs_0, pk_sub (by omega)]
          exact bl_f hr.2.2 (h1 j τ1 ⟨hB, hr, hl⟩ d ha hb)
        · have hj30 : j = k + 30 := by omega
          subst hj30
          refine ⟨2, ?_⟩
          unfold w_M_takeName_L25
          rw [hb, ha]
          refine br_t rfl ⟨hT1.k (by omega), ?_⟩
          rw [hT1.x (by omega), cNs_0, pk_sub (by omega)]
          refine bl_t (hr.2.1 (k + 30) (by omega) (by omega)) (br_t (by rw [show k + 30 - k = 30 from by omega]; rfl) (fa_eq ?_))
          unfold w_M_takeName_L25 w_M_takeName_J79
          refine br_f (by show ¬ (1 : Int32) = 0; decide) ?_
          exact h0 (k + 30) _ (Or.inr ⟨hB, ⟨e, hr, by omega⟩, rfl⟩) (d.trans (Df.set τ1 (by decide))) (by show mp_at τ1 = _; exact ha) rfl _
      | succ m ih =>
        intro j τ1 h hj hje d ha hb
        have hT1 := hT.df d (by decide)
        obtain ⟨f, hf⟩ := ih (j + 1) (ms_at τ1 (nI (j + 1))) (by omega) (by omega) (by omega) (d.trans (Df.set τ1 (by decide))) rfl hb
        refine ⟨f + 1, ?_⟩
        unfold w_M_takeName_L25
        rw [hb, ha]
        refine br_t rfl ⟨hT1.k (by omega), ?_⟩
        rw [hT1.x (by omega), cNs_0, pk_sub (by omega), nI_1]
        refine bl_t (hr.2.1 j hj (by omega)) (br_f (fun z => ?_) (fa_eq hf))
        have := (nI_eq (a := j - k) (b := 30) (by omega) (by decide)).mp z
        omega
    obtain ⟨f, hf⟩ := key _ k τ rfl (Nat.le_refl k) (by omega) (Df.refl τ) ha hb
    exact ⟨f, hf⟩
  · have hB' := Bool.eq_false_iff.mpr hB
    refine bl_f hB' (fa_eq ⟨1, ?_⟩)
    unfold w_M_takeName_L25 w_M_takeName_J79
    refine br_f (by show ¬ (1 : Int32) = 0; decide) ?_
    exact h0 k _ (Or.inl ⟨hB', rfl⟩) (Df.set τ (by decide)) (by show mp_at τ = _; exact ha) rfl _
theorem raw_eq {a b : Nat} (ha : a < 256) (hb : b < 256) : (nI a).toInt8.toInt32 = (nI b).toInt8.toInt32 ↔ nI a = nI b := by
  refine ⟨fun h => ?_, fun h => by rw [h]⟩
  have := congrArg (fun z : Int32 => z &&& 255) h
  simp only [sc_k8 a ha, sc_k8 b hb] at this
  exact this
theorem MT.raw (hT : MT τ t n) {a b : Nat} (ha : a < n) (hb : b < n) : mp_text τ a = mp_text τ b ↔ xx t n a = xx t n b := by
  obtain ⟨x, hx, e1, e2⟩ := hT.2.2 a ha
  obtain ⟨y, hy, e3, e4⟩ := hT.2.2 b hb
  rw [e2, e4, xx_in ha, xx_in hb, e1, e3]
  exact raw_eq hx hy
theorem seg_eq {a b m : Nat} : seg t n a m = seg t n b m ↔ ∀ i, i < m → xx t n (a + i) = xx t n (b + i) := by
  constructor
  · intro h i hi
    have := congrArg (fun l : List Int32 => l[i]?) h
    simp only [seg_get t n m a i hi, seg_get t n m b i hi] at this
    exact Option.some.inj this
  · intro h
    apply List.ext_getElem?
    intro i
    by_cases hi : i < m
    · rw [seg_get t n m a i hi, seg_get t n m b i hi, h i hi]
    · rw [List.getElem?_eq_none (by rw [seg_len]; omega), List.getElem?_eq_none (by rw [seg_len]; omega)]
theorem r_areAlike {a b m : Nat} (hT : MT τ t n) (ha : a + m ≤ n) (hb : b + m ≤ n) {post : Int32 → Prop} (hq : post (b2i (decide (seg t n a m = seg t n b m)))) : w_M_areAlike τ (nI a) (nI b) (nI m) post := by
  have hn := hT.2.1
  have key : ∀ q i, i + q = m → (∀ j, j < i → xx t n (a + j) = xx t n (b + j)) → ∃ f, w_M_areAlike_L6 τ (nI a) (nI b) (nI m) post f 1 (nI i) := by
    intro q
    induction q with
    | zero =>
      intro i hi hs
      refine ⟨1, ?_⟩
      unfold w_M_areAlike_L6
      refine br_t (nI_le (by omega) (by omega)) ⟨nar_1, ?_⟩
      rw [decide_eq_true (seg_eq.mpr (fun j hj => hs j (by omega)))] at hq
      exact hq
    | succ q ih =>
      intro i hi hs
      have hR := hT.raw (a := a + i) (b := b + i) (by omega) (by omega)
      by_cases hc : xx t n (a + i) = xx t n (b + i)
      · obtain ⟨f, hf⟩ := ih (i + 1) (by omega) (fun j hj => by
          by_cases e : j = i
          · rw [e]; exact hc
          · exact hs j (by omega))
        refine ⟨f + 1, ?_⟩
        unfold w_M_areAlike_L6 w_M_areAlike_J43
        rw [nI_add, nI_add]
        refine br_f (nI_ge (by omega) (by omega)) (br_f (by decide) ⟨vp_in_nI (by omega) (by decide), vp_in_nI (by omega) (by decide), ?_⟩)
        rw [nI_clamp (by omega), nI_clamp (by omega), nI_1]
        exact br_t (hR.mpr hc) hf
      · refine ⟨2, ?_⟩
        unfold w_M_areAlike_L6 w_M_areAlike_J43
        rw [nI_add, nI_add]
        refine br_f (nI_ge (by omega) (by omega)) (br_f (by decide) ⟨vp_in_nI (by omega) (by decide), vp_in_nI (by omega) (by decide), ?_⟩)
        rw [nI_clamp (by omega), nI_clamp (by omega)]
        refine br_f (fun z => hc (hR.mp z)) ?_
        rw [decide_eq_false (fun z => hc (seg_eq.mp z i (by omega)))] at hq
        unfold w_M_areAlike_L6
        exact ⟨fun _ => ⟨nar_0, hq⟩, fun _ => br_t rfl ⟨nar_0, hq⟩⟩
  exact key m 0 (Nat.zero_add _) (fun j hj => absurd hj (Nat.not_lt_zero j))
theorem r_behindName {e : Nat} (hT : MT τ t n) (hk : k + 1 ≤ n) (hr : Runs cGn t n (k + 1) e) {post : Int32 → Prop} (hq : post (nI e)) : w_M_behindName τ (nI k) post := by
  have hn := hT.2.1
  have he := hr.le cGn_m hk
  have key : ∀ m j, e - j = m → k + 1 ≤ j → j ≤ e → ∃ f, w_M_behindName_L4 τ post f (nI j) := by
    intro m
    induction m with
    | zero =>
      intro j h hj hje
      have : j = e := by omega
      subst this
      refine ⟨1, ?_⟩
      unfold w_M_behindName_L4
      refine ⟨hT.k (by omega), ?_⟩
      rw [hT.x (by omega), cNs_0]
      exact bl_f hr.2.2 hq
    | succ m ih =>
      intro j h hj hje
      obtain ⟨f, hf⟩ := ih (j + 1) (by omega) (by omega) (by omega)
      refine ⟨f + 1, ?_⟩
      unfold w_M_behindName_L4
      refine ⟨hT.k (by omega), ?_⟩
      rw [hT.x (by omega), cNs_0, nI_1]
      exact bl_t (hr.2.1 j hj (by omega)) hf
  unfold w_M_behindName
  rw [nI_1]
  exact key _ (k + 1) rfl (Nat.le_refl _) hr.1
/-- no attribute begins behind p -/
def NoA (t : Nat → Int32) (n p e : Nat) : Prop := ∃ q, Runs cWh t n p q ∧ (e ≤ q ∨ cBn (xx t n q) = false)
theorem r_white {p e : Nat} (hT : MT τ t n) (hk : k ≤ n) (hr : Runs cWh t n k p) (he : e ≤ 5000) {post : Int32 → MPS → Prop}
    (hq : ((nI e ≤ nI p → post 0 τ) ∧ (¬ nI e ≤ nI p → (mXk τ (nI p) ∧ (((b2i (cNs (mX τ (nI p)) 1)) = 0 → post 0 τ) ∧ (¬ (b2i (cNs (mX τ (nI p)) 1)) = 0 → (∀ σ40 : MPS, σ40 = ms_nameAt τ (nI p) → (∃ n43, w_M_nextAttribute_L43 post n43 (nI p) σ40)))))))) : w_M_nextAttribute τ (nI k) (nI e) post := by
  have hn := hT.2.1
  have hpn := hr.le cWh_m hk
  have key : ∀ m j, p - j = m → k ≤ j → j ≤ p → ∃ f, w_M_nextAttribute_L2 (nI e) post f (nI j) τ := by
    intro m
    induction m with
    | zero =>
      intro j h hj hje
      have : j = p := by omega
      subst this
      refine ⟨1, ?_⟩
      unfold w_M_nextAttribute_L2
      refine ⟨hT.k (by omega), bl_f (by rw [hT.x (by omega)]; exact hr.2.2) hq⟩
    | succ m ih =>
      intro j h hj hje
      obtain ⟨f, hf⟩ := ih (j + 1) (by omega) (by omega) (by omega)
      refine ⟨f + 1, ?_⟩
      unfold w_M_nextAttribute_L2
      refine ⟨hT.k (by omega), bl_t (by rw [hT.x (by omega)]; exact hr.2.1 j hj (by omega)) ?_⟩
      rw [nI_1]; exact hf
  exact key _ k rfl (Nat.le_refl _) hr.1
theorem r_next0 {e : Nat} (hT : MT τ t n) (hk : k ≤ n) (he : e ≤ 5000) (hno : NoA t n k e) {post : Int32 → MPS → Prop} (hq : post 0 τ) : w_M_nextAttribute τ (nI k) (nI e) post := by
  have hn := hT.2.1
  obtain ⟨p, hr, ho⟩ := hno
  have hpn := hr.le cWh_m hk
  refine r_white hT hk hr he ⟨fun _ => hq, fun z => ⟨hT.k (by omega), ?_⟩⟩
  rw [hT.x (by omega), cNs_1]
  rcases ho with ho | ho
  · exact absurd (nI_le ho (by omega)) z
  · exact bl_f ho hq
/-- an attribute stands behind p -/
def AtP (t : Nat → Int32) (n : Nat) (p : Nat) (A : Att) : Prop := (Runs cWh t n p A.na) ∧ (p < A.na) ∧ (Name t n A.na (A.na + A.nl)) ∧ (xx t n (A.na + A.nl) = 61) ∧ (xx t n (A.na + A.nl + 1) = 34) ∧ (Chars t n 34 (A.na + A.nl + 2) A.ve A.cs) ∧ (xx t n A.ve = 34)
theorem AtP.wh {t : Nat → Int32} {n : Nat} {p : Nat} {A : Att} (h : AtP t n p A) : Runs cWh t n p A.na := h.1
theorem AtP.lt {t : Nat → Int32} {n : Nat} {p : Nat} {A : Att} (h : AtP t n p A) : p < A.na := h.2.1
theorem AtP.nm {t : Nat → Int32} {n : Nat} {p : Nat} {A : Att} (h : AtP t n p A) : Name t n A.na (A.na + A.nl) := h.2.2.1
theorem AtP.eq {t : Nat → Int32} {n : Nat} {p : Nat} {A : Att} (h : AtP t n p A) : xx t n (A.na + A.nl) = 61 := h.2.2.2.1
theorem AtP.qu {t : Nat → Int32} {n : Nat} {p : Nat} {A : Att} (h : AtP t n p A) : xx t n (A.na + A.nl + 1) = 34 := h.2.2.2.2.1
theorem AtP.ch {t : Nat → Int32} {n : Nat} {p : Nat} {A : Att} (h : AtP t n p A) : Chars t n 34 (A.na + A.nl + 2) A.ve A.cs := h.2.2.2.2.2.1
theorem AtP.ve {t : Nat → Int32} {n : Nat} {p : Nat} {A : Att} (h : AtP t n p A) : xx t n A.ve = 34 := h.2.2.2.2.2.2
theorem r_next1 {e : Nat} {A : Att} (hT : MT τ t n) (hk : k ≤ n) (he : e ≤ 5000) (hA : AtP t n k A) (hae : A.na < e) (hno : ∀ j, A.na + A.nl + 2 ≤ j → j < A.ve → ¬ xx t n j = 34) {post : Int32 → MPS → Prop}
    (hq : ∀ τ', Df [19, 20, 21, 22] τ τ' → mp_nameAt τ' = nI A.na → mp_nameMany τ' = nI A.nl → mp_valueAt τ' = nI (A.na + A.nl + 2) → mp_valueEnd τ' = nI A.ve → post 1 τ') : w_M_nextAttribute τ (nI k) (nI e) post := by
  have hn := hT.2.1
  have hlen := hA.nm.len
  have hven := xx_lt' hA.ve (by decide)
  have hcl := Chars.le hA.ch
  refine r_white hT hk hA.wh he (br_f (nI_ge hae (by omega)) ⟨hT.k (by omega), ?_⟩)
  rw [hT.x (by omega), cNs_1]
  refine bl_t hA.nm.1 (fa_eq ?_)
  have hT1 : MT (ms_nameAt τ (nI A.na)) t n := hT.df (Df.set (L := [19]) τ (by decide)) (by decide)
  have key2 : ∀ τ1, Df [19, 20, 21, 22] τ τ1 → mp_nameAt τ1 = nI A.na → mp_nameMany τ1 = nI A.nl → mp_valueAt τ1 = nI (A.na + A.nl + 2) → ∀ m j, A.ve - j = m → A.na + A.nl + 2 ≤ j → j ≤ A.ve → ∃ f, w_M_nextAttribute_L79 post f (nI j) τ1 := by
    intro τ1 d f1 f2 f3 m
    have hT2 := hT.df d (by decide)
    induction m with
    | zero =>
      intro j h hj hje
      have : j = A.ve := by omega
      subst this
      refine ⟨1, ?_⟩
      unfold w_M_nextAttribute_L79
      refine ⟨hT2.k (by omega), ?_⟩
      rw [hT2.x (by omega)]
      refine br_t hA.ve (fa_eq (hq _ (d.trans (Df.set τ1 (by decide))) f1 f2 f3 rfl))
    | succ m ih =>
      intro j h hj hje
      obtain ⟨f, hf⟩ := ih (j + 1) (by omega) (by omega) (by omega)
      refine ⟨f + 1, ?_⟩
      unfold w_M_nextAttribute_L79
      refine ⟨hT2.k (by omega), ?_⟩
      rw [hT2.x (by omega), nI_1]
      exact br_f (hno j hj (by omega)) hf
  have key1 : ∀ m j, (A.na + A.nl) - j = m → A.na ≤ j → j ≤ A.na + A.nl → ∃ f, w_M_nextAttribute_L43 post f (nI j) (ms_nameAt τ (nI A.na)) := by
    intro m
    induction m with
    | zero =>
      intro j h hj hje
      have : j = A.na + A.nl := by omega
      subst this
      refine ⟨1, ?_⟩
      unfold w_M_nextAttribute_L43
      refine ⟨hT1.k (by omega), ?_⟩
      rw [hT1.x (by omega), cNs_0, show mp_nameAt (ms_nameAt τ (nI A.na)) = nI A.na from rfl, pk_sub (by omega), show A.na + A.nl - A.na = A.nl from by omega, show nI (A.na + A.nl) + 2 = nI (A.na + A.nl + 2) from nI_add _ 2]
      refine bl_f hA.nm.2.1.2.2 (fa_eq (fa_eq ?_))
      refine key2 _ ?_ rfl rfl rfl _ (A.na + A.nl + 2) rfl (Nat.le_refl _) (by omega)
      exact ((Df.set (L := [19, 20, 21, 22]) τ (by decide)).trans (Df.set _ (by decide))).trans (Df.set _ (by decide))
    | succ m ih =>
      intro j h hj hje
      obtain ⟨f, hf⟩ := ih (j + 1) (by omega) (by omega) (by omega)
      refine ⟨f + 1, ?_⟩
      unfold w_M_nextAttribute_L43
      refine ⟨hT1.k (by omega), ?_⟩
      rw [hT1.x (by omega), cNs_0, nI_1]
      exact bl_t (hA.nm.2.1.2.1 j hj (by omega)) hf
  exact key1 _ A.na rfl (Nat.le_refl _) (by omega)
end MN
