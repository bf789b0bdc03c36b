/-! PURE: how the class scans its tape. -/
/-- the class's tape -/
def Tp (σ : PPS) (t : Nat → Int32) (n : Nat) : Prop := pTp σ = (nI n, t) ∧ n ≤ 4000
theorem Tp.get {σ : PPS} {t : Nat → Int32} {n : Nat} (h : Tp σ t n) {k : Nat} (hk : k < 2 ^ 31) : sGet (pTp σ) (nI k) = xx t n k := by
  have := h.2
  rw [h.1]; exact sG (σ := (nI n, t)) rfl (by omega) hk
theorem Tp.sz {σ : PPS} {t : Nat → Int32} {n : Nat} (h : Tp σ t n) : (pTp σ).1 = nI n := by rw [h.1]
/-- a strip holds a row -/
def Str (s : StS) (l : List Int32) : Prop := s.1 = nI l.length ∧ ∀ i, i < l.length → l[i]? = some (s.2 i)
theorem Str.add {N : Nat} (hN : N < 2 ^ 31) {s : StS} {l : List Int32} (h : Str s l) (hl : l.length < N) (c : Int32) : Str (sAdd N s c) (l ++ [c]) := by
  unfold sAdd
  rw [if_neg (by rw [h.1]; exact nI_ge hl hN), h.1, nI_clamp (by omega)]
  refine ⟨by show nI l.length + 1 = _; rw [nI_1]; simp, fun i hi => ?_⟩
  simp only [List.length_append, List.length_cons, List.length_nil] at hi
  by_cases e : i = l.length
  · subst e; simp [upd]
  · rw [List.getElem?_append_left (by omega), h.2 i (by omega)]
    simp [upd, e]
theorem Str.get {s : StS} {l : List Int32} (h : Str s l) (hl : l.length < 2 ^ 31) {k : Nat} (hk : k < 2 ^ 31) : sGet s (nI k) = (l[k]?).getD (-1) := by
  rw [sG h.1 hl hk]
  by_cases a : k < l.length
  · rw [xx_in a, h.2 k a]; rfl
  · rw [xx_out (by omega), List.getElem?_eq_none (by omega)]; rfl
theorem Str.clr (s : StS) : Str (sClr s) [] := ⟨rfl, fun i hi => absurd hi (Nat.not_lt_zero i)⟩
/-- the bytes of a piece -/
def seg (t : Nat → Int32) (n : Nat) : Nat → Nat → List Int32
  | _, 0 => []
  | k, m + 1 => xx t n k :: seg t n (k + 1) m
theorem seg_len (t : Nat → Int32) (n : Nat) : ∀ m k, (seg t n k m).length = m
  | 0, _ => rfl
  | m + 1, k => by show (seg t n (k + 1) m).length + 1 = m + 1; rw [seg_len]
theorem seg_get (t : Nat → Int32) (n : Nat) : ∀ m k i, i < m → (seg t n k m)[i]? = some (xx t n (k + i))
  | 0, _, _, h => absurd h (Nat.not_lt_zero _)
  | m + 1, k, 0, _ => rfl
  | m + 1, k, i + 1, h => by
    show (seg t n (k + 1) m)[i]? = _
    rw [seg_get t n m (k + 1) i (by omega), show k + 1 + i = k + (i + 1) from by omega]
theorem sPs_self {σ : PPS} {v : Int32} (h : pPs σ = v) : sPs σ v = σ := by subst h; rfl
section SC
variable {σ : PPS} {t : Nat → Int32} {n k : Nat}
theorem Tp.ps (h : Tp σ t n) (v : Int32) : Tp (sPs σ v) t n := h
theorem k_skipWhite {e : Nat} (hT : Tp σ t n) (hp : pPs σ = nI k) (hk : k ≤ n) (hr : Runs cWh t n k e) {post : PPS → Prop} (hq : post (sPs σ (nI e))) : w_Reader_skipWhite σ post := by
  have hn := hT.2
  have he := hr.le cWh_m hk
  have key : ∀ m k, e - k = m → k ≤ n → Runs cWh t n k e → ∃ f, w_Reader_skipWhite_L0 post f (sPs σ (nI k)) := by
    intro m
    induction m with
    | zero =>
      intro k h hk hr
      have hke : k = e := by have := hr.1; omega
      subst hke
      refine ⟨1, ?_⟩
      unfold w_Reader_skipWhite_L0
      refine ⟨fun _ => hq, fun _ => bl_f ?_ hq⟩
      show cWh (sGet (pTp σ) (nI k)) = false
      rw [hT.get (by omega)]; exact hr.2.2
    | succ m ih =>
      intro k h hk hr
      have hw : cWh (xx t n k) = true := hr.2.1 k (Nat.le_refl k) (by omega)
      have hkn := q_lt cWh_m hw
      obtain ⟨f, hf⟩ := ih (k + 1) (by omega) (by omega) ⟨by have := hr.1; omega, fun j a b => hr.2.1 j (by omega) b, hr.2.2⟩
      refine ⟨f + 1, ?_⟩
      unfold w_Reader_skipWhite_L0
      refine br_f ?_ (bl_t ?_ (fa_eq ?_))
      · show ¬ (pTp σ).1 ≤ nI k
        rw [hT.sz]; exact nI_ge hkn (by omega)
      · show cWh (sGet (pTp σ) (nI k)) = true
        rw [hT.get (by omega)]; exact hw
      · show w_Reader_skipWhite_L0 post f (sPs σ (nI k + 1))
        rw [nI_1]; exact hf
  obtain ⟨f, hf⟩ := key _ k rfl hk hr
  rw [sPs_self hp] at hf
  exact ⟨f, hf⟩
theorem k_refuse {v : Int32} {post : Int32 → PPS → Prop} (hq : post 0 (sWr σ v)) : w_Reader_refuse σ v post := fa_eq hq
theorem nar_0 : narrow .boolean (.int 0) = .int 0 := rfl
theorem nar_1 : narrow .boolean (.int 1) = .int 1 := rfl
theorem k_passName (hT : Tp σ t n) (hp : pPs σ = nI k) (hk : k ≤ n) {post : Int32 → PPS → Prop} (h0 : cBn (xx t n k) = false → post 0 (sWr σ (nI k)))
    (h1 : ∀ e, cBn (xx t n k) = true → Runs cGn t n k e → e - k ≤ 30 → post 1 (sPs σ (nI e))) (h2 : ∀ e, cBn (xx t n k) = true → Runs cGn t n k e → 30 < e - k → post 0 (sWr (sPs σ (nI e)) (nI (k + 30)))) : w_Reader_passName σ post := by
  have hn := hT.2
  have hg : sGet (pTp σ) (pPs σ) = xx t n k := by rw [hp]; exact hT.get (by omega)
  unfold w_Reader_passName
  rw [hg]
  by_cases hb : cBn (xx t n k) = true
  · refine bl_t hb ?_
    obtain ⟨e, hr⟩ := Runs.ex cGn_m t n k
    have he := hr.le cGn_m hk
    have hJ : w_Reader_passName_J75 post (nI k) (sPs σ (nI e)) := by
      unfold w_Reader_passName_J75
      have hke := hr.1
      have e1 : pPs (sPs σ (nI e)) - nI k = nI (e - k) := pk_sub (a := e) (b := k) hr.1
      rw [e1]
      refine pk_le (e - k) 30 (fun h => h1 e hb hr h) (fun h => k_refuse (br_t rfl ?_)) rfl rfl (by omega) (by omega)
      rw [show nI k + 30 = nI (k + 30) from nI_add k 30]
      exact h2 e hb hr h
    have key : ∀ m k', e - k' = m → k ≤ k' → k' ≤ e → ∃ f, w_Reader_passName_L31 (nI k) post f (sPs σ (nI k')) := by
      intro m
      induction m with
      | zero =>
        intro k' h hk' hke
        have hke : k' = e := by omega
        subst hke
        refine ⟨1, ?_⟩
        unfold w_Reader_passName_L31
        refine ⟨fun _ => hJ, fun _ => bl_f ?_ hJ⟩
        show cGn (sGet (pTp σ) (nI k')) = false
        rw [hT.get (by omega)]; exact hr.2.2
      | succ m ih =>
        intro k' h hk' hke
        have hw : cGn (xx t n k') = true := hr.2.1 k' hk' (by omega)
        have hkn := q_lt cGn_m hw
        obtain ⟨f, hf⟩ := ih (k' + 1) (by omega) (by omega) (by omega)
        refine ⟨f + 1, ?_⟩
        unfold w_Reader_passName_L31
        refine br_f ?_ (bl_t ?_ (fa_eq ?_))
        · show ¬ (pTp σ).1 ≤ nI k'
          rw [hT.sz]; exact nI_ge hkn (by omega)
        · show cGn (sGet (pTp σ) (nI k')) = true
          rw [hT.get (by omega)]; exact hw
        · show w_Reader_passName_L31 (nI k) post f (sPs σ (nI k' + 1))
          rw [nI_1]; exact hf
    obtain ⟨f, hf⟩ := key _ k rfl (Nat.le_refl k) hr.1
    rw [sPs_self hp] at hf
    rw [hp]
    exact ⟨f, hf⟩
  · refine bl_f (Bool.eq_false_iff.mpr hb) (k_refuse ⟨nar_0, ?_⟩)
    rw [hp]
    exact h0 (Bool.eq_false_iff.mpr hb)
theorem k_take {v : Int32} (hT : Tp σ t n) (hp : pPs σ = nI k) (hk : k ≤ n) {post : Int32 → PPS → Prop} (h1 : xx t n k = v → post 1 (sPs σ (nI (k + 1)))) (h0 : ¬ xx t n k = v → post 0 (sWr σ (nI k))) : w_Reader_take σ v post := by
  have hn := hT.2
  have hg : sGet (pTp σ) (pPs σ) = xx t n k := by rw [hp]; exact hT.get (by omega)
  unfold w_Reader_take
  rw [hg, hp, nI_1]
  exact ⟨fun h => fa_eq (h1 h), fun h => k_refuse ⟨nar_0, h0 h⟩⟩
theorem k_keepLetters {m : Nat} {ls : List Int32} (hT : Tp σ t n) (hp : pPs σ = nI (k + m)) (hk : k + m ≤ n) (hs : Str (pLe σ) ls) (hl : ls.length + m ≤ 4000) {post : PPS → Prop} (hq : ∀ le', Str le' (ls ++ seg t n k m) → post (sLe σ le')) : w_Reader_keepLetters σ (nI k) post := by
  have hn := hT.2
  have key : ∀ m k ls (σ : PPS), Tp σ t n → pPs σ = nI (k + m) → k + m ≤ n → Str (pLe σ) ls → ls.length + m ≤ 4000 → (∀ le', Str le' (ls ++ seg t n k m) → post (sLe σ le')) → ∃ f, w_Reader_keepLetters_L2 post f (nI k) σ := by
    intro m
    induction m with
    | zero =>
      intro k ls σ hT hp hk hs hl hq
      refine ⟨1, ?_⟩
      unfold w_Reader_keepLetters_L2
      refine br_t ?_ ?_
      · rw [hp]; exact nI_le (by omega) (by omega)
      · have := hq (pLe σ) (by rw [show seg t n k 0 = [] from rfl, List.append_nil]; exact hs)
        exact this
    | succ m ih =>
      intro k ls σ hT hp hk hs hl hq
      obtain ⟨f, hf⟩ := ih (k + 1) (ls ++ [xx t n k]) (sLe σ (sAdd 4000 (pLe σ) (xx t n k))) hT (by show pPs σ = _; rw [hp]; congr 1; omega) (by omega) (hs.add (by decide) (by omega) _) (by simp; omega)
        (fun le' h => by
          have := hq le' (by rw [List.append_assoc] at h; exact h)
          exact this)
      refine ⟨f + 1, ?_⟩
      unfold w_Reader_keepLetters_L2
      refine br_f ?_ (fa_eq ?_)
      · rw [hp]; exact nI_ge (by omega) (by omega)
      · rw [hT.get (by omega), nI_1]; exact hf
  obtain ⟨f, hf⟩ := key m k ls σ hT hp hk hs hl hq
  exact ⟨f, hf⟩
end SC
