/-! PURE: the reference reads a character or a reference as chf says. -/
section MO2
variable {t : Nat → Int32} {n k : Nat} {τ : MPS}
/-- a byte of a word -/
def wb (word : Int64) (m i : Nat) : Int32 := ((word >>> ((8 * ((nI m - 1) - nI i)).toInt64 &&& 63)) &&& 255).toInt32
theorem r_says {word : Int64} {m : Nat} (hT : MT τ t n) (hk : k ≤ 5000) (hm : m ≤ 8) {post : Int32 → Prop} (hq : post (b2i (decide (∀ i, i < m → xx t n (k + i) = wb word m i)))) : w_M_says τ (nI k) word (nI m) post := by
  have key : ∀ q i, i + q = m → (∀ j, j < i → xx t n (k + j) = wb word m j) → ∃ f, w_M_says_L6 τ (nI k) word (nI m) post f 1 (nI i) := by
    intro q
    induction q with
    | zero =>
      intro i hi ha
      refine ⟨1, ?_⟩
      unfold w_M_says_L6
      refine br_t (nI_le (by omega) (by omega)) ⟨nar_1, ?_⟩
      rw [decide_eq_true (fun j hj => ha j (by omega))] at hq
      exact hq
    | succ q ih =>
      intro i hi ha
      have ex : mX τ (nI k + nI i) = xx t n (k + i) := by rw [nI_add]; exact hT.x (by omega)
      have ek : mXk τ (nI k + nI i) := by rw [nI_add]; exact hT.k (by omega)
      by_cases hc : xx t n (k + i) = wb word m i
      · obtain ⟨f, hf⟩ := ih (i + 1) (by omega) (fun j hj => by
          by_cases e : j = i
          · rw [e]; exact hc
          · exact ha j (by omega))
        refine ⟨f + 1, ?_⟩
        unfold w_M_says_L6 w_M_says_J51
        refine br_f (nI_ge (by omega) (by omega)) (br_f (by decide) ⟨ek, ?_⟩)
        rw [ex, nI_1]
        exact br_t hc hf
      · refine ⟨2, ?_⟩
        unfold w_M_says_L6 w_M_says_J51
        refine br_f (nI_ge (by omega) (by omega)) (br_f (by decide) ⟨ek, ?_⟩)
        rw [ex]
        refine br_f hc ?_
        rw [decide_eq_false (fun z => hc (z i (by omega)))] at hq
        unfold w_M_says_L6
        exact ⟨fun _ => ⟨nar_0, hq⟩, fun _ => br_t rfl ⟨nar_0, hq⟩⟩
  exact key m 0 (Nat.zero_add _) (fun j hj => absurd hj (Nat.not_lt_zero j))
/-- a word that is a text of the other's -/
def wEq (word : Int64) (m x : Nat) : Prop := tLn.getD x 0 = m ∧ ∀ i, i < m → tCh x (nI i) = wb word m i
theorem r_says' {word : Int64} {m x : Nat} (hT : MT τ t n) (hk : k ≤ 5000) (hm : m ≤ 8) (hw : wEq word m x) {post : Int32 → Prop} (hq : post (b2i (stAt t n k x))) : w_M_says τ (nI k) word (nI m) post := by
  refine r_says hT hk hm ?_
  have : stAt t n k x = decide (∀ i, i < m → xx t n (k + i) = wb word m i) := by
    unfold stAt
    rw [decide_eq_decide, hw.1]
    exact ⟨fun h i hi => (h i hi).trans (hw.2 i hi), fun h i hi => (h i hi).trans (hw.2 i hi).symm⟩
  rw [← this]; exact hq
theorem we2 : wEq 164843319355 5 2 := by unfold wEq; decide +kernel
theorem we3 : wEq 644641851 4 3 := by unfold wEq; decide +kernel
theorem we4 : wEq 644314171 4 4 := by unfold wEq; decide +kernel
theorem we5 : wEq 42268743398459 6 5 := by unfold wEq; decide +kernel
theorem we6 : wEq 42199940035387 6 6 := by unfold wEq; decide +kernel
theorem r_semi {c : Int32} {e : Nat} (hT : MT τ t n) (hx : xx t n e = 59) (he : e ≤ 5000) (hke : k ≤ e) {post : Int32 → MPS → Prop} (hq : post c (ms_width τ (nI (e + 1 - k)))) : ∀ m j, j + m = e → (∀ i, j ≤ i → i < e → ¬ xx t n i = 59) → ∃ f, w_M_characterOf_L138 (nI k) c post f (nI j) τ := by
  intro m
  induction m with
  | zero =>
    intro j hj hno
    have hje : j = e := by omega
    subst hje
    refine ⟨1, ?_⟩
    unfold w_M_characterOf_L138
    refine ⟨hT.k (by omega), ?_⟩
    rw [hT.x (by omega), nI_1, pk_sub (by omega)]
    exact br_t hx (fa_eq hq)
  | succ m ih =>
    intro j hj hno
    obtain ⟨f, hf⟩ := ih (j + 1) (by omega) (fun i h1 h2 => hno i (by omega) h2)
    refine ⟨f + 1, ?_⟩
    unfold w_M_characterOf_L138
    refine ⟨hT.k (by omega), ?_⟩
    rw [hT.x (by omega), nI_1]
    exact br_f (hno j (Nat.le_refl j) (by omega)) hf
theorem r_named {c : Int32} {x m : Nat} (hT : MT τ t n) (hk : k < n) (hs : stAt t n k x = true) (hx : tLn.getD x 0 = m + 2) (hm : m ≤ 4) (hc : ¬ c < 0) (ht : (∀ i, i < m + 1 → ¬ tCh x (nI i) = 59) ∧ tCh x (nI (m + 1)) = 59) {post : Int32 → MPS → Prop} (hq : ∀ τ', Df [12] τ τ' → mp_width τ' = nI (m + 2) → post c τ') : w_M_characterOf_J129 post (nI k) c τ := by
  have hn := hT.2.1
  have hs := of_decide_eq_true hs
  unfold w_M_characterOf_J129
  refine br_f hc ?_
  rw [nI_1]
  refine r_semi (e := k + (m + 1)) hT (by rw [hs (m + 1) (by omega)]; exact ht.2) (by omega) (by omega) ?_ m (k + 1) (by omega) (fun i h1 h2 => ?_)
  · refine hq _ (Df.set τ (by decide)) ?_
    show nI (k + (m + 1) + 1 - k) = _
    congr 1; omega
  · have := hs (i - k) (by omega)
    rw [show k + (i - k) = i from by omega] at this
    rw [this]; exact ht.1 (i - k) (by omega)
theorem cOk_ref (c : Int32) {post : Int32 → MPS → Prop} (h1 : cOk c = true → post c τ) (h0 : cOk c = false → post (-1) τ) :
    ((c = 0 → w_M_characterOf_J373 post τ) ∧ (¬ c = 0 → ((1114111 < c → w_M_characterOf_J373 post τ) ∧ (¬ 1114111 < c → ((c < 55296 → w_M_characterOf_J365 post c τ) ∧ (¬ c < 55296 → ((c ≤ 57343 → w_M_characterOf_J373 post τ) ∧ (¬ c ≤ 57343 → w_M_characterOf_J365 post c τ)))))))) := by
  unfold w_M_characterOf_J373 w_M_characterOf_J365 w_M_characterOf_J373
  have cc : ∀ b, cCh c = b → cOk c = (b && !cFb c) := fun b h => by unfold cOk; rw [h]
  refine ⟨fun z => h0 (by rw [z]; decide +kernel), fun z => ⟨fun a => h0 ?_, fun a => ⟨fun b => ?_, fun b => ⟨fun d => h0 ?_, fun d => ?_⟩⟩⟩⟩
  · rw [cc false (by unfold cCh; simp [i_nle.mpr a])]; rfl
  · by_cases hp : c < 0
    · have hf : cFb c = true := by
        unfold cFb cWh
        have e1 : c < 32 := Int32.lt_trans hp (by decide)
        have n1 : ¬ c = 9 := fun z => by rw [z] at hp; revert hp; decide
        have n2 : ¬ c = 10 := fun z => by rw [z] at hp; revert hp; decide
        have n3 : ¬ c = 13 := fun z => by rw [z] at hp; revert hp; decide
        have n4 : ¬ c = 32 := fun z => by rw [z] at hp; revert hp; decide
        simp [e1, n1, n2, n3, n4]
      have hk : cOk c = false := by unfold cOk; rw [hf]; simp
      exact bl_t hf (h0 hk)
    · have hc : cCh c = true := by unfold cCh; simp [i_nlt.mp hp, i_nlt.mp a, b]
      cases hf : cFb c with
      | false => exact bl_f rfl (h1 (by rw [cc true hc, hf]; rfl))
      | true => exact bl_t rfl (h0 (by rw [cc true hc, hf]; rfl))
  · rw [cc false (by unfold cCh; simp [b, i_nlt.mpr d])]; rfl
  · have hp : 0 ≤ c := Int32.le_trans (by decide) (i_nlt.mp b)
    have hc : cCh c = true := by unfold cCh; simp [hp, i_nlt.mp a, i_nle.mp d]
    cases hf : cFb c with
    | false => exact bl_f rfl (h1 (by rw [cc true hc, hf]; rfl))
    | true => exact bl_t rfl (h0 (by rw [cc true hc, hf]; rfl))
theorem cDv0 (x : Int32) : (cDg x = false → cDv x 0 = -1) ∧ (cDg x = true → ¬ cDv x 0 = -1 ∧ cDv x 0 = cHx x) := by
  unfold cDv cHx
  refine ⟨fun h => by simp [h], fun h => ?_⟩
  rw [h]
  refine ⟨?_, rfl⟩
  unfold cDg at h
  simp only [Bool.and_eq_true, decide_eq_true_eq] at h
  intro z
  have z : x - 48 = -1 := z
  have e : x = 47 := by
    have := congrArg (fun y : Int32 => y + 48) z
    simp only [Int32.sub_add_cancel] at this
    exact this
  rw [e] at h
  revert h; decide
theorem cDv_dig : ∀ b, b < 256 → (cDv (nI b) 1 = -1 ↔ cHx (nI b) < 0) ∧ (¬ cDv (nI b) 1 = -1 → cDv (nI b) 1 = cHx (nI b)) ∧ (¬ cDv (nI b) 1 = -1 → ¬ nI b = 59) ∧ (¬ cDv (nI b) 0 = -1 → ¬ nI b = 59) := by decide +kernel
theorem cDv_m1 : cDv (-1) 1 = -1 ∧ cHx (-1) < 0 ∧ cDv (-1) 0 = -1 := by decide +kernel
/-- the hexadecimal digits of both -/
theorem dig1 (hb : Byt t n) (p : Nat) : (cDv (xx t n p) 1 = -1 ↔ cHx (xx t n p) < 0) ∧ (¬ cDv (xx t n p) 1 = -1 → cDv (xx t n p) 1 = cHx (xx t n p)) ∧ (¬ cDv (xx t n p) 1 = -1 → ¬ xx t n p = 59) ∧ (¬ cDv (xx t n p) 0 = -1 → ¬ xx t n p = 59) := by
  by_cases h : p < n
  · obtain ⟨b, hb, e⟩ := hb.xx h
    rw [e]; exact cDv_dig b hb
  · rw [xx_out (by omega)]
    exact ⟨⟨fun _ => cDv_m1.2.1, fun _ => cDv_m1.1⟩, fun z => absurd cDv_m1.1 z, fun z => absurd cDv_m1.1 z, fun z => absurd cDv_m1.2.2 z⟩
/-- behind the digits -/
theorem r_J298 {hex : Int32} {first d p : Nat} {c : Int32} (hT : MT τ t n) (hp : p = first + d) (hpl : p ≤ 5000) (hd : d ≤ 7) (hkf : k ≤ first) (hh : hex = 0 ∨ hex = 1) {post : Int32 → MPS → Prop}
    (h1 : 0 < d ∧ xx t n p = 59 ∧ (hex = 1 → d ≤ 6) → cOk c = true → ∀ τ', Df [12] τ τ' → mp_width τ' = nI (p + 1 - k) → post c τ') (h0 : ¬ (0 < d ∧ xx t n p = 59 ∧ (hex = 1 → d ≤ 6)) ∨ cOk c = false → ∀ τ', Df [12] τ τ' → post (-1) τ') : w_M_characterOf_J298 post (nI k) (nI p) hex (nI first) c τ := by
  have J : (0 < d ∧ (hex = 1 → d ≤ 6)) → w_M_characterOf_J318 post (nI k) (nI p) c τ := fun hd2 => by
    unfold w_M_characterOf_J318
    refine ⟨hT.k (by omega), ?_⟩
    rw [hT.x (by omega), nI_1, pk_sub (by omega)]
    refine ⟨fun hx => fa_eq (cOk_ref c (fun hc => ?_) (fun hc => ?_)), fun hx => ?_⟩
    · exact h1 ⟨hd2.1, hx, hd2.2⟩ hc _ (Df.set τ (by decide)) rfl
    · exact h0 (Or.inr hc) _ (Df.set τ (by decide))
    · exact h0 (Or.inl (fun z => hx z.2.1)) τ (Df.refl τ)
  unfold w_M_characterOf_J298
  refine ⟨fun z => ?_, fun z => ?_⟩
  · have := (nI_eq (by omega) (by omega)).mp z
    exact h0 (Or.inl (fun y => by omega)) τ (Df.refl τ)
  · have hdp : 0 < d := by
      by_cases h : d = 0
      · subst h; exact absurd (by rw [hp]; rfl) z
      · omega
    rcases hh with hh | hh
    · exact br_t hh (J ⟨hdp, fun y => by rw [hh] at y; cases y⟩)
    · refine br_f (by rw [hh]; decide) ?_
      rw [pk_sub (by omega), show p - first = d from by omega]
      exact pk_lt 6 d (fun a => h0 (Or.inl (fun y => by have := y.2.2 hh; omega)) τ (Df.refl τ)) (fun a => J ⟨hdp, fun _ => a⟩) rfl rfl (by decide) (by omega)
end MO2
