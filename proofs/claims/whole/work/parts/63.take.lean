/-! PURE: characters end behind their begin, within the text; the class's takeCharacters. -/
section TK
variable {t : Nat → Int32} {n k : Nat}
theorem u8r_some : ∀ m p c c', u8r t n m p c = some c' → m = 0 ∨ p + m ≤ n
  | 0, _, _, _, _ => Or.inl rfl
  | m + 1, p, c, c', h => by
    right
    unfold u8r at h
    by_cases hc : (xx t n p &&& 192) = 128
    · rw [if_pos hc] at h
      have hp : p < n := xx_lt (fun z => by rw [z] at hc; revert hc; decide)
      rcases u8r_some m (p + 1) _ _ h with a | a <;> omega
    · rw [if_neg hc] at h; cases h
theorem cOk_pos {c : Int32} (h : cOk c = true) : ¬ c < 0 ∧ ¬ c = -1 := by
  have h1 : cCh c = true := by
    unfold cOk at h; cases hc : cCh c
    · rw [hc] at h; cases h
    · rfl
  have h2 : 0 ≤ c := by
    unfold cCh at h1
    simp only [Bool.and_eq_true, decide_eq_true_eq] at h1
    exact h1.1.1
  exact ⟨i_nlt.mpr h2, fun z => by rw [z] at h2; revert h2; decide⟩
theorem u8_end (hc : cOk (u8 t n k) = true) : k + cByN (u8 t n k) ≤ n := by
  have hm := (cOk_pos hc).2
  unfold u8 at hc hm ⊢
  by_cases h1 : 128 ≤ xx t n k
  · rw [if_pos h1] at hc hm ⊢
    by_cases h2 : xx t n k < 192
    · rw [if_pos h2] at hm; exact absurd rfl hm
    rw [if_neg h2] at hc hm ⊢
    by_cases h3 : xx t n k < 248
    · rw [if_pos h3] at hc hm ⊢
      have hw : 2 ≤ u8w (xx t n k) ∧ u8w (xx t n k) ≤ 4 := by
        unfold u8w
        split
        · split <;> decide
        · decide
      cases hr : u8r t n (u8w (xx t n k) - 1) (k + 1) (xx t n k &&& (127 >>> (nI (u8w (xx t n k)) &&& 31))) with
      | none => rw [hr] at hm; exact absurd rfl hm
      | some c =>
        rw [hr] at hc hm
        unfold u8f at hc hm ⊢
        simp only at hc hm ⊢
        by_cases hb : cCh c = true ∧ cBy c = nI (u8w (xx t n k))
        · rw [if_pos hb] at hc hm ⊢
          have e : cByN c = u8w (xx t n k) := by
            have := hb.2
            rw [cBy_N] at this
            have h4 := cByN_le c
            exact (nI_eq (by omega) (by omega)).mp this
          rw [e]
          rcases u8r_some _ _ _ _ hr with a | a <;> omega
        · rw [if_neg hb] at hm; exact absurd rfl hm
    · rw [if_neg h3] at hm; exact absurd rfl hm
  · rw [if_neg h1] at hc hm ⊢
    have : k < n := xx_lt hm
    unfold cByN
    rw [if_pos (i_nle.mp h1)]; omega
theorem num_some {hex : Int32} : ∀ f d p c c' p', num t n hex f d p c = some (c', p') → p < p' ∧ p' ≤ n
  | 0, _, _, _, _, _, h => by unfold num at h; cases h
  | f + 1, d, p, c, c', p', h => by
    unfold num at h
    by_cases hc : cDv (xx t n p) hex = -1
    · rw [if_pos hc] at h
      by_cases h2 : 0 < d ∧ xx t n p = 59
      · rw [if_pos h2] at h
        cases h
        have : p < n := xx_lt (fun z => by have h3 := h2.2; rw [z] at h3; revert h3; decide)
        omega
      · rw [if_neg h2] at h; cases h
    · rw [if_neg hc] at h
      have := num_some f _ _ _ _ _ h
      omega
theorem stAt_end {x m : Nat} (h : stAt t n k x = true) (hm : tLn.getD x 0 = m + 1) (hc : ¬ tCh x (nI m) = -1) : k + m + 1 ≤ n := by
  have := of_decide_eq_true h m (by omega)
  have : k + m < n := xx_lt (by rw [this]; exact hc)
  omega
theorem chf_some {c : Int32} {e : Nat} (h : chf t n k = some (c, e)) : k < e ∧ e ≤ n ∧ cOk c = true := by
  unfold chf at h
  by_cases h1 : xx t n k = 38
  · rw [if_pos h1] at h
    by_cases h2 : xx t n (k + 1) = 35
    · rw [if_pos h2] at h
      unfold chN at h
      split at h
      · rename_i c1 p1 hn
        by_cases h3 : cOk c1 = true
        · rw [if_pos h3] at h
          cases h
          have := num_some _ _ _ _ _ _ hn
          exact ⟨by omega, this.2, h3⟩
        · rw [if_neg h3] at h; cases h
      · cases h
    · rw [if_neg h2] at h
      unfold chA at h
      by_cases a : stAt t n k 2 = true
      · rw [if_pos a] at h; cases h
        have := stAt_end (m := 4) a (by decide) (by decide +kernel)
        exact ⟨by omega, by omega, by decide +kernel⟩
      rw [if_neg a] at h
      by_cases a : stAt t n k 3 = true
      · rw [if_pos a] at h; cases h
        have := stAt_end (m := 3) a (by decide) (by decide +kernel)
        exact ⟨by omega, by omega, by decide +kernel⟩
      rw [if_neg a] at h
      by_cases a : stAt t n k 4 = true
      · rw [if_pos a] at h; cases h
        have := stAt_end (m := 3) a (by decide) (by decide +kernel)
        exact ⟨by omega, by omega, by decide +kernel⟩
      rw [if_neg a] at h
      by_cases a : stAt t n k 5 = true
      · rw [if_pos a] at h; cases h
        have := stAt_end (m := 5) a (by decide) (by decide +kernel)
        exact ⟨by omega, by omega, by decide +kernel⟩
      rw [if_neg a] at h
      by_cases a : stAt t n k 6 = true
      · rw [if_pos a] at h; cases h
        have := stAt_end (m := 5) a (by decide) (by decide +kernel)
        exact ⟨by omega, by omega, by decide +kernel⟩
      rw [if_neg a] at h; cases h
  · rw [if_neg h1] at h
    by_cases h3 : cOk (u8 t n k) = true
    · rw [if_pos h3] at h
      cases h
      have := cByN_le (u8 t n k)
      exact ⟨by omega, u8_end h3, h3⟩
    · rw [if_neg h3] at h; cases h
theorem Chars.le {s : Int32} : ∀ {L : List Int32} {k e : Nat}, Chars t n s k e L → k ≤ e ∧ k + L.length ≤ e ∧ (k ≤ n → e ≤ n)
  | [], k, e, h => by have h : k = e := h; subst h; exact ⟨Nat.le_refl k, Nat.le_refl k, fun h => h⟩
  | c :: L, k, e, h => by
    obtain ⟨_, _, _, k', d, hr⟩ := h
    have := chf_some d
    have ih := Chars.le hr
    simp only [List.length_cons]
    exact ⟨by omega, by omega, fun _ => ih.2.2 (by omega)⟩
theorem Chars.ok {s : Int32} : ∀ {L : List Int32} {k e : Nat}, Chars t n s k e L → ∀ c ∈ L, cOk c = true
  | [], k, e, h => fun c hc => by cases hc
  | c :: L, k, e, h => fun c' hc => by
    obtain ⟨_, _, _, k', d, hr⟩ := h
    rcases List.mem_cons.mp hc with e | e
    · rw [e]; exact (chf_some d).2.2
    · exact Chars.ok hr c' e
theorem Chars.snoc {s c : Int32} {e e' : Nat} : ∀ {L : List Int32} {k : Nat}, Chars t n s k e L → ¬ xx t n e = s → ¬ xx t n e = 60 → ¬ xx t n e = -1 → chf t n e = some (c, e') → Chars t n s k e' (L ++ [c])
  | [], k, h, a, b, d, f => by have h : k = e := h; subst h; exact ⟨a, b, d, e', f, rfl⟩
  | x :: L, k, h, a, b, d, f => by
    obtain ⟨h1, h2, h3, k', h4, h5⟩ := h
    exact ⟨h1, h2, h3, k', h4, Chars.snoc h5 a b d f⟩
end TK
section TC
variable {σ : PPS} {t : Nat → Int32} {n k : Nat}
theorem k_J101 {s : Int32} {K : Int32 → PPS → Prop} {post : Int32 → PPS → Prop} {v2 v4 r : Int32} (h1 : cOk r = true → K (v2 + (-1)) (sLe σ (sAdd 4000 (pLe σ) r))) (h0 : cOk r = false → post 0 (sWr σ v4)) : w_Reader_takeCharacters_J101 s K post v2 v4 r σ := by
  unfold w_Reader_takeCharacters_J101 w_Reader_takeCharacters_J117
  unfold cOk at h1 h0
  cases hc : cCh r with
  | false =>
    rw [hc] at h0
    exact bl_f rfl (k_refuse ⟨nar_0, h0 rfl⟩)
  | true =>
    rw [hc] at h1 h0
    refine bl_t rfl ?_
    cases hf : cFb r with
    | false => rw [hf] at h1; exact bl_f rfl (fa_eq (h1 rfl))
    | true => rw [hf] at h0; exact bl_t rfl (k_refuse ⟨nar_0, h0 rfl⟩)
theorem k_oneChar {s : Int32} {K : Int32 → PPS → Prop} {post : Int32 → PPS → Prop} {v2 : Int32} (hT : Tp σ t n) (hp : pPs σ = nI k) (hk : k ≤ n)
    (h1 : ∀ c p, chf t n k = some (c, p) → K (v2 + (-1)) (sLe (sPs σ (nI p)) (sAdd 4000 (pLe σ) c))) (h0 : chf t n k = none → ∀ p, post 0 (sWr (sPs σ (nI p)) (nI k))) :
    (((sGet (pTp σ) (pPs σ)) = 38 → (((sGet (pTp σ) ((pPs σ) + 1)) = 35 → w_Reader_takeNumbered σ  (fun r87 σ87 => w_Reader_takeCharacters_J101 s K post v2 (pPs σ) r87 σ87)) ∧ (¬ (sGet (pTp σ) ((pPs σ) + 1)) = 35 → w_Reader_takeNamed σ  (fun r96 σ96 => w_Reader_takeCharacters_J101 s K post v2 (pPs σ) r96 σ96)))) ∧ (¬ (sGet (pTp σ) (pPs σ)) = 38 → w_Reader_takeCharacter σ  (fun r60 σ60 => w_Reader_takeCharacters_J101 s K post v2 (pPs σ) r60 σ60))) := by
  have hn := hT.2
  have e0 : sGet (pTp σ) (pPs σ) = xx t n k := by rw [hp]; exact hT.get (by omega)
  have e1 : sGet (pTp σ) (pPs σ + 1) = xx t n (k + 1) := by rw [hp, nI_1]; exact hT.get (by omega)
  rw [e0, e1]
  unfold chf at h1 h0
  by_cases a : xx t n k = 38
  · rw [if_pos a] at h1 h0
    refine br_t a ?_
    by_cases b : xx t n (k + 1) = 35
    · rw [if_pos b] at h1 h0
      refine br_t b (k_takeNumbered hT hp hk (fun c p h => ?_) (fun h p => ?_))
      · unfold chN at h1 h0
        rw [h] at h1 h0
        refine k_J101 (fun hc => ?_) (fun hc => ?_)
        · exact h1 c p (by simp only [hc, if_true])
        · rw [hp]; exact h0 (by simp [hc]) p
      · unfold chN at h0
        rw [h] at h0
        refine k_J101 (fun hc => absurd rfl (cOk_pos hc).2) (fun hc => ?_)
        rw [hp]; exact h0 rfl p
    · rw [if_neg b] at h1 h0
      refine br_f b (k_takeNamed hT hp hk (fun c p h => ?_) (fun h => ?_))
      · have hc : cOk c = true := (chf_some (t := t) (n := n) (k := k) (c := c) (e := p) (by unfold chf; rw [if_pos a, if_neg b]; exact h)).2.2
        exact k_J101 (fun _ => h1 c p h) (fun z => by rw [hc] at z; cases z)
      · refine k_J101 (fun hc => absurd rfl (cOk_pos hc).2) (fun hc => ?_)
        have := h0 h k
        rw [sPs_self hp] at this
        rw [hp]; exact this
  · rw [if_neg a] at h1 h0
    refine br_f a (k_takeCharacter hT hp hk (k_J101 (fun hc => ?_) (fun hc => ?_)))
    · rw [if_pos hc] at h1; exact h1 _ _ rfl
    · rw [if_neg (by rw [hc]; decide)] at h0
      rw [hp]; exact h0 rfl _
theorem k_takeChars {s : Int32} (hT : Tp σ t n) (hp : pPs σ = nI k) (hk : k ≤ n) {ls : List Int32} (hs : Str (pLe σ) ls) (hl : ls.length ≤ k) {post : Int32 → PPS → Prop}
    (h1 : ∀ e L le', Chars t n s k e L → (xx t n e = s ∨ xx t n e = 60 ∨ xx t n e = -1) → e ≤ n → Str le' (ls ++ L) → post 1 (sPs (sLe σ le') (nI e)))
    (h0 : ∀ e L le' p, Chars t n s k e L → ¬ xx t n e = s → ¬ xx t n e = 60 → ¬ xx t n e = -1 → chf t n e = none → post 0 (sWr (sPs (sLe σ le') (nI p)) (nI e))) : w_Reader_takeCharacters σ s post := by
  have hn := hT.2
  have key : ∀ m, ∀ k ls (σ : PPS) (v : Nat), n - k ≤ m → n - k ≤ v → v ≤ 4000 → Tp σ t n → pPs σ = nI k → k ≤ n → Str (pLe σ) ls → ls.length ≤ k →
      (∀ e L le', Chars t n s k e L → (xx t n e = s ∨ xx t n e = 60 ∨ xx t n e = -1) → e ≤ n → Str le' (ls ++ L) → post 1 (sPs (sLe σ le') (nI e))) →
      (∀ e L le' p, Chars t n s k e L → ¬ xx t n e = s → ¬ xx t n e = 60 → ¬ xx t n e = -1 → chf t n e = none → post 0 (sWr (sPs (sLe σ le') (nI p)) (nI e))) →
      ∃ f, w_Reader_takeCharacters_L13 s post f (nI v) σ := by
    intro m
    induction m with
    | zero =>
      intro k ls σ v hm hv hv4 hT hp hk hs hl h1 h0
      refine ⟨1, ?_⟩
      have e0 : sGet (pTp σ) (pPs σ) = xx t n k := by rw [hp]; exact hT.get (by omega)
      have hx : xx t n k = -1 := xx_out (by omega)
      have hq : post 1 σ := by
        have := h1 k [] (pLe σ) (Chars.nil k) (Or.inr (Or.inr hx)) hk (by rw [List.append_nil]; exact hs)
        rw [show sLe σ (pLe σ) = σ from rfl, sPs_self hp] at this
        exact this
      unfold w_Reader_takeCharacters_L13
      rw [e0]
      refine ⟨fun _ => hq, fun _ => ⟨fun _ => hq, fun _ => ⟨fun _ => hq, fun _ => br_t hx hq⟩⟩⟩
    | succ m ih =>
      intro k ls σ v hm hv hv4 hT hp hk hs hl h1 h0
      have e0 : sGet (pTp σ) (pPs σ) = xx t n k := by rw [hp]; exact hT.get (by omega)
      have hq : (xx t n k = s ∨ xx t n k = 60 ∨ xx t n k = -1) → post 1 σ := fun hx => by
        have := h1 k [] (pLe σ) (Chars.nil k) hx hk (by rw [List.append_nil]; exact hs)
        rw [show sLe σ (pLe σ) = σ from rfl, sPs_self hp] at this
        exact this
      by_cases hst : xx t n k = s ∨ xx t n k = 60 ∨ xx t n k = -1
      · refine ⟨1, ?_⟩
        unfold w_Reader_takeCharacters_L13
        rw [e0]
        refine ⟨fun _ => hq hst, fun _ => ⟨fun _ => hq hst, fun a => ⟨fun _ => hq hst, fun b => ⟨fun _ => hq hst, fun c => ?_⟩⟩⟩⟩
        exact absurd hst (fun z => z.elim a (fun z => z.elim b c))
      · have a1 : ¬ xx t n k = s := fun z => hst (Or.inl z)
        have a2 : ¬ xx t n k = 60 := fun z => hst (Or.inr (Or.inl z))
        have a3 : ¬ xx t n k = -1 := fun z => hst (Or.inr (Or.inr z))
        have hkn : k < n := xx_lt a3
        obtain ⟨v', rfl⟩ : ∃ v', v = v' + 1 := ⟨v - 1, by omega⟩
        have hrec : ∃ f, ∀ c p, chf t n k = some (c, p) → w_Reader_takeCharacters_L13 s post f (nI v') (sLe (sPs σ (nI p)) (sAdd 4000 (pLe σ) c)) := by
          cases hc : chf t n k with
          | none => exact ⟨0, fun c p z => by cases z⟩
          | some q =>
            obtain ⟨c, p⟩ := q
            have hb := chf_some hc
            obtain ⟨f, hf⟩ := ih p (ls ++ [c]) (sLe (sPs σ (nI p)) (sAdd 4000 (pLe σ) c)) v' (by omega) (by omega) (by omega) hT rfl hb.2.1 (hs.add (by decide) (by omega) c) (by simp; omega)
              (fun e L le' hC hx he hS => h1 e (c :: L) le' (Chars.cons a1 a2 a3 hc hC) hx he (by rw [List.append_assoc] at hS; exact hS))
              (fun e L le' p hC x1 x2 x3 hn0 => h0 e (c :: L) le' p (Chars.cons a1 a2 a3 hc hC) x1 x2 x3 hn0)
            exact ⟨f, fun c' p' z => by cases z; exact hf⟩
        obtain ⟨f, hf⟩ := hrec
        refine ⟨f + 1, ?_⟩
        unfold w_Reader_takeCharacters_L13
        rw [show (sGet (pTp σ) (pPs σ) = s) = (xx t n k = s) from by rw [e0], show (sGet (pTp σ) (pPs σ) = 60) = (xx t n k = 60) from by rw [e0], show (sGet (pTp σ) (pPs σ) = -1) = (xx t n k = -1) from by rw [e0]]
        refine br_f (nI_nle (by omega) (by omega)) (br_f a1 (br_f a2 (br_f a3 ?_)))
        refine k_oneChar hT hp hk (fun c p hc => ?_) (fun hc p => ?_)
        · rw [pk_m1]; exact hf c p hc
        · have := h0 k [] (pLe σ) p (Chars.nil k) a1 a2 a3 hc
          exact this
  unfold w_Reader_takeCharacters
  rw [hT.sz, hp, pk_sub hk]
  exact key (n - k) k ls σ (n - k) (Nat.le_refl _) (Nat.le_refl _) (by omega) hT hp hk hs hl h1 h0
end TC
