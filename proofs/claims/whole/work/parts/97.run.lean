/-! PURE: every run of calls: the answers are alike. -/
theorem dcl0 : ∀ i, i < 38 → mDc 38 i = tCh 0 (nI i) := by decide +kernel
theorem RL0 : RL PP0 MP0 := by
  refine ⟨fun k _ => bt_0, ⟨0, by decide, rfl, rfl, fun k hk => absurd hk (Nat.not_lt_zero k)⟩, ⟨0, by decide, rfl, rfl, fun k hk => absurd hk (Nat.not_lt_zero k)⟩, rfl, rfl, fun i hi => ?_, Or.inl ⟨rfl, rfl, rfl, rfl, rfl⟩⟩
  show (if (5 : Nat) = 5 then mDc 38 else fun _ => 0) i = _
  rw [if_pos rfl]; exact dcl0 i hi
theorem same {r r' : Int32} {P : Prop} (e : r = r') (h : P) : ((r = r' → P) ∧ (¬ r = r' → False)) := br_t e h
section RUN
variable {N : Nat} {xs : Nat → Int32} {next : Int32 → PPS → MPS → (Nat → Int64) → Prop} {i : Int32} {σ : PPS} {τ : MPS} {f : Nat → Int64}
/-- what the script gives -/
def InN (N : Nat) (i : Int32) : Prop := vp_in (i + 1) N ∧ vp_in (i + 2) N ∧ vp_in (i + 3) N ∧ vp_in (i + 4) N ∧ vp_in (i + 5) N
theorem a_case_0 (h : RL σ τ) (hv : InN N i) (hq : ∀ σ' τ' g, RL σ' τ' → next (i + 6) σ' τ' g) : w_case_0 N xs next i σ τ f := by
  obtain ⟨v1, v2, v3, v4, v5⟩ := hv
  unfold w_case_0
  simp only [v1, v2, v3, v4, v5, true_and]
  exact c0_feed h (fun σ' τ' hR => hq σ' τ' f hR)
theorem a_case_1 (h : RL σ τ) (hv : InN N i) (hq : ∀ σ' τ' g, RL σ' τ' → next (i + 6) σ' τ' g) : w_case_1 N xs next i σ τ f := by
  obtain ⟨v1, v2, v3, v4, v5⟩ := hv
  unfold w_case_1
  simp only [v1, true_and]
  exact c1_end h (post := fun r σ' r' τ' => ((r = r' → next (i + 6) σ' τ' f) ∧ (¬ r = r' → False))) (fun r σ' τ' hR => same rfl (hq σ' τ' f hR))
theorem a_case_2 (h : RL σ τ) (hq : ∀ σ' τ' g, RL σ' τ' → next (i + 6) σ' τ' g) : w_case_2 N xs next i σ τ f := c2_wipe h (fun σ' τ' hR => hq σ' τ' f hR)
theorem a_case_3 (h : RL σ τ) (hq : ∀ σ' τ' g, RL σ' τ' → next (i + 6) σ' τ' g) : w_case_3 N xs next i σ τ f := c3_read h (next := next (i + 6)) hq
theorem a_case_4 (h : RL σ τ) (hq : ∀ σ' τ' g, RL σ' τ' → next (i + 6) σ' τ' g) : w_case_4 N xs next i σ τ f := c4_isPage h (next := next (i + 6)) hq
theorem a_case_5 (h : RL σ τ) (hq : ∀ σ' τ' g, RL σ' τ' → next (i + 6) σ' τ' g) : w_case_5 N xs next i σ τ f := c5_isLinked h (next := next (i + 6)) hq
theorem a_case_6 (h : RL σ τ) (hv : InN N i) (hq : ∀ σ' τ' g, RL σ' τ' → next (i + 6) σ' τ' g) : w_case_6 N xs next i σ τ f := by
  obtain ⟨v1, v2, v3, v4, v5⟩ := hv
  unfold w_case_6
  simp only [v1, true_and]
  exact c6_fault h (post := fun r r' τ' => ((r = r' → next (i + 6) σ τ' f) ∧ (¬ r = r' → False))) (fun r τ' hR => same rfl (hq σ τ' f hR))
theorem a_case_7 (h : RL σ τ) (hv : InN N i) (hq : ∀ σ' τ' g, RL σ' τ' → next (i + 6) σ' τ' g) : w_case_7 N xs next i σ τ f := by
  obtain ⟨v1, v2, v3, v4, v5⟩ := hv
  unfold w_case_7
  simp only [v1, v2, true_and]
  exact c7_node h (post := fun r r' τ' => ((r = r' → next (i + 6) σ τ' f) ∧ (¬ r = r' → False))) (fun r τ' hR => same rfl (hq σ τ' f hR))
theorem a_case_8 (h : RL σ τ) (hv : InN N i) (hq : ∀ σ' τ' g, RL σ' τ' → next (i + 6) σ' τ' g) : w_case_8 N xs next i σ τ f := by
  obtain ⟨v1, v2, v3, v4, v5⟩ := hv
  unfold w_case_8
  simp only [v1, v2, true_and]
  exact c8_letter h (post := fun r r' τ' => ((r = r' → next (i + 6) σ τ' f) ∧ (¬ r = r' → False))) (fun r τ' hR => same rfl (hq σ τ' f hR))
theorem a_case_9 (h : RL σ τ) (hv : InN N i) (hq : ∀ σ' τ' g, RL σ' τ' → next (i + 6) σ' τ' g) : w_case_9 N xs next i σ τ f := by
  obtain ⟨v1, v2, v3, v4, v5⟩ := hv
  unfold w_case_9
  simp only [v1, v2, v3, true_and]
  exact c9_attribute h (post := fun r r' τ' => ((r = r' → next (i + 6) σ τ' f) ∧ (¬ r = r' → False))) (fun r τ' hR => same rfl (hq σ τ' f hR))
theorem a_case_10 (h : RL σ τ) (hv : InN N i) (hq : ∀ σ' τ' g, RL σ' τ' → next (i + 6) σ' τ' g) : w_case_10 N xs next i σ τ f := by
  obtain ⟨v1, v2, v3, v4, v5⟩ := hv
  unfold w_case_10
  simp only [v1, v2, v3, v4, true_and]
  refine ⟨fun h3 => ?_, fun h3 => ?_⟩
  · simp only [h3, true_implies, not_true_eq_false, false_implies, and_true]
    exact c10_sign h (post := fun r r' τ' => ((r = r' → next (i + 6) σ τ' f) ∧ (¬ r = r' → False))) (fun r τ' hR => same rfl (hq σ τ' f hR))
  · simp only [h3, false_implies, not_false_eq_true, true_implies, true_and]
    exact c10_sign h (post := fun r r' τ' => ((r = r' → next (i + 6) σ τ' f) ∧ (¬ r = r' → False))) (fun r τ' hR => same rfl (hq σ τ' f hR))
theorem a_case_11 (h : RL σ τ) (hq : ∀ σ' τ' g, RL σ' τ' → next (i + 6) σ' τ' g) : w_case_11 N xs next i σ τ f := c11_find h (post := fun r r' τ' => ((r = r' → next (i + 6) σ τ' f) ∧ (¬ r = r' → False))) (fun r τ' hR => same rfl (hq σ τ' f hR))
theorem a_case_12 (h : RL σ τ) (hv : InN N i) (hq : ∀ σ' τ' g, RL σ' τ' → next (i + 6) σ' τ' g) : w_case_12 N xs next i σ τ f := by
  obtain ⟨v1, v2, v3, v4, v5⟩ := hv
  unfold w_case_12
  simp only [v1, true_and]
  exact c12_plain h _ (next := next (i + 6)) hq
theorem a_case_13 (h : RL σ τ) (hv : InN N i) (hq : ∀ σ' τ' g, RL σ' τ' → next (i + 6) σ' τ' g) : w_case_13 N xs next i σ τ f := by
  obtain ⟨v1, v2, v3, v4, v5⟩ := hv
  unfold w_case_13
  simp only [v1, true_and]
  exact c13_write h _ (next := next (i + 6)) hq
theorem a_case_14 (h : RL σ τ) (hv : InN N i) (hq : ∀ σ' τ' g, RL σ' τ' → next (i + 6) σ' τ' g) : w_case_14 N xs next i σ τ f := by
  obtain ⟨v1, v2, v3, v4, v5⟩ := hv
  unfold w_case_14
  simp only [v1, true_and]
  exact c14_output h (post := fun r r' τ' => ((r = r' → next (i + 6) σ τ' f) ∧ (¬ r = r' → False))) (fun r τ' hR => same rfl (hq σ τ' f hR))
theorem a_case_15 (h : RL σ τ) (hv : InN N i) (hq : ∀ σ' τ' g, RL σ' τ' → next (i + 6) σ' τ' g) : w_case_15 N xs next i σ τ f := by
  obtain ⟨v1, v2, v3, v4, v5⟩ := hv
  unfold w_case_15
  simp only [v1, true_and]
  exact c15_about h (post := fun r r' τ' => ((r = r' → next (i + 6) σ τ' f) ∧ (¬ r = r' → False))) (fun r τ' hR => same rfl (hq σ τ' f hR))
/-- one step of the law -/
theorem a_step {k : Nat} (hN : N ≤ 3072) (hk : k ≤ N) (h : RL σ τ) (hq : k + 6 ≤ N → ∀ σ' τ' g, RL σ' τ' → next (nI (k + 6)) σ' τ' g) : w_step N xs next (nI k) σ τ f := by
  unfold w_step
  refine ⟨fun _ => trivial, fun hn => ?_⟩
  have h6 : k + 6 ≤ N := by
    by_cases c : k + 6 ≤ N
    · exact c
    · exfalso
      apply hn
      rw [Int32.lt_iff_toInt_lt]
      show (nI N - nI 6).toInt < _
      rw [pk_sub_toInt (by omega) (by omega), show (nI k).toInt = (k : Int) from by
        have := pk_sub_toInt (a := k) (b := 0) (by omega) (by omega)
        rw [show nI k - nI 0 = nI k from by rw [pk_sub (Nat.zero_le _)]; rfl] at this
        omega]
      omega
  have e6 : nI k + 6 = nI (k + 6) := nI_add k 6
  have hv : InN N (nI k) := ⟨by rw [show nI k + 1 = nI (k + 1) from nI_add k 1]; exact vp_in_nI (by omega) (by omega), by rw [show nI k + 2 = nI (k + 2) from nI_add k 2]; exact vp_in_nI (by omega) (by omega), by rw [show nI k + 3 = nI (k + 3) from nI_add k 3]; exact vp_in_nI (by omega) (by omega), by rw [show nI k + 4 = nI (k + 4) from nI_add k 4]; exact vp_in_nI (by omega) (by omega), by rw [show nI k + 5 = nI (k + 5) from nI_add k 5]; exact vp_in_nI (by omega) (by omega)⟩
  have hq : ∀ σ' τ' g, RL σ' τ' → next (nI k + 6) σ' τ' g := by rw [e6]; exact hq h6
  refine ⟨vp_in_nI (by omega) (by omega), ?_⟩
  obtain ⟨y, hy, ey⟩ := pk_andE (xs (nI k).toNatClampNeg) (m := 15) 4 (by decide)
  rw [ey]
  have hy : y < 16 := hy
  have ne : ∀ z : Nat, z < 16 → ¬ y = z → ¬ nI y = nI z := fun z hz h1 h2 => h1 ((nI_eq (by omega) (by omega)).mp h2)
  refine pk_eq y 0 (fun _ => a_case_0 h hv hq) (fun _ => ?_) rfl rfl (by omega) (by decide)
  refine pk_eq y 1 (fun _ => a_case_1 h hv hq) (fun _ => ?_) rfl rfl (by omega) (by decide)
  refine pk_eq y 2 (fun _ => a_case_2 h hq) (fun _ => ?_) rfl rfl (by omega) (by decide)
  refine pk_eq y 3 (fun _ => a_case_3 h hq) (fun _ => ?_) rfl rfl (by omega) (by decide)
  refine pk_eq y 4 (fun _ => a_case_4 h hq) (fun _ => ?_) rfl rfl (by omega) (by decide)
  refine pk_eq y 5 (fun _ => a_case_5 h hq) (fun _ => ?_) rfl rfl (by omega) (by decide)
  refine pk_eq y 6 (fun _ => a_case_6 h hv hq) (fun _ => ?_) rfl rfl (by omega) (by decide)
  refine pk_eq y 7 (fun _ => a_case_7 h hv hq) (fun _ => ?_) rfl rfl (by omega) (by decide)
  refine pk_eq y 8 (fun _ => a_case_8 h hv hq) (fun _ => ?_) rfl rfl (by omega) (by decide)
  refine pk_eq y 9 (fun _ => a_case_9 h hv hq) (fun _ => ?_) rfl rfl (by omega) (by decide)
  refine pk_eq y 10 (fun _ => a_case_10 h hv hq) (fun _ => ?_) rfl rfl (by omega) (by decide)
  refine pk_eq y 11 (fun _ => a_case_11 h hq) (fun _ => ?_) rfl rfl (by omega) (by decide)
  refine pk_eq y 12 (fun _ => a_case_12 h hv hq) (fun _ => ?_) rfl rfl (by omega) (by decide)
  refine pk_eq y 13 (fun _ => a_case_13 h hv hq) (fun _ => ?_) rfl rfl (by omega) (by decide)
  refine pk_eq y 14 (fun _ => a_case_14 h hv hq) (fun _ => ?_) rfl rfl (by omega) (by decide)
  exact pk_eq y 15 (fun _ => a_case_15 h hv hq) (fun _ => by omega) rfl rfl (by omega) (by decide)
theorem a_law (hN : N ≤ 3072) : ∀ n k (σ : PPS) (τ : MPS) (f : Nat → Int64), k ≤ N → N < k + 6 * n → RL σ τ → w_law N xs n (nI k) σ τ f := by
  intro n
  induction n with
  | zero => intro k σ τ f hk hn; omega
  | succ n ih =>
    intro k σ τ f hk hn h
    exact a_step hN hk h (fun h6 σ' τ' g hR => ih (k + 6) σ' τ' g h6 (by omega) hR)
end RUN
