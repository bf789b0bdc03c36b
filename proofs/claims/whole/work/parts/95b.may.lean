/-! PURE: what may hold what. -/
def inl (x : Int32) : Bool := decide (x = 16) || decide (x = 17) || decide (x = 20) || decide (x = 18) || decide (x = 22) || decide (x = 23)
def blk (x : Int32) : Bool := decide (x = 9) || (decide (10 ≤ x) && decide (x ≤ 15)) || decide (x = 21) || decide (x = 19) || decide (x = 5) || decide (x = 6) || decide (x = 7)
theorem r_inl {x : Int32} {post : Int32 → Prop} (hq : post (b2i (inl x))) : w_M_isInlineKind x post := by
  unfold w_M_isInlineKind w_M_isInlineKind_J36
  unfold inl at hq
  refine ⟨fun e => ?_, fun n1 => ⟨fun e => ?_, fun n2 => ⟨fun e => ?_, fun n3 => ⟨fun e => ?_, fun n4 => ⟨fun e => ?_, fun n5 => ⟨fun e => ?_, fun n6 => ?_⟩⟩⟩⟩⟩⟩
  · subst e; exact hq
  · subst e; exact hq
  · subst e; exact hq
  · subst e; exact hq
  · subst e; exact hq
  · subst e; exact hq
  · simp only [n1, n2, n3, n4, n5, n6, decide_false, Bool.or_false] at hq; exact hq
theorem r_blk {x : Int32} {post : Int32 → Prop} (hq : post (b2i (blk x))) : w_M_isBlockKind x post := by
  have J : ¬ x = 9 → ¬ (10 ≤ x ∧ x ≤ 15) → w_M_isBlockKind_J18 post x := fun n9 nr => by
    unfold w_M_isBlockKind_J18 w_M_isBlockKind_J47
    have hr : (decide (10 ≤ x) && decide (x ≤ 15)) = false := by
      rw [Bool.and_eq_false_iff]
      by_cases h : 10 ≤ x
      · exact Or.inr (decide_eq_false (fun z => nr ⟨h, z⟩))
      · exact Or.inl (decide_eq_false h)
    unfold blk at hq
    rw [hr] at hq
    refine ⟨fun e => ?_, fun n1 => ⟨fun e => ?_, fun n2 => ⟨fun e => ?_, fun n3 => ⟨fun e => ?_, fun n4 => ⟨fun e => ?_, fun n5 => ?_⟩⟩⟩⟩⟩
    · subst e; exact hq
    · subst e; exact hq
    · subst e; exact hq
    · subst e; exact hq
    · subst e; exact hq
    · simp only [n9, n1, n2, n3, n4, n5, decide_false, Bool.or_false] at hq; exact hq
  unfold w_M_isBlockKind w_M_isBlockKind_J47
  refine ⟨fun e => by subst e; exact hq, fun n9 => ⟨fun h => J n9 (fun z => Int32.not_lt.mpr z.1 h), fun h => ⟨fun h2 => ?_, fun h2 => J n9 (fun z => h2 z.2)⟩⟩⟩
  have : blk x = true := by
    unfold blk
    simp [i_nlt.mp h, h2]
  rw [this] at hq; exact hq
/-- as the reference has it -/
def mh (x0 x1 : Int32) : Bool := if x0 = -1 then decide (x1 = 1) else if x0 = 1 then decide (x1 = 2) || decide (x1 = 4) else if x0 = 2 then decide (x1 = 3) else if x0 = 4 ∨ x0 = 5 then blk x1 else if x0 = 6 ∨ x0 = 7 then decide (x1 = 8) else if x0 = 8 then blk x1 || inl x1 else if x0 = 19 then decide (x1 = 20) else if x0 = 9 ∨ x0 = 16 ∨ x0 = 17 ∨ x0 = 18 ∨ (10 ≤ x0 ∧ x0 ≤ 15) then inl x1 else false
theorem eq_b {x y : Int32} {post : Int32 → Prop} (hq : post (b2i (decide (x = y)))) : ((x = y → post 1) ∧ (¬ x = y → post 0)) := by
  refine ⟨fun e => ?_, fun e => ?_⟩
  · rw [decide_eq_true e] at hq; exact hq
  · rw [decide_eq_false e] at hq; exact hq
theorem b2i_b {b : Bool} {post : Int32 → Prop} (hq : post (b2i b)) : ((b2i b = 0 → post 0) ∧ (¬ b2i b = 0 → post 1)) := by
  cases b
  · exact bl_f rfl hq
  · exact bl_t rfl hq
theorem r_mayHold {j : Nat} {x1 : Int32} (hj : j < 24) {post : Int32 → Prop} (hq : post (b2i (mh (nI j) x1))) : w_M_mayHold (nI j) x1 post := by
  have hc : j = 0 ∨ j = 1 ∨ j = 2 ∨ j = 3 ∨ j = 4 ∨ j = 5 ∨ j = 6 ∨ j = 7 ∨ j = 8 ∨ j = 9 ∨ j = 10 ∨ j = 11 ∨ j = 12 ∨ j = 13 ∨ j = 14 ∨ j = 15 ∨ j = 16 ∨ j = 17 ∨ j = 18 ∨ j = 19 ∨ j = 20 ∨ j = 21 ∨ j = 22 ∨ j = 23 := by omega
  rcases hc with z | z | z | z | z | z | z | z | z | z | z | z | z | z | z | z | z | z | z | z | z | z | z | z <;> subst z <;> unfold w_M_mayHold w_M_mayHold_J169 w_M_mayHold_J121 <;> (repeat first | (refine br_t (by decide) ?_) | (refine br_f (by decide) ?_))
  · exact hq
  · have hq : post (b2i (decide (x1 = 2) || decide (x1 = 4))) := hq
    refine ⟨fun e => ?_, fun e => ⟨fun e2 => ?_, fun e2 => ?_⟩⟩
    · rw [decide_eq_true e] at hq; exact hq
    · rw [decide_eq_true e2, Bool.or_true] at hq; exact hq
    · rw [decide_eq_false e, decide_eq_false e2] at hq; exact hq
  · exact eq_b hq
  · exact hq
  · exact r_blk ⟨b2i_nar _, hq⟩
  · exact r_blk ⟨b2i_nar _, hq⟩
  · exact eq_b hq
  · exact eq_b hq
  · have hq : post (b2i (blk x1 || inl x1)) := hq
    refine r_blk ?_
    cases hb : blk x1 with
    | true => rw [hb] at hq; exact bl_t rfl hq
    | false => rw [hb] at hq; exact bl_f rfl (r_inl (b2i_b hq))
  all_goals first | exact hq | exact eq_b hq | exact r_inl ⟨b2i_nar _, hq⟩ | exact r_inl (b2i_b hq)
theorem r_mayHoldN {x1 : Int32} {post : Int32 → Prop} (hq : post (b2i (decide (x1 = 1)))) : w_M_mayHold (-1) x1 post := by
  unfold w_M_mayHold
  exact br_t rfl (eq_b hq)
/-- both say alike what may hold what -/
theorem may_eq : ∀ i, i < 23 → ∀ j, j < 23 → mh (nI (j + 1)) (nI (i + 1)) = kSays j (kAs.getD i 0) := by decide +kernel
theorem may_0 : ∀ i, i < 23 → mh 0 (nI (i + 1)) = false := by decide +kernel
theorem may_n : ∀ i, i < 23 → (decide (nI (i + 1) = 1) = decide (kAs.getD i 0 = 1)) := by decide +kernel
theorem may_k0 : ∀ j, j < 24 → mh (nI j) 0 = false := by decide +kernel
def mht (x : Int32) : Bool := decide (x = 3) || decide (x = 8) || decide (x = 9) || (decide (10 ≤ x) && decide (x ≤ 15)) || decide (x = 16) || decide (x = 17) || decide (x = 18) || decide (x = 20)
theorem r_mayHaveText {x : Int32} {post : Int32 → Prop} (hq : post (b2i (mht x))) : w_M_mayHaveText x post := by
  have J : ¬ x = 3 → ¬ x = 8 → ¬ x = 9 → ¬ (10 ≤ x ∧ x ≤ 15) → w_M_mayHaveText_J29 post x := fun a1 a2 a3 nr => by
    unfold w_M_mayHaveText_J29 w_M_mayHaveText_J53
    have hr : (decide (10 ≤ x) && decide (x ≤ 15)) = false := by
      rw [Bool.and_eq_false_iff]
      by_cases h : 10 ≤ x
      · exact Or.inr (decide_eq_false (fun z => nr ⟨h, z⟩))
      · exact Or.inl (decide_eq_false h)
    unfold mht at hq
    rw [hr] at hq
    refine ⟨fun e => ?_, fun n1 => ⟨fun e => ?_, fun n2 => ⟨fun e => ?_, fun n3 => ⟨fun e => ?_, fun n4 => ?_⟩⟩⟩⟩
    · subst e; exact hq
    · subst e; exact hq
    · subst e; exact hq
    · subst e; exact hq
    · simp only [a1, a2, a3, n1, n2, n3, n4, decide_false, Bool.or_false] at hq; exact hq
  unfold w_M_mayHaveText w_M_mayHaveText_J53
  refine ⟨fun e => by subst e; exact hq, fun a1 => ⟨fun e => by subst e; exact hq, fun a2 => ⟨fun e => by subst e; exact hq, fun a3 => ⟨fun h => J a1 a2 a3 (fun z => Int32.not_lt.mpr z.1 h), fun h => ⟨fun h2 => ?_, fun h2 => J a1 a2 a3 (fun z => h2 z.2)⟩⟩⟩⟩⟩
  have : mht x = true := by
    unfold mht
    simp [i_nlt.mp h, h2]
  rw [this] at hq; exact hq
theorem mht_eq : ∀ i, i < 23 → mht (nI (i + 1)) = kSays i 256 := by decide +kernel
theorem wht_eq : ∀ i, i < 23 → kSays i 256 = false → (decide ((21 : Int32) ≤ nI (i + 1)) = !kSays i 512) := by decide +kernel
