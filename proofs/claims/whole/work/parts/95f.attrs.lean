/-! PURE: the attributes that an element may and must have. -/
/-- an attribute's mark, by its name -/
def mkN (l : List Int32) : Nat := if l = tx 9 then 1 else if l = tx 10 then 2 else if l = tx 11 then 4 else if l = tx 12 then 8 else if l = tx 13 then 16 else if l = tx 14 then 32 else if l = tx 15 then 64 else 0
def isNumB (V : List Int32) : Bool := V.all cDg && decide (1 ≤ V.length) && decide (V.length ≤ 9)
def flg (N : List (List Int32)) (x : Nat) : Bool := N.any (fun l => decide (l = tx x))
def num7 (a b c d e f g : Bool) : Nat := (if a then 1 else 0) + (if b then 2 else 0) + (if c then 4 else 0) + (if d then 8 else 0) + (if e then 16 else 0) + (if f then 32 else 0) + (if g then 64 else 0)
def orF (N : List (List Int32)) : Nat := num7 (flg N 9) (flg N 10) (flg N 11) (flg N 12) (flg N 13) (flg N 14) (flg N 15)
def sumF (N : List (List Int32)) : Nat := (flg N 9).toNat + (flg N 10).toNat + (flg N 11).toNat + (flg N 12).toNat + (flg N 13).toNat + (flg N 14).toNat + (flg N 15).toNat
def oth (N : List (List Int32)) : Nat := (N.filter (fun l => decide (mkN l = 0))).length
theorem tx91 : tx 9 = tx 1 := by decide +kernel
theorem txd : ∀ x, x < 7 → ∀ y, y < 7 → (tx (9 + x) = tx (9 + y) ↔ x = y) := by decide +kernel
theorem flg_snoc (N : List (List Int32)) (l : List Int32) (x : Nat) : flg (N ++ [l]) x = (flg N x || decide (l = tx x)) := by
  unfold flg; rw [List.any_append]; simp
theorem flg_cons (N : List (List Int32)) (l : List Int32) (x : Nat) : flg (l :: N) x = (decide (l = tx x) || flg N x) := by
  unfold flg; rw [List.any_cons]
/-- the seven names, or none -/
theorem mk_cases (l : List Int32) : (∃ x, x < 7 ∧ l = tx (9 + x) ∧ mkN l = 2 ^ x ∧ ∀ y, y < 7 → decide (l = tx (9 + y)) = decide (x = y)) ∨ (mkN l = 0 ∧ ∀ y, y < 7 → decide (l = tx (9 + y)) = false) := by
  by_cases h : ∃ x, x < 7 ∧ l = tx (9 + x)
  · obtain ⟨x, hx, e⟩ := h
    refine Or.inl ⟨x, hx, e, ?_, fun y hy => ?_⟩
    · rw [e]
      exact (by decide +kernel : ∀ x, x < 7 → mkN (tx (9 + x)) = 2 ^ x) x hx
    · rw [e, decide_eq_decide]; exact txd x hx y hy
  · have no : ∀ y, y < 7 → ¬ l = tx (9 + y) := fun y hy e => h ⟨y, hy, e⟩
    refine Or.inr ⟨?_, fun y hy => decide_eq_false (no y hy)⟩
    unfold mkN
    rw [if_neg (no 0 (by decide)), if_neg (no 1 (by decide)), if_neg (no 2 (by decide)), if_neg (no 3 (by decide)), if_neg (no 4 (by decide)), if_neg (no 5 (by decide)), if_neg (no 6 (by decide))]
theorem or7 : ∀ x, x < 7 → ∀ a b c d e f g : Bool, num7 a b c d e f g ||| 2 ^ x = num7 (a || decide (x = 0)) (b || decide (x = 1)) (c || decide (x = 2)) (d || decide (x = 3)) (e || decide (x = 4)) (f || decide (x = 5)) (g || decide (x = 6)) := by decide +kernel
theorem orF_snoc (N : List (List Int32)) (l : List Int32) : orF (N ++ [l]) = orF N ||| mkN l := by
  unfold orF
  rw [flg_snoc, flg_snoc, flg_snoc, flg_snoc, flg_snoc, flg_snoc, flg_snoc]
  rcases mk_cases l with ⟨x, hx, _, hm, hd⟩ | ⟨hm, hd⟩
  · rw [hm, or7 x hx, ← hd 0 (by decide), ← hd 1 (by decide), ← hd 2 (by decide), ← hd 3 (by decide), ← hd 4 (by decide), ← hd 5 (by decide), ← hd 6 (by decide)]
  · rw [hm, show decide (l = tx 9) = false from hd 0 (by decide), show decide (l = tx 10) = false from hd 1 (by decide), show decide (l = tx 11) = false from hd 2 (by decide), show decide (l = tx 12) = false from hd 3 (by decide), show decide (l = tx 13) = false from hd 4 (by decide), show decide (l = tx 14) = false from hd 5 (by decide), show decide (l = tx 15) = false from hd 6 (by decide)]
    simp
theorem num7_lt : ∀ a b c d e f g : Bool, num7 a b c d e f g < 128 := by decide +kernel
theorem flg_no {N : List (List Int32)} {l : List Int32} {x : Nat} (h : ¬ l ∈ N) (e : l = tx x) : flg N x = false := by
  unfold flg
  rw [List.any_eq_false]
  intro y hy
  simp only [decide_eq_true_eq]
  intro z
  exact h (by rw [e, ← z]; exact hy)
/-- names that are not twice: how many there are -/
theorem cntF : ∀ {N : List (List Int32)}, N.Nodup → N.length = sumF N + oth N
  | [], _ => rfl
  | l :: N, h => by
    have hn := List.nodup_cons.mp h
    have ih := cntF hn.2
    unfold sumF oth at ih ⊢
    rw [flg_cons, flg_cons, flg_cons, flg_cons, flg_cons, flg_cons, flg_cons, List.filter_cons]
    simp only [List.length_cons]
    rcases mk_cases l with ⟨x, hx, he, hm, hd⟩ | ⟨hm, hd⟩
    · have hno : flg N (9 + x) = false := flg_no hn.1 he
      have h0 : ¬ mkN l = 0 := by rw [hm]; exact Nat.pos_iff_ne_zero.mp (Nat.pow_pos (by decide))
      have d0 := hd 0 (by decide); have d1 := hd 1 (by decide); have d2 := hd 2 (by decide); have d3 := hd 3 (by decide); have d4 := hd 4 (by decide); have d5 := hd 5 (by decide); have d6 := hd 6 (by decide)
      rw [show (9 + 0 : Nat) = 9 from rfl] at d0
      rw [show (9 + 1 : Nat) = 10 from rfl] at d1
      rw [show (9 + 2 : Nat) = 11 from rfl] at d2
      rw [show (9 + 3 : Nat) = 12 from rfl] at d3
      rw [show (9 + 4 : Nat) = 13 from rfl] at d4
      rw [show (9 + 5 : Nat) = 14 from rfl] at d5
      rw [show (9 + 6 : Nat) = 15 from rfl] at d6
      rw [d0, d1, d2, d3, d4, d5, d6, if_neg (by simp [h0])]
      rcases (by omega : x = 0 ∨ x = 1 ∨ x = 2 ∨ x = 3 ∨ x = 4 ∨ x = 5 ∨ x = 6) with z | z | z | z | z | z | z <;> subst z <;> simp [hno] at ih ⊢ <;> omega
    · rw [show decide (l = tx 9) = false from hd 0 (by decide), show decide (l = tx 10) = false from hd 1 (by decide), show decide (l = tx 11) = false from hd 2 (by decide), show decide (l = tx 12) = false from hd 3 (by decide), show decide (l = tx 13) = false from hd 4 (by decide), show decide (l = tx 14) = false from hd 5 (by decide), show decide (l = tx 15) = false from hd 6 (by decide), if_pos (by simp [hm])]
      simp only [Bool.false_or, List.length_cons]
      omega
/-- the reference's count for a kind -/
def kok (i : Nat) (N : List (List Int32)) : Bool :=
  if i = 17 then flg N 10 && decide ((flg N 9).toNat + 1 + (flg N 11).toNat = N.length)
  else if i = 22 then flg N 12 && flg N 13 && decide ((flg N 9).toNat + 2 + (flg N 11).toNat = N.length)
  else if i = 19 then decide ((flg N 9).toNat + (flg N 14).toNat = N.length)
  else if i = 6 then decide ((flg N 9).toNat + (flg N 15).toNat = N.length)
  else decide ((flg N 9).toNat = N.length)
theorem al7 : ∀ a b c d e f g : Bool, kAllows 17 (nI (num7 a b c d e f g)) = (b && !d && !e && !f && !g) ∧ kAllows 22 (nI (num7 a b c d e f g)) = (!b && d && e && !f && !g) ∧ kAllows 19 (nI (num7 a b c d e f g)) = (!b && !c && !d && !e && !g) ∧ kAllows 6 (nI (num7 a b c d e f g)) = (!b && !c && !d && !e && !f) := by decide +kernel
theorem al7p : ∀ i, i < 23 → (i = 17 ∨ i = 22 ∨ i = 19 ∨ i = 6 ∨ ∀ a b c d e f g : Bool, kAllows i (nI (num7 a b c d e f g)) = (!b && !c && !d && !e && !f && !g)) := by decide +kernel
theorem al7o (i : Nat) (hi : i < 23) (h1 : ¬ i = 17) (h2 : ¬ i = 22) (h3 : ¬ i = 19) (h4 : ¬ i = 6) (a b c d e f g : Bool) : kAllows i (nI (num7 a b c d e f g)) = (!b && !c && !d && !e && !f && !g) := by
  rcases al7p i hi with h | h | h | h | h
  · exact absurd h h1
  · exact absurd h h2
  · exact absurd h h3
  · exact absurd h h4
  · exact h a b c d e f g
/-- both count alike -/
theorem kok_eq {i : Nat} (hi : i < 23) {N : List (List Int32)} (hN : N.Nodup) : kok i N = (decide (oth N = 0) && kAllows i (nI (orF N))) := by
  have hc := cntF hN
  unfold kok orF
  unfold sumF at hc
  rw [hc]
  generalize flg N 9 = a; generalize flg N 10 = b; generalize flg N 11 = c; generalize flg N 12 = d; generalize flg N 13 = e; generalize flg N 14 = f; generalize flg N 15 = g
  generalize oth N = o
  by_cases h17 : i = 17
  · subst h17
    rw [if_pos rfl, (al7 a b c d e f g).1]
    cases a <;> cases b <;> cases c <;> cases d <;> cases e <;> cases f <;> cases g <;> simp <;> omega
  by_cases h22 : i = 22
  · subst h22
    rw [if_neg (by decide), if_pos rfl, (al7 a b c d e f g).2.1]
    cases a <;> cases b <;> cases c <;> cases d <;> cases e <;> cases f <;> cases g <;> simp <;> omega
  by_cases h19 : i = 19
  · subst h19
    rw [if_neg (by decide), if_neg (by decide), if_pos rfl, (al7 a b c d e f g).2.2.1]
    cases a <;> cases b <;> cases c <;> cases d <;> cases e <;> cases f <;> cases g <;> simp <;> omega
  by_cases h6 : i = 6
  · subst h6
    rw [if_neg (by decide), if_neg (by decide), if_neg (by decide), if_pos rfl, (al7 a b c d e f g).2.2.2]
    cases a <;> cases b <;> cases c <;> cases d <;> cases e <;> cases f <;> cases g <;> simp <;> omega
  · rw [if_neg h17, if_neg h22, if_neg h19, if_neg h6, al7o i hi h17 h22 h19 h6]
    cases a <;> cases b <;> cases c <;> cases d <;> cases e <;> cases f <;> cases g <;> simp <;> omega
