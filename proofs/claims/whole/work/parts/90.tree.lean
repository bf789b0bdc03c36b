/-! PURE: the tree of what is read, and how much may be written. -/
def wat (A : Att) : Nat := A.nl + 4 + 6 * A.cs.length
def wk (S : GS) (k : Nat) : Nat := if S.el k = true then 2 * S.nl k + 6 + ((S.as k).map wat).sum else 6 * (S.cs k).length
def wsum (S : GS) : Nat → Nat
  | 0 => 0
  | k + 1 => wsum S k + wk S k
def Gt (t : Nat → Int32) (n : Nat) (S : GS) : Prop := (∀ k, k < S.K → S.el k = false → S.as k = []) ∧ (∀ k, k < S.K → (S.up k = -1 ∧ S.dp k = 1 ∧ k = 0) ∨ ∃ u, u < k ∧ S.up k = nI u ∧ S.dp k = S.dp u + 1 ∧ S.el u = true) ∧ (∀ k, k ∈ S.op → ∀ j, k < j → j < S.K → S.dp k < S.dp j) ∧ (∀ k, k < S.K → ¬ k ∈ S.op → ∃ q, S.pa k = nI q ∧ k < q ∧ q ≤ S.K ∧ (∀ j, k < j → j < q → S.dp k < S.dp j) ∧ (q < S.K → S.dp q ≤ S.dp k) ∧ (q = S.K → S.op.length + 1 ≤ S.dp k)) ∧ (∀ u, u < S.K → S.fs u = -1 → ∀ j, j < S.K → ¬ S.up j = nI u) ∧ (∀ u, u < S.K → ¬ S.fs u = -1 → ∃ j, j < S.K ∧ S.fs u = nI j ∧ S.up j = nI u ∧ ∀ i, i < j → ¬ S.up i = nI u) ∧ (∀ k u, k < S.K → u < S.K → S.up k = nI u → S.nx k = -1 → ∀ j, k < j → j < S.K → ¬ S.up j = nI u) ∧ (∀ k, k < S.K → ¬ S.nx k = -1 → ∃ j u, k < j ∧ j < S.K ∧ u < S.K ∧ S.nx k = nI j ∧ S.up k = nI u ∧ S.up j = nI u ∧ ∀ i, k < i → i < j → ¬ S.up i = nI u) ∧ (∀ u, u < S.K → S.ls u = -1 → ∀ j, j < S.K → ¬ S.up j = nI u) ∧ (∀ u j, u < S.K → S.ls u = nI j → j < 2 ^ 31 → j < S.K ∧ S.up j = nI u ∧ ∀ i, j < i → i < S.K → ¬ S.up i = nI u) ∧ (∀ k, k < S.K → S.up k = -1 → S.nx k = -1) ∧ (wsum S S.K ≤ 6 * S.at_)
theorem Gt.ta {t : Nat → Int32} {n : Nat} {S : GS} (h : Gt t n S) : ∀ k, k < S.K → S.el k = false → S.as k = [] := h.1
theorem Gt.up {t : Nat → Int32} {n : Nat} {S : GS} (h : Gt t n S) : ∀ k, k < S.K → (S.up k = -1 ∧ S.dp k = 1 ∧ k = 0) ∨ ∃ u, u < k ∧ S.up k = nI u ∧ S.dp k = S.dp u + 1 ∧ S.el u = true := h.2.1
theorem Gt.po {t : Nat → Int32} {n : Nat} {S : GS} (h : Gt t n S) : ∀ k, k ∈ S.op → ∀ j, k < j → j < S.K → S.dp k < S.dp j := h.2.2.1
theorem Gt.pc {t : Nat → Int32} {n : Nat} {S : GS} (h : Gt t n S) : ∀ k, k < S.K → ¬ k ∈ S.op → ∃ q, S.pa k = nI q ∧ k < q ∧ q ≤ S.K ∧ (∀ j, k < j → j < q → S.dp k < S.dp j) ∧ (q < S.K → S.dp q ≤ S.dp k) ∧ (q = S.K → S.op.length + 1 ≤ S.dp k) := h.2.2.2.1
theorem Gt.fs0 {t : Nat → Int32} {n : Nat} {S : GS} (h : Gt t n S) : ∀ u, u < S.K → S.fs u = -1 → ∀ j, j < S.K → ¬ S.up j = nI u := h.2.2.2.2.1
theorem Gt.fs1 {t : Nat → Int32} {n : Nat} {S : GS} (h : Gt t n S) : ∀ u, u < S.K → ¬ S.fs u = -1 → ∃ j, j < S.K ∧ S.fs u = nI j ∧ S.up j = nI u ∧ ∀ i, i < j → ¬ S.up i = nI u := h.2.2.2.2.2.1
theorem Gt.nx0 {t : Nat → Int32} {n : Nat} {S : GS} (h : Gt t n S) : ∀ k u, k < S.K → u < S.K → S.up k = nI u → S.nx k = -1 → ∀ j, k < j → j < S.K → ¬ S.up j = nI u := h.2.2.2.2.2.2.1
theorem Gt.nx1 {t : Nat → Int32} {n : Nat} {S : GS} (h : Gt t n S) : ∀ k, k < S.K → ¬ S.nx k = -1 → ∃ j u, k < j ∧ j < S.K ∧ u < S.K ∧ S.nx k = nI j ∧ S.up k = nI u ∧ S.up j = nI u ∧ ∀ i, k < i → i < j → ¬ S.up i = nI u := h.2.2.2.2.2.2.2.1
theorem Gt.ls0 {t : Nat → Int32} {n : Nat} {S : GS} (h : Gt t n S) : ∀ u, u < S.K → S.ls u = -1 → ∀ j, j < S.K → ¬ S.up j = nI u := h.2.2.2.2.2.2.2.2.1
theorem Gt.ls1 {t : Nat → Int32} {n : Nat} {S : GS} (h : Gt t n S) : ∀ u j, u < S.K → S.ls u = nI j → j < 2 ^ 31 → j < S.K ∧ S.up j = nI u ∧ ∀ i, j < i → i < S.K → ¬ S.up i = nI u := h.2.2.2.2.2.2.2.2.2.1
theorem Gt.r0 {t : Nat → Int32} {n : Nat} {S : GS} (h : Gt t n S) : ∀ k, k < S.K → S.up k = -1 → S.nx k = -1 := h.2.2.2.2.2.2.2.2.2.2.1
theorem Gt.wt {t : Nat → Int32} {n : Nat} {S : GS} (h : Gt t n S) : wsum S S.K ≤ 6 * S.at_ := h.2.2.2.2.2.2.2.2.2.2.2
section TR
variable {t : Nat → Int32} {n : Nat} {S S' : GS}
theorem wsum_congr : ∀ (k : Nat), (∀ j, j < k → wk S' j = wk S j) → wsum S' k = wsum S k
  | 0, _ => rfl
  | k + 1, h => by
    show wsum S' k + wk S' k = wsum S k + wk S k
    rw [wsum_congr k (fun j hj => h j (by omega)), h k (Nat.lt_succ_self k)]
theorem wsum_one {k0 d : Nat} : ∀ (k : Nat), k0 < k → (∀ j, j < k → ¬ j = k0 → wk S' j = wk S j) → wk S' k0 = wk S k0 + d → wsum S' k = wsum S k + d
  | 0, h, _, _ => absurd h (Nat.not_lt_zero _)
  | k + 1, h, h1, h2 => by
    show wsum S' k + wk S' k = wsum S k + wk S k + d
    by_cases e : k = k0
    · subst e
      rw [wsum_congr k (fun j hj => h1 j (by omega) (by omega)), h2]; omega
    · rw [wsum_one k (by omega) (fun j hj => h1 j (by omega)) h2, h1 k (Nat.lt_succ_self k) e]; omega
theorem gt0 {a : Nat} : Gt t n (G0 a) := by
  have hK : (G0 a).K = 0 := rfl
  refine ⟨?_, ?_, ?_, ?_, ?_, ?_, ?_, ?_, ?_, ?_, ?_, ?_⟩
  · intro k hk; rw [hK] at hk; omega
  · intro k hk; rw [hK] at hk; omega
  · intro k hk; cases hk
  · intro k hk; rw [hK] at hk; omega
  · intro k hk; rw [hK] at hk; omega
  · intro k hk; rw [hK] at hk; omega
  · intro k u hk; rw [hK] at hk; omega
  · intro k hk; rw [hK] at hk; omega
  · intro k hk; rw [hK] at hk; omega
  · intro k j hk; rw [hK] at hk; omega
  · intro k hk; rw [hK] at hk; omega
  · exact Nat.zero_le _
/-- the links after a node more -/
def Lk (S : GS) (K : Nat) (el : Nat → Bool) (up fs nx ls : Nat → Int32) (dp : Nat → Nat) : Prop := (∀ k, k < K → (up k = -1 ∧ dp k = 1 ∧ k = 0) ∨ ∃ u, u < k ∧ up k = nI u ∧ dp k = dp u + 1 ∧ el u = true) ∧ (∀ u, u < K → fs u = -1 → ∀ j, j < K → ¬ up j = nI u) ∧ (∀ u, u < K → ¬ fs u = -1 → ∃ j, j < K ∧ fs u = nI j ∧ up j = nI u ∧ ∀ i, i < j → ¬ up i = nI u) ∧ (∀ k u, k < K → u < K → up k = nI u → nx k = -1 → ∀ j, k < j → j < K → ¬ up j = nI u) ∧ (∀ k, k < K → ¬ nx k = -1 → ∃ j u, k < j ∧ j < K ∧ u < K ∧ nx k = nI j ∧ up k = nI u ∧ up j = nI u ∧ ∀ i, k < i → i < j → ¬ up i = nI u) ∧ (∀ u, u < K → ls u = -1 → ∀ j, j < K → ¬ up j = nI u) ∧ (∀ u j, u < K → ls u = nI j → j < 2 ^ 31 → j < K ∧ up j = nI u ∧ ∀ i, j < i → i < K → ¬ up i = nI u) ∧ (∀ k, k < K → up k = -1 → nx k = -1)
theorem Lk.up {S : GS} {K : Nat} {el : Nat → Bool} {up fs nx ls : Nat → Int32} {dp : Nat → Nat} (h : Lk S K el up fs nx ls dp) : ∀ k, k < K → (up k = -1 ∧ dp k = 1 ∧ k = 0) ∨ ∃ u, u < k ∧ up k = nI u ∧ dp k = dp u + 1 ∧ el u = true := h.1
theorem Lk.fs0 {S : GS} {K : Nat} {el : Nat → Bool} {up fs nx ls : Nat → Int32} {dp : Nat → Nat} (h : Lk S K el up fs nx ls dp) : ∀ u, u < K → fs u = -1 → ∀ j, j < K → ¬ up j = nI u := h.2.1
theorem Lk.fs1 {S : GS} {K : Nat} {el : Nat → Bool} {up fs nx ls : Nat → Int32} {dp : Nat → Nat} (h : Lk S K el up fs nx ls dp) : ∀ u, u < K → ¬ fs u = -1 → ∃ j, j < K ∧ fs u = nI j ∧ up j = nI u ∧ ∀ i, i < j → ¬ up i = nI u := h.2.2.1
theorem Lk.nx0 {S : GS} {K : Nat} {el : Nat → Bool} {up fs nx ls : Nat → Int32} {dp : Nat → Nat} (h : Lk S K el up fs nx ls dp) : ∀ k u, k < K → u < K → up k = nI u → nx k = -1 → ∀ j, k < j → j < K → ¬ up j = nI u := h.2.2.2.1
theorem Lk.nx1 {S : GS} {K : Nat} {el : Nat → Bool} {up fs nx ls : Nat → Int32} {dp : Nat → Nat} (h : Lk S K el up fs nx ls dp) : ∀ k, k < K → ¬ nx k = -1 → ∃ j u, k < j ∧ j < K ∧ u < K ∧ nx k = nI j ∧ up k = nI u ∧ up j = nI u ∧ ∀ i, k < i → i < j → ¬ up i = nI u := h.2.2.2.2.1
theorem Lk.ls0 {S : GS} {K : Nat} {el : Nat → Bool} {up fs nx ls : Nat → Int32} {dp : Nat → Nat} (h : Lk S K el up fs nx ls dp) : ∀ u, u < K → ls u = -1 → ∀ j, j < K → ¬ up j = nI u := h.2.2.2.2.2.1
theorem Lk.ls1 {S : GS} {K : Nat} {el : Nat → Bool} {up fs nx ls : Nat → Int32} {dp : Nat → Nat} (h : Lk S K el up fs nx ls dp) : ∀ u j, u < K → ls u = nI j → j < 2 ^ 31 → j < K ∧ up j = nI u ∧ ∀ i, j < i → i < K → ¬ up i = nI u := h.2.2.2.2.2.2.1
theorem Lk.r0 {S : GS} {K : Nat} {el : Nat → Bool} {up fs nx ls : Nat → Int32} {dp : Nat → Nat} (h : Lk S K el up fs nx ls dp) : ∀ k, k < K → up k = -1 → nx k = -1 := h.2.2.2.2.2.2.2
theorem Gt.links (hI : Inv t n S) (hT : Gt t n S) (e : Bool) (hz : S.op = [] → S.K = 0) (hK : S.K < 900) : Lk S (S.K + 1) (va_up S.el S.K e) (va_up S.up S.K (hd S.op)) (va_up S.fs1 S.K (-1)) (va_up S.nx1 S.K (-1)) (va_up S.ls1 S.K (-1)) (va_up S.dp S.K (S.op.length + 1)) := by
  cases hop : S.op with
  | nil =>
    have hK0 := hz hop
    have only : ∀ k, k < S.K + 1 → k = S.K := fun k hk => by omega
    refine ⟨fun k hk => ?_, fun u hu _ j hj => ?_, fun u hu h => ?_, fun k u hk hu h => ?_, fun k hk h => ?_, fun u hu _ j hj => ?_, fun u j hu h => ?_, fun k hk _ => ?_⟩
    · rw [only k hk, va_s, va_s]; exact Or.inl ⟨rfl, rfl, hK0⟩
    · rw [only j hj, va_s]; exact fun z => nI_m1 (by omega) z.symm
    · rw [only u hu, va_s] at h; exact absurd rfl h
    · rw [only k hk, va_s] at h; exact absurd h.symm (nI_m1 (by omega))
    · rw [only k hk, va_s] at h; exact absurd rfl h
    · rw [only j hj, va_s]; exact fun z => nI_m1 (by omega) z.symm
    · intro hj
      rw [only u hu, va_s] at h; exact absurd h.symm (nI_m1 hj)
    · rw [only k hk, va_s]
  | cons u0 os =>
    have ho := hI.opn
    rw [hop] at ho
    obtain ⟨hu0, hel0, _, hdp0, _, _⟩ := ho
    have hne0 : ¬ u0 = S.K := by omega
    have upo : ∀ j, j < S.K → va_up S.up S.K (nI u0) j = S.up j := fun j hj => va_n (by omega)
    have upn : va_up S.up S.K (nI u0) S.K = nI u0 := va_s
    have inj : ∀ a b : Nat, a < S.K + 1 → b < S.K + 1 → nI a = nI b → a = b := fun a b ha hb h => (nI_eq (by omega) (by omega)).mp h
    show Lk S (S.K + 1) (va_up S.el S.K e) (va_up S.up S.K (nI u0)) _ _ _ _
    rw [fs1_cons hop, nx1_cons hop, ls1_cons hop]
    -- all children of u0 end at its last
    refine ⟨fun k hk => ?_, fun u hu h j hj => ?_, fun u hu h => ?_, fun k u hk hu hku h j hj hjK => ?_, fun k hk h => ?_, fun u hu h j hj => ?_, fun u j hu h hj31 => ?_, fun k hk h => ?_⟩
    · by_cases e1 : k = S.K
      · subst e1
        rw [upn, va_s]
        exact Or.inr ⟨u0, hu0, rfl, by rw [va_n hne0, hdp0]; rfl, by rw [va_n hne0]; exact hel0⟩
      · rw [upo k (by omega), va_n e1]
        rcases hT.up k (by omega) with h | ⟨u, h1, h2, h3, h4⟩
        · exact Or.inl h
        · have : ¬ u = S.K := by omega
          exact Or.inr ⟨u, h1, h2, by rw [va_n this]; exact h3, by rw [va_n this]; exact h4⟩
    · by_cases e1 : u = S.K
      · -- nobody is in the new one
        subst e1
        by_cases e2 : j = S.K
        · subst e2; rw [upn]; exact fun z => hne0 (inj _ _ (by omega) (by omega) z)
        · rw [upo j (by omega)]
          rcases hT.up j (by omega) with h | ⟨v, h1, h2, _, _⟩
          · rw [h.1]; exact fun z => nI_m1 (by omega) z.symm
          · rw [h2]; exact fun z => by have := inj _ _ (by omega) (by omega) z; omega
      · rw [va_n e1] at h
        have hfu : S.fs u = -1 ∧ ¬ u = u0 := by
          by_cases hl : S.ls u0 = -1
          · rw [if_pos hl] at h
            by_cases e3 : u = u0
            · rw [e3, va_s] at h; exact absurd h (nI_m1 (by omega))
            · rw [va_n e3] at h; exact ⟨h, e3⟩
          · rw [if_neg hl] at h
            refine ⟨h, fun e3 => ?_⟩
            rw [e3] at h
            rcases hI.ls u0 hu0 with z | ⟨j2, hj2, z⟩
            · exact hl z
            · exact hT.fs0 u0 hu0 h j2 hj2 (hT.ls1 u0 j2 hu0 z (by omega)).2.1
        by_cases e2 : j = S.K
        · subst e2; rw [upn]; exact fun z => hfu.2 (inj _ _ (by omega) (by omega) z).symm
        · rw [upo j (by omega)]; exact hT.fs0 u (by omega) hfu.1 j (by omega)
    · have e1 : ¬ u = S.K := fun e1 => by rw [e1, va_s] at h; exact h rfl
      rw [va_n e1] at h ⊢
      by_cases hl : S.ls u0 = -1
      · rw [if_pos hl] at h ⊢
        by_cases e3 : u = u0
        · subst e3
          refine ⟨S.K, by omega, va_s, upn, fun i hi => ?_⟩
          rw [upo i hi]; exact hT.ls0 u hu0 hl i hi
        · rw [va_n e3] at h ⊢
          obtain ⟨j, h1, h2, h3, h4⟩ := hT.fs1 u (by omega) h
          exact ⟨j, by omega, h2, by rw [upo j h1]; exact h3, fun i hi => by rw [upo i (by omega)]; exact h4 i hi⟩
      · rw [if_neg hl] at h ⊢
        obtain ⟨j, h1, h2, h3, h4⟩ := hT.fs1 u (by omega) h
        exact ⟨j, by omega, h2, by rw [upo j h1]; exact h3, fun i hi => by rw [upo i (by omega)]; exact h4 i hi⟩
    · have e1 : ¬ k = S.K := by omega
      rw [upo k (by omega)] at hku
      rw [va_n e1] at h
      have huK : u < S.K := by
        rcases hT.up k (by omega) with q | ⟨v, q1, q2, _⟩
        · rw [q.1] at hku; exact absurd hku.symm (nI_m1 (by omega))
        · rw [q2] at hku
          have := inj _ _ (by omega) hu hku
          omega
      have hold : S.nx k = -1 ∧ ¬ u = u0 := by
        by_cases hl : S.ls u0 = -1
        · rw [if_pos hl] at h
          refine ⟨h, fun e3 => ?_⟩
          rw [e3] at hku
          exact hT.ls0 u0 hu0 hl k (by omega) hku
        · rw [if_neg hl] at h
          rcases hI.ls u0 hu0 with z | ⟨j2, hj2, z⟩
          · exact absurd z hl
          · rw [z, nI_clamp (by omega)] at h
            by_cases e4 : k = j2
            · rw [e4, va_s] at h; exact absurd h (nI_m1 (by omega))
            · rw [va_n e4] at h
              refine ⟨h, fun e3 => ?_⟩
              rw [e3] at hku
              obtain ⟨_, l1, l2⟩ := hT.ls1 u0 j2 hu0 z (by omega)
              rcases Nat.lt_or_gt_of_ne e4 with q | q
              · exact hT.nx0 k u0 (by omega) hu0 hku h j2 q hj2 l1
              · exact l2 k q (by omega) hku
      by_cases e2 : j = S.K
      · subst e2; rw [upn]
        intro z
        exact hold.2 (inj _ _ (by omega) (by omega) z).symm
      · rw [upo j (by omega)]; exact hT.nx0 k u (by omega) huK hku hold.1 j hj (by omega)
    · have e1 : ¬ k = S.K := fun e1 => by rw [e1, va_s] at h; exact h rfl
      rw [va_n e1] at h ⊢
      have old : ¬ S.nx k = -1 → ∃ j u, k < j ∧ j < S.K + 1 ∧ u < S.K + 1 ∧ S.nx k = nI j ∧ va_up S.up S.K (nI u0) k = nI u ∧ va_up S.up S.K (nI u0) j = nI u ∧ ∀ i, k < i → i < j → ¬ va_up S.up S.K (nI u0) i = nI u := fun hh => by
        obtain ⟨j, u, h1, h2, hu, h3, h4, h5, h6⟩ := hT.nx1 k (by omega) hh
        exact ⟨j, u, h1, by omega, by omega, h3, by rw [upo k (by omega)]; exact h4, by rw [upo j h2]; exact h5, fun i a b => by rw [upo i (by omega)]; exact h6 i a b⟩
      by_cases hl : S.ls u0 = -1
      · rw [if_pos hl] at h ⊢; exact old h
      · rw [if_neg hl] at h ⊢
        rcases hI.ls u0 hu0 with z | ⟨j2, hj2, z⟩
        · exact absurd z hl
        · rw [z, nI_clamp (by omega)] at h ⊢
          by_cases e4 : k = j2
          · subst e4
            obtain ⟨_, l1, l2⟩ := hT.ls1 u0 k hu0 z (by omega)
            exact ⟨S.K, u0, by omega, by omega, by omega, va_s, by rw [upo k hj2]; exact l1, upn, fun i a b => by rw [upo i b]; exact l2 i a b⟩
          · rw [va_n e4] at h ⊢; exact old h
    · by_cases e1 : u = S.K
      · subst e1
        by_cases e2 : j = S.K
        · subst e2; rw [upn]; exact fun z => hne0 (inj _ _ (by omega) (by omega) z)
        · rw [upo j (by omega)]
          rcases hT.up j (by omega) with h | ⟨v, h1, h2, _, _⟩
          · rw [h.1]; exact fun z => nI_m1 (by omega) z.symm
          · rw [h2]; exact fun z => by have := inj _ _ (by omega) (by omega) z; omega
      · rw [va_n e1] at h
        by_cases e3 : u = u0
        · rw [e3, va_s] at h; exact absurd h (nI_m1 (by omega))
        · rw [va_n e3] at h
          by_cases e2 : j = S.K
          · subst e2; rw [upn]; exact fun z => e3 (inj _ _ (by omega) (by omega) z).symm
          · rw [upo j (by omega)]; exact hT.ls0 u (by omega) h j (by omega)
    · have e1 : ¬ u = S.K := fun e1 => by rw [e1, va_s] at h; exact nI_m1 hj31 h.symm
      rw [va_n e1] at h
      by_cases e3 : u = u0
      · rw [e3, va_s] at h
        have hjK : S.K = j := (nI_eq (by omega) hj31).mp h
        subst hjK
        exact ⟨by omega, by rw [upn, e3], fun i a b => by omega⟩
      · rw [va_n e3] at h
        obtain ⟨h1, h2, h3⟩ := hT.ls1 u j (by omega) h hj31
        refine ⟨by omega, by rw [upo j h1]; exact h2, fun i a b => ?_⟩
        by_cases e2 : i = S.K
        · subst e2; rw [upn]; exact fun z => e3 (inj _ _ (by omega) (by omega) z).symm
        · rw [upo i (by omega)]; exact h3 i a (by omega)
    · by_cases e1 : k = S.K
      · rw [e1, va_s]
      · rw [upo k (by omega)] at h
        rw [va_n e1]
        have hk0 := hT.r0 k (by omega) h
        by_cases hl : S.ls u0 = -1
        · rw [if_pos hl]; exact hk0
        · rw [if_neg hl]
          rcases hI.ls u0 hu0 with z | ⟨j2, hj2, z⟩
          · exact absurd z hl
          · rw [z, nI_clamp (by omega)]
            by_cases e4 : k = j2
            · subst e4
              have := (hT.ls1 u0 k hu0 z (by omega)).2.1
              rw [h] at this; exact absurd this.symm (nI_m1 (by omega))
            · rw [va_n e4]; exact hk0
end TR
