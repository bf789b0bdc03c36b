/-! PURE: the reference's text, and its characters. -/
/-- all but some ints are the same -/
def Df (L : List Nat) (τ τ' : MPS) : Prop := τ'.2 = τ.2 ∧ ∀ j, ¬ j ∈ L → τ'.1 j = τ.1 j
theorem Df.refl {L : List Nat} (τ : MPS) : Df L τ τ := ⟨rfl, fun _ _ => rfl⟩
theorem Df.trans {L : List Nat} {a b c : MPS} (h : Df L a b) (h2 : Df L b c) : Df L a c := ⟨h2.1.trans h.1, fun j hj => (h2.2 j hj).trans (h.2 j hj)⟩
theorem Df.mono {L L' : List Nat} {a b : MPS} (h : Df L a b) (hs : ∀ j, j ∈ L → j ∈ L') : Df L' a b := ⟨h.1, fun j hj => h.2 j (fun z => hj (hs j z))⟩
theorem Df.set {L : List Nat} (τ : MPS) {k : Nat} {v : Int32} (hk : k ∈ L) : Df L τ (va_up τ.1 k v, τ.2) := ⟨rfl, fun j hj => va_up_ne τ.1 v (fun z => hj (z ▸ hk))⟩
theorem Df.i {L : List Nat} {τ τ' : MPS} (h : Df L τ τ') (j : Nat) (hj : ¬ j ∈ L) : τ'.1 j = τ.1 j := h.2 j hj
/-- the reference's text is t -/
def MT (τ : MPS) (t : Nat → Int32) (n : Nat) : Prop := mp_size τ = nI n ∧ n ≤ 4000 ∧ ∀ k, k < n → ∃ b : Nat, b < 256 ∧ t k = nI b ∧ mp_text τ k = (nI b).toInt8.toInt32
theorem MT.df {L : List Nat} {τ τ' : MPS} {t : Nat → Int32} {n : Nat} (h : MT τ t n) (d : Df L τ τ') (h7 : ¬ 7 ∈ L) : MT τ' t n := by
  refine ⟨(d.i 7 h7).trans h.1, h.2.1, fun k hk => ?_⟩
  obtain ⟨b, h1, h2, h3⟩ := h.2.2 k hk
  refine ⟨b, h1, h2, ?_⟩
  rw [show mp_text τ' = mp_text τ from congrFun d.1 2]; exact h3
theorem MT.byt {τ : MPS} {t : Nat → Int32} {n : Nat} (h : MT τ t n) : Byt t n := fun k hk => by
  obtain ⟨b, h1, h2, _⟩ := h.2.2 k hk
  exact ⟨b, h1, h2⟩
theorem MT.x {τ : MPS} {t : Nat → Int32} {n : Nat} (h : MT τ t n) {k : Nat} (hk : k < 2 ^ 31) : mX τ (nI k) = xx t n k := by
  have hn := h.2.1
  unfold mX xx
  rw [h.1, nI_clamp hk]
  by_cases hkn : k < n
  · obtain ⟨b, h1, h2, h3⟩ := h.2.2 k hkn
    rw [if_neg (nI_ge hkn (by omega)), if_pos hkn, h3, h2]; exact sc_k8 b h1
  · rw [if_pos (nI_le (by omega) hk), if_neg hkn]
theorem MT.k {τ : MPS} {t : Nat → Int32} {n : Nat} (h : MT τ t n) {k : Nat} (hk : k < 2 ^ 31) : mXk τ (nI k) := fun hs => by
  have hn := h.2.1
  rw [h.1] at hs
  by_cases hkn : k < n
  · exact vp_in_nI (by omega) (by decide)
  · exact absurd (nI_le (by omega) hk) hs
theorem cNs_1 (x : Int32) : cNs x 1 = cBn x := by
  unfold cNs cBn cLt
  simp
theorem cNs_0 (x : Int32) : cNs x 0 = cGn x := by
  unfold cNs cGn cBn cLt
  simp [Bool.or_assoc]
theorem nI_or6 {a d : Nat} (ha : a * 64 < 2 ^ 31) (hd : d < 64) : (nI a <<< ((6 : Int32) &&& 31)) ||| nI d = nI (a * 64 + d) := by
  rw [pk_shlN (n := a) ((6 : Int32) &&& 31) 6 (by decide) (by omega)]
  apply Int32.toBitVec_inj.mp
  apply BitVec.eq_of_toNat_eq
  rw [Int32.toBitVec_or, BitVec.toNat_or, pk_tn (by omega), pk_tn (by omega), pk_tn (by omega)]
  have := Nat.shiftLeft_add_eq_or_of_lt (i := 6) (show d < 2 ^ 6 from hd) a
  rw [Nat.shiftLeft_eq] at this
  exact this.symm
section U8
variable {t : Nat → Int32} {n : Nat}
/-- the value of the bytes behind -/
theorem u8r_val : ∀ (m p v : Nat) (c : Int32), (v + 1) * 64 ^ m < 2 ^ 31 → u8r t n m p (nI v) = some c → ∃ w : Nat, c = nI w ∧ v * 64 ^ m ≤ w ∧ w < (v + 1) * 64 ^ m
  | 0, p, v, c, hv, h => by
    unfold u8r at h
    cases h
    exact ⟨v, rfl, by simp, by simp⟩
  | m + 1, p, v, c, hv, h => by
    unfold u8r at h
    by_cases hc : (xx t n p &&& 192) = 128
    · rw [if_pos hc] at h
      obtain ⟨d, hd, ed⟩ := pk_andE (xx t n p) (m := 63) 6 (by decide)
      have hd : d < 64 := hd
      have h64 : 0 < 64 ^ m := Nat.pow_pos (by decide)
      have e1 : (v + 1) * 64 ^ (m + 1) = (v * 64 + 64) * 64 ^ m := by rw [Nat.pow_succ, Nat.mul_comm (64 ^ m) 64, ← Nat.mul_assoc]; congr 1; omega
      have e2 : v * 64 ^ (m + 1) = (v * 64) * 64 ^ m := by rw [Nat.pow_succ, Nat.mul_comm (64 ^ m) 64, ← Nat.mul_assoc]
      have hle1 : (v * 64 + d + 1) * 64 ^ m ≤ (v * 64 + 64) * 64 ^ m := Nat.mul_le_mul_right _ (by omega)
      have hle2 : (v * 64) * 64 ^ m ≤ (v * 64 + d) * 64 ^ m := Nat.mul_le_mul_right _ (by omega)
      have hv64 : v * 64 + 64 ≤ (v * 64 + 64) * 64 ^ m := Nat.le_mul_of_pos_right _ h64
      rw [ed, nI_or6 (by omega) hd] at h
      obtain ⟨w, hw, h1, h2⟩ := u8r_val m (p + 1) (v * 64 + d) c (by omega) h
      exact ⟨w, hw, by omega, by omega⟩
    · rw [if_neg hc] at h; cases h
end U8
