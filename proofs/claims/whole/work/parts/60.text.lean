/-! PURE: a branch, the text, its runs of signs, its characters. -/
theorem fa_eq {α : Type} {v : α} {P : α → Prop} (h : P v) : ∀ x : α, x = v → P x := fun _ e => e ▸ h
theorem bl_t {b : Bool} {A B : Prop} (h : b = true) (a : B) : (b2i b = 0 → A) ∧ (¬ b2i b = 0 → B) := br_f (b2i_n0.mpr h) a
theorem bl_f {b : Bool} {A B : Prop} (h : b = false) (a : A) : (b2i b = 0 → A) ∧ (¬ b2i b = 0 → B) := br_t (b2i_0.mpr h) a
/-- the byte at a place of a text of n bytes; -1 behind its end -/
def xx (t : Nat → Int32) (n k : Nat) : Int32 := if k < n then t k else -1
theorem xx_in {t : Nat → Int32} {n k : Nat} (h : k < n) : xx t n k = t k := if_pos h
theorem xx_out {t : Nat → Int32} {n k : Nat} (h : n ≤ k) : xx t n k = -1 := if_neg (Nat.not_lt.mpr h)
theorem xx_lt {t : Nat → Int32} {n k : Nat} (h : ¬ xx t n k = -1) : k < n := by
  by_cases h2 : k < n
  · exact h2
  · exact absurd (xx_out (Nat.not_lt.mp h2)) h
theorem sG {σ : StS} {n k : Nat} (hs : σ.1 = nI n) (hn : n < 2 ^ 31) (hk : k < 2 ^ 31) : sGet σ (nI k) = xx σ.2 n k := by
  unfold sGet xx
  rw [if_neg (nI_pos hk), hs, nI_clamp hk]
  by_cases h : k < n
  · rw [if_neg (nI_ge h hn), if_pos h]
  · rw [if_pos (nI_le (Nat.not_lt.mp h) hk), if_neg h]
theorem sG_neg {σ : StS} {x : Int32} (h : x < 0) : sGet σ x = -1 := if_pos h
/-- a run of signs from k on: e is the first place whose sign isn't one -/
def Runs (q : Int32 → Bool) (t : Nat → Int32) (n k e : Nat) : Prop := k ≤ e ∧ (∀ j, k ≤ j → j < e → q (xx t n j) = true) ∧ q (xx t n e) = false
theorem Runs.ex {q : Int32 → Bool} (hq : q (-1) = false) (t : Nat → Int32) (n k : Nat) : ∃ e, Runs q t n k e := by
  have key : ∀ m k, n - k = m → ∃ e, Runs q t n k e := by
    intro m
    induction m with
    | zero => intro k h; exact ⟨k, Nat.le_refl k, fun j a b => absurd b (Nat.not_lt.mpr a), by rw [xx_out (by omega)]; exact hq⟩
    | succ m ih =>
      intro k h
      by_cases hk : q (xx t n k) = true
      · obtain ⟨e, h1, h2, h3⟩ := ih (k + 1) (by omega)
        refine ⟨e, by omega, fun j a b => ?_, h3⟩
        by_cases hj : j = k
        · rw [hj]; exact hk
        · exact h2 j (by omega) b
      · exact ⟨k, Nat.le_refl k, fun j a b => absurd b (Nat.not_lt.mpr a), Bool.eq_false_iff.mpr hk⟩
  exact key _ k rfl
theorem Runs.uniq {q : Int32 → Bool} {t : Nat → Int32} {n k e e' : Nat} (h : Runs q t n k e) (h' : Runs q t n k e') : e = e' := by
  rcases Nat.lt_trichotomy e e' with a | a | a
  · exact absurd (h'.2.1 e h.1 a) (by rw [h.2.2]; decide)
  · exact a
  · exact absurd (h.2.1 e' h'.1 a) (by rw [h'.2.2]; decide)
theorem Runs.le {q : Int32 → Bool} (hq : q (-1) = false) {t : Nat → Int32} {n k e : Nat} (h : Runs q t n k e) (hk : k ≤ n) : e ≤ n := by
  by_cases a : k < e
  · have := h.2.1 (e - 1) (by omega) (by omega)
    have h2 : ¬ xx t n (e - 1) = -1 := fun z => by rw [z, hq] at this; cases this
    have := xx_lt h2
    omega
  · have := h.1; omega
theorem cWh_m : cWh (-1) = false := by decide +kernel
theorem cGn_m : cGn (-1) = false := by decide +kernel
theorem cBn_m : cBn (-1) = false := by decide +kernel
theorem cDg_m : cDg (-1) = false := by decide +kernel
theorem q_lt {q : Int32 → Bool} (hq : q (-1) = false) {t : Nat → Int32} {n k : Nat} (h : q (xx t n k) = true) : k < n := xx_lt (fun z => by rw [z, hq] at h; cases h)
/-- the texts are of bytes -/
def Byt (t : Nat → Int32) (n : Nat) : Prop := ∀ k, k < n → ∃ b : Nat, b < 256 ∧ t k = nI b
theorem Byt.xx {t : Nat → Int32} {n : Nat} (h : Byt t n) {k : Nat} (hk : k < n) : ∃ b : Nat, b < 256 ∧ xx t n k = nI b := by rw [xx_in hk]; exact h k hk
/-- how many bytes a character's UTF-8 has -/
def cByN (c : Int32) : Nat := if c < 128 then 1 else if c < 2048 then 2 else if c < 65536 then 3 else 4
theorem cBy_N (c : Int32) : cBy c = nI (cByN c) := by
  unfold cBy cByN
  by_cases h1 : c < 128
  · rw [if_pos h1, if_pos h1]; rfl
  rw [if_neg h1, if_neg h1]
  by_cases h2 : c < 2048
  · rw [if_pos h2, if_pos h2]; rfl
  rw [if_neg h2, if_neg h2]
  by_cases h3 : c < 65536
  · rw [if_pos h3, if_pos h3]; rfl
  rw [if_neg h3, if_neg h3]; rfl
theorem cByN_le (c : Int32) : 1 ≤ cByN c ∧ cByN c ≤ 4 := by
  unfold cByN
  split
  · decide
  split
  · decide
  split <;> decide
/-- the bytes behind the first of a character -/
def u8r (t : Nat → Int32) (n : Nat) : Nat → Nat → Int32 → Option Int32
  | 0, _, c => some c
  | m + 1, p, c => if (xx t n p &&& 192) = 128 then u8r t n m (p + 1) ((c <<< (6 &&& 31)) ||| (xx t n p &&& 63)) else none
def u8f (w : Nat) : Option Int32 → Int32
  | none => -1
  | some c => if cCh c = true ∧ cBy c = nI w then c else -1
def u8w (b : Int32) : Nat := if 224 ≤ b then (if 240 ≤ b then 4 else 3) else 2
/-- the character whose UTF-8 begins at a place; -1 if none does -/
def u8 (t : Nat → Int32) (n k : Nat) : Int32 :=
  if 128 ≤ xx t n k then (if xx t n k < 192 then -1 else if xx t n k < 248 then u8f (u8w (xx t n k)) (u8r t n (u8w (xx t n k) - 1) (k + 1) (xx t n k &&& (127 >>> (nI (u8w (xx t n k)) &&& 31)))) else -1) else xx t n k
def cOk (c : Int32) : Bool := cCh c && !cFb c
/-- digits up to a ; -/
def num (t : Nat → Int32) (n : Nat) (hex : Int32) : Nat → Nat → Nat → Int32 → Option (Int32 × Nat)
  | 0, _, _, _ => none
  | f + 1, d, p, c => if cDv (xx t n p) hex = -1 then (if 0 < d ∧ xx t n p = 59 then some (c, p + 1) else none) else num t n hex f (d + 1) (p + 1) (c * (if hex = 0 then 10 else 16) + cDv (xx t n p) hex)
def hexq (t : Nat → Int32) (n k : Nat) : Int32 := if xx t n (k + 2) = 120 ∨ xx t n (k + 2) = 88 then 1 else 0
/-- a constant text stands at a place -/
def stAt (t : Nat → Int32) (n k x : Nat) : Bool := decide (∀ i, i < tLn.getD x 0 → xx t n (k + i) = tCh x (nI i))
def chN (t : Nat → Int32) (n k : Nat) : Option (Int32 × Nat) :=
  match num t n (hexq t n k) (if hexq t n k = 0 then 8 else 7) 0 (k + if hexq t n k = 0 then 2 else 3) 0 with
  | some (c, p) => if cOk c = true then some (c, p) else none
  | none => none
def chA (t : Nat → Int32) (n k : Nat) : Option (Int32 × Nat) :=
  if stAt t n k 2 = true then some (38, k + 5) else if stAt t n k 3 = true then some (60, k + 4) else if stAt t n k 4 = true then some (62, k + 4) else if stAt t n k 5 = true then some (34, k + 6) else if stAt t n k 6 = true then some (39, k + 6) else none
/-- the character or reference at a place, and where it ends; none where there is no good one -/
def chf (t : Nat → Int32) (n k : Nat) : Option (Int32 × Nat) :=
  if xx t n k = 38 then (if xx t n (k + 1) = 35 then chN t n k else chA t n k)
  else if cOk (u8 t n k) = true then some (u8 t n k, k + cByN (u8 t n k)) else none
/-- characters one behind the other, none of them a stop, a < or the end -/
def Chars (t : Nat → Int32) (n : Nat) (s : Int32) : Nat → Nat → List Int32 → Prop
  | k, e, [] => k = e
  | k, e, c :: L => ¬ xx t n k = s ∧ ¬ xx t n k = 60 ∧ ¬ xx t n k = -1 ∧ ∃ k', chf t n k = some (c, k') ∧ Chars t n s k' e L
theorem Chars.nil {t : Nat → Int32} {n : Nat} {s : Int32} (k : Nat) : Chars t n s k k [] := rfl
theorem Chars.cons {t : Nat → Int32} {n : Nat} {s : Int32} {k k' e : Nat} {c : Int32} {L : List Int32} (h1 : ¬ xx t n k = s) (h2 : ¬ xx t n k = 60) (h3 : ¬ xx t n k = -1) (h4 : chf t n k = some (c, k')) (h5 : Chars t n s k' e L) : Chars t n s k e (c :: L) := ⟨h1, h2, h3, k', h4, h5⟩
