/-! Signs as functions: a Bool is told as 1 or 0. -/
def b2i (b : Bool) : Int32 := if b = true then 1 else 0
theorem b2i_t : b2i true = 1 := rfl
theorem b2i_f : b2i false = 0 := rfl
theorem b2i_0 {b : Bool} : b2i b = 0 ↔ b = false := by cases b <;> decide
theorem b2i_n0 {b : Bool} : ¬ b2i b = 0 ↔ b = true := by cases b <;> decide
theorem b2i_nar (b : Bool) : narrow .boolean (.int (b2i b)) = .int (b2i b) := by cases b <;> rfl
def cWh (x : Int32) : Bool := decide (x = 9) || decide (x = 10) || decide (x = 13) || decide (x = 32)
def cDg (x : Int32) : Bool := decide (48 ≤ x) && decide (x ≤ 57)
def cBn (x : Int32) : Bool := (decide (65 ≤ x) && decide (x ≤ 90)) || (decide (97 ≤ x) && decide (x ≤ 122)) || decide (x = 95)
def cGn (x : Int32) : Bool := cBn x || cDg x || decide (x = 45) || decide (x = 46) || decide (x = 58)
def cDv (x : Int32) (hex : Int32) : Int32 := if cDg x then x - 48 else if ¬ hex = 0 ∧ 65 ≤ x ∧ x ≤ 70 then x - 65 + 10 else if ¬ hex = 0 ∧ 97 ≤ x ∧ x ≤ 102 then x - 97 + 10 else -1
def cCh (x : Int32) : Bool := decide (0 ≤ x) && decide (x ≤ 1114111) && (decide (x < 55296) || decide (57343 < x))
def cFb (x : Int32) : Bool := (decide (x < 32) && !cWh x) || decide (x = 65534) || decide (x = 65535)
def cBy (x : Int32) : Int32 := if x < 128 then 1 else if x < 2048 then 2 else if x < 65536 then 3 else 4
theorem i_nlt {a b : Int32} : ¬ a < b ↔ b ≤ a := Int32.not_lt
theorem i_nle {a b : Int32} : ¬ a ≤ b ↔ b < a := Int32.not_le
theorem l_isWhite (x : Int32) : w_Signs_isWhite x (fun r => r = b2i (cWh x)) := by
  unfold w_Signs_isWhite w_Signs_isWhite_J24
  repeat' (refine br_c (fun _ => ?_) (fun _ => ?_))
  all_goals simp_all [cWh, b2i]
theorem l_isDigit (x : Int32) : w_Signs_isDigit x (fun r => r = b2i (cDg x)) := by
  unfold w_Signs_isDigit
  repeat' (refine br_c (fun _ => ?_) (fun _ => ?_))
  all_goals simp_all [cDg, b2i, Int32.not_lt, Int32.not_le]
  all_goals (simp only [Int32.le_iff_toInt_le, Int32.lt_iff_toInt_lt, Int32.reduceToInt] at *; omega)
theorem l_beginsName (x : Int32) : w_Signs_beginsName x (fun r => r = b2i (cBn x)) := by
  unfold w_Signs_beginsName w_Signs_beginsName_J12 w_Signs_beginsName_J24 w_Signs_beginsName_J30
  repeat' (refine br_c (fun _ => ?_) (fun _ => ?_))
  all_goals simp_all [cBn, b2i, Int32.not_lt, Int32.not_le]
  all_goals (simp only [Int32.le_iff_toInt_le, Int32.lt_iff_toInt_lt, Int32.reduceToInt] at *; omega)
theorem l_isCharacter (x : Int32) : w_Signs_isCharacter x (fun r => r = b2i (cCh x)) := by
  unfold w_Signs_isCharacter w_Signs_isCharacter_J22
  repeat' (refine br_c (fun _ => ?_) (fun _ => ?_))
  all_goals simp_all [cCh, b2i, Int32.not_lt, Int32.not_le]
  all_goals (simp only [Int32.le_iff_toInt_le, Int32.lt_iff_toInt_lt, Int32.reduceToInt] at *; omega)
theorem l_bytesOf (x : Int32) : w_Signs_bytesOf x (fun r => r = cBy x) := by
  unfold w_Signs_bytesOf cBy
  refine br_c (fun h1 => ?_) (fun h1 => by rw [if_pos (i_nle.mp h1)])
  rw [if_neg (i_nlt.mpr h1)]
  refine br_c (fun h2 => ?_) (fun h2 => by rw [if_pos (i_nle.mp h2)])
  rw [if_neg (i_nlt.mpr h2)]
  refine br_c (fun h3 => ?_) (fun h3 => by rw [if_pos (i_nle.mp h3)])
  rw [if_neg (i_nlt.mpr h3)]
