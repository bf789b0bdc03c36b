/-! What the leaves answer, as functions. -/
theorem i_nn {x : Int32} (h : ¬ x < 0) : ∃ j : Nat, j < 2 ^ 31 ∧ x = nI j := nI_of h
theorem i_lt {x : Int32} {n : Nat} (hn : n < 2 ^ 31) (h0 : ¬ x < 0) (h : ¬ nI n ≤ x) : ∃ j : Nat, j < n ∧ x = nI j := by
  obtain ⟨j, hj, rfl⟩ := nI_of h0
  exact ⟨j, by rw [nI_leI hn hj] at h; omega, rfl⟩
def sGet (σ : StS) (i : Int32) : Int32 := if i < 0 then -1 else if σ.1 ≤ i then -1 else σ.2 i.toNatClampNeg
def sAdd (N : Nat) (σ : StS) (x : Int32) : StS := if nI N ≤ σ.1 then σ else (σ.1 + 1, upd σ.2 σ.1.toNatClampNeg x)
def sClr (σ : StS) : StS := (0, σ.2)
/-- at most N stand there -/
def sOk (N : Nat) (σ : StS) : Prop := ∃ n : Nat, n ≤ N ∧ σ.1 = nI n
def tGet (wn : Nat) (σ : StS) (r c : Int32) : Int32 := if r < 0 then -1 else if σ.1 ≤ r then -1 else if c < 0 then -1 else if nI wn ≤ c then -1 else σ.2 (r.toNatClampNeg * wn + c.toNatClampNeg)
def tSet (wn : Nat) (σ : StS) (r c v : Int32) : StS := if r < 0 then σ else if σ.1 ≤ r then σ else if c < 0 then σ else if nI wn ≤ c then σ else (σ.1, upd σ.2 (r.toNatClampNeg * wn + c.toNatClampNeg) v)
def tAdd (most wn : Nat) (σ : StS) : StS := if σ.1 < nI most then (σ.1 + 1, fun j => if σ.1.toNatClampNeg * wn ≤ j ∧ j < (σ.1.toNatClampNeg + 1) * wn then -1 else σ.2 j) else σ
def tAddR (most : Nat) (σ : StS) : Int32 := if σ.1 < nI most then σ.1 else -1
theorem sOk_add {N : Nat} (hN : N < 2 ^ 31) {σ : StS} (h : sOk N σ) (x : Int32) : sOk N (sAdd N σ x) := by
  obtain ⟨n, hn, e⟩ := h
  unfold sAdd
  split
  · exact ⟨n, hn, e⟩
  · rename_i h1
    rw [e, nI_leI hN (by omega)] at h1
    exact ⟨n + 1, by omega, by show σ.1 + 1 = _; rw [e, nI_1]⟩
theorem sOk_clr {N : Nat} (σ : StS) : sOk N (sClr σ) := ⟨0, Nat.zero_le _, nI_0.symm⟩
theorem sOk_set {N wn : Nat} {σ : StS} (h : sOk N σ) (r c v : Int32) : sOk N (tSet wn σ r c v) := by
  unfold tSet
  repeat' split
  all_goals exact h
theorem sOk_tAdd {N wn : Nat} (hN : N < 2 ^ 31) {σ : StS} (h : sOk N σ) : sOk N (tAdd N wn σ) := by
  obtain ⟨n, hn, e⟩ := h
  unfold tAdd
  split
  · rename_i h1
    rw [e, nI_ltI (by omega) hN] at h1
    exact ⟨n + 1, by omega, by show σ.1 + 1 = _; rw [e, nI_1]⟩
  · exact ⟨n, hn, e⟩
theorem l_Strip_get {N : Nat} (hN : N < 2 ^ 31) {σ : StS} (h : sOk N σ) (i : Int32) : w_Strip_get N σ i (fun r => r = sGet σ i) := by
  obtain ⟨n, hn, e⟩ := h
  unfold w_Strip_get sGet
  refine br_c (fun h1 => (if_pos h1).symm) (fun h1 => ?_)
  rw [if_neg h1]
  refine br_c (fun h2 => (if_pos h2).symm) (fun h2 => ?_)
  rw [if_neg h2]
  rw [e] at h2
  obtain ⟨j, hj, rfl⟩ := i_lt (by omega) h1 h2
  exact br_f (nI_ge (by omega) hN) ⟨vp_in_nI (by omega) hN, rfl⟩
theorem l_Strip_add {N : Nat} (hN : N < 2 ^ 31) {σ : StS} (h : sOk N σ) (x : Int32) : w_Strip_add N σ x (fun u => u = sAdd N σ x) := by
  obtain ⟨n, hn, e⟩ := h
  unfold w_Strip_add sAdd
  rw [e]
  refine br_f (nI_pos (by omega)) (br_c (fun h2 => (if_pos h2).symm) (fun h2 => ?_))
  rw [if_neg h2]
  rw [nI_leI hN (by omega)] at h2
  refine ⟨vp_in_nI (by omega) hN, fun _ e1 _ e2 => ?_⟩
  subst e1; subst e2
  rfl
theorem l_Table_get {N wn : Nat} (hN : N * wn < 2 ^ 31) (hw : 0 < wn) (hM : N < 2 ^ 31) (hv : wn < 2 ^ 31) {σ : StS} (h : sOk N σ) (r c : Int32) : w_Table_get (nI wn) (N * wn) σ r c (fun z => z = tGet wn σ r c) := by
  obtain ⟨n, hn, e⟩ := h
  unfold w_Table_get tGet
  refine br_c (fun h1 => (if_pos h1).symm) (fun h1 => ?_)
  rw [if_neg h1]
  refine br_c (fun h2 => (if_pos h2).symm) (fun h2 => ?_)
  rw [if_neg h2]
  refine br_c (fun h3 => (if_pos h3).symm) (fun h3 => ?_)
  rw [if_neg h3]
  rw [e] at h2
  obtain ⟨j, hj, rfl⟩ := i_lt (by omega) h1 h2
  obtain ⟨q, hq, rfl⟩ := i_nn h3
  rw [nI_clamp (by omega), nI_clamp hq]
  refine br_c (fun h4 => ?_) (fun h4 => ?_)
  · rw [nI_ltI hq hv] at h4
    rw [if_neg (by rw [nI_leI hv hq]; omega), pk_mul, nI_add]
    have hb : j * wn + q < N * wn := by
      have h9 : (j + 1) * wn ≤ N * wn := Nat.mul_le_mul_right _ (by omega)
      rw [Nat.add_mul, Nat.one_mul] at h9
      omega
    exact br_f (nI_ge hb hN) ⟨vp_in_nI hb hN, by rw [nI_clamp (by omega)]⟩
  · rw [nI_ltI hq hv] at h4
    rw [if_pos (by rw [nI_leI hv hq]; omega)]
theorem l_Table_set {N wn : Nat} (hN : N * wn < 2 ^ 31) (hw : 0 < wn) (hM : N < 2 ^ 31) (hv : wn < 2 ^ 31) {σ : StS} (h : sOk N σ) (r c v : Int32) : w_Table_set (nI wn) (N * wn) σ r c v (fun z => z = tSet wn σ r c v) := by
  obtain ⟨n, hn, e⟩ := h
  unfold w_Table_set tSet
  refine br_c (fun h1 => (if_pos h1).symm) (fun h1 => ?_)
  rw [if_neg h1]
  refine br_c (fun h2 => (if_pos h2).symm) (fun h2 => ?_)
  rw [if_neg h2]
  refine br_c (fun h3 => (if_pos h3).symm) (fun h3 => ?_)
  rw [if_neg h3]
  rw [e] at h2
  obtain ⟨j, hj, rfl⟩ := i_lt (by omega) h1 h2
  obtain ⟨q, hq, rfl⟩ := i_nn h3
  rw [nI_clamp (by omega), nI_clamp hq]
  refine br_c (fun h4 => ?_) (fun h4 => ?_)
  · rw [nI_ltI hq hv] at h4
    rw [if_neg (by rw [nI_leI hv hq]; omega), pk_mul, nI_add]
    have hb : j * wn + q < N * wn := by
      have h9 : (j + 1) * wn ≤ N * wn := Nat.mul_le_mul_right _ (by omega)
      rw [Nat.add_mul, Nat.one_mul] at h9
      omega
    exact br_f (nI_ge hb hN) ⟨vp_in_nI hb hN, fun _ e1 => by rw [e1, nI_clamp (by omega)]⟩
  · rw [nI_ltI hq hv] at h4
    rw [if_pos (by rw [nI_leI hv hq]; omega)]
theorem l_Table_addRow_loop {N wn : Nat} (hN : (N + 1) * wn < 2 ^ 31) (n : Nat) (hn : n < N) {post : Int32 → StS → Prop} (f : Nat → Int32) (hp : post (nI n) (nI (n + 1), fun j => if n * wn ≤ j ∧ j < (n + 1) * wn then -1 else f j)) :
    ∀ (d k : Nat) (g : Nat → Int32), k ≤ wn → d = wn - k → (∀ j, g j = if n * wn ≤ j ∧ j < n * wn + k then -1 else f j) → w_Table_addRow_L35 (nI N) (nI wn) (N * wn) (nI ((n + 1) * wn)) post (d + 1) (nI (n * wn + k)) (nI n, g) := by
  have e1 : (n + 1) * wn = n * wn + wn := by rw [Nat.add_mul, Nat.one_mul]
  have e2 : (n + 1) * wn ≤ N * wn := Nat.mul_le_mul_right _ (by omega)
  have e3 : (N + 1) * wn = N * wn + wn := by rw [Nat.add_mul, Nat.one_mul]
  intro d
  induction d with
  | zero =>
    intro k g hk hd hg
    unfold w_Table_addRow_L35
    have hk2 : k = wn := by omega
    subst hk2
    refine br_f (nI_pos (by omega)) (br_t (nI_le (by omega) (by omega)) ?_)
    unfold w_Table_addRow_J66
    intro z ez
    subst ez
    show post ((nI n + 1) - 1) (nI n + 1, g)
    rw [nI_1, nI_pred, show g = fun j => if n * k ≤ j ∧ j < (n + 1) * k then -1 else f j from funext fun j => by rw [hg j, e1]]
    exact hp
  | succ d ih =>
    intro k g hk hd hg
    unfold w_Table_addRow_L35
    refine br_f (nI_pos (by omega)) (br_f (nI_ge (by omega) (by omega)) (br_f (nI_ge (by omega) (by omega)) ⟨vp_in_nI (by omega) (by omega), ?_⟩))
    intro z ez
    subst ez
    rw [nI_1, nI_clamp (by omega)]
    refine ih (k + 1) _ (by omega) (by omega) (fun j => ?_)
    show upd g (n * wn + k) (-1) j = _
    unfold upd
    by_cases h1 : j = n * wn + k
    · rw [if_pos h1, if_pos (by omega)]
    · rw [if_neg h1, hg j]
      by_cases h2 : n * wn ≤ j ∧ j < n * wn + k
      · rw [if_pos h2, if_pos (by omega)]
      · rw [if_neg h2, if_neg (by omega)]
theorem l_Table_addRow {N wn : Nat} (hN : (N + 1) * wn < 2 ^ 31) (hM : N < 2 ^ 31) {σ : StS} (h : sOk N σ) : w_Table_addRow (nI N) (nI wn) (N * wn) σ (fun r u => r = tAddR N σ ∧ u = tAdd N wn σ) := by
  obtain ⟨n, hn, e⟩ := h
  obtain ⟨c, f⟩ := σ
  dsimp only at e
  subst e
  unfold w_Table_addRow tAddR tAdd
  dsimp only
  refine br_c (fun h1 => ?_) (fun h1 => by rw [if_neg h1, if_neg h1]; exact ⟨rfl, rfl⟩)
  rw [if_pos h1, if_pos h1, nI_clamp (by omega)]
  rw [nI_ltI (by omega) hM] at h1
  rw [nI_1, pk_mul, pk_mul]
  refine ⟨wn + 1, ?_⟩
  have := l_Table_addRow_loop (N := N) (wn := wn) hN n h1 (post := fun r u => r = nI n ∧ u = (nI (n + 1), fun j => if n * wn ≤ j ∧ j < (n + 1) * wn then -1 else f j)) f ⟨rfl, rfl⟩ wn 0 f (Nat.zero_le _) (by omega) (fun j => by rw [if_neg (by omega)])
  exact this
/-- what always holds of the class's tables: they hold no more than they can -/
def inv (σ : PPS) : Prop := sOk 900 (pNd σ) ∧ sOk 800 (pAt σ) ∧ sOk 4000 (pTp σ) ∧ sOk 24000 (pSh σ) ∧ sOk 4000 (pLe σ)
theorem inv.Nd {σ : PPS} (h : inv σ) : sOk 900 (pNd σ) := h.1
theorem inv.At {σ : PPS} (h : inv σ) : sOk 800 (pAt σ) := h.2.1
theorem inv.Tp {σ : PPS} (h : inv σ) : sOk 4000 (pTp σ) := h.2.2.1
theorem inv.Sh {σ : PPS} (h : inv σ) : sOk 24000 (pSh σ) := h.2.2.2.1
theorem inv.Le {σ : PPS} (h : inv σ) : sOk 4000 (pLe σ) := h.2.2.2.2
theorem inv.sNd {σ : PPS} (h : inv σ) {v : StS} (hv : sOk 900 v) : inv (sNd σ v) := ⟨hv, h.2.1, h.2.2.1, h.2.2.2.1, h.2.2.2.2⟩
theorem inv.sAt {σ : PPS} (h : inv σ) {v : StS} (hv : sOk 800 v) : inv (sAt σ v) := ⟨h.1, hv, h.2.2.1, h.2.2.2.1, h.2.2.2.2⟩
theorem inv.sTp {σ : PPS} (h : inv σ) {v : StS} (hv : sOk 4000 v) : inv (sTp σ v) := ⟨h.1, h.2.1, hv, h.2.2.2.1, h.2.2.2.2⟩
theorem inv.sSh {σ : PPS} (h : inv σ) {v : StS} (hv : sOk 24000 v) : inv (sSh σ v) := ⟨h.1, h.2.1, h.2.2.1, hv, h.2.2.2.2⟩
theorem inv.sLe {σ : PPS} (h : inv σ) {v : StS} (hv : sOk 4000 v) : inv (sLe σ v) := ⟨h.1, h.2.1, h.2.2.1, h.2.2.2.1, hv⟩
theorem lNd_get {σ : PPS} (h : inv σ) (r c : Int32) : w_Table_get 14 12600 (pNd σ) r c (fun z => z = tGet 14 (pNd σ) r c) := l_Table_get (N := 900) (wn := 14) (by decide) (by decide) (by decide) (by decide) h.Nd r c
theorem lAt_get {σ : PPS} (h : inv σ) (r c : Int32) : w_Table_get 5 4000 (pAt σ) r c (fun z => z = tGet 5 (pAt σ) r c) := l_Table_get (N := 800) (wn := 5) (by decide) (by decide) (by decide) (by decide) h.At r c
theorem lNd_set {σ : PPS} (h : inv σ) (r c v : Int32) : w_Table_set 14 12600 (pNd σ) r c v (fun z => z = tSet 14 (pNd σ) r c v) := l_Table_set (N := 900) (wn := 14) (by decide) (by decide) (by decide) (by decide) h.Nd r c v
theorem lAt_set {σ : PPS} (h : inv σ) (r c v : Int32) : w_Table_set 5 4000 (pAt σ) r c v (fun z => z = tSet 5 (pAt σ) r c v) := l_Table_set (N := 800) (wn := 5) (by decide) (by decide) (by decide) (by decide) h.At r c v
theorem lNd_add {σ : PPS} (h : inv σ) : w_Table_addRow 900 14 12600 (pNd σ) (fun r u => r = tAddR 900 (pNd σ) ∧ u = tAdd 900 14 (pNd σ)) := l_Table_addRow (N := 900) (wn := 14) (by decide) (by decide) h.Nd
theorem lAt_add {σ : PPS} (h : inv σ) : w_Table_addRow 800 5 4000 (pAt σ) (fun r u => r = tAddR 800 (pAt σ) ∧ u = tAdd 800 5 (pAt σ)) := l_Table_addRow (N := 800) (wn := 5) (by decide) (by decide) h.At
