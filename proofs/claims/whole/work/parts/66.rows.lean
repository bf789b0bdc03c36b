/-! PURE: how the class's tables hold what is read. -/
/-- a node's letters: its name's, or its text's -/
def lets (t : Nat → Int32) (n : Nat) (S : GS) (k : Nat) : List Int32 := if S.el k = true then seg t n (S.bg k + 1) (S.nl k) else S.cs k
def kdF (l : List Int32) : Nat → Int32
  | 0 => -1
  | m + 1 => if l = tx (kLa.getD m 0) then nI m else kdF l m
def kdOf (l : List Int32) : Int32 := kdF l 23
structure ARow (t : Nat → Int32) (n : Nat) (a : Nat → Nat → Int32) (ls : List Int32) (r : Nat) (B : Att) : Prop where
  c0 : a r 0 = nI B.nl
  c1 : a r 1 = nI B.cs.length
  c2 : a r 2 = nI B.na
  c3 : ∃ f, a r 3 = nI f ∧ Seg ls f (seg t n B.na B.nl)
  c4 : ∃ f, a r 4 = nI f ∧ Seg ls f B.cs
/-- the columns of a node that tell its attributes -/
structure NAtt (t : Nat → Int32) (n : Nat) (as : List Att) (g a : Nat → Nat → Int32) (ls : List Int32) (A k q : Nat) : Prop where
  c9 : g k 9 = nI q
  c4 : g k 4 = nI as.length
  le : q + as.length ≤ A
  row : ∀ j B, as[j]? = some B → ARow t n a ls (q + j) B
  id1 : ∀ j B, as[j]? = some B → seg t n B.na B.nl = tx 1 → g k 13 = nI (q + j)
  id0 : (∀ B ∈ as, ¬ seg t n B.na B.nl = tx 1) → g k 13 = -1
/-- the columns of a node but for letters, kind, attributes, end -/
structure NLnk (S : GS) (g : Nat → Nat → Int32) (k : Nat) : Prop where
  c0 : g k 0 = b2i (S.el k)
  c1 : g k 1 = S.up k
  c2 : g k 2 = nI (S.bg k)
  c5 : g k 5 = S.nx k
  c6 : g k 6 = S.fs k
  c7 : g k 7 = nI (S.dp k)
  c11 : g k 11 = S.ls k
structure NRow (t : Nat → Int32) (n : Nat) (S : GS) (g a : Nat → Nat → Int32) (ls : List Int32) (A k : Nat) : Prop where
  lnk : NLnk S g k
  c10 : g k 10 = S.pa k
  let_ : ∃ f, g k 8 = nI f ∧ g k 3 = nI (lets t n S k).length ∧ Seg ls f (lets t n S k)
  kind : g k 12 = if S.el k = true then kdOf (lets t n S k) else -1
  att : ∃ q, NAtt t n (S.as k) g a ls A k q
/-- the tables hold what is read -/
structure Bk (t : Nat → Int32) (n : Nat) (S : GS) (nd att le : StS) (g a : Nat → Nat → Int32) (ls : List Int32) (A : Nat) : Prop where
  nd : Tab 14 nd S.K g
  at_ : Tab 5 att A a
  le : Str le ls
  lle : ls.length ≤ S.at_
  ale : 5 * A ≤ S.at_
  row : ∀ k, k < S.K → NRow t n S g a ls A k
  cur : S.it = true → ∀ k os, S.op = k :: os → g k 9 = nI (A - (S.as k).length) ∧ (S.as k).length ≤ A
structure CR (t : Nat → Int32) (n : Nat) (S : GS) (σ : PPS) : Prop where
  tp : Tp σ t n
  ps : pPs σ = nI S.at_
  op : pOp σ = hd S.op
  wr : pWr σ = -1
  el : pEl σ = nI S.E
  it : ¬ S.op = [] → pIn σ = b2i S.it
  bk : ∃ g a ls A, Bk t n S (pNd σ) (pAt σ) (pLe σ) g a ls A
/-- the chain of the open elements -/
def Opn (S : GS) : List Nat → Prop
  | [] => True
  | u :: os => u < S.K ∧ S.el u = true ∧ S.up u = hd os ∧ S.dp u = os.length + 1 ∧ (∀ v ∈ os, v < u) ∧ Opn S os
/-- counts, and the chain -/
structure Inv (t : Nat → Int32) (n : Nat) (S : GS) : Prop where
  k : S.K = S.E + S.X
  e : S.E ≤ 300
  f : S.F + S.op.length ≤ S.E
  x : S.X ≤ S.E + S.F
  x1 : ¬ S.op = [] → (S.it = true ∨ (¬ xx t n S.at_ = 60 ∧ ¬ xx t n S.at_ = -1)) → S.X + 1 ≤ S.E + S.F
  opn : Opn S S.op
  o40 : S.op.length ≤ 40
  ls : ∀ r, r < S.K → S.ls r = -1 ∨ ∃ j, j < S.K ∧ S.ls r = nI j
  an : S.at_ ≤ n
  n4 : n ≤ 4000
theorem Inv.k900 {t : Nat → Int32} {n : Nat} {S : GS} (h : Inv t n S) : S.K ≤ 900 := by
  have := h.k; have := h.e; have := h.f; have := h.x; omega
theorem nI_m1 {k : Nat} (h : k < 2 ^ 31) : ¬ nI k = -1 := fun z => nI_pos h (by rw [z]; decide)
theorem hd_m1 {l : List Nat} (h : ∀ u ∈ l, u < 2 ^ 31) : hd l = -1 ↔ l = [] := by
  cases l with
  | nil => exact ⟨fun _ => rfl, fun _ => rfl⟩
  | cons u os => exact ⟨fun z => absurd z (nI_m1 (h u List.mem_cons_self)), fun z => by cases z⟩
theorem va_s {α : Type} {f : Nat → α} {k : Nat} {v : α} : va_up f k v k = v := va_up_self f k v
theorem va_n {α : Type} {f : Nat → α} {k j : Nat} {v : α} (h : ¬ j = k) : va_up f k v j = f j := va_up_ne f v h
/-- a cell of the nodes is written -/
theorem fa_set {P : PPS → Prop} {σ : PPS} {nd : StS} {K r c : Nat} {g : Nat → Nat → Int32} {y x v v0 : Int32} (hT : Tab 14 nd K g) (hK : K < 2 ^ 31) (hy : y = nI r) (hx : x = nI c) (hv : v = v0) (hr : r < K) (hc : c < 14) (h : ∀ nd', Tab 14 nd' K (g2 g r c v0) → P (sNd σ nd')) :
    ∀ σ', σ' = sNd (sNd σ nd) (tSet 14 (pNd (sNd σ nd)) y x v) → P σ' := by
  subst hy hv
  exact fa_eq (h _ (hT.set hK hx hr hc (by decide) v))
theorem fa_set0 {P : PPS → Prop} {σ : PPS} {nd : StS} {y x v : Int32} (hy : y = -1) (h : P (sNd σ nd)) : ∀ σ', σ' = sNd (sNd σ nd) (tSet 14 (pNd (sNd σ nd)) y x v) → P σ' := by
  subst hy
  refine fa_eq ?_
  rw [tSet_m1]; exact h
/-- a cell of the attributes is written -/
theorem fa_setA {P : PPS → Prop} {σ : PPS} {at_ : StS} {K r c : Nat} {g : Nat → Nat → Int32} {y x v v0 : Int32} (hT : Tab 5 at_ K g) (hK : K < 2 ^ 31) (hy : y = nI r) (hx : x = nI c) (hv : v = v0) (hr : r < K) (hc : c < 5) (h : ∀ at', Tab 5 at' K (g2 g r c v0) → P (sAt σ at')) :
    ∀ σ', σ' = sAt (sAt σ at_) (tSet 5 (pAt (sAt σ at_)) y x v) → P σ' := by
  subst hy hv
  exact fa_eq (h _ (hT.set hK hx hr hc (by decide) v))
section AN
variable {t : Nat → Int32} {n : Nat} {S : GS} {σ : PPS} {g a : Nat → Nat → Int32} {ls : List Int32} {A : Nat}
/-- a new node's columns -/
def newRow (e : Bool) (b : Nat) (S : GS) (l A : Nat) (g : Nat → Nat → Int32) : Prop :=
  NLnk (S.add e b 0 0 []) g S.K ∧ g S.K 4 = 0 ∧ g S.K 8 = nI l ∧ g S.K 9 = nI A ∧ g S.K 10 = -1 ∧ g S.K 12 = -1 ∧ g S.K 13 = -1
theorem k_addNode (e : Bool) {b nl en : Nat} {cs : List Int32} (hb : Bk t n S (pNd σ) (pAt σ) (pLe σ) g a ls A) (hI : Inv t n S) (hK : S.K < 900) {post : Int32 → PPS → Prop}
    (hq : ∀ nd' g', Tab 14 nd' (S.K + 1) g' → (∀ k, k < S.K → NRow t n (S.add e b nl en cs) g' a ls A k) → newRow e b S ls.length A g' → post (nI S.K) (if e = true then sEl (sNd σ nd') (pEl σ + 1) else sNd σ nd')) :
    w_Book_addNode σ (b2i e) (hd S.op) (nI b) post := by
  obtain ⟨hR, T0⟩ := hb.nd.add (most := 900) hK (by decide)
  have hK1 : S.K + 1 < 2 ^ 31 := by omega
  have hKK := Nat.lt_succ_self S.K
  have hA : (pAt σ).1 = nI A := hb.at_.1
  have hL : (pLe σ).1 = nI ls.length := hb.le.1
  -- the columns of the elder rows, whatever is written to links
  have rows : ∀ g', (∀ k, k < S.K → NLnk (S.add e b nl en cs) g' k) → (∀ k, k < S.K → ∀ c, c < 14 → ¬ c = 5 → ¬ c = 6 → ¬ c = 11 → g' k c = g k c) → ∀ k, k < S.K → NRow t n (S.add e b nl en cs) g' a ls A k := by
    intro g' h1 h2 k hk
    have hne : ¬ k = S.K := by omega
    have r := hb.row k hk
    have hlets : lets t n (S.add e b nl en cs) k = lets t n S k := by
      unfold lets GS.add
      simp only [va_n hne]
    refine ⟨h1 k hk, ?_, ?_, ?_, ?_⟩
    · rw [h2 k hk 10 (by decide) (by decide) (by decide) (by decide), r.c10]; exact (va_n hne).symm
    · rw [hlets, h2 k hk 8 (by decide) (by decide) (by decide) (by decide), h2 k hk 3 (by decide) (by decide) (by decide) (by decide)]; exact r.let_
    · rw [hlets, h2 k hk 12 (by decide) (by decide) (by decide) (by decide), r.kind, show (S.add e b nl en cs).el k = S.el k from va_n hne]
    · obtain ⟨q, h⟩ := r.att
      refine ⟨q, ?_⟩
      rw [show (S.add e b nl en cs).as k = S.as k from va_n hne]
      have e13 := h2 k hk 13 (by decide) (by decide) (by decide) (by decide)
      exact ⟨by rw [h2 k hk 9 (by decide) (by decide) (by decide) (by decide)]; exact h.c9, by rw [h2 k hk 4 (by decide) (by decide) (by decide) (by decide)]; exact h.c4, h.le, h.row, by rw [e13]; exact h.id1, by rw [e13]; exact h.id0⟩
  have fin : ∀ (nd' : StS) (g' : Nat → Nat → Int32), Tab 14 nd' (S.K + 1) g' → (∀ k, k < S.K → NRow t n (S.add e b nl en cs) g' a ls A k) → newRow e b S ls.length A g' → ((b2i e = 1 → (∀ σ187 : PPS, σ187 = sEl (sNd σ nd') ((pEl (sNd σ nd')) + 1) → post (nI S.K) σ187)) ∧ (¬ b2i e = 1 → post (nI S.K) (sNd σ nd'))) := by
    intro nd' g' h1 h2 h3
    have := hq nd' g' h1 h2 h3
    cases e with
    | true => exact br_t rfl (fa_eq this)
    | false => exact br_f (by decide) this
  unfold w_Book_addNode
  rw [hR]
  refine fa_eq ?_
  generalize tAdd 900 14 (pNd σ) = nd0 at T0 ⊢
  refine fa_set T0 hK1 rfl (c := 0) rfl rfl hKK (by decide) (fun nd1 T1 => ?_)
  refine fa_set T1 hK1 rfl (c := 1) rfl rfl hKK (by decide) (fun nd2 T2 => ?_)
  refine fa_set T2 hK1 rfl (c := 2) rfl rfl hKK (by decide) (fun nd3 T3 => ?_)
  refine fa_set T3 hK1 rfl (c := 4) rfl rfl hKK (by decide) (fun nd4 T4 => ?_)
  refine fa_set T4 hK1 rfl (c := 9) rfl (v0 := nI A) hA hKK (by decide) (fun nd5 T5 => ?_)
  refine fa_set T5 hK1 rfl (c := 8) rfl (v0 := nI ls.length) hL hKK (by decide) (fun nd6 T6 => ?_)
  cases hop : S.op with
  | nil =>
    rw [hop] at T6
    refine br_t rfl (fa_set T6 hK1 rfl (c := 7) rfl (v0 := 1) rfl hKK (by decide) (fun nd7 T7 => ?_))
    refine fa_set0 tGet_m1 (br_t tGet_m1 (fa_set0 rfl (fa_set0 rfl ?_)))
    refine fin _ _ T7 (rows _ (fun k hk => ?_) (fun k hk c hc _ _ _ => ?_)) ⟨?_, ?_⟩
    · have hne : ¬ k = S.K := by omega
      have r := (hb.row k hk).lnk
      unfold GS.add
      simp only [hop]
      exact ⟨by simp only [g2_r hne, hne, if_false, va_n hne]; exact r.c0, by simp only [g2_r hne, hne, if_false, va_n hne]; exact r.c1, by simp only [g2_r hne, hne, if_false, va_n hne]; exact r.c2, by simp only [g2_r hne, hne, if_false, va_n hne]; exact r.c5, by simp only [g2_r hne, hne, if_false, va_n hne]; exact r.c6, by simp only [g2_r hne, hne, if_false, va_n hne]; exact r.c7, by simp only [g2_r hne, hne, if_false, va_n hne]; exact r.c11⟩
    · have hne : ¬ k = S.K := by omega
      simp only [g2_r hne, hne, if_false]
    · unfold GS.add
      simp only [hop]
      constructor <;> simp [g2, va_s, hd] <;> rfl
    · simp [g2]
  | cons u os =>
    rw [hop] at T6
    have ho := hI.opn
    rw [hop] at ho
    obtain ⟨huK, -, -, hdp, -⟩ := ho
    have huK1 : u < S.K + 1 := by omega
    have hune : ¬ u = S.K := by omega
    have h7 : tGet 14 nd6 (nI u) 7 + 1 = nI ((u :: os).length + 1) := by
      rw [T6.get hK1 (r := u) (c := 7) (x := 7) rfl huK1 (by decide) (by decide)]
      simp only [g2_r hune, hune, if_false]
      rw [(hb.row u huK).lnk.c7, hdp, nI_1]; rfl
    refine br_f (nI_m1 (by omega)) (fa_set T6 hK1 rfl (c := 7) rfl (v0 := nI ((u :: os).length + 1)) h7 hKK (by decide) (fun nd7 T7 => ?_))
    have h11 : tGet 14 nd7 (nI u) 11 = S.ls u := by
      rw [T7.get hK1 (r := u) (c := 11) (x := 11) rfl huK1 (by decide) (by decide)]
      simp only [g2_r hune, hune, if_false]
      exact (hb.row u huK).lnk.c11
    rcases hI.ls u huK with hl | ⟨j, hjK, hl⟩
    · rw [hl] at h11
      refine fa_set0 h11 (br_t h11 (fa_set T7 hK1 rfl (c := 6) rfl rfl huK1 (by decide) (fun nd8 T8 => ?_)))
      refine fa_set T8 hK1 rfl (c := 11) rfl rfl huK1 (by decide) (fun nd9 T9 => ?_)
      refine fin _ _ T9 (rows _ (fun k hk => ?_) (fun k hk c hc c5 c6 c11 => ?_)) ⟨?_, ?_⟩
      · have hne : ¬ k = S.K := by omega
        have r := (hb.row k hk).lnk
        unfold GS.add
        simp only [hop, hl, if_true]
        by_cases hku : k = u
        · subst hku
          constructor <;> simp [g2, hne, va_n hne, va_s, r.c0, r.c1, r.c2, r.c5, r.c7]
        · constructor <;> simp [g2, hne, hku, va_n hne, va_n hku, r.c0, r.c1, r.c2, r.c5, r.c6, r.c7, r.c11]
      · have hne : ¬ k = S.K := by omega
        simp [g2, hne, c6, c11]
      · unfold GS.add
        simp only [hop]
        have hKu : ¬ S.K = u := by omega
        constructor <;> simp [g2, va_s, hd, hKu]
      · have hKu : ¬ S.K = u := by omega
        simp [g2, hKu]
    · rw [hl] at h11
      have hjm : ¬ tGet 14 nd7 (nI u) 11 = -1 := by rw [h11]; exact nI_m1 (by omega)
      refine fa_set T7 hK1 h11 (c := 5) rfl rfl (by omega) (by decide) (fun nd8 T8 => br_f hjm ?_)
      refine fa_set T8 hK1 rfl (c := 11) rfl rfl huK1 (by decide) (fun nd9 T9 => ?_)
      refine fin _ _ T9 (rows _ (fun k hk => ?_) (fun k hk c hc c5 c6 c11 => ?_)) ⟨?_, ?_⟩
      · have hne : ¬ k = S.K := by omega
        have r := (hb.row k hk).lnk
        unfold GS.add
        simp only [hop, hl, if_neg (nI_m1 (show j < 2 ^ 31 by omega)), nI_clamp (show j < 2 ^ 31 by omega)]
        by_cases hku : k = u
        · subst hku
          by_cases hkj : k = j
          · subst hkj
            constructor <;> simp [g2, hne, va_n hne, va_s, r.c0, r.c1, r.c2, r.c6, r.c7]
          · constructor <;> simp [g2, hne, hkj, va_n hne, va_n hkj, va_s, r.c0, r.c1, r.c2, r.c5, r.c6, r.c7]
        · by_cases hkj : k = j
          · subst hkj
            constructor <;> simp [g2, hne, hku, va_n hne, va_n hku, va_s, r.c0, r.c1, r.c2, r.c6, r.c7, r.c11]
          · constructor <;> simp [g2, hne, hku, hkj, va_n hne, va_n hku, va_n hkj, r.c0, r.c1, r.c2, r.c5, r.c6, r.c7, r.c11]
      · have hne : ¬ k = S.K := by omega
        simp [g2, hne, c5, c11]
      · unfold GS.add
        simp only [hop]
        have hKu : ¬ S.K = u := by omega
        have hKj : ¬ S.K = j := by omega
        constructor <;> simp [g2, va_s, hd, hKu, hKj]
      · have hKu : ¬ S.K = u := by omega
        have hKj : ¬ S.K = j := by omega
        simp [g2, hKu, hKj]
end AN
