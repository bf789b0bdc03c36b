/-! PURE: how the class's tables hold what is read. -/
/-- a node's letters: its name's, or its text's -/
def lets (t : Nat → Int32) (n : Nat) (S : GS) (k : Nat) : List Int32 := if S.el k = true then seg t n (S.bg k + 1) (S.nl k) else S.cs k
def kdF (l : List Int32) : Nat → Int32
  | 0 => -1
  | m + 1 => if l = tx (kLa.getD m 0) then nI m else kdF l m
def kdOf (l : List Int32) : Int32 := kdF l 23
def ARow (t : Nat → Int32) (n : Nat) (a : Nat → Nat → Int32) (ls : List Int32) (r : Nat) (B : Att) : Prop := (a r 0 = nI B.nl) ∧ (a r 1 = nI B.cs.length) ∧ (a r 2 = nI B.na) ∧ (∃ f, a r 3 = nI f ∧ Seg ls f (seg t n B.na B.nl)) ∧ (∃ f, a r 4 = nI f ∧ Seg ls f B.cs)
theorem ARow.c0 {t : Nat → Int32} {n : Nat} {a : Nat → Nat → Int32} {ls : List Int32} {r : Nat} {B : Att} (h : ARow t n a ls r B) : a r 0 = nI B.nl := h.1
theorem ARow.c1 {t : Nat → Int32} {n : Nat} {a : Nat → Nat → Int32} {ls : List Int32} {r : Nat} {B : Att} (h : ARow t n a ls r B) : a r 1 = nI B.cs.length := h.2.1
theorem ARow.c2 {t : Nat → Int32} {n : Nat} {a : Nat → Nat → Int32} {ls : List Int32} {r : Nat} {B : Att} (h : ARow t n a ls r B) : a r 2 = nI B.na := h.2.2.1
theorem ARow.c3 {t : Nat → Int32} {n : Nat} {a : Nat → Nat → Int32} {ls : List Int32} {r : Nat} {B : Att} (h : ARow t n a ls r B) : ∃ f, a r 3 = nI f ∧ Seg ls f (seg t n B.na B.nl) := h.2.2.2.1
theorem ARow.c4 {t : Nat → Int32} {n : Nat} {a : Nat → Nat → Int32} {ls : List Int32} {r : Nat} {B : Att} (h : ARow t n a ls r B) : ∃ f, a r 4 = nI f ∧ Seg ls f B.cs := h.2.2.2.2
/-- the columns of a node that tell its attributes -/
def NAtt (t : Nat → Int32) (n : Nat) (as : List Att) (g a : Nat → Nat → Int32) (ls : List Int32) (A k q : Nat) : Prop := (g k 9 = nI q) ∧ (g k 4 = nI as.length) ∧ (q + as.length ≤ A) ∧ (∀ j B, as[j]? = some B → ARow t n a ls (q + j) B) ∧ (∀ j B, as[j]? = some B → seg t n B.na B.nl = tx 1 → g k 13 = nI (q + j)) ∧ ((∀ B ∈ as, ¬ seg t n B.na B.nl = tx 1) → g k 13 = -1)
theorem NAtt.c9 {t : Nat → Int32} {n : Nat} {as : List Att} {g a : Nat → Nat → Int32} {ls : List Int32} {A k q : Nat} (h : NAtt t n as g a ls A k q) : g k 9 = nI q := h.1
theorem NAtt.c4 {t : Nat → Int32} {n : Nat} {as : List Att} {g a : Nat → Nat → Int32} {ls : List Int32} {A k q : Nat} (h : NAtt t n as g a ls A k q) : g k 4 = nI as.length := h.2.1
theorem NAtt.le {t : Nat → Int32} {n : Nat} {as : List Att} {g a : Nat → Nat → Int32} {ls : List Int32} {A k q : Nat} (h : NAtt t n as g a ls A k q) : q + as.length ≤ A := h.2.2.1
theorem NAtt.row {t : Nat → Int32} {n : Nat} {as : List Att} {g a : Nat → Nat → Int32} {ls : List Int32} {A k q : Nat} (h : NAtt t n as g a ls A k q) : ∀ j B, as[j]? = some B → ARow t n a ls (q + j) B := h.2.2.2.1
theorem NAtt.id1 {t : Nat → Int32} {n : Nat} {as : List Att} {g a : Nat → Nat → Int32} {ls : List Int32} {A k q : Nat} (h : NAtt t n as g a ls A k q) : ∀ j B, as[j]? = some B → seg t n B.na B.nl = tx 1 → g k 13 = nI (q + j) := h.2.2.2.2.1
theorem NAtt.id0 {t : Nat → Int32} {n : Nat} {as : List Att} {g a : Nat → Nat → Int32} {ls : List Int32} {A k q : Nat} (h : NAtt t n as g a ls A k q) : (∀ B ∈ as, ¬ seg t n B.na B.nl = tx 1) → g k 13 = -1 := h.2.2.2.2.2
/-- the columns of a node but for letters, kind, attributes, end -/
def NLnk (S : GS) (g : Nat → Nat → Int32) (k : Nat) : Prop := (g k 0 = b2i (S.el k)) ∧ (g k 1 = S.up k) ∧ (g k 2 = nI (S.bg k)) ∧ (g k 5 = S.nx k) ∧ (g k 6 = S.fs k) ∧ (g k 7 = nI (S.dp k)) ∧ (g k 11 = S.ls k)
theorem NLnk.c0 {S : GS} {g : Nat → Nat → Int32} {k : Nat} (h : NLnk S g k) : g k 0 = b2i (S.el k) := h.1
theorem NLnk.c1 {S : GS} {g : Nat → Nat → Int32} {k : Nat} (h : NLnk S g k) : g k 1 = S.up k := h.2.1
theorem NLnk.c2 {S : GS} {g : Nat → Nat → Int32} {k : Nat} (h : NLnk S g k) : g k 2 = nI (S.bg k) := h.2.2.1
theorem NLnk.c5 {S : GS} {g : Nat → Nat → Int32} {k : Nat} (h : NLnk S g k) : g k 5 = S.nx k := h.2.2.2.1
theorem NLnk.c6 {S : GS} {g : Nat → Nat → Int32} {k : Nat} (h : NLnk S g k) : g k 6 = S.fs k := h.2.2.2.2.1
theorem NLnk.c7 {S : GS} {g : Nat → Nat → Int32} {k : Nat} (h : NLnk S g k) : g k 7 = nI (S.dp k) := h.2.2.2.2.2.1
theorem NLnk.c11 {S : GS} {g : Nat → Nat → Int32} {k : Nat} (h : NLnk S g k) : g k 11 = S.ls k := h.2.2.2.2.2.2
def NRow (t : Nat → Int32) (n : Nat) (S : GS) (g a : Nat → Nat → Int32) (ls : List Int32) (A k : Nat) : Prop := (NLnk S g k) ∧ (g k 10 = S.pa k) ∧ (∃ f, g k 8 = nI f ∧ g k 3 = nI (lets t n S k).length ∧ Seg ls f (lets t n S k)) ∧ (g k 12 = if S.el k = true then kdOf (lets t n S k) else -1) ∧ (∃ q, NAtt t n (S.as k) g a ls A k q)
theorem NRow.lnk {t : Nat → Int32} {n : Nat} {S : GS} {g a : Nat → Nat → Int32} {ls : List Int32} {A k : Nat} (h : NRow t n S g a ls A k) : NLnk S g k := h.1
theorem NRow.c10 {t : Nat → Int32} {n : Nat} {S : GS} {g a : Nat → Nat → Int32} {ls : List Int32} {A k : Nat} (h : NRow t n S g a ls A k) : g k 10 = S.pa k := h.2.1
theorem NRow.let_ {t : Nat → Int32} {n : Nat} {S : GS} {g a : Nat → Nat → Int32} {ls : List Int32} {A k : Nat} (h : NRow t n S g a ls A k) : ∃ f, g k 8 = nI f ∧ g k 3 = nI (lets t n S k).length ∧ Seg ls f (lets t n S k) := h.2.2.1
theorem NRow.kind {t : Nat → Int32} {n : Nat} {S : GS} {g a : Nat → Nat → Int32} {ls : List Int32} {A k : Nat} (h : NRow t n S g a ls A k) : g k 12 = if S.el k = true then kdOf (lets t n S k) else -1 := h.2.2.2.1
theorem NRow.att {t : Nat → Int32} {n : Nat} {S : GS} {g a : Nat → Nat → Int32} {ls : List Int32} {A k : Nat} (h : NRow t n S g a ls A k) : ∃ q, NAtt t n (S.as k) g a ls A k q := h.2.2.2.2
/-- the tables hold what is read -/
def Bk (t : Nat → Int32) (n : Nat) (S : GS) (nd att le : StS) (g a : Nat → Nat → Int32) (ls : List Int32) (A : Nat) : Prop := (Tab 14 nd S.K g) ∧ (Tab 5 att A a) ∧ (Str le ls) ∧ (ls.length ≤ S.at_) ∧ (5 * A ≤ S.at_) ∧ (∀ k, k < S.K → NRow t n S g a ls A k) ∧ (S.it = true → ∀ k os, S.op = k :: os → g k 9 = nI (A - (S.as k).length) ∧ (S.as k).length ≤ A)
theorem Bk.nd {t : Nat → Int32} {n : Nat} {S : GS} {nd att le : StS} {g a : Nat → Nat → Int32} {ls : List Int32} {A : Nat} (h : Bk t n S nd att le g a ls A) : Tab 14 nd S.K g := h.1
theorem Bk.at_ {t : Nat → Int32} {n : Nat} {S : GS} {nd att le : StS} {g a : Nat → Nat → Int32} {ls : List Int32} {A : Nat} (h : Bk t n S nd att le g a ls A) : Tab 5 att A a := h.2.1
theorem Bk.le {t : Nat → Int32} {n : Nat} {S : GS} {nd att le : StS} {g a : Nat → Nat → Int32} {ls : List Int32} {A : Nat} (h : Bk t n S nd att le g a ls A) : Str le ls := h.2.2.1
theorem Bk.lle {t : Nat → Int32} {n : Nat} {S : GS} {nd att le : StS} {g a : Nat → Nat → Int32} {ls : List Int32} {A : Nat} (h : Bk t n S nd att le g a ls A) : ls.length ≤ S.at_ := h.2.2.2.1
theorem Bk.ale {t : Nat → Int32} {n : Nat} {S : GS} {nd att le : StS} {g a : Nat → Nat → Int32} {ls : List Int32} {A : Nat} (h : Bk t n S nd att le g a ls A) : 5 * A ≤ S.at_ := h.2.2.2.2.1
theorem Bk.row {t : Nat → Int32} {n : Nat} {S : GS} {nd att le : StS} {g a : Nat → Nat → Int32} {ls : List Int32} {A : Nat} (h : Bk t n S nd att le g a ls A) : ∀ k, k < S.K → NRow t n S g a ls A k := h.2.2.2.2.2.1
theorem Bk.cur {t : Nat → Int32} {n : Nat} {S : GS} {nd att le : StS} {g a : Nat → Nat → Int32} {ls : List Int32} {A : Nat} (h : Bk t n S nd att le g a ls A) : S.it = true → ∀ k os, S.op = k :: os → g k 9 = nI (A - (S.as k).length) ∧ (S.as k).length ≤ A := h.2.2.2.2.2.2
def CR (t : Nat → Int32) (n : Nat) (S : GS) (σ : PPS) : Prop := (Tp σ t n) ∧ (pPs σ = nI S.at_) ∧ (pOp σ = hd S.op) ∧ (pWr σ = -1) ∧ (pEl σ = nI S.E) ∧ (¬ S.op = [] → pIn σ = b2i S.it) ∧ (∃ g a ls A, Bk t n S (pNd σ) (pAt σ) (pLe σ) g a ls A)
theorem CR.tp {t : Nat → Int32} {n : Nat} {S : GS} {σ : PPS} (h : CR t n S σ) : Tp σ t n := h.1
theorem CR.ps {t : Nat → Int32} {n : Nat} {S : GS} {σ : PPS} (h : CR t n S σ) : pPs σ = nI S.at_ := h.2.1
theorem CR.op {t : Nat → Int32} {n : Nat} {S : GS} {σ : PPS} (h : CR t n S σ) : pOp σ = hd S.op := h.2.2.1
theorem CR.wr {t : Nat → Int32} {n : Nat} {S : GS} {σ : PPS} (h : CR t n S σ) : pWr σ = -1 := h.2.2.2.1
theorem CR.el {t : Nat → Int32} {n : Nat} {S : GS} {σ : PPS} (h : CR t n S σ) : pEl σ = nI S.E := h.2.2.2.2.1
theorem CR.it {t : Nat → Int32} {n : Nat} {S : GS} {σ : PPS} (h : CR t n S σ) : ¬ S.op = [] → pIn σ = b2i S.it := h.2.2.2.2.2.1
theorem CR.bk {t : Nat → Int32} {n : Nat} {S : GS} {σ : PPS} (h : CR t n S σ) : ∃ g a ls A, Bk t n S (pNd σ) (pAt σ) (pLe σ) g a ls A := h.2.2.2.2.2.2
/-- the chain of the open elements -/
def Opn (S : GS) : List Nat → Prop
  | [] => True
  | u :: os => u < S.K ∧ S.el u = true ∧ S.up u = hd os ∧ S.dp u = os.length + 1 ∧ (∀ v ∈ os, v < u) ∧ Opn S os
/-- counts, and the chain -/
def Inv (t : Nat → Int32) (n : Nat) (S : GS) : Prop := (S.K = S.E + S.X) ∧ (S.E ≤ 300) ∧ (S.F + S.op.length ≤ S.E) ∧ (S.X ≤ S.E + S.F) ∧ (¬ S.op = [] → (S.it = true ∨ (¬ xx t n S.at_ = 60 ∧ ¬ xx t n S.at_ = -1)) → S.X + 1 ≤ S.E + S.F) ∧ (Opn S S.op) ∧ (S.op.length ≤ 40) ∧ (∀ r, r < S.K → S.ls r = -1 ∨ ∃ j, j < S.K ∧ S.ls r = nI j) ∧ (S.at_ ≤ n) ∧ (n ≤ 4000)
theorem Inv.k {t : Nat → Int32} {n : Nat} {S : GS} (h : Inv t n S) : S.K = S.E + S.X := h.1
theorem Inv.e {t : Nat → Int32} {n : Nat} {S : GS} (h : Inv t n S) : S.E ≤ 300 := h.2.1
theorem Inv.f {t : Nat → Int32} {n : Nat} {S : GS} (h : Inv t n S) : S.F + S.op.length ≤ S.E := h.2.2.1
theorem Inv.x {t : Nat → Int32} {n : Nat} {S : GS} (h : Inv t n S) : S.X ≤ S.E + S.F := h.2.2.2.1
theorem Inv.x1 {t : Nat → Int32} {n : Nat} {S : GS} (h : Inv t n S) : ¬ S.op = [] → (S.it = true ∨ (¬ xx t n S.at_ = 60 ∧ ¬ xx t n S.at_ = -1)) → S.X + 1 ≤ S.E + S.F := h.2.2.2.2.1
theorem Inv.opn {t : Nat → Int32} {n : Nat} {S : GS} (h : Inv t n S) : Opn S S.op := h.2.2.2.2.2.1
theorem Inv.o40 {t : Nat → Int32} {n : Nat} {S : GS} (h : Inv t n S) : S.op.length ≤ 40 := h.2.2.2.2.2.2.1
theorem Inv.ls {t : Nat → Int32} {n : Nat} {S : GS} (h : Inv t n S) : ∀ r, r < S.K → S.ls r = -1 ∨ ∃ j, j < S.K ∧ S.ls r = nI j := h.2.2.2.2.2.2.2.1
theorem Inv.an {t : Nat → Int32} {n : Nat} {S : GS} (h : Inv t n S) : S.at_ ≤ n := h.2.2.2.2.2.2.2.2.1
theorem Inv.n4 {t : Nat → Int32} {n : Nat} {S : GS} (h : Inv t n S) : n ≤ 4000 := h.2.2.2.2.2.2.2.2.2
theorem Inv.k900 {t : Nat → Int32} {n : Nat} {S : GS} (h : Inv t n S) : S.K ≤ 900 := by
  have := h.k; have := h.e; have := h.f; have := h.x; omega
theorem nI_m1 {k : Nat} (h : k < 2 ^ 31) : ¬ nI k = -1 := fun z => nI_pos h (by rw [z]; decide)
theorem hd_m1 {l : List Nat} (h : ∀ u ∈ l, u < 2 ^ 31) : hd l = -1 ↔ l = [] := by
  cases l with
  | nil => exact ⟨fun _ => rfl, fun _ => rfl⟩
  | cons u os => exact ⟨fun z => absurd z (nI_m1 (h u List.mem_cons_self)), fun z => by cases z⟩
theorem va_s {α : Type} {f : Nat → α} {k : Nat} {v : α} : va_up f k v k = v := va_up_self f k v
theorem va_n {α : Type} {f : Nat → α} {k j : Nat} {v : α} (h : ¬ j = k) : va_up f k v j = f j := va_up_ne f v h
/-- a cell of the nodes is written -/
theorem fa_set {P : PPS → Prop} {σ : PPS} {nd : StS} {K r c : Nat} {g : Nat → Nat → Int32} {y x v v0 : Int32} (hT : Tab 14 nd K g) (hK : K < 2 ^ 31) (hy : y = nI r) (hx : x = nI c) (hv : v = v0) (hr : r < K) (hc : c < 14) (h : ∀ nd', Tab 14 nd' K (g2 g r c v0) → P (sNd σ nd')) :
    ∀ σ', σ' = sNd (sNd σ nd) (tSet 14 (pNd (sNd σ nd)) y x v) → P σ' := by
  subst hy hv
  exact fa_eq (h _ (hT.set hK hx hr hc (by decide) v))
theorem fa_set0 {P : PPS → Prop} {σ : PPS} {nd : StS} {y x v : Int32} (hy : y = -1) (h : P (sNd σ nd)) : ∀ σ', σ' = sNd (sNd σ nd) (tSet 14 (pNd (sNd σ nd)) y x v) → P σ' := by
  subst hy
  refine fa_eq ?_
  rw [tSet_m1]; exact h
/-- a cell of the attributes is written -/
theorem fa_setA {P : PPS → Prop} {σ : PPS} {at_ : StS} {K r c : Nat} {g : Nat → Nat → Int32} {y x v v0 : Int32} (hT : Tab 5 at_ K g) (hK : K < 2 ^ 31) (hy : y = nI r) (hx : x = nI c) (hv : v = v0) (hr : r < K) (hc : c < 5) (h : ∀ at', Tab 5 at' K (g2 g r c v0) → P (sAt σ at')) :
    ∀ σ', σ' = sAt (sAt σ at_) (tSet 5 (pAt (sAt σ at_)) y x v) → P σ' := by
  subst hy hv
  exact fa_eq (h _ (hT.set hK hx hr hc (by decide) v))
theorem fs1_nil {S : GS} (h : S.op = []) : S.fs1 = S.fs := by unfold GS.fs1; rw [h]
theorem nx1_nil {S : GS} (h : S.op = []) : S.nx1 = S.nx := by unfold GS.nx1; rw [h]
theorem ls1_nil {S : GS} (h : S.op = []) : S.ls1 = S.ls := by unfold GS.ls1; rw [h]
theorem fs1_cons {S : GS} {u : Nat} {os : List Nat} (h : S.op = u :: os) : S.fs1 = if S.ls u = -1 then va_up S.fs u (nI S.K) else S.fs := by unfold GS.fs1; rw [h]
theorem nx1_cons {S : GS} {u : Nat} {os : List Nat} (h : S.op = u :: os) : S.nx1 = if S.ls u = -1 then S.nx else va_up S.nx (S.ls u).toNatClampNeg (nI S.K) := by unfold GS.nx1; rw [h]
theorem ls1_cons {S : GS} {u : Nat} {os : List Nat} (h : S.op = u :: os) : S.ls1 = va_up S.ls u (nI S.K) := by unfold GS.ls1; rw [h]
section AN
variable {t : Nat → Int32} {n : Nat} {S : GS} {σ : PPS} {g a : Nat → Nat → Int32} {ls : List Int32} {A : Nat}
/-- a new node's columns -/
def newRow (e : Bool) (b : Nat) (S : GS) (l A : Nat) (g : Nat → Nat → Int32) : Prop :=
  NLnk (S.add e b 0 0 []) g S.K ∧ g S.K 4 = 0 ∧ g S.K 8 = nI l ∧ g S.K 9 = nI A ∧ g S.K 10 = -1 ∧ g S.K 12 = -1 ∧ g S.K 13 = -1
theorem k_addNode (e : Bool) {b nl en : Nat} {cs : List Int32} (hb : Bk t n S (pNd σ) (pAt σ) (pLe σ) g a ls A) (hI : Inv t n S) (hK : S.K < 900) {post : Int32 → PPS → Prop}
    (hq : ∀ nd' g', Tab 14 nd' (S.K + 1) g' → (∀ k, k < S.K → NRow t n (S.add e b nl en cs) g' a ls A k) → newRow e b S ls.length A g' → post (nI S.K) (if e = true then sEl (sNd σ nd') (pEl σ + 1) else sNd σ nd')) :
    w_Book_addNode σ (b2i e) (hd S.op) (nI b) post := by
  obtain ⟨hR, T0⟩ := hb.nd.add (most := 900) hK (by decide)
  have hK1 : S.K + 1 < 2 ^ 31 := by omega
  have hKK := Nat.lt_succ_self S.K
  have hA : (pAt σ).1 = nI A := hb.at_.1
  have hL : (pLe σ).1 = nI ls.length := hb.le.1
  -- the columns of the elder rows, whatever is written to links
  have rows : ∀ g', (∀ k, k < S.K → NLnk (S.add e b nl en cs) g' k) → (∀ k, k < S.K → ∀ c, c < 14 → ¬ c = 5 → ¬ c = 6 → ¬ c = 11 → g' k c = g k c) → ∀ k, k < S.K → NRow t n (S.add e b nl en cs) g' a ls A k := by
    intro g' h1 h2 k hk
    have hne : ¬ k = S.K := by omega
    have r := hb.row k hk
    have hlets : lets t n (S.add e b nl en cs) k = lets t n S k := by
      unfold lets
      rw [show (S.add e b nl en cs).el k = S.el k from va_n hne, show (S.add e b nl en cs).bg k = S.bg k from va_n hne, show (S.add e b nl en cs).nl k = S.nl k from va_n hne, show (S.add e b nl en cs).cs k = S.cs k from va_n hne]
    refine ⟨h1 k hk, ?_, ?_, ?_, ?_⟩
    · rw [h2 k hk 10 (by decide) (by decide) (by decide) (by decide), r.c10]; exact (va_n hne).symm
    · rw [hlets, h2 k hk 8 (by decide) (by decide) (by decide) (by decide), h2 k hk 3 (by decide) (by decide) (by decide) (by decide)]; exact r.let_
    · rw [hlets, h2 k hk 12 (by decide) (by decide) (by decide) (by decide), r.kind, show (S.add e b nl en cs).el k = S.el k from va_n hne]
    · obtain ⟨q, h⟩ := r.att
      refine ⟨q, ?_⟩
      rw [show (S.add e b nl en cs).as k = S.as k from va_n hne]
      have e13 := h2 k hk 13 (by decide) (by decide) (by decide) (by decide)
      exact ⟨by rw [h2 k hk 9 (by decide) (by decide) (by decide) (by decide)]; exact h.c9, by rw [h2 k hk 4 (by decide) (by decide) (by decide) (by decide)]; exact h.c4, h.le, h.row, by rw [e13]; exact h.id1, by rw [e13]; exact h.id0⟩
  have fin : ∀ (nd' : StS) (g' : Nat → Nat → Int32), Tab 14 nd' (S.K + 1) g' → (∀ k, k < S.K → NRow t n (S.add e b nl en cs) g' a ls A k) → newRow e b S ls.length A g' → ((b2i e = 1 → (∀ σ187 : PPS, σ187 = sEl (sNd σ nd') ((pEl (sNd σ nd')) + 1) → post (nI S.K) σ187)) ∧ (¬ b2i e = 1 → post (nI S.K) (sNd σ nd'))) := by
    intro nd' g' h1 h2 h3
    have := hq nd' g' h1 h2 h3
    cases e with
    | true => exact br_t rfl (fa_eq this)
    | false => exact br_f (by decide) this
  unfold w_Book_addNode
  rw [hR]
  refine fa_eq ?_
  generalize tAdd 900 14 (pNd σ) = nd0 at T0 ⊢
  refine fa_set T0 hK1 rfl (c := 0) rfl rfl hKK (by decide) (fun nd1 T1 => ?_)
  refine fa_set T1 hK1 rfl (c := 1) rfl rfl hKK (by decide) (fun nd2 T2 => ?_)
  refine fa_set T2 hK1 rfl (c := 2) rfl rfl hKK (by decide) (fun nd3 T3 => ?_)
  refine fa_set T3 hK1 rfl (c := 4) rfl rfl hKK (by decide) (fun nd4 T4 => ?_)
  refine fa_set T4 hK1 rfl (c := 9) rfl (v0 := nI A) hA hKK (by decide) (fun nd5 T5 => ?_)
  refine fa_set T5 hK1 rfl (c := 8) rfl (v0 := nI ls.length) hL hKK (by decide) (fun nd6 T6 => ?_)
  cases hop : S.op with
  | nil =>
    rw [hop] at T6
    refine br_t rfl (fa_set T6 hK1 rfl (c := 7) rfl (v0 := 1) rfl hKK (by decide) (fun nd7 T7 => ?_))
    refine fa_set0 tGet_m1 (br_t tGet_m1 (fa_set0 rfl (fa_set0 rfl ?_)))
    refine fin _ _ T7 (rows _ (fun k hk => ?_) (fun k hk c hc _ _ _ => ?_)) ⟨?_, ?_⟩
    · have hne : ¬ k = S.K := by omega
      have r := (hb.row k hk).lnk
      simp only [NLnk, add_el, add_up, add_bg, add_nx, add_fs, add_ls, add_dp, fs1_nil hop, nx1_nil hop, ls1_nil hop]
      exact ⟨by simp only [g2_r hne, hne, if_false, va_n hne]; exact r.c0, by simp only [g2_r hne, hne, if_false, va_n hne]; exact r.c1, by simp only [g2_r hne, hne, if_false, va_n hne]; exact r.c2, by simp only [g2_r hne, hne, if_false, va_n hne]; exact r.c5, by simp only [g2_r hne, hne, if_false, va_n hne]; exact r.c6, by simp only [g2_r hne, hne, if_false, va_n hne]; exact r.c7, by simp only [g2_r hne, hne, if_false, va_n hne]; exact r.c11⟩
    · have hne : ¬ k = S.K := by omega
      simp only [g2_r hne, hne, if_false]
    · simp only [NLnk, add_el, add_up, add_bg, add_nx, add_fs, add_ls, add_dp, fs1_nil hop, nx1_nil hop, ls1_nil hop]
      refine ⟨?_, ?_, ?_, ?_, ?_, ?_, ?_⟩ <;> simp [g2, va_s, hop, hd] <;> rfl
    · simp [g2]
  | cons u os =>
    rw [hop] at T6
    have ho := hI.opn
    rw [hop] at ho
    obtain ⟨huK, -, -, hdp, -⟩ := ho
    have huK1 : u < S.K + 1 := by omega
    have hune : ¬ u = S.K := by omega
    have h7 : tGet 14 nd6 (nI u) 7 + 1 = nI ((u :: os).length + 1) := by
      rw [T6.get hK1 (r := u) (c := 7) (x := 7) rfl huK1 (by decide) (by decide)]
      simp only [g2_r hune, hune, if_false]
      rw [(hb.row u huK).lnk.c7, hdp, nI_1]; rfl
    refine br_f (nI_m1 (by omega)) (fa_set T6 hK1 rfl (c := 7) rfl (v0 := nI ((u :: os).length + 1)) h7 hKK (by decide) (fun nd7 T7 => ?_))
    have h11 : tGet 14 nd7 (nI u) 11 = S.ls u := by
      rw [T7.get hK1 (r := u) (c := 11) (x := 11) rfl huK1 (by decide) (by decide)]
      simp only [g2_r hune, hune, if_false]
      exact (hb.row u huK).lnk.c11
    rcases hI.ls u huK with hl | ⟨j, hjK, hl⟩
    · rw [hl] at h11
      refine fa_set0 h11 (br_t h11 (fa_set T7 hK1 rfl (c := 6) rfl rfl huK1 (by decide) (fun nd8 T8 => ?_)))
      refine fa_set T8 hK1 rfl (c := 11) rfl rfl huK1 (by decide) (fun nd9 T9 => ?_)
      refine fin _ _ T9 (rows _ (fun k hk => ?_) (fun k hk c hc c5 c6 c11 => ?_)) ⟨?_, ?_⟩
      · have hne : ¬ k = S.K := by omega
        have r := (hb.row k hk).lnk
        simp only [NLnk, add_el, add_up, add_bg, add_nx, add_fs, add_ls, add_dp, fs1_cons hop, nx1_cons hop, ls1_cons hop, hl, if_true]
        by_cases hku : k = u
        · subst hku
          refine ⟨?_, ?_, ?_, ?_, ?_, ?_, ?_⟩ <;> simp [g2, hne, va_n hne, va_s, r.c0, r.c1, r.c2, r.c5, r.c7]
        · refine ⟨?_, ?_, ?_, ?_, ?_, ?_, ?_⟩ <;> simp [g2, hne, hku, va_n hne, va_n hku, r.c0, r.c1, r.c2, r.c5, r.c6, r.c7, r.c11]
      · have hne : ¬ k = S.K := by omega
        simp [g2, hne, c6, c11]
      · simp only [NLnk, add_el, add_up, add_bg, add_nx, add_fs, add_ls, add_dp]
        have hKu : ¬ S.K = u := by omega
        refine ⟨?_, ?_, ?_, ?_, ?_, ?_, ?_⟩ <;> simp [g2, va_s, hop, hd, hKu]
      · have hKu : ¬ S.K = u := by omega
        simp [g2, hKu]
    · rw [hl] at h11
      have hjm : ¬ tGet 14 nd7 (nI u) 11 = -1 := by rw [h11]; exact nI_m1 (by omega)
      refine fa_set T7 hK1 h11 (c := 5) rfl rfl (by omega) (by decide) (fun nd8 T8 => br_f hjm ?_)
      refine fa_set T8 hK1 rfl (c := 11) rfl rfl huK1 (by decide) (fun nd9 T9 => ?_)
      refine fin _ _ T9 (rows _ (fun k hk => ?_) (fun k hk c hc c5 c6 c11 => ?_)) ⟨?_, ?_⟩
      · have hne : ¬ k = S.K := by omega
        have r := (hb.row k hk).lnk
        simp only [NLnk, add_el, add_up, add_bg, add_nx, add_fs, add_ls, add_dp, fs1_cons hop, nx1_cons hop, ls1_cons hop, hl, if_neg (nI_m1 (show j < 2 ^ 31 by omega)), nI_clamp (show j < 2 ^ 31 by omega)]
        by_cases hku : k = u
        · subst hku
          by_cases hkj : k = j
          · subst hkj
            refine ⟨?_, ?_, ?_, ?_, ?_, ?_, ?_⟩ <;> simp [g2, hne, va_n hne, va_s, r.c0, r.c1, r.c2, r.c6, r.c7]
          · refine ⟨?_, ?_, ?_, ?_, ?_, ?_, ?_⟩ <;> simp [g2, hne, hkj, va_n hne, va_n hkj, va_s, r.c0, r.c1, r.c2, r.c5, r.c6, r.c7]
        · by_cases hkj : k = j
          · subst hkj
            refine ⟨?_, ?_, ?_, ?_, ?_, ?_, ?_⟩ <;> simp [g2, hne, hku, va_n hne, va_n hku, va_s, r.c0, r.c1, r.c2, r.c6, r.c7, r.c11]
          · refine ⟨?_, ?_, ?_, ?_, ?_, ?_, ?_⟩ <;> simp [g2, hne, hku, hkj, va_n hne, va_n hku, va_n hkj, r.c0, r.c1, r.c2, r.c5, r.c6, r.c7, r.c11]
      · have hne : ¬ k = S.K := by omega
        simp [g2, hne, c5, c11]
      · simp only [NLnk, add_el, add_up, add_bg, add_nx, add_fs, add_ls, add_dp]
        have hKu : ¬ S.K = u := by omega
        have hKj : ¬ S.K = j := by omega
        refine ⟨?_, ?_, ?_, ?_, ?_, ?_, ?_⟩ <;> simp [g2, va_s, hop, hd, hKu, hKj]
      · have hKu : ¬ S.K = u := by omega
        have hKj : ¬ S.K = j := by omega
        simp [g2, hKu, hKj]
end AN
