/-! PURE: what a text reads as: nodes as they come, pieces, faults. -/
/-- an attribute: its name's place and length, the place of its value's closing quote, its value's characters -/
def Att : Type := Nat × Nat × Nat × List Int32
def Att.mk (na nl ve : Nat) (cs : List Int32) : Att := (na, nl, ve, cs)
def Att.na (a : Att) : Nat := a.1
def Att.nl (a : Att) : Nat := a.2.1
def Att.ve (a : Att) : Nat := a.2.2.1
def Att.cs (a : Att) : List Int32 := a.2.2.2
theorem mk_na {na nl ve : Nat} {cs : List Int32} : (Att.mk na nl ve cs).na = na := rfl
theorem mk_nl {na nl ve : Nat} {cs : List Int32} : (Att.mk na nl ve cs).nl = nl := rfl
theorem mk_ve {na nl ve : Nat} {cs : List Int32} : (Att.mk na nl ve cs).ve = ve := rfl
theorem mk_cs {na nl ve : Nat} {cs : List Int32} : (Att.mk na nl ve cs).cs = cs := rfl
/-- what is read so far: K nodes; of each whether it is an element, where it begins, its name's length, its text's end, its text's characters, its attributes, its links, its depth; the open elements, the place, whether within a tag; elements, texts, end tags -/
def GS : Type := Nat × (Nat → Bool) × (Nat → Nat) × (Nat → Nat) × (Nat → Nat) × (Nat → List Int32) × (Nat → List Att) × (Nat → Int32) × (Nat → Int32) × (Nat → Int32) × (Nat → Int32) × (Nat → Int32) × (Nat → Nat) × List Nat × Nat × Bool × Nat × Nat × Nat
def GS.mk (K : Nat) (el : Nat → Bool) (bg nl en : Nat → Nat) (cs : Nat → List Int32) (as : Nat → List Att) (up fs nx ls pa : Nat → Int32) (dp : Nat → Nat) (op : List Nat) (at_ : Nat) (it : Bool) (E X F : Nat) : GS := (K, el, bg, nl, en, cs, as, up, fs, nx, ls, pa, dp, op, at_, it, E, X, F)
def GS.K (S : GS) : Nat := S.1
def GS.el (S : GS) : Nat → Bool := S.2.1
def GS.bg (S : GS) : Nat → Nat := S.2.2.1
def GS.nl (S : GS) : Nat → Nat := S.2.2.2.1
def GS.en (S : GS) : Nat → Nat := S.2.2.2.2.1
def GS.cs (S : GS) : Nat → List Int32 := S.2.2.2.2.2.1
def GS.as (S : GS) : Nat → List Att := S.2.2.2.2.2.2.1
def GS.up (S : GS) : Nat → Int32 := S.2.2.2.2.2.2.2.1
def GS.fs (S : GS) : Nat → Int32 := S.2.2.2.2.2.2.2.2.1
def GS.nx (S : GS) : Nat → Int32 := S.2.2.2.2.2.2.2.2.2.1
def GS.ls (S : GS) : Nat → Int32 := S.2.2.2.2.2.2.2.2.2.2.1
def GS.pa (S : GS) : Nat → Int32 := S.2.2.2.2.2.2.2.2.2.2.2.1
def GS.dp (S : GS) : Nat → Nat := S.2.2.2.2.2.2.2.2.2.2.2.2.1
def GS.op (S : GS) : List Nat := S.2.2.2.2.2.2.2.2.2.2.2.2.2.1
def GS.at_ (S : GS) : Nat := S.2.2.2.2.2.2.2.2.2.2.2.2.2.2.1
def GS.it (S : GS) : Bool := S.2.2.2.2.2.2.2.2.2.2.2.2.2.2.2.1
def GS.E (S : GS) : Nat := S.2.2.2.2.2.2.2.2.2.2.2.2.2.2.2.2.1
def GS.X (S : GS) : Nat := S.2.2.2.2.2.2.2.2.2.2.2.2.2.2.2.2.2.1
def GS.F (S : GS) : Nat := S.2.2.2.2.2.2.2.2.2.2.2.2.2.2.2.2.2.2
def hd : List Nat → Int32
  | [] => -1
  | u :: _ => nI u
def GS.fs1 (S : GS) : Nat → Int32 := match S.op with | [] => S.fs | u :: _ => if S.ls u = -1 then va_up S.fs u (nI S.K) else S.fs
def GS.nx1 (S : GS) : Nat → Int32 := match S.op with | [] => S.nx | u :: _ => if S.ls u = -1 then S.nx else va_up S.nx (S.ls u).toNatClampNeg (nI S.K)
def GS.ls1 (S : GS) : Nat → Int32 := match S.op with | [] => S.ls | u :: _ => va_up S.ls u (nI S.K)
/-- a node more, in the innermost open element -/
def GS.add (S : GS) (e : Bool) (b nl en : Nat) (cs : List Int32) : GS :=
  GS.mk (S.K + 1) (va_up S.el S.K e) (va_up S.bg S.K b) (va_up S.nl S.K nl) (va_up S.en S.K en) (va_up S.cs S.K cs) (va_up S.as S.K [])
    (va_up S.up S.K (hd S.op)) (va_up S.fs1 S.K (-1)) (va_up S.nx1 S.K (-1)) (va_up S.ls1 S.K (-1)) (va_up S.pa S.K (-1)) (va_up S.dp S.K (S.op.length + 1)) S.op S.at_ S.it S.E S.X S.F
def GS.addEl (S : GS) (b nl p : Nat) : GS :=
  GS.mk (S.K + 1) (va_up S.el S.K true) (va_up S.bg S.K b) (va_up S.nl S.K nl) (va_up S.en S.K 0) (va_up S.cs S.K []) (va_up S.as S.K [])
    (va_up S.up S.K (hd S.op)) (va_up S.fs1 S.K (-1)) (va_up S.nx1 S.K (-1)) (va_up S.ls1 S.K (-1)) (va_up S.pa S.K (-1)) (va_up S.dp S.K (S.op.length + 1)) (S.K :: S.op) p true (S.E + 1) S.X S.F
def GS.addTx (S : GS) (b e : Nat) (cs : List Int32) : GS :=
  GS.mk (S.K + 1) (va_up S.el S.K false) (va_up S.bg S.K b) (va_up S.nl S.K 0) (va_up S.en S.K e) (va_up S.cs S.K cs) (va_up S.as S.K [])
    (va_up S.up S.K (hd S.op)) (va_up S.fs1 S.K (-1)) (va_up S.nx1 S.K (-1)) (va_up S.ls1 S.K (-1)) (va_up S.pa S.K (nI (S.K + 1))) (va_up S.dp S.K (S.op.length + 1)) S.op e S.it S.E (S.X + 1) S.F
def GS.addAt (S : GS) (k : Nat) (a : Att) : GS := GS.mk S.K S.el S.bg S.nl S.en S.cs (va_up S.as k (S.as k ++ [a])) S.up S.fs S.nx S.ls S.pa S.dp S.op (a.ve + 1) S.it S.E S.X S.F
def GS.tagEnd (S : GS) (p : Nat) : GS := GS.mk S.K S.el S.bg S.nl S.en S.cs S.as S.up S.fs S.nx S.ls S.pa S.dp S.op p false S.E S.X S.F
def GS.shut (S : GS) (k p f : Nat) : GS := GS.mk S.K S.el S.bg S.nl S.en S.cs S.as S.up S.fs S.nx S.ls (va_up S.pa k (nI S.K)) S.dp S.op.tail p false S.E S.X (S.F + f)
section PC
variable (t : Nat → Int32) (n : Nat)
/-- a name: where it ends -/
def Name (k e : Nat) : Prop := cBn (xx t n k) = true ∧ Runs cGn t n k e ∧ e - k ≤ 30
/-- where a name is at fault -/
def NameF (k p : Nat) : Prop := (cBn (xx t n k) = false ∧ p = k) ∨ (cBn (xx t n k) = true ∧ (∃ e, Runs cGn t n k e ∧ 30 < e - k) ∧ p = k + 30)
/-- the begin of an element -/
def BE (S : GS) : Nat ⊕ GS → Prop
  | .inl p => (¬ xx t n S.at_ = 60 ∧ p = S.at_) ∨ (xx t n S.at_ = 60 ∧ NameF t n (S.at_ + 1) p)
  | .inr S' => ∃ e, xx t n S.at_ = 60 ∧ Name t n (S.at_ + 1) e ∧ S' = S.addEl S.at_ (e - (S.at_ + 1)) e
/-- a name that no attribute of the tag has -/
def Nov (S : GS) (k na e : Nat) : Prop := ∀ A ∈ S.as k, ¬ seg t n A.na A.nl = seg t n na (e - na)
/-- an attribute whose name begins at na -/
def AT (S : GS) (k na : Nat) : Nat ⊕ GS → Prop
  | .inl p => NameF t n na p ∨ (∃ e, Name t n na e ∧ (∃ A ∈ S.as k, seg t n A.na A.nl = seg t n na (e - na)) ∧ p = na) ∨ (∃ e, Name t n na e ∧ Nov t n S k na e ∧ ¬ xx t n e = 61 ∧ p = e) ∨
      (∃ e, Name t n na e ∧ Nov t n S k na e ∧ xx t n e = 61 ∧ ¬ xx t n (e + 1) = 34 ∧ p = e + 1) ∨
      (∃ e cs, Name t n na e ∧ Nov t n S k na e ∧ xx t n e = 61 ∧ xx t n (e + 1) = 34 ∧ Chars t n 34 (e + 2) p cs ∧ ¬ xx t n p = 34 ∧ ((xx t n p = 60 ∨ xx t n p = -1) ∨ (¬ xx t n p = 60 ∧ ¬ xx t n p = -1 ∧ chf t n p = none)))
  | .inr S' => ∃ e q cs, Name t n na e ∧ Nov t n S k na e ∧ xx t n e = 61 ∧ xx t n (e + 1) = 34 ∧ Chars t n 34 (e + 2) q cs ∧ xx t n q = 34 ∧ S' = S.addAt k (Att.mk na (e - na) q cs)
/-- a piece within a tag -/
def IT (S : GS) : Nat ⊕ GS → Prop
  | .inl p => (cBn (xx t n S.at_) = true ∧ p = S.at_) ∨ (∃ k na os, S.op = k :: os ∧ Runs cWh t n S.at_ na ∧ S.at_ < na ∧ cBn (xx t n na) = true ∧ AT t n S k na (.inl p)) ∨
      (Runs cWh t n S.at_ p ∧ cBn (xx t n p) = false ∧ ¬ xx t n p = 47 ∧ ¬ xx t n p = 62) ∨ (∃ q, Runs cWh t n S.at_ q ∧ xx t n q = 47 ∧ ¬ xx t n (q + 1) = 62 ∧ p = q + 1)
  | .inr S' => (∃ k na os, S.op = k :: os ∧ Runs cWh t n S.at_ na ∧ S.at_ < na ∧ cBn (xx t n na) = true ∧ AT t n S k na (.inr S')) ∨
      (∃ p, Runs cWh t n S.at_ p ∧ xx t n p = 62 ∧ S' = S.tagEnd (p + 1)) ∨ (∃ k os p, S.op = k :: os ∧ Runs cWh t n S.at_ p ∧ xx t n p = 47 ∧ xx t n (p + 1) = 62 ∧ S' = S.shut k (p + 2) 0)
/-- the end of an element -/
def EE (S : GS) : Nat ⊕ GS → Prop
  | .inl p => NameF t n (S.at_ + 2) p ∨ (∃ k os e, S.op = k :: os ∧ Name t n (S.at_ + 2) e ∧ ¬ seg t n (S.at_ + 2) (e - (S.at_ + 2)) = seg t n (S.bg k + 1) (S.nl k) ∧ p = S.at_ + 2) ∨
      (∃ k os e, S.op = k :: os ∧ Name t n (S.at_ + 2) e ∧ seg t n (S.at_ + 2) (e - (S.at_ + 2)) = seg t n (S.bg k + 1) (S.nl k) ∧ Runs cWh t n e p ∧ ¬ xx t n p = 62)
  | .inr S' => ∃ k os e p, S.op = k :: os ∧ Name t n (S.at_ + 2) e ∧ seg t n (S.at_ + 2) (e - (S.at_ + 2)) = seg t n (S.bg k + 1) (S.nl k) ∧ Runs cWh t n e p ∧ xx t n p = 62 ∧ S' = S.shut k (p + 1) 1
/-- a text -/
def TX (S : GS) : Nat ⊕ GS → Prop
  | .inl p => (xx t n S.at_ = -1 ∧ p = S.at_) ∨ (∃ cs, ¬ xx t n S.at_ = -1 ∧ Chars t n 60 S.at_ p cs ∧ ¬ xx t n p = 60 ∧ ¬ xx t n p = -1 ∧ chf t n p = none)
  | .inr S' => ∃ e cs, ¬ xx t n S.at_ = -1 ∧ Chars t n 60 S.at_ e cs ∧ (xx t n e = 60 ∨ xx t n e = -1) ∧ S' = S.addTx S.at_ e cs
/-- a piece -/
def PC (S : GS) (r : Nat ⊕ GS) : Prop :=
  (S.it = true ∧ IT t n S r) ∨ (S.it = false ∧ xx t n S.at_ = 60 ∧ xx t n (S.at_ + 1) = 47 ∧ EE t n S r) ∨ (S.it = false ∧ xx t n S.at_ = 60 ∧ ¬ xx t n (S.at_ + 1) = 47 ∧ (300 ≤ S.E ∨ 40 ≤ S.op.length) ∧ r = .inl S.at_) ∨
  (S.it = false ∧ xx t n S.at_ = 60 ∧ ¬ xx t n (S.at_ + 1) = 47 ∧ S.E < 300 ∧ S.op.length < 40 ∧ BE t n S r) ∨ (S.it = false ∧ ¬ xx t n S.at_ = 60 ∧ TX t n S r)
/-- so many pieces, then the first fault, or the end of the outermost element -/
def RN : Nat → GS → Nat ⊕ GS → Prop
  | 0, S, r => (S.op = [] ∧ r = .inr S) ∨ (¬ S.op = [] ∧ ∃ p, PC t n S (.inl p) ∧ r = .inl p)
  | m + 1, S, r => ¬ S.op = [] ∧ ∃ S', PC t n S (.inr S') ∧ RN m S' r
/-- nothing is read yet -/
def G0 (p : Nat) : GS := GS.mk 0 (fun _ => false) (fun _ => 0) (fun _ => 0) (fun _ => 0) (fun _ => []) (fun _ => []) (fun _ => -1) (fun _ => -1) (fun _ => -1) (fun _ => -1) (fun _ => -1) (fun _ => 0) [] p false 0 0 0
/-- where the outermost element must begin -/
def Beg (p : Nat) : Prop := Runs cWh t n (if stAt t n 0 0 = true then 38 else 0) p
/-- the whole text: the first fault's place, or what is read -/
def RD : Nat ⊕ GS → Prop
  | .inl p => ∃ a, Beg t n a ∧ (BE t n (G0 a) (.inl p) ∨ ∃ S, BE t n (G0 a) (.inr S) ∧ ∃ m, (RN t n m S (.inl p) ∨ ∃ S', RN t n m S (.inr S') ∧ Runs cWh t n S'.at_ p ∧ ¬ p = n))
  | .inr S' => ∃ a, Beg t n a ∧ ∃ S, BE t n (G0 a) (.inr S) ∧ ∃ m, RN t n m S (.inr S') ∧ Runs cWh t n S'.at_ n
end PC
section CO
variable {t : Nat → Int32} {n : Nat} {S : GS}
theorem BE.no (h : ¬ xx t n S.at_ = 60) : BE t n S (.inl S.at_) := Or.inl ⟨h, rfl⟩
theorem BE.name {p : Nat} (h : xx t n S.at_ = 60) (h2 : NameF t n (S.at_ + 1) p) : BE t n S (.inl p) := Or.inr ⟨h, h2⟩
theorem BE.ok {e : Nat} (h : xx t n S.at_ = 60) (h2 : Name t n (S.at_ + 1) e) : BE t n S (.inr (S.addEl S.at_ (e - (S.at_ + 1)) e)) := ⟨e, h, h2, rfl⟩
theorem AT.name {k na p : Nat} (h : NameF t n na p) : AT t n S k na (.inl p) := Or.inl h
theorem AT.again {k na e : Nat} (h : Name t n na e) (h2 : ∃ A ∈ S.as k, seg t n A.na A.nl = seg t n na (e - na)) : AT t n S k na (.inl na) := Or.inr (Or.inl ⟨e, h, h2, rfl⟩)
theorem AT.eq {k na e : Nat} (h : Name t n na e) (h2 : Nov t n S k na e) (h3 : ¬ xx t n e = 61) : AT t n S k na (.inl e) := Or.inr (Or.inr (Or.inl ⟨e, h, h2, h3, rfl⟩))
theorem AT.quote {k na e : Nat} (h : Name t n na e) (h2 : Nov t n S k na e) (h3 : xx t n e = 61) (h4 : ¬ xx t n (e + 1) = 34) : AT t n S k na (.inl (e + 1)) := Or.inr (Or.inr (Or.inr (Or.inl ⟨e, h, h2, h3, h4, rfl⟩)))
theorem AT.char {k na e q : Nat} {cs : List Int32} (h : Name t n na e) (h2 : Nov t n S k na e) (h3 : xx t n e = 61) (h4 : xx t n (e + 1) = 34) (h5 : Chars t n 34 (e + 2) q cs) (h6 : ¬ xx t n q = 34) (h7 : ¬ xx t n q = 60) (h8 : ¬ xx t n q = -1) (h9 : chf t n q = none) : AT t n S k na (.inl q) := Or.inr (Or.inr (Or.inr (Or.inr ⟨e, cs, h, h2, h3, h4, h5, h6, Or.inr ⟨h7, h8, h9⟩⟩)))
theorem AT.stop {k na e q : Nat} {cs : List Int32} (h : Name t n na e) (h2 : Nov t n S k na e) (h3 : xx t n e = 61) (h4 : xx t n (e + 1) = 34) (h5 : Chars t n 34 (e + 2) q cs) (h6 : ¬ xx t n q = 34) (h7 : xx t n q = 60 ∨ xx t n q = -1) : AT t n S k na (.inl q) := Or.inr (Or.inr (Or.inr (Or.inr ⟨e, cs, h, h2, h3, h4, h5, h6, Or.inl h7⟩)))
theorem AT.ok {k na e q : Nat} {cs : List Int32} (h : Name t n na e) (h2 : Nov t n S k na e) (h3 : xx t n e = 61) (h4 : xx t n (e + 1) = 34) (h5 : Chars t n 34 (e + 2) q cs) (h6 : xx t n q = 34) : AT t n S k na (.inr (S.addAt k (Att.mk na (e - na) q cs))) := ⟨e, q, cs, h, h2, h3, h4, h5, h6, rfl⟩
theorem IT.white (h : cBn (xx t n S.at_) = true) : IT t n S (.inl S.at_) := Or.inl ⟨h, rfl⟩
theorem IT.attr {k p : Nat} {os : List Nat} {r : Nat ⊕ GS} (h : S.op = k :: os) (h2 : Runs cWh t n S.at_ p) (h3 : S.at_ < p) (h4 : cBn (xx t n p) = true) (h5 : AT t n S k p r) : IT t n S r := by
  cases r with
  | inl q => exact Or.inr (Or.inl ⟨k, p, os, h, h2, h3, h4, h5⟩)
  | inr S' => exact Or.inl ⟨k, p, os, h, h2, h3, h4, h5⟩
theorem IT.no {p : Nat} (h : Runs cWh t n S.at_ p) (h2 : cBn (xx t n p) = false) (h3 : ¬ xx t n p = 47) (h4 : ¬ xx t n p = 62) : IT t n S (.inl p) := Or.inr (Or.inr (Or.inl ⟨h, h2, h3, h4⟩))
theorem IT.no2 {p : Nat} (h : Runs cWh t n S.at_ p) (h2 : xx t n p = 47) (h3 : ¬ xx t n (p + 1) = 62) : IT t n S (.inl (p + 1)) := Or.inr (Or.inr (Or.inr ⟨p, h, h2, h3, rfl⟩))
theorem IT.opens {p : Nat} (h : Runs cWh t n S.at_ p) (h2 : xx t n p = 62) : IT t n S (.inr (S.tagEnd (p + 1))) := Or.inr (Or.inl ⟨p, h, h2, rfl⟩)
theorem IT.empty {k p : Nat} {os : List Nat} (h : S.op = k :: os) (h2 : Runs cWh t n S.at_ p) (h3 : xx t n p = 47) (h4 : xx t n (p + 1) = 62) : IT t n S (.inr (S.shut k (p + 2) 0)) := Or.inr (Or.inr ⟨k, os, p, h, h2, h3, h4, rfl⟩)
theorem EE.name {p : Nat} (h : NameF t n (S.at_ + 2) p) : EE t n S (.inl p) := Or.inl h
theorem EE.other {k e : Nat} {os : List Nat} (h : S.op = k :: os) (h2 : Name t n (S.at_ + 2) e) (h3 : ¬ seg t n (S.at_ + 2) (e - (S.at_ + 2)) = seg t n (S.bg k + 1) (S.nl k)) : EE t n S (.inl (S.at_ + 2)) := Or.inr (Or.inl ⟨k, os, e, h, h2, h3, rfl⟩)
theorem EE.no {k e p : Nat} {os : List Nat} (h : S.op = k :: os) (h2 : Name t n (S.at_ + 2) e) (h3 : seg t n (S.at_ + 2) (e - (S.at_ + 2)) = seg t n (S.bg k + 1) (S.nl k)) (h4 : Runs cWh t n e p) (h5 : ¬ xx t n p = 62) : EE t n S (.inl p) := Or.inr (Or.inr ⟨k, os, e, h, h2, h3, h4, h5⟩)
theorem EE.ok {k e p : Nat} {os : List Nat} (h : S.op = k :: os) (h2 : Name t n (S.at_ + 2) e) (h3 : seg t n (S.at_ + 2) (e - (S.at_ + 2)) = seg t n (S.bg k + 1) (S.nl k)) (h4 : Runs cWh t n e p) (h5 : xx t n p = 62) : EE t n S (.inr (S.shut k (p + 1) 1)) := ⟨k, os, e, p, h, h2, h3, h4, h5, rfl⟩
theorem TX.no (h : xx t n S.at_ = -1) : TX t n S (.inl S.at_) := Or.inl ⟨h, rfl⟩
theorem TX.char {e : Nat} {cs : List Int32} (h : ¬ xx t n S.at_ = -1) (h2 : Chars t n 60 S.at_ e cs) (h3 : ¬ xx t n e = 60) (h4 : ¬ xx t n e = -1) (h5 : chf t n e = none) : TX t n S (.inl e) := Or.inr ⟨cs, h, h2, h3, h4, h5⟩
theorem TX.ok {e : Nat} {cs : List Int32} (h : ¬ xx t n S.at_ = -1) (h2 : Chars t n 60 S.at_ e cs) (h3 : xx t n e = 60 ∨ xx t n e = -1) : TX t n S (.inr (S.addTx S.at_ e cs)) := ⟨e, cs, h, h2, h3, rfl⟩
theorem PC.it {r : Nat ⊕ GS} (h : S.it = true) (h2 : IT t n S r) : PC t n S r := Or.inl ⟨h, h2⟩
theorem PC.ee {r : Nat ⊕ GS} (h : S.it = false) (h2 : xx t n S.at_ = 60) (h3 : xx t n (S.at_ + 1) = 47) (h4 : EE t n S r) : PC t n S r := Or.inr (Or.inl ⟨h, h2, h3, h4⟩)
theorem PC.full (h : S.it = false) (h2 : xx t n S.at_ = 60) (h3 : ¬ xx t n (S.at_ + 1) = 47) (h4 : 300 ≤ S.E ∨ 40 ≤ S.op.length) : PC t n S (.inl S.at_) := Or.inr (Or.inr (Or.inl ⟨h, h2, h3, h4, rfl⟩))
theorem PC.be {r : Nat ⊕ GS} (h : S.it = false) (h2 : xx t n S.at_ = 60) (h3 : ¬ xx t n (S.at_ + 1) = 47) (h4 : S.E < 300) (h5 : S.op.length < 40) (h6 : BE t n S r) : PC t n S r := Or.inr (Or.inr (Or.inr (Or.inl ⟨h, h2, h3, h4, h5, h6⟩)))
theorem PC.tx {r : Nat ⊕ GS} (h : S.it = false) (h2 : ¬ xx t n S.at_ = 60) (h3 : TX t n S r) : PC t n S r := Or.inr (Or.inr (Or.inr (Or.inr ⟨h, h2, h3⟩)))
end CO
