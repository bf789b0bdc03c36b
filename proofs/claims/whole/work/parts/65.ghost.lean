/-! PURE: what a text reads as: nodes as they come, pieces, faults. -/
/-- an attribute: its name's place and length, the place of its value's closing quote, its value's characters -/
structure Att where
  na : Nat
  nl : Nat
  ve : Nat
  cs : List Int32
/-- what is read so far -/
structure GS where
  K : Nat
  el : Nat → Bool
  bg : Nat → Nat
  nl : Nat → Nat
  en : Nat → Nat
  cs : Nat → List Int32
  as : Nat → List Att
  up : Nat → Int32
  fs : Nat → Int32
  nx : Nat → Int32
  ls : Nat → Int32
  pa : Nat → Int32
  dp : Nat → Nat
  op : List Nat
  at_ : Nat
  it : Bool
  E : Nat
  X : Nat
  F : Nat
def hd : List Nat → Int32
  | [] => -1
  | u :: _ => nI u
/-- a node more, in the innermost open element -/
def GS.add (S : GS) (e : Bool) (b nl en : Nat) (cs : List Int32) : GS :=
  { S with
    K := S.K + 1, el := va_up S.el S.K e, bg := va_up S.bg S.K b, nl := va_up S.nl S.K nl, en := va_up S.en S.K en, cs := va_up S.cs S.K cs, as := va_up S.as S.K [],
    up := va_up S.up S.K (hd S.op), dp := va_up S.dp S.K (S.op.length + 1), pa := va_up S.pa S.K (-1),
    fs := va_up (match S.op with | [] => S.fs | u :: _ => if S.ls u = -1 then va_up S.fs u (nI S.K) else S.fs) S.K (-1),
    nx := va_up (match S.op with | [] => S.nx | u :: _ => if S.ls u = -1 then S.nx else va_up S.nx (S.ls u).toNatClampNeg (nI S.K)) S.K (-1),
    ls := va_up (match S.op with | [] => S.ls | u :: _ => va_up S.ls u (nI S.K)) S.K (-1) }
def GS.addEl (S : GS) (b nl p : Nat) : GS := { S.add true b nl 0 [] with op := S.K :: S.op, at_ := p, it := true, E := S.E + 1 }
def GS.addTx (S : GS) (b e : Nat) (cs : List Int32) : GS := { S.add false b 0 e cs with at_ := e, pa := va_up S.pa S.K (nI (S.K + 1)), X := S.X + 1 }
def GS.addAt (S : GS) (k : Nat) (a : Att) : GS := { S with as := va_up S.as k (S.as k ++ [a]), at_ := a.ve + 1 }
def GS.tagEnd (S : GS) (p : Nat) : GS := { S with it := false, at_ := p }
def GS.shut (S : GS) (k p f : Nat) : GS := { S with it := false, at_ := p, pa := va_up S.pa k (nI S.K), op := S.op.tail, F := S.F + f }
section PC
variable (t : Nat → Int32) (n : Nat)
/-- a name: where it ends -/
def Name (k e : Nat) : Prop := cBn (xx t n k) = true ∧ Runs cGn t n k e ∧ e - k ≤ 30
/-- where a name is at fault -/
def NameF (k p : Nat) : Prop := (cBn (xx t n k) = false ∧ p = k) ∨ (cBn (xx t n k) = true ∧ (∃ e, Runs cGn t n k e ∧ 30 < e - k) ∧ p = k + 30)
/-- the begin of an element -/
inductive BE (S : GS) : Nat ⊕ GS → Prop
  | no : ¬ xx t n S.at_ = 60 → BE S (.inl S.at_)
  | name {p : Nat} : xx t n S.at_ = 60 → NameF t n (S.at_ + 1) p → BE S (.inl p)
  | ok {e : Nat} : xx t n S.at_ = 60 → Name t n (S.at_ + 1) e → BE S (.inr (S.addEl S.at_ (e - (S.at_ + 1)) e))
/-- an attribute whose name begins at na -/
inductive AT (S : GS) (k na : Nat) : Nat ⊕ GS → Prop
  | name {p : Nat} : NameF t n na p → AT S k na (.inl p)
  | again {e : Nat} : Name t n na e → (∃ A ∈ S.as k, seg t n A.na A.nl = seg t n na (e - na)) → AT S k na (.inl na)
  | eq {e : Nat} : Name t n na e → (∀ A ∈ S.as k, ¬ seg t n A.na A.nl = seg t n na (e - na)) → ¬ xx t n e = 61 → AT S k na (.inl e)
  | quote {e : Nat} : Name t n na e → (∀ A ∈ S.as k, ¬ seg t n A.na A.nl = seg t n na (e - na)) → xx t n e = 61 → ¬ xx t n (e + 1) = 34 → AT S k na (.inl (e + 1))
  | char {e q : Nat} {cs : List Int32} : Name t n na e → (∀ A ∈ S.as k, ¬ seg t n A.na A.nl = seg t n na (e - na)) → xx t n e = 61 → xx t n (e + 1) = 34 → Chars t n 34 (e + 2) q cs → ¬ xx t n q = 34 → ¬ xx t n q = 60 → ¬ xx t n q = -1 → chf t n q = none → AT S k na (.inl q)
  | stop {e q : Nat} {cs : List Int32} : Name t n na e → (∀ A ∈ S.as k, ¬ seg t n A.na A.nl = seg t n na (e - na)) → xx t n e = 61 → xx t n (e + 1) = 34 → Chars t n 34 (e + 2) q cs → ¬ xx t n q = 34 → (xx t n q = 60 ∨ xx t n q = -1) → AT S k na (.inl q)
  | ok {e q : Nat} {cs : List Int32} : Name t n na e → (∀ A ∈ S.as k, ¬ seg t n A.na A.nl = seg t n na (e - na)) → xx t n e = 61 → xx t n (e + 1) = 34 → Chars t n 34 (e + 2) q cs → xx t n q = 34 → AT S k na (.inr (S.addAt k ⟨na, e - na, q, cs⟩))
/-- a piece within a tag -/
inductive IT (S : GS) : Nat ⊕ GS → Prop
  | white : cBn (xx t n S.at_) = true → IT S (.inl S.at_)
  | attr {k p : Nat} {os : List Nat} {r : Nat ⊕ GS} : S.op = k :: os → Runs cWh t n S.at_ p → S.at_ < p → cBn (xx t n p) = true → AT t n S k p r → IT S r
  | no {p : Nat} : Runs cWh t n S.at_ p → cBn (xx t n p) = false → ¬ xx t n p = 47 → ¬ xx t n p = 62 → IT S (.inl p)
  | no2 {p : Nat} : Runs cWh t n S.at_ p → xx t n p = 47 → ¬ xx t n (p + 1) = 62 → IT S (.inl (p + 1))
  | opens {p : Nat} : Runs cWh t n S.at_ p → xx t n p = 62 → IT S (.inr (S.tagEnd (p + 1)))
  | empty {k p : Nat} {os : List Nat} : S.op = k :: os → Runs cWh t n S.at_ p → xx t n p = 47 → xx t n (p + 1) = 62 → IT S (.inr (S.shut k (p + 2) 0))
/-- the end of an element -/
inductive EE (S : GS) : Nat ⊕ GS → Prop
  | name {p : Nat} : NameF t n (S.at_ + 2) p → EE S (.inl p)
  | other {k e : Nat} {os : List Nat} : S.op = k :: os → Name t n (S.at_ + 2) e → ¬ seg t n (S.at_ + 2) (e - (S.at_ + 2)) = seg t n (S.bg k + 1) (S.nl k) → EE S (.inl (S.at_ + 2))
  | no {k e p : Nat} {os : List Nat} : S.op = k :: os → Name t n (S.at_ + 2) e → seg t n (S.at_ + 2) (e - (S.at_ + 2)) = seg t n (S.bg k + 1) (S.nl k) → Runs cWh t n e p → ¬ xx t n p = 62 → EE S (.inl p)
  | ok {k e p : Nat} {os : List Nat} : S.op = k :: os → Name t n (S.at_ + 2) e → seg t n (S.at_ + 2) (e - (S.at_ + 2)) = seg t n (S.bg k + 1) (S.nl k) → Runs cWh t n e p → xx t n p = 62 → EE S (.inr (S.shut k (p + 1) 1))
/-- a text -/
inductive TX (S : GS) : Nat ⊕ GS → Prop
  | no : xx t n S.at_ = -1 → TX S (.inl S.at_)
  | char {e : Nat} {cs : List Int32} : ¬ xx t n S.at_ = -1 → Chars t n 60 S.at_ e cs → ¬ xx t n e = 60 → ¬ xx t n e = -1 → chf t n e = none → TX S (.inl e)
  | ok {e : Nat} {cs : List Int32} : ¬ xx t n S.at_ = -1 → Chars t n 60 S.at_ e cs → (xx t n e = 60 ∨ xx t n e = -1) → TX S (.inr (S.addTx S.at_ e cs))
/-- a piece -/
inductive PC (S : GS) : Nat ⊕ GS → Prop
  | it {r : Nat ⊕ GS} : S.it = true → IT t n S r → PC S r
  | ee {r : Nat ⊕ GS} : S.it = false → xx t n S.at_ = 60 → xx t n (S.at_ + 1) = 47 → EE t n S r → PC S r
  | full : S.it = false → xx t n S.at_ = 60 → ¬ xx t n (S.at_ + 1) = 47 → (300 ≤ S.E ∨ 40 ≤ S.op.length) → PC S (.inl S.at_)
  | be {r : Nat ⊕ GS} : S.it = false → xx t n S.at_ = 60 → ¬ xx t n (S.at_ + 1) = 47 → S.E < 300 → S.op.length < 40 → BE t n S r → PC S r
  | tx {r : Nat ⊕ GS} : S.it = false → ¬ xx t n S.at_ = 60 → TX t n S r → PC S r
/-- pieces up to the first fault, or to the end of the outermost element -/
inductive RN : GS → Nat ⊕ GS → Prop
  | done {S : GS} : S.op = [] → RN S (.inr S)
  | bad {S : GS} {p : Nat} : ¬ S.op = [] → PC t n S (.inl p) → RN S (.inl p)
  | go {S S' : GS} {r : Nat ⊕ GS} : ¬ S.op = [] → PC t n S (.inr S') → RN S' r → RN S r
/-- nothing is read yet -/
def G0 (p : Nat) : GS := ⟨0, fun _ => false, fun _ => 0, fun _ => 0, fun _ => 0, fun _ => [], fun _ => [], fun _ => -1, fun _ => -1, fun _ => -1, fun _ => -1, fun _ => -1, fun _ => 0, [], p, false, 0, 0, 0⟩
/-- where the outermost element must begin -/
def Beg (p : Nat) : Prop := Runs cWh t n (if stAt t n 0 0 = true then 38 else 0) p
/-- the whole text: the first fault's place, or what is read -/
inductive RD : Nat ⊕ GS → Prop
  | beg {a p : Nat} : Beg t n a → BE t n (G0 a) (.inl p) → RD (.inl p)
  | bad {a p : Nat} {S : GS} : Beg t n a → BE t n (G0 a) (.inr S) → RN t n S (.inl p) → RD (.inl p)
  | more {a p : Nat} {S S' : GS} : Beg t n a → BE t n (G0 a) (.inr S) → RN t n S (.inr S') → Runs cWh t n S'.at_ p → ¬ p = n → RD (.inl p)
  | ok {a : Nat} {S S' : GS} : Beg t n a → BE t n (G0 a) (.inr S) → RN t n S (.inr S') → Runs cWh t n S'.at_ n → RD (.inr S')
end PC
