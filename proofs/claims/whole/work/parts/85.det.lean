/-! PURE: a text reads in one way. -/
section DT
variable {t : Nat → Int32} {n : Nat} {S : GS}
theorem Name.uniq {k e e' : Nat} (h : Name t n k e) (h' : Name t n k e') : e = e' := h.2.1.uniq h'.2.1
theorem NameF.no {k p e : Nat} (h : NameF t n k p) (h' : Name t n k e) : False := by
  rcases h with ⟨a, _⟩ | ⟨_, ⟨e2, hr, h2⟩, _⟩
  · rw [h'.1] at a; cases a
  · have := hr.uniq h'.2.1
    have := h'.2.2
    omega
theorem NameF.uniq {k p p' : Nat} (h : NameF t n k p) (h' : NameF t n k p') : p = p' := by
  rcases h with ⟨a, rfl⟩ | ⟨a, _, rfl⟩
  · rcases h' with ⟨_, rfl⟩ | ⟨b, _, _⟩
    · rfl
    · rw [a] at b; cases b
  · rcases h' with ⟨b, _⟩ | ⟨_, _, rfl⟩
    · rw [a] at b; cases b
    · rfl
/-- characters stop here -/
def Halt (t : Nat → Int32) (n : Nat) (s : Int32) (e : Nat) : Prop := xx t n e = s ∨ xx t n e = 60 ∨ xx t n e = -1 ∨ chf t n e = none
theorem Chars.det {s : Int32} : ∀ {L L' : List Int32} {k e e' : Nat}, Chars t n s k e L → Halt t n s e → Chars t n s k e' L' → Halt t n s e' → e = e' ∧ L = L'
  | [], [], k, e, e', h, _, h', _ => by
    have h : k = e := h
    have h' : k = e' := h'
    exact ⟨by omega, rfl⟩
  | [], c :: L', k, e, e', h, hs, h', _ => by
    have h : k = e := h
    subst h
    obtain ⟨a, b, d, k', f, _⟩ := h'
    rcases hs with z | z | z | z
    · exact absurd z a
    · exact absurd z b
    · exact absurd z d
    · rw [f] at z; cases z
  | c :: L, [], k, e, e', h, _, h', hs => by
    have h' : k = e' := h'
    subst h'
    obtain ⟨a, b, d, k', f, _⟩ := h
    rcases hs with z | z | z | z
    · exact absurd z a
    · exact absurd z b
    · exact absurd z d
    · rw [f] at z; cases z
  | c :: L, c' :: L', k, e, e', h, hs, h', hs' => by
    obtain ⟨_, _, _, k1, f, hr⟩ := h
    obtain ⟨_, _, _, k2, f', hr'⟩ := h'
    rw [f] at f'
    cases f'
    obtain ⟨h1, h2⟩ := Chars.det hr hs hr' hs'
    exact ⟨h1, by rw [h2]⟩
theorem BE.det {r r' : Nat ⊕ GS} (h : BE t n S r) (h' : BE t n S r') : r = r' := by
  cases r with
  | inl p =>
    cases r' with
    | inl p' =>
      rcases h with ⟨a, rfl⟩ | ⟨a, hN⟩
      · rcases h' with ⟨_, rfl⟩ | ⟨b, _⟩
        · rfl
        · exact absurd b a
      · rcases h' with ⟨b, _⟩ | ⟨_, hN'⟩
        · exact absurd a b
        · rw [hN.uniq hN']
    | inr S' =>
      obtain ⟨e, hx, hN, _⟩ := h'
      rcases h with ⟨a, _⟩ | ⟨_, hF⟩
      · exact absurd hx a
      · exact (hF.no hN).elim
  | inr S1 =>
    obtain ⟨e, hx, hN, rfl⟩ := h
    cases r' with
    | inl p' =>
      rcases h' with ⟨a, _⟩ | ⟨_, hF⟩
      · exact absurd hx a
      · exact (hF.no hN).elim
    | inr S' =>
      obtain ⟨e', _, hN', rfl⟩ := h'
      rw [hN.uniq hN']
/-- the ways of an attribute, one behind the other -/
def ATf (t : Nat → Int32) (n : Nat) (S : GS) (k na : Nat) (r : Nat ⊕ GS) : Prop := (∃ p, NameF t n na p ∧ r = .inl p) ∨ ∃ e, Name t n na e ∧ (((∃ A ∈ S.as k, seg t n A.na A.nl = seg t n na (e - na)) ∧ r = .inl na) ∨ (Nov t n S k na e ∧ ((¬ xx t n e = 61 ∧ r = .inl e) ∨ (xx t n e = 61 ∧ ((¬ xx t n (e + 1) = 34 ∧ r = .inl (e + 1)) ∨ (xx t n (e + 1) = 34 ∧ ∃ q cs, Chars t n 34 (e + 2) q cs ∧ Halt t n 34 q ∧ ((xx t n q = 34 ∧ r = .inr (S.addAt k (Att.mk na (e - na) q cs))) ∨ (¬ xx t n q = 34 ∧ r = .inl q))))))))
theorem AT.form {k na : Nat} {r : Nat ⊕ GS} (h : AT t n S k na r) : ATf t n S k na r := by
  cases r with
  | inl p =>
    rcases h with h | ⟨e, h, h2, rfl⟩ | ⟨e, h, h2, h3, rfl⟩ | ⟨e, h, h2, h3, h4, rfl⟩ | ⟨e, cs, h, h2, h3, h4, h5, h6, h7⟩
    · exact Or.inl ⟨p, h, rfl⟩
    · exact Or.inr ⟨e, h, Or.inl ⟨h2, rfl⟩⟩
    · exact Or.inr ⟨p, h, Or.inr ⟨h2, Or.inl ⟨h3, rfl⟩⟩⟩
    · exact Or.inr ⟨e, h, Or.inr ⟨h2, Or.inr ⟨h3, Or.inl ⟨h4, rfl⟩⟩⟩⟩
    · refine Or.inr ⟨e, h, Or.inr ⟨h2, Or.inr ⟨h3, Or.inr ⟨h4, p, cs, h5, ?_, Or.inr ⟨h6, rfl⟩⟩⟩⟩⟩
      rcases h7 with h7 | ⟨_, _, h7⟩
      · exact Or.inr (h7.elim Or.inl (fun z => Or.inr (Or.inl z)))
      · exact Or.inr (Or.inr (Or.inr h7))
  | inr S' =>
    obtain ⟨e, q, cs, h, h2, h3, h4, h5, h6, rfl⟩ := h
    exact Or.inr ⟨e, h, Or.inr ⟨h2, Or.inr ⟨h3, Or.inr ⟨h4, q, cs, h5, Or.inl h6, Or.inl ⟨h6, rfl⟩⟩⟩⟩⟩
theorem AT.det {k na : Nat} {r r' : Nat ⊕ GS} (h : AT t n S k na r) (h' : AT t n S k na r') : r = r' := by
  rcases h.form with ⟨p, hF, rfl⟩ | ⟨e, hN, h2⟩
  · rcases h'.form with ⟨p', hF', rfl⟩ | ⟨e', hN', _⟩
    · rw [hF.uniq hF']
    · exact (hF.no hN').elim
  · rcases h'.form with ⟨p', hF', _⟩ | ⟨e', hN', h2'⟩
    · exact (hF'.no hN).elim
    · have := hN.uniq hN'
      subst this
      rcases h2 with ⟨⟨A, hA, eA⟩, rfl⟩ | ⟨hno, h3⟩
      · rcases h2' with ⟨_, rfl⟩ | ⟨hno', _⟩
        · rfl
        · exact absurd eA (hno' A hA)
      · rcases h2' with ⟨⟨A, hA, eA⟩, _⟩ | ⟨_, h3'⟩
        · exact absurd eA (hno A hA)
        · rcases h3 with ⟨a, rfl⟩ | ⟨a, h4⟩
          · rcases h3' with ⟨_, rfl⟩ | ⟨b, _⟩
            · rfl
            · exact absurd b a
          · rcases h3' with ⟨b, _⟩ | ⟨_, h4'⟩
            · exact absurd a b
            · rcases h4 with ⟨c, rfl⟩ | ⟨c, q, cs, hC, hs, h5⟩
              · rcases h4' with ⟨_, rfl⟩ | ⟨d, _⟩
                · rfl
                · exact absurd d c
              · rcases h4' with ⟨d, _⟩ | ⟨_, q', cs', hC', hs', h5'⟩
                · exact absurd c d
                · obtain ⟨rfl, rfl⟩ := Chars.det hC hs hC' hs'
                  rcases h5 with ⟨x, rfl⟩ | ⟨x, rfl⟩
                  · rcases h5' with ⟨_, rfl⟩ | ⟨y, _⟩
                    · rfl
                    · exact absurd x y
                  · rcases h5' with ⟨y, _⟩ | ⟨_, rfl⟩
                    · exact absurd y x
                    · rfl
def ITf (t : Nat → Int32) (n : Nat) (S : GS) (r : Nat ⊕ GS) : Prop := ∃ p, Runs cWh t n S.at_ p ∧ ((cBn (xx t n p) = true ∧ ((p = S.at_ ∧ r = .inl S.at_) ∨ (S.at_ < p ∧ ∃ k os, S.op = k :: os ∧ AT t n S k p r))) ∨ (cBn (xx t n p) = false ∧ ((xx t n p = 47 ∧ ((¬ xx t n (p + 1) = 62 ∧ r = .inl (p + 1)) ∨ (xx t n (p + 1) = 62 ∧ ∃ k os, S.op = k :: os ∧ r = .inr (S.shut k (p + 2) 0)))) ∨ (¬ xx t n p = 47 ∧ ((xx t n p = 62 ∧ r = .inr (S.tagEnd (p + 1))) ∨ (¬ xx t n p = 62 ∧ r = .inl p))))))
theorem IT.form {r : Nat ⊕ GS} (h : IT t n S r) : ITf t n S r := by
  cases r with
  | inl p =>
    rcases h with ⟨a, rfl⟩ | ⟨k, na, os, h1, h2, h3, h4, h5⟩ | ⟨h1, h2, h3, h4⟩ | ⟨q, h1, h2, h3, rfl⟩
    · have hw : cWh (xx t n S.at_) = false := by
        obtain ⟨q, hq⟩ := Runs.ex cWh_m t n S.at_
        cases hc : cWh (xx t n S.at_) with
        | false => rfl
        | true =>
          exfalso
          unfold cWh at hc
          simp only [Bool.or_eq_true, decide_eq_true_eq] at hc
          rcases hc with ((z | z) | z) | z <;> (rw [z] at a; revert a; decide +kernel)
      exact ⟨S.at_, ⟨Nat.le_refl _, fun j x y => by omega, hw⟩, Or.inl ⟨a, Or.inl ⟨rfl, rfl⟩⟩⟩
    · exact ⟨na, h2, Or.inl ⟨h4, Or.inr ⟨h3, k, os, h1, h5⟩⟩⟩
    · exact ⟨p, h1, Or.inr ⟨h2, Or.inr ⟨h3, Or.inr ⟨h4, rfl⟩⟩⟩⟩
    · exact ⟨q, h1, Or.inr ⟨by rw [h2]; decide +kernel, Or.inl ⟨h2, Or.inl ⟨h3, rfl⟩⟩⟩⟩
  | inr S' =>
    rcases h with ⟨k, na, os, h1, h2, h3, h4, h5⟩ | ⟨p, h1, h2, rfl⟩ | ⟨k, os, p, h1, h2, h3, h4, rfl⟩
    · exact ⟨na, h2, Or.inl ⟨h4, Or.inr ⟨h3, k, os, h1, h5⟩⟩⟩
    · exact ⟨p, h1, Or.inr ⟨by rw [h2]; decide +kernel, Or.inr ⟨by rw [h2]; decide, Or.inl ⟨h2, rfl⟩⟩⟩⟩
    · exact ⟨p, h2, Or.inr ⟨by rw [h3]; decide +kernel, Or.inl ⟨h3, Or.inr ⟨h4, k, os, h1, rfl⟩⟩⟩⟩
theorem IT.det {r r' : Nat ⊕ GS} (h : IT t n S r) (h' : IT t n S r') : r = r' := by
  obtain ⟨p, hr, h⟩ := h.form
  obtain ⟨p', hr', h'⟩ := h'.form
  have := hr.uniq hr'
  subst this
  rcases h with ⟨a, h⟩ | ⟨a, h⟩
  · rcases h' with ⟨_, h'⟩ | ⟨b, _⟩
    · rcases h with ⟨x, rfl⟩ | ⟨x, k, os, ho, hA⟩
      · rcases h' with ⟨_, rfl⟩ | ⟨y, _⟩
        · rfl
        · omega
      · rcases h' with ⟨y, _⟩ | ⟨_, k', os', ho', hA'⟩
        · omega
        · rw [ho] at ho'; cases ho'
          exact hA.det hA'
    · rw [a] at b; cases b
  · rcases h' with ⟨b, _⟩ | ⟨_, h'⟩
    · rw [a] at b; cases b
    · rcases h with ⟨x, h⟩ | ⟨x, h⟩
      · rcases h' with ⟨_, h'⟩ | ⟨y, _⟩
        · rcases h with ⟨c, rfl⟩ | ⟨c, k, os, ho, rfl⟩
          · rcases h' with ⟨_, rfl⟩ | ⟨d, _⟩
            · rfl
            · exact absurd d c
          · rcases h' with ⟨d, _⟩ | ⟨_, k', os', ho', rfl⟩
            · exact absurd c d
            · rw [ho] at ho'; cases ho'; rfl
        · exact absurd x y
      · rcases h' with ⟨y, _⟩ | ⟨_, h'⟩
        · exact absurd y x
        · rcases h with ⟨c, rfl⟩ | ⟨c, rfl⟩
          · rcases h' with ⟨_, rfl⟩ | ⟨d, _⟩
            · rfl
            · exact absurd c d
          · rcases h' with ⟨d, _⟩ | ⟨_, rfl⟩
            · exact absurd d c
            · rfl
def EEf (t : Nat → Int32) (n : Nat) (S : GS) (r : Nat ⊕ GS) : Prop := (∃ p, NameF t n (S.at_ + 2) p ∧ r = .inl p) ∨ ∃ k os e, S.op = k :: os ∧ Name t n (S.at_ + 2) e ∧ ((¬ seg t n (S.at_ + 2) (e - (S.at_ + 2)) = seg t n (S.bg k + 1) (S.nl k) ∧ r = .inl (S.at_ + 2)) ∨ (seg t n (S.at_ + 2) (e - (S.at_ + 2)) = seg t n (S.bg k + 1) (S.nl k) ∧ ∃ p, Runs cWh t n e p ∧ ((xx t n p = 62 ∧ r = .inr (S.shut k (p + 1) 1)) ∨ (¬ xx t n p = 62 ∧ r = .inl p))))
theorem EE.form {r : Nat ⊕ GS} (h : EE t n S r) : EEf t n S r := by
  cases r with
  | inl p =>
    rcases h with h | ⟨k, os, e, h1, h2, h3, rfl⟩ | ⟨k, os, e, h1, h2, h3, h4, h5⟩
    · exact Or.inl ⟨p, h, rfl⟩
    · exact Or.inr ⟨k, os, e, h1, h2, Or.inl ⟨h3, rfl⟩⟩
    · exact Or.inr ⟨k, os, e, h1, h2, Or.inr ⟨h3, p, h4, Or.inr ⟨h5, rfl⟩⟩⟩
  | inr S' =>
    obtain ⟨k, os, e, p, h1, h2, h3, h4, h5, rfl⟩ := h
    exact Or.inr ⟨k, os, e, h1, h2, Or.inr ⟨h3, p, h4, Or.inl ⟨h5, rfl⟩⟩⟩
theorem EE.det {r r' : Nat ⊕ GS} (h : EE t n S r) (h' : EE t n S r') : r = r' := by
  rcases h.form with ⟨p, hF, rfl⟩ | ⟨k, os, e, ho, hN, h⟩
  · rcases h'.form with ⟨p', hF', rfl⟩ | ⟨_, _, e', _, hN', _⟩
    · rw [hF.uniq hF']
    · exact (hF.no hN').elim
  · rcases h'.form with ⟨p', hF', _⟩ | ⟨k', os', e', ho', hN', h'⟩
    · exact (hF'.no hN).elim
    · rw [ho] at ho'; cases ho'
      have := hN.uniq hN'
      subst this
      rcases h with ⟨a, rfl⟩ | ⟨a, p, hr, h⟩
      · rcases h' with ⟨_, rfl⟩ | ⟨b, _⟩
        · rfl
        · exact absurd b a
      · rcases h' with ⟨b, _⟩ | ⟨_, p', hr', h'⟩
        · exact absurd a b
        · have := hr.uniq hr'
          subst this
          rcases h with ⟨c, rfl⟩ | ⟨c, rfl⟩
          · rcases h' with ⟨_, rfl⟩ | ⟨d, _⟩
            · rfl
            · exact absurd c d
          · rcases h' with ⟨d, _⟩ | ⟨_, rfl⟩
            · exact absurd d c
            · rfl
theorem TX.det {r r' : Nat ⊕ GS} (h : TX t n S r) (h' : TX t n S r') : r = r' := by
  have fm : ∀ r, TX t n S r → (xx t n S.at_ = -1 ∧ r = .inl S.at_) ∨ (¬ xx t n S.at_ = -1 ∧ ∃ e cs, Chars t n 60 S.at_ e cs ∧ Halt t n 60 e ∧ (((xx t n e = 60 ∨ xx t n e = -1) ∧ r = .inr (S.addTx S.at_ e cs)) ∨ (¬ (xx t n e = 60 ∨ xx t n e = -1) ∧ r = .inl e))) := by
    intro r h
    cases r with
    | inl p =>
      rcases h with ⟨a, rfl⟩ | ⟨cs, a, b, c, d, e⟩
      · exact Or.inl ⟨a, rfl⟩
      · exact Or.inr ⟨a, p, cs, b, Or.inr (Or.inr (Or.inr e)), Or.inr ⟨fun z => z.elim c d, rfl⟩⟩
    | inr S' =>
      obtain ⟨e, cs, a, b, c, rfl⟩ := h
      exact Or.inr ⟨a, e, cs, b, c.elim Or.inl (fun z => Or.inr (Or.inr (Or.inl z))), Or.inl ⟨c, rfl⟩⟩
  rcases fm r h with ⟨a, rfl⟩ | ⟨a, e, cs, hC, hs, h⟩
  · rcases fm r' h' with ⟨_, rfl⟩ | ⟨b, _⟩
    · rfl
    · exact absurd a b
  · rcases fm r' h' with ⟨b, _⟩ | ⟨_, e', cs', hC', hs', h'⟩
    · exact absurd b a
    · obtain ⟨rfl, rfl⟩ := Chars.det hC hs hC' hs'
      rcases h with ⟨c, rfl⟩ | ⟨c, rfl⟩
      · rcases h' with ⟨_, rfl⟩ | ⟨d, _⟩
        · rfl
        · exact absurd c d
      · rcases h' with ⟨d, _⟩ | ⟨_, rfl⟩
        · exact absurd d c
        · rfl
theorem PC.det {r r' : Nat ⊕ GS} (h : PC t n S r) (h' : PC t n S r') : r = r' := by
  rcases h with ⟨a, h⟩ | ⟨a, b, c, h⟩ | ⟨a, b, c, d, h⟩ | ⟨a, b, c, d, e, h⟩ | ⟨a, b, h⟩ <;> rcases h' with ⟨a', h'⟩ | ⟨a', b', c', h'⟩ | ⟨a', b', c', d', h'⟩ | ⟨a', b', c', d', e', h'⟩ | ⟨a', b', h'⟩
  · exact h.det h'
  · rw [a] at a'; cases a'
  · rw [a] at a'; cases a'
  · rw [a] at a'; cases a'
  · rw [a] at a'; cases a'
  · rw [a] at a'; cases a'
  · exact h.det h'
  · exact absurd c c'
  · exact absurd c c'
  · exact absurd b b'
  · rw [a] at a'; cases a'
  · exact absurd c' c
  · rw [h, h']
  · omega
  · exact absurd b b'
  · rw [a] at a'; cases a'
  · exact absurd c' c
  · omega
  · exact h.det h'
  · exact absurd b b'
  · rw [a] at a'; cases a'
  · exact absurd b' b
  · exact absurd b' b
  · exact absurd b' b
  · exact h.det h'
theorem RN.det : ∀ (m m' : Nat) (S : GS) (r r' : Nat ⊕ GS), RN t n m S r → RN t n m' S r' → r = r'
  | 0, 0, S, r, r', h, h' => by
    rcases h with ⟨a, rfl⟩ | ⟨a, p, hP, rfl⟩
    · rcases h' with ⟨_, rfl⟩ | ⟨b, _⟩
      · rfl
      · exact absurd a b
    · rcases h' with ⟨b, _⟩ | ⟨_, p', hP', rfl⟩
      · exact absurd b a
      · exact hP.det hP'
  | 0, m' + 1, S, r, r', h, h' => by
    obtain ⟨b, S', hP', _⟩ := h'
    rcases h with ⟨a, rfl⟩ | ⟨a, p, hP, rfl⟩
    · exact absurd a b
    · have := hP.det hP'; cases this
  | m + 1, 0, S, r, r', h, h' => by
    obtain ⟨b, S', hP', _⟩ := h
    rcases h' with ⟨a, rfl⟩ | ⟨a, p, hP, rfl⟩
    · exact absurd a b
    · have := hP.det hP'; cases this
  | m + 1, m' + 1, S, r, r', h, h' => by
    obtain ⟨_, S1, hP, hR⟩ := h
    obtain ⟨_, S2, hP', hR'⟩ := h'
    have := hP.det hP'
    cases this
    exact RN.det m m' S1 r r' hR hR'
theorem RD.det {r r' : Nat ⊕ GS} (h : RD t n r) (h' : RD t n r') : r = r' := by
  have fm : ∀ r, RD t n r → ∃ a, Beg t n a ∧ ∃ r1, BE t n (G0 a) r1 ∧ ((∃ p, r1 = .inl p ∧ r = .inl p) ∨ ∃ S, r1 = .inr S ∧ ∃ m r2, RN t n m S r2 ∧ ((∃ p, r2 = .inl p ∧ r = .inl p) ∨ ∃ S', r2 = .inr S' ∧ ∃ p, Runs cWh t n S'.at_ p ∧ ((p = n ∧ r = .inr S') ∨ (¬ p = n ∧ r = .inl p)))) := by
    intro r h
    cases r with
    | inl p =>
      obtain ⟨a, hB, h | ⟨S, hE, m, h | ⟨S', hR, hr, hne⟩⟩⟩ := h
      · exact ⟨a, hB, _, h, Or.inl ⟨p, rfl, rfl⟩⟩
      · exact ⟨a, hB, _, hE, Or.inr ⟨S, rfl, m, _, h, Or.inl ⟨p, rfl, rfl⟩⟩⟩
      · exact ⟨a, hB, _, hE, Or.inr ⟨S, rfl, m, _, hR, Or.inr ⟨S', rfl, p, hr, Or.inr ⟨hne, rfl⟩⟩⟩⟩
    | inr S' =>
      obtain ⟨a, hB, S, hE, m, hR, hr⟩ := h
      exact ⟨a, hB, _, hE, Or.inr ⟨S, rfl, m, _, hR, Or.inr ⟨S', rfl, n, hr, Or.inl ⟨rfl, rfl⟩⟩⟩⟩
  obtain ⟨a, hB, r1, hE, h⟩ := fm r h
  obtain ⟨a', hB', r1', hE', h'⟩ := fm r' h'
  have : a = a' := Runs.uniq hB hB'
  subst this
  have := hE.det hE'
  subst this
  rcases h with ⟨p, rfl, rfl⟩ | ⟨S, rfl, m, r2, hR, h⟩
  · rcases h' with ⟨p', e, rfl⟩ | ⟨S', e, _⟩
    · cases e; rfl
    · cases e
  · rcases h' with ⟨p', e, _⟩ | ⟨S', e, m', r2', hR', h'⟩
    · cases e
    · cases e
      have := RN.det m m' S _ _ hR hR'
      subst this
      rcases h with ⟨p, rfl, rfl⟩ | ⟨S1, rfl, p, hr, h⟩
      · rcases h' with ⟨p', e, rfl⟩ | ⟨S', e, _⟩
        · cases e; rfl
        · cases e
      · rcases h' with ⟨p', e, _⟩ | ⟨S', e, p', hr', h'⟩
        · cases e
        · cases e
          have := hr.uniq hr'
          subst this
          rcases h with ⟨c, rfl⟩ | ⟨c, rfl⟩
          · rcases h' with ⟨_, rfl⟩ | ⟨d, _⟩
            · rfl
            · exact absurd c d
          · rcases h' with ⟨d, _⟩ | ⟨_, rfl⟩
            · exact absurd d c
            · rfl
end DT
