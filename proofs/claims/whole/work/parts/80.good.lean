/-! PURE: what holds of all that is read. -/
def Gd (t : Nat → Int32) (n : Nat) (S : GS) : Prop := (∀ k, k < S.K → S.el k = true → Name t n (S.bg k + 1) (S.bg k + 1 + S.nl k)) ∧ (∀ k, k < S.K → S.el k = true → ¬ (S.it = true ∧ ∃ os, S.op = k :: os) → ∃ q, AL t n (S.bg k + 1 + S.nl k) (S.as k) q ∧ NoA t n q n) ∧ (S.it = true → ∀ k os, S.op = k :: os → AL t n (S.bg k + 1 + S.nl k) (S.as k) S.at_) ∧ (∀ k, k < S.K → S.el k = true → ∀ (i j : Nat) (A B : Att), (S.as k)[i]? = some A → (S.as k)[j]? = some B → seg t n A.na A.nl = seg t n B.na B.nl → i = j) ∧ (∀ k, k < S.K → S.el k = false → Chars t n 60 (S.bg k) (S.en k) (S.cs k) ∧ S.bg k < S.en k) ∧ (∀ r, r < S.K → (S.fs r = -1 ↔ S.ls r = -1))
theorem Gd.nm {t : Nat → Int32} {n : Nat} {S : GS} (h : Gd t n S) : ∀ k, k < S.K → S.el k = true → Name t n (S.bg k + 1) (S.bg k + 1 + S.nl k) := h.1
theorem Gd.al {t : Nat → Int32} {n : Nat} {S : GS} (h : Gd t n S) : ∀ k, k < S.K → S.el k = true → ¬ (S.it = true ∧ ∃ os, S.op = k :: os) → ∃ q, AL t n (S.bg k + 1 + S.nl k) (S.as k) q ∧ NoA t n q n := h.2.1
theorem Gd.cu {t : Nat → Int32} {n : Nat} {S : GS} (h : Gd t n S) : S.it = true → ∀ k os, S.op = k :: os → AL t n (S.bg k + 1 + S.nl k) (S.as k) S.at_ := h.2.2.1
theorem Gd.uq {t : Nat → Int32} {n : Nat} {S : GS} (h : Gd t n S) : ∀ k, k < S.K → S.el k = true → ∀ (i j : Nat) (A B : Att), (S.as k)[i]? = some A → (S.as k)[j]? = some B → seg t n A.na A.nl = seg t n B.na B.nl → i = j := h.2.2.2.1
theorem Gd.tx {t : Nat → Int32} {n : Nat} {S : GS} (h : Gd t n S) : ∀ k, k < S.K → S.el k = false → Chars t n 60 (S.bg k) (S.en k) (S.cs k) ∧ S.bg k < S.en k := h.2.2.2.2.1
theorem Gd.fl {t : Nat → Int32} {n : Nat} {S : GS} (h : Gd t n S) : ∀ r, r < S.K → (S.fs r = -1 ↔ S.ls r = -1) := h.2.2.2.2.2
section GD
variable {t : Nat → Int32} {n : Nat} {S S' : GS}
theorem gd0 {a : Nat} : Gd t n (G0 a) := by
  have hK : (G0 a).K = 0 := rfl
  refine ⟨?_, ?_, ?_, ?_, ?_, ?_⟩
  · intro k hk; rw [hK] at hk; omega
  · intro k hk; rw [hK] at hk; omega
  · intro h; cases h
  · intro k hk; rw [hK] at hk; omega
  · intro k hk; rw [hK] at hk; omega
  · intro k hk; rw [hK] at hk; omega
theorem add_fl (hI : Inv t n S) (hG : Gd t n S) : ∀ r, r < S.K + 1 → (va_up S.fs1 S.K (-1) r = -1 ↔ va_up S.ls1 S.K (-1) r = -1) := by
  have hK := hI.k900
  intro r hr
  by_cases e : r = S.K
  · rw [e, va_s, va_s]
  · rw [va_n e, va_n e]
    have old := hG.fl r (by omega)
    cases hop : S.op with
    | nil => rw [fs1_nil hop, ls1_nil hop]; exact old
    | cons u os =>
      rw [fs1_cons hop, ls1_cons hop]
      by_cases e2 : r = u
      · subst e2
        rw [va_s]
        by_cases hl : S.ls r = -1
        · rw [if_pos hl, va_s]
        · rw [if_neg hl]
          exact ⟨fun z => absurd (old.mp z) hl, fun z => absurd z (nI_m1 (by omega))⟩
      · rw [va_n e2]
        by_cases hl : S.ls u = -1
        · rw [if_pos hl, va_n e2]; exact old
        · rw [if_neg hl]; exact old
theorem Gd.be (hI : Inv t n S) (hG : Gd t n S) (hit : S.it = false) (hb : BE t n S (.inr S')) : Gd t n S' := by
  obtain ⟨e, hx, hnm, rfl⟩ := hb
  have hl := hnm.len
  have hlt : ∀ u ∈ S.op, u < S.K := hI.opn.lt
  simp only [Gd, addEl_K, addEl_el, addEl_bg, addEl_nl, addEl_en, addEl_cs, addEl_as, addEl_up, addEl_fs, addEl_nx, addEl_ls, addEl_pa, addEl_dp, addEl_op, addEl_at_, addEl_it, addEl_E, addEl_X, addEl_F]
  refine ⟨fun k hk hel => ?_, fun k hk hel hno => ?_, fun _ k os hop => ?_, fun k hk hel => ?_, fun k hk hel => ?_, add_fl hI hG⟩
  · by_cases hkK : k = S.K
    · subst hkK
      rw [va_s, va_s, show S.at_ + 1 + (e - (S.at_ + 1)) = e from by omega]
      exact hnm
    · rw [va_n hkK, va_n hkK]
      rw [va_n hkK] at hel
      exact hG.nm k (by omega) hel
  · by_cases hkK : k = S.K
    · subst hkK
      exact absurd ⟨trivial, S.op, rfl⟩ hno
    · rw [va_n hkK, va_n hkK, va_n hkK]
      rw [va_n hkK] at hel
      exact hG.al k (by omega) hel (fun z => by rw [hit] at z; cases z.1)
  · cases hop
    rw [va_s, va_s, va_s]
    show S.at_ + 1 + (e - (S.at_ + 1)) = e
    omega
  · by_cases hkK : k = S.K
    · subst hkK
      rw [va_s]
      intro i j A B hi; cases hi
    · rw [va_n hkK]
      rw [va_n hkK] at hel
      exact hG.uq k (by omega) hel
  · by_cases hkK : k = S.K
    · subst hkK
      rw [va_s] at hel; cases hel
    · rw [va_n hkK, va_n hkK, va_n hkK]
      rw [va_n hkK] at hel
      exact hG.tx k (by omega) hel
theorem Gd.tag (hG : Gd t n S) (hit : S.it = true) {p : Nat} (hw : Runs cWh t n S.at_ p) (hB : cBn (xx t n p) = false) : ∀ k, k < S.K → S.el k = true → ∃ q, AL t n (S.bg k + 1 + S.nl k) (S.as k) q ∧ NoA t n q n := by
  intro k hk hel
  by_cases h : S.it = true ∧ ∃ os, S.op = k :: os
  · obtain ⟨_, os, hop⟩ := h
    exact ⟨S.at_, hG.cu hit k os hop, p, hw, Or.inr hB⟩
  · exact hG.al k hk hel h
theorem Gd.it (hI : Inv t n S) (hG : Gd t n S) (hit : S.it = true) (hb : IT t n S (.inr S')) : Gd t n S' := by
  rcases hb with ⟨k0, p, os0, hop, hw, hlt, hB, hA⟩ | ⟨p, hw, hx, rfl⟩ | ⟨k0, os0, p, hop, hw, hx, hx2, rfl⟩
  · obtain ⟨e, q, cs, hnm, hno, hx, hx2, hCh, hx3, rfl⟩ := hA
    have hl := hnm.len
    have hAP : AtP t n S.at_ (Att.mk p (e - p) q cs) := by
      refine ⟨hw, hlt, ?_, ?_, ?_, ?_, hx3⟩
      · show Name t n p (p + (e - p)); rw [show p + (e - p) = e from by omega]; exact hnm
      · show xx t n (p + (e - p)) = 61; rw [show p + (e - p) = e from by omega]; exact hx
      · show xx t n (p + (e - p) + 1) = 34; rw [show p + (e - p) = e from by omega]; exact hx2
      · show Chars t n 34 (p + (e - p) + 2) q cs; rw [show p + (e - p) = e from by omega]; exact hCh
    simp only [Gd, addAt_K, addAt_el, addAt_bg, addAt_nl, addAt_en, addAt_cs, addAt_as, addAt_up, addAt_fs, addAt_nx, addAt_ls, addAt_pa, addAt_dp, addAt_op, addAt_at_, addAt_it, addAt_E, addAt_X, addAt_F]
    refine ⟨hG.nm, fun k hk hel hno2 => ?_, fun _ k os hop2 => ?_, fun k hk hel => ?_, hG.tx, hG.fl⟩
    · by_cases hkk : k = k0
      · subst hkk
        exact absurd ⟨hit, os0, hop⟩ hno2
      · rw [va_n hkk]
        exact hG.al k hk hel (fun z => by
          obtain ⟨_, os, hz⟩ := z
          rw [hop] at hz; cases hz; exact hkk rfl)
    · rw [hop] at hop2
      cases hop2
      rw [va_s]
      exact AL.snoc (hG.cu hit k0 os0 hop) hAP
    · by_cases hkk : k = k0
      · subst hkk
        rw [va_s]
        have key : ∀ (i j : Nat) (A B : Att), (S.as k ++ [Att.mk p (e - p) q cs])[i]? = some A → (S.as k ++ [Att.mk p (e - p) q cs])[j]? = some B → seg t n A.na A.nl = seg t n B.na B.nl → i = j := by
          intro i j A B hi hj hs
          have hil := (List.getElem?_eq_some_iff.mp hi).1
          have hjl := (List.getElem?_eq_some_iff.mp hj).1
          simp only [List.length_append, List.length_cons, List.length_nil] at hil hjl
          by_cases a : i < (S.as k).length
          · rw [List.getElem?_append_left a] at hi
            by_cases b : j < (S.as k).length
            · rw [List.getElem?_append_left b] at hj
              exact hG.uq k hk hel i j A B hi hj hs
            · rw [List.getElem?_append_right (by omega), show j - (S.as k).length = 0 from by omega] at hj
              cases hj
              exact absurd hs (hno A (List.mem_of_getElem? hi))
          · rw [List.getElem?_append_right (by omega), show i - (S.as k).length = 0 from by omega] at hi
            cases hi
            by_cases b : j < (S.as k).length
            · rw [List.getElem?_append_left b] at hj
              exact absurd hs.symm (hno B (List.mem_of_getElem? hj))
            · omega
        exact key
      · rw [va_n hkk]
        exact hG.uq k hk hel
  · have hB : cBn (xx t n p) = false := by rw [hx]; decide +kernel
    simp only [Gd, tagEnd_K, tagEnd_el, tagEnd_bg, tagEnd_nl, tagEnd_en, tagEnd_cs, tagEnd_as, tagEnd_up, tagEnd_fs, tagEnd_nx, tagEnd_ls, tagEnd_pa, tagEnd_dp, tagEnd_op, tagEnd_at_, tagEnd_it, tagEnd_E, tagEnd_X, tagEnd_F]
    exact ⟨hG.nm, fun k hk hel _ => hG.tag hit hw hB k hk hel, (by intro z; cases z), hG.uq, hG.tx, hG.fl⟩
  · have hB : cBn (xx t n p) = false := by rw [hx]; decide +kernel
    simp only [Gd, shut_K, shut_el, shut_bg, shut_nl, shut_en, shut_cs, shut_as, shut_up, shut_fs, shut_nx, shut_ls, shut_pa, shut_dp, shut_op, shut_at_, shut_it, shut_E, shut_X, shut_F]
    exact ⟨hG.nm, fun k hk hel _ => hG.tag hit hw hB k hk hel, (by intro z; cases z), hG.uq, hG.tx, hG.fl⟩
theorem Gd.pc (hI : Inv t n S) (hG : Gd t n S) (hb : PC t n S (.inr S')) : Gd t n S' := by
  rcases hb with ⟨hit, h⟩ | ⟨hit, hx, hx1, h⟩ | ⟨_, _, _, _, h⟩ | ⟨hit, hx, hx1, hE, h40, h⟩ | ⟨hit, hx, h⟩
  · exact hG.it hI hit h
  · obtain ⟨k, os, e, p, hop, hnm, hs, hw, hx3, rfl⟩ := h
    simp only [Gd, shut_K, shut_el, shut_bg, shut_nl, shut_en, shut_cs, shut_as, shut_up, shut_fs, shut_nx, shut_ls, shut_pa, shut_dp, shut_op, shut_at_, shut_it, shut_E, shut_X, shut_F]
    exact ⟨hG.nm, fun k hk hel _ => hG.al k hk hel (fun z => by rw [hit] at z; cases z.1), (by intro z; cases z), hG.uq, hG.tx, hG.fl⟩
  · cases h
  · exact hG.be hI hit h
  · obtain ⟨e, cs, hm, hCh, hst, rfl⟩ := h
    have hlt : S.at_ < e := by
      cases cs with
      | nil =>
        have he : S.at_ = e := hCh
        rw [← he] at hst
        rcases hst with h | h
        · exact absurd h hx
        · exact absurd h hm
      | cons c L =>
        obtain ⟨_, _, _, k', h2, h3⟩ := hCh
        have a1 := chf_some h2
        have a2 := Chars.le h3
        omega
    simp only [Gd, addTx_K, addTx_el, addTx_bg, addTx_nl, addTx_en, addTx_cs, addTx_as, addTx_up, addTx_fs, addTx_nx, addTx_ls, addTx_pa, addTx_dp, addTx_op, addTx_at_, addTx_it, addTx_E, addTx_X, addTx_F]
    refine ⟨fun k hk hel => ?_, fun k hk hel hno => ?_, fun z => ?_, fun k hk hel => ?_, fun k hk hel => ?_, add_fl hI hG⟩
    · by_cases hkK : k = S.K
      · subst hkK
        rw [va_s] at hel; cases hel
      · rw [va_n hkK] at hel
        rw [va_n hkK, va_n hkK]
        exact hG.nm k (by omega) hel
    · by_cases hkK : k = S.K
      · subst hkK
        rw [va_s] at hel; cases hel
      · rw [va_n hkK] at hel
        rw [va_n hkK, va_n hkK, va_n hkK]
        exact hG.al k (by omega) hel hno
    · rw [hit] at z; cases z
    · by_cases hkK : k = S.K
      · subst hkK
        rw [va_s] at hel; cases hel
      · rw [va_n hkK] at hel
        rw [va_n hkK]
        exact hG.uq k (by omega) hel
    · by_cases hkK : k = S.K
      · subst hkK
        rw [va_s, va_s, va_s]
        exact ⟨hCh, hlt⟩
      · rw [va_n hkK] at hel
        rw [va_n hkK, va_n hkK, va_n hkK]
        exact hG.tx k (by omega) hel
end GD
