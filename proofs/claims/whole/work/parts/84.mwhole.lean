/-! PURE: the reference reads the whole text as RD says; RD says one thing. -/
section MW2
variable {t : Nat → Int32} {n : Nat} {τ : MPS}
/-- the declaration that the reference holds -/
def Dcl (τ : MPS) : Prop := ∀ i, i < 38 → mp_declaration τ i = tCh 0 (nI i)
theorem r_isDeclared (hT : MT τ t n) (hD : Dcl τ) {post : Int32 → Prop} (hq : post (b2i (stAt t n 0 0))) : w_M_isDeclared τ post := by
  have key : ∀ q i, i + q = 38 → (∀ j, j < i → xx t n (0 + j) = tCh 0 (nI j)) → ∃ f, w_M_isDeclared_L4 τ post f 1 (nI i) := by
    intro q
    induction q with
    | zero =>
      intro i hi ha
      have hi : i = 38 := by omega
      subst hi
      refine ⟨1, ?_⟩
      unfold w_M_isDeclared_L4
      refine br_t (by decide) ⟨nar_1, ?_⟩
      rw [show stAt t n 0 0 = true from decide_eq_true (fun j hj => ha j hj)] at hq
      exact hq
    | succ q ih =>
      intro i hi ha
      by_cases hc : xx t n i = tCh 0 (nI i)
      · obtain ⟨f, hf⟩ := ih (i + 1) (by omega) (fun j hj => by
          by_cases e : j = i
          · rw [e, Nat.zero_add]; exact hc
          · exact ha j (by omega))
        refine ⟨f + 1, ?_⟩
        unfold w_M_isDeclared_L4 w_M_isDeclared_J36
        refine br_f (nI_ge (by omega) (by decide)) (br_f (by decide) ⟨hT.k (by omega), vp_in_nI (by omega) (by decide), ?_⟩)
        rw [hT.x (by omega), nI_clamp (by omega), hD i (by omega), nI_1]
        exact br_t hc hf
      · refine ⟨2, ?_⟩
        unfold w_M_isDeclared_L4 w_M_isDeclared_J36
        refine br_f (nI_ge (by omega) (by decide)) (br_f (by decide) ⟨hT.k (by omega), vp_in_nI (by omega) (by decide), ?_⟩)
        rw [hT.x (by omega), nI_clamp (by omega), hD i (by omega)]
        refine br_f hc ?_
        rw [show stAt t n 0 0 = false from decide_eq_false (fun z => hc (by have := z i (by show i < 38; omega); rw [Nat.zero_add] at this; exact this))] at hq
        unfold w_M_isDeclared_L4
        exact ⟨fun _ => ⟨nar_0, hq⟩, fun _ => br_t rfl ⟨nar_0, hq⟩⟩
  exact key 38 0 rfl (fun j hj => absurd hj (Nat.not_lt_zero j))
theorem r_lookThrough (hT : MT τ t n) (hD : Dcl τ) {post : MPS → Prop} (h0 : ∀ p τ', RD t n (.inl p) → Kr τ τ' → mp_at τ' = nI p → mp_bad τ' = 1 → post τ') (h1 : ∀ S τ', RD t n (.inr S) → MB S τ' → Inv t n S → Gd t n S → Kr τ τ' → mp_bad τ' = 0 → post τ') : w_M_lookThrough τ post := by
  have hn := hT.2.1
  unfold w_M_lookThrough
  refine fa_eq (fa_eq (fa_eq (fa_eq (fa_eq ?_))))
  have kr0 : Kr τ (ms_bad (ms_nodes (ms_deep (ms_elements (ms_at τ 0) 0) 0) 0) 0) := by
    refine ⟨fun j hj => ?_, fun j _ => rfl⟩
    show va_up (va_up (va_up (va_up (va_up τ.1 13 0) 14 0) 15 0) 32 0) 16 0 j = τ.1 j
    have m13 : ¬ j = 13 := fun z => by subst z; revert hj; decide
    have m14 : ¬ j = 14 := fun z => by subst z; revert hj; decide
    have m15 : ¬ j = 15 := fun z => by subst z; revert hj; decide
    have m32 : ¬ j = 32 := fun z => by subst z; revert hj; decide
    have m16 : ¬ j = 16 := fun z => by subst z; revert hj; decide
    rw [va_n m16, va_n m32, va_n m15, va_n m14, va_n m13]
  refine r_isDeclared (hT.kr kr0) hD ?_
  -- from the place behind the declaration
  have rest : ∀ b τ1, b ≤ n → (if stAt t n 0 0 = true then 38 else 0) = b → Kr τ τ1 → mp_at τ1 = nI b → mp_bad τ1 = 0 → mp_elements τ1 = 0 → mp_nodes τ1 = 0 → mp_deep τ1 = 0 → w_M_lookThrough_J41 post τ1 := by
    intro b τ1 hb hbe kr a1 b1 e1 n1 d1
    have hT1 := hT.kr kr
    unfold w_M_lookThrough_J41
    obtain ⟨a, hr⟩ := Runs.ex cWh_m t n b
    have han := hr.le cWh_m hb
    have hBeg : Beg t n a := by unfold Beg; rw [hbe]; exact hr
    refine r_skipWhite hT1 a1 hb hr (fun τ2 d a2 => ?_)
    have hT2 := hT1.df d (by decide)
    have kr2 : Kr τ τ2 := kr.trans (d.kr (by decide))
    have b2 : mp_bad τ2 = 0 := (d.i 16 (by decide)).trans b1
    rw [a2]
    refine ⟨hT2.k (by omega), ?_⟩
    rw [hT2.x (by omega)]
    have hI := inv0 (t := t) han hn
    have hM : MR t n (G0 a) τ2 := ⟨hT2, a2, b2, (d.i 14 (by decide)).trans e1, (d.i 32 (by decide)).trans n1, fun k hk => absurd hk (Nat.not_lt_zero k), (d.i 15 (by decide)).trans d1, trivial, fun z => by cases z⟩
    refine ⟨fun hx => ?_, fun hx => fa_eq ⟨1, ?_⟩⟩
    · refine r_takeBeginning hM rfl hI gd0 hx (fun hf => ?_) (fun _ _ p τ3 hB kr3 a3 b3 => ⟨1, ?_⟩) (fun _ _ S τ3 hB hM3 kr3 hbg hop => ?_)
      · exact absurd hf (by show ¬ (300 ≤ 0 ∨ 40 ≤ 0); omega)
      · exact r_bad 0 b3 (h0 p τ3 ⟨a, hBeg, Or.inl hB⟩ (kr2.trans kr3) a3 b3)
      · obtain ⟨hI', hat, hit', hne'⟩ := hI.be (by show 0 < 300; decide) (by show 0 < 40; decide) hB
        have hG' := Gd.be hI gd0 rfl hB
        have := (r_pieces τ (post := post) n S τ3 (by omega) hI' hG' hM3 (kr2.trans kr3) (fun p τ' m hR => h0 p τ' ⟨a, hBeg, Or.inr ⟨S, hB, m, Or.inl hR⟩⟩) (fun S' p τ' m hR hr hne => h0 p τ' ⟨a, hBeg, Or.inr ⟨S, hB, m, Or.inr ⟨S', hR, hr, hne⟩⟩⟩) (fun S' τ' m hR hr => h1 S' τ' ⟨a, hBeg, S, hB, m, hR, hr⟩)).2 hit' (G0 a).K (G0 a).op hop (n + 2) (n + 2) (fun σ67 => (∃ n70, w_M_lookThrough_L70 post n70 σ67)) (fun σ h => ⟨n + 2, h⟩) (Nat.le_refl _) (Nat.le_refl _)
        rw [hbg] at this
        exact ⟨n + 2, this⟩
    · have d3 : Df [13, 16] τ1 (ms_bad τ2 1) := (d.mono (by decide)).trans (Df.set τ2 (by decide))
      exact r_bad 0 rfl (h0 a _ ⟨a, hBeg, Or.inl (BE.no (S := G0 a) hx)⟩ (kr.trans (d3.kr (by decide))) a2 rfl)
  by_cases hd : stAt t n 0 0 = true
  · refine bl_t hd (fa_eq ?_)
    have := stAt_end (m := 37) hd (by decide) (by decide +kernel)
    exact rest 38 _ (by omega) (if_pos hd) (kr0.trans ((Df.set (L := [13]) _ (by decide)).kr (by decide))) rfl rfl rfl rfl rfl
  · exact bl_f (Bool.eq_false_iff.mpr hd) (rest 0 _ (Nat.zero_le _) (if_neg hd) kr0 rfl rfl rfl rfl rfl)
end MW2
