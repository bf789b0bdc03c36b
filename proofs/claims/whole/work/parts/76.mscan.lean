/-! PURE: the reference's numbered references; how it scans. -/
section MS
variable {t : Nat → Int32} {n k : Nat} {τ : MPS}
/-- the digits: as many as num takes, or one more -/
theorem r_digits {hex : Int32} {first : Nat} (hT : MT τ t n) (hkf : k ≤ first) (hf : first ≤ 4010) (hh : hex = 0 ∨ hex = 1) {post : Int32 → MPS → Prop} : ∀ q d p c, d + q = 7 → p = first + d →
    (∀ c' p', num t n hex ((if hex = 0 then 8 else 7) - d) d p c = some (c', p') → cOk c' = true → ∀ τ', Df [12] τ τ' → mp_width τ' = nI (p' - k) → post c' τ') →
    ((∀ c' p', num t n hex ((if hex = 0 then 8 else 7) - d) d p c = some (c', p') → cOk c' = false) → ∀ τ', Df [12] τ τ' → post (-1) τ') →
    ∃ f, w_M_characterOf_L227 (nI k) hex (nI first) post f (nI p) c τ := by
  have hb := hT.byt
  intro q
  induction q with
  | zero =>
    intro d p c hd hp h1 h0
    have hd7 : d = 7 := by omega
    subst hd7
    refine ⟨1, ?_⟩
    unfold w_M_characterOf_L227
    refine br_t (by rw [pk_sub (by omega), show p - first = 7 from by omega]; decide) ?_
    refine r_J298 (d := 7) hT hp (by omega) (by omega) hkf hh (fun hg hc => ?_) (fun hg => ?_)
    · rcases hh with rfl | rfl
      · have e : num t n 0 ((if (0 : Int32) = 0 then 8 else 7) - 7) 7 p c = some (c, p + 1) := by
          show num t n 0 1 7 p c = _
          unfold num
          rw [if_pos (by
            by_cases z : cDv (xx t n p) 0 = -1
            · exact z
            · exact absurd hg.2.1 ((dig1 hb p).2.2.2 z)), if_pos ⟨by decide, hg.2.1⟩]
        exact h1 c (p + 1) e hc
      · exact absurd (hg.2.2 rfl) (by decide)
    · refine h0 (fun c' p' e => ?_)
      rcases hh with rfl | rfl
      · have e : num t n 0 1 7 p c = some (c', p') := e
        unfold num at e
        by_cases z : cDv (xx t n p) 0 = -1
        · rw [if_pos z] at e
          by_cases y : 0 < 7 ∧ xx t n p = 59
          · rw [if_pos y] at e
            cases e
            rcases hg with hg | hg
            · exact absurd ⟨by decide, y.2, fun w => by cases w⟩ hg
            · exact hg
          · rw [if_neg y] at e; cases e
        · rw [if_neg z] at e
          unfold num at e; cases e
      · have e : num t n 1 0 7 p c = some (c', p') := e
        unfold num at e; cases e
  | succ q ih =>
    intro d p c hd hp h1 h0
    have hxp : mX τ (nI p) = xx t n p := hT.x (by omega)
    -- num's next turn
    have hfu : ∃ F, ((if hex = 0 then 8 else 7) - d) = F + 1 ∧ (if hex = 0 then 8 else 7) - (d + 1) = F := by
      rcases hh with rfl | rfl
      · exact ⟨7 - d, by rw [if_pos rfl]; omega, by rw [if_pos rfl]; omega⟩
      · exact ⟨6 - d, by rw [if_neg (by decide)]; omega, by rw [if_neg (by decide)]; omega⟩
    obtain ⟨F, hF, hF2⟩ := hfu
    rw [hF] at h1 h0
    by_cases z : cDv (xx t n p) hex = -1
    · -- no digit
      have J : w_M_characterOf_J298 post (nI k) (nI p) hex (nI first) c τ := by
        have e : num t n hex (F + 1) d p c = if 0 < d ∧ xx t n p = 59 then some (c, p + 1) else none := by
          show (if cDv (xx t n p) hex = -1 then _ else _) = _
          rw [if_pos z]
        rw [e] at h1 h0
        refine r_J298 (d := d) hT hp (by omega) (by omega) hkf hh (fun hg hc => ?_) (fun hg => ?_)
        · exact h1 c (p + 1) (if_pos ⟨hg.1, hg.2.1⟩) hc
        · refine h0 (fun c' p' e => ?_)
          by_cases y : 0 < d ∧ xx t n p = 59
          · rw [if_pos y] at e
            cases e
            rcases hg with hg | hg
            · exact absurd ⟨y.1, y.2, fun _ => by omega⟩ hg
            · exact hg
          · rw [if_neg y] at e; cases e
      refine ⟨1, ?_⟩
      unfold w_M_characterOf_L227
      refine br_f (by rw [pk_sub (by omega), show p - first = d from by omega]; exact nI_ge (b := 7) (by omega) (by decide)) ?_
      rcases hh with rfl | rfl
      · refine br_t rfl ⟨hT.k (by omega), ?_⟩
        rw [hxp]
        refine bl_f ?_ J
        cases hg : cDg (xx t n p) with
        | false => rfl
        | true => exact absurd z ((cDv0 _).2 hg).1
      · refine br_f (by decide) ⟨hT.k (by omega), ?_⟩
        rw [hxp]
        exact br_t ((dig1 hb p).1.mp z) J
    · -- a digit
      have e : num t n hex (F + 1) d p c = num t n hex F (d + 1) (p + 1) (c * (if hex = 0 then 10 else 16) + cDv (xx t n p) hex) := by
        show (if cDv (xx t n p) hex = -1 then _ else _) = _
        rw [if_neg z]
      rw [e, ← hF2] at h1 h0
      obtain ⟨f, hfu⟩ := ih (d + 1) (p + 1) (c * (if hex = 0 then 10 else 16) + cDv (xx t n p) hex) (by omega) (by omega) h1 h0
      refine ⟨f + 1, ?_⟩
      unfold w_M_characterOf_L227 w_M_characterOf_J266 w_M_characterOf_J278
      refine br_f (by rw [pk_sub (by omega), show p - first = d from by omega]; exact nI_ge (b := 7) (by omega) (by decide)) ?_
      rcases hh with rfl | rfl
      · have hg : cDg (xx t n p) = true := by
          cases hg : cDg (xx t n p) with
          | false => exact absurd ((cDv0 _).1 hg) z
          | true => rfl
        refine br_t rfl ⟨hT.k (by omega), ?_⟩
        rw [hxp]
        refine bl_t hg (br_t rfl ⟨hT.k (by omega), ?_⟩)
        rw [nI_1, ← ((cDv0 _).2 hg).2, Int32.mul_comm]
        exact hfu
      · refine br_f (by decide) ⟨hT.k (by omega), ?_⟩
        rw [hxp]
        refine br_f (fun y => z ((dig1 hb p).1.mpr y)) (br_f (by decide) ⟨hT.k (by omega), ?_⟩)
        rw [nI_1, ← (dig1 hb p).2.1 z, Int32.mul_comm]
        exact hfu
theorem r_characterOf (hT : MT τ t n) (hk : k < n) {post : Int32 → MPS → Prop} (h1 : ∀ c e τ', chf t n k = some (c, e) → Df [12] τ τ' → mp_width τ' = nI (e - k) → post c τ') (h0 : chf t n k = none → ∀ τ', Df [12] τ τ' → post (-1) τ') : w_M_characterOf τ (nI k) post := by
  have hn := hT.2.1
  unfold w_M_characterOf
  refine ⟨hT.k (by omega), ?_⟩
  rw [hT.x (by omega)]
  by_cases ha : xx t n k = 38
  · refine br_t ha ?_
    have hch : chf t n k = if xx t n (k + 1) = 35 then chN t n k else chA t n k := by unfold chf; rw [if_pos ha]
    -- a text with # stands nowhere
    have nst : ∀ x, xx t n (k + 1) = 35 → (1 < tLn.getD x 0 ∧ ¬ tCh x (nI 1) = 35) → ¬ stAt t n k x = true := fun x h35 hx hs => hx.2 (by
      have := of_decide_eq_true hs 1 hx.1
      rw [← this]; exact h35)
    have named : ∀ x c m, stAt t n k x = true → tLn.getD x 0 = m + 2 → m ≤ 4 → ¬ c < 0 → ((∀ i, i < m + 1 → ¬ tCh x (nI i) = 59) ∧ tCh x (nI (m + 1)) = 59) → (xx t n (k + 1) = 35 → False) → chA t n k = some (c, k + (m + 2)) → w_M_characterOf_J129 post (nI k) c τ := fun x c m hs hl hm hc ht h35 hA =>
      r_named hT hk hs hl hm hc ht (fun τ' d w => h1 c (k + (m + 2)) τ' (by rw [hch, if_neg h35]; exact hA) d (by rw [w]; congr 1; omega))
    refine r_says' (m := 5) hT (by omega) (by decide) we2 ?_
    by_cases s2 : stAt t n k 2 = true
    · exact bl_t s2 (named 2 38 3 s2 (by decide) (by decide) (by decide) (by decide +kernel) (fun z => nst 2 z (by decide +kernel) s2) (by unfold chA; rw [if_pos s2]))
    refine bl_f (Bool.eq_false_iff.mpr s2) (r_says' (m := 4) hT (by omega) (by decide) we3 ?_)
    by_cases s3 : stAt t n k 3 = true
    · exact bl_t s3 (named 3 60 2 s3 (by decide) (by decide) (by decide) (by decide +kernel) (fun z => nst 3 z (by decide +kernel) s3) (by unfold chA; rw [if_neg s2, if_pos s3]))
    refine bl_f (Bool.eq_false_iff.mpr s3) (r_says' (m := 4) hT (by omega) (by decide) we4 ?_)
    by_cases s4 : stAt t n k 4 = true
    · exact bl_t s4 (named 4 62 2 s4 (by decide) (by decide) (by decide) (by decide +kernel) (fun z => nst 4 z (by decide +kernel) s4) (by unfold chA; rw [if_neg s2, if_neg s3, if_pos s4]))
    refine bl_f (Bool.eq_false_iff.mpr s4) (r_says' (m := 6) hT (by omega) (by decide) we5 ?_)
    by_cases s5 : stAt t n k 5 = true
    · exact bl_t s5 (named 5 34 4 s5 (by decide) (by decide) (by decide) (by decide +kernel) (fun z => nst 5 z (by decide +kernel) s5) (by unfold chA; rw [if_neg s2, if_neg s3, if_neg s4, if_pos s5]))
    refine bl_f (Bool.eq_false_iff.mpr s5) (r_says' (m := 6) hT (by omega) (by decide) we6 ?_)
    by_cases s6 : stAt t n k 6 = true
    · exact bl_t s6 (named 6 39 4 s6 (by decide) (by decide) (by decide) (by decide +kernel) (fun z => nst 6 z (by decide +kernel) s6) (by unfold chA; rw [if_neg s2, if_neg s3, if_neg s4, if_neg s5, if_pos s6]))
    refine bl_f (Bool.eq_false_iff.mpr s6) ?_
    unfold w_M_characterOf_J129
    refine br_t (by decide) ⟨by rw [nI_1]; exact hT.k (by omega), ?_⟩
    rw [nI_1, nI_1, hT.x (by omega), hT.x (by omega)]
    by_cases h35 : xx t n (k + 1) = 35
    · refine br_t h35 ⟨hT.k (by omega), ?_⟩
      rw [if_pos h35] at hch
      have dig : ∀ hex : Int32, (hex = 0 ∨ hex = 1) → hexq t n k = hex → ∃ f, w_M_characterOf_L227 (nI k) hex (nI (k + if hex = 0 then 2 else 3)) post f (nI (k + if hex = 0 then 2 else 3)) 0 τ := fun hex hh he => by
        have hfi : (if hex = 0 then 2 else 3 : Nat) ≤ 3 := by split <;> decide
        refine r_digits (first := k + if hex = 0 then 2 else 3) hT (by omega) (by omega) hh 7 0 _ 0 (by omega) rfl (fun c p e hc τ' d w => ?_) (fun hno τ' d => ?_)
        · refine h1 c p τ' ?_ d w
          rw [hch]
          unfold chN
          rw [he, show num t n hex (if hex = 0 then 8 else 7) 0 (k + if hex = 0 then 2 else 3) 0 = some (c, p) from e]
          simp only [hc, if_true]
        · refine h0 ?_ τ' d
          rw [hch]
          unfold chN
          rw [he]
          have hno2 : ∀ c' p', num t n hex (if hex = 0 then 8 else 7) 0 (k + if hex = 0 then 2 else 3) 0 = some (c', p') → cOk c' = false := hno
          cases e : num t n hex (if hex = 0 then 8 else 7) 0 (k + if hex = 0 then 2 else 3) 0 with
          | none => rfl
          | some q => obtain ⟨c, p⟩ := q; simp [hno2 c p e]
      have J1 : hexq t n k = 1 → w_M_characterOf_J201 post (nI k) (nI (k + 1)) τ := fun he => by
        refine br_f (by decide) ?_
        unfold w_M_characterOf_J219
        rw [show nI (k + 1) + 2 = nI (k + 3) from nI_add (k + 1) 2]
        exact dig 1 (Or.inr rfl) he
      have J0 : hexq t n k = 0 → w_M_characterOf_J206 post (nI k) (nI (k + 1)) 0 τ := fun he => by
        refine br_t rfl ?_
        unfold w_M_characterOf_J219
        rw [nI_1]
        exact dig 0 (Or.inl rfl) he
      show (xx t n (k + 2) = 120 → _) ∧ _
      by_cases a : xx t n (k + 2) = 120
      · exact br_t a (J1 (if_pos (Or.inl a)))
      · refine br_f a ⟨hT.k (by omega), ?_⟩
        by_cases b : xx t n (k + 2) = 88
        · exact br_t b (J1 (if_pos (Or.inr b)))
        · exact br_f b (J0 (if_neg (fun z => z.elim a b)))
    · refine br_f h35 (h0 ?_ τ (Df.refl τ))
      rw [hch, if_neg h35]
      unfold chA
      rw [if_neg s2, if_neg s3, if_neg s4, if_neg s5, if_neg s6]
  · refine br_f ha ?_
    have hch : chf t n k = if cOk (u8 t n k) = true then some (u8 t n k, k + cByN (u8 t n k)) else none := by unfold chf; rw [if_neg ha]
    rw [hT.1]
    refine r_characterAt hT hk (fun τ' d hne w => ?_) (fun hm τ' d => ?_)
    · have hp := u8_pos hT.byt hne
      refine br_f hp ?_
      have hcw := cByN_le (u8 t n k)
      cases hf : cFb (u8 t n k) with
      | false =>
        refine bl_f rfl ?_
        by_cases hc : cCh (u8 t n k) = true
        · have hok : cOk (u8 t n k) = true := by unfold cOk; rw [hc, hf]; rfl
          exact h1 _ (k + cByN (u8 t n k)) τ' (by rw [hch, if_pos hok]) d (by rw [w]; congr 1; omega)
        · exact absurd (u8_cCh hT.byt hk hne) hc
      | true =>
        refine bl_t rfl ?_
        have hok : ¬ cOk (u8 t n k) = true := by unfold cOk; rw [hf]; simp
        exact h0 (by rw [hch, if_neg hok]) τ' d
    · exact br_t (by decide) (h0 (by rw [hch, hm, if_neg (by decide +kernel)]) τ' d)
end MS
