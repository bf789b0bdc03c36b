/-! PURE: the reference takes an attribute. -/
section MA
variable {t : Nat → Int32} {n k : Nat} {τ : MPS} {S : GS}
theorem u8r_cont : ∀ m p c c', u8r t n m p c = some c' → ∀ j, p ≤ j → j < p + m → (xx t n j &&& 192) = 128
  | 0, _, _, _, _ => fun j h1 h2 => by omega
  | m + 1, p, c, c', h => fun j h1 h2 => by
    unfold u8r at h
    by_cases hc : (xx t n p &&& 192) = 128
    · rw [if_pos hc] at h
      by_cases e : j = p
      · rw [e]; exact hc
      · exact u8r_cont m (p + 1) _ _ h j (by omega) (by omega)
    · rw [if_neg hc] at h; cases h
theorem num_in {hex : Int32} (hh : hex = 0 ∨ hex = 1) : ∀ f d p c c' p', num t n hex f d p c = some (c', p') → ∀ j, p ≤ j → j < p' → ¬ xx t n j = 34
  | 0, _, _, _, _, _, h => by unfold num at h; cases h
  | f + 1, d, p, c, c', p', h => fun j h1 h2 => by
    unfold num at h
    by_cases hc : cDv (xx t n p) hex = -1
    · rw [if_pos hc] at h
      by_cases h3 : 0 < d ∧ xx t n p = 59
      · rw [if_pos h3] at h
        cases h
        have : j = p := by omega
        rw [this, h3.2]; decide
      · rw [if_neg h3] at h; cases h
    · rw [if_neg hc] at h
      by_cases e : j = p
      · intro z
        rw [← e, z] at hc
        rcases hh with rfl | rfl
        · exact hc (by decide +kernel)
        · exact hc (by decide +kernel)
      · exact num_in hh f _ _ _ _ _ h j (by omega) h2
theorem chf_in {c : Int32} {e : Nat} (h : chf t n k = some (c, e)) : ∀ j, k < j → j < e → ¬ xx t n j = 34 := by
  unfold chf at h
  by_cases h1 : xx t n k = 38
  · rw [if_pos h1] at h
    by_cases h2 : xx t n (k + 1) = 35
    · rw [if_pos h2] at h
      unfold chN at h
      split at h
      · rename_i c1 p1 hn
        by_cases h3 : cOk c1 = true
        · rw [if_pos h3] at h
          cases h
          intro j j1 j2
          have hh : hexq t n k = 0 ∨ hexq t n k = 1 := by
            unfold hexq; split
            · exact Or.inr rfl
            · exact Or.inl rfl
          by_cases hj : k + (if hexq t n k = 0 then 2 else 3) ≤ j
          · exact num_in hh _ _ _ _ _ _ hn j hj j2
          · by_cases e1 : j = k + 1
            · rw [e1, h2]; decide
            · have hne : ¬ hexq t n k = 0 := fun z => by rw [if_pos z] at hj; omega
              rw [if_neg hne] at hj
              have e2 : j = k + 2 := by omega
              unfold hexq at hne
              by_cases hx : xx t n (k + 2) = 120 ∨ xx t n (k + 2) = 88
              · rw [e2]
                rcases hx with hx | hx <;> rw [hx] <;> decide
              · rw [if_neg hx] at hne; exact absurd rfl hne
        · rw [if_neg h3] at h; cases h
      · cases h
    · rw [if_neg h2] at h
      have nm : ∀ x m, stAt t n k x = true → tLn.getD x 0 = m → (∀ i, i < m → ¬ tCh x (nI i) = 34) → ∀ j, k < j → j < k + m → ¬ xx t n j = 34 := fun x m hs hl hc j j1 j2 => by
        have := of_decide_eq_true hs (j - k) (by omega)
        rw [show k + (j - k) = j from by omega] at this
        rw [this]; exact hc (j - k) (by omega)
      unfold chA at h
      by_cases a : stAt t n k 2 = true
      · rw [if_pos a] at h; cases h
        exact nm 2 5 a (by decide) (by decide +kernel)
      rw [if_neg a] at h
      by_cases a : stAt t n k 3 = true
      · rw [if_pos a] at h; cases h
        exact nm 3 4 a (by decide) (by decide +kernel)
      rw [if_neg a] at h
      by_cases a : stAt t n k 4 = true
      · rw [if_pos a] at h; cases h
        exact nm 4 4 a (by decide) (by decide +kernel)
      rw [if_neg a] at h
      by_cases a : stAt t n k 5 = true
      · rw [if_pos a] at h; cases h
        exact nm 5 6 a (by decide) (by decide +kernel)
      rw [if_neg a] at h
      by_cases a : stAt t n k 6 = true
      · rw [if_pos a] at h; cases h
        exact nm 6 6 a (by decide) (by decide +kernel)
      rw [if_neg a] at h; cases h
  · rw [if_neg h1] at h
    by_cases h3 : cOk (u8 t n k) = true
    · rw [if_pos h3] at h
      cases h
      have hm := (cOk_pos h3).2
      intro j j1 j2
      unfold u8 at hm j2
      by_cases g1 : 128 ≤ xx t n k
      · rw [if_pos g1] at hm j2
        by_cases g2 : xx t n k < 192
        · rw [if_pos g2] at hm; exact absurd rfl hm
        rw [if_neg g2] at hm j2
        by_cases g3 : xx t n k < 248
        · rw [if_pos g3] at hm j2
          cases hr : u8r t n (u8w (xx t n k) - 1) (k + 1) (xx t n k &&& (127 >>> (nI (u8w (xx t n k)) &&& 31))) with
          | none => rw [hr] at hm; exact absurd rfl hm
          | some c =>
            rw [hr] at hm j2
            unfold u8f at hm j2
            simp only at hm j2
            by_cases hb : cCh c = true ∧ cBy c = nI (u8w (xx t n k))
            · rw [if_pos hb] at hm j2
              have h4 := cByN_le c
              have hw : 2 ≤ u8w (xx t n k) ∧ u8w (xx t n k) ≤ 4 := by
                unfold u8w
                split
                · split <;> decide
                · decide
              have e : cByN c = u8w (xx t n k) := by
                have := hb.2
                rw [cBy_N] at this
                exact (nI_eq (by omega) (by omega)).mp this
              have := u8r_cont _ _ _ _ hr j (by omega) (by omega)
              intro z
              rw [z] at this
              revert this; decide
            · rw [if_neg hb] at hm; exact absurd rfl hm
        · rw [if_neg g3] at hm; exact absurd rfl hm
      · rw [if_neg g1] at j2
        unfold cByN at j2
        rw [if_pos (i_nle.mp g1)] at j2
        omega
    · rw [if_neg h3] at h; cases h
theorem Chars.no34 : ∀ {L : List Int32} {k e : Nat}, Chars t n 34 k e L → ∀ j, k ≤ j → j < e → ¬ xx t n j = 34
  | [], k, e, h => fun j h1 h2 => by have h : k = e := h; omega
  | c :: L, k, e, h => fun j h1 h2 => by
    obtain ⟨a, _, _, k', d, hr⟩ := h
    by_cases hj : j < k'
    · by_cases e1 : j = k
      · rw [e1]; exact a
      · exact chf_in d j (by omega) hj
    · exact Chars.no34 hr j (by omega) h2
/-- attributes one behind the other -/
def AL (t : Nat → Int32) (n : Nat) : Nat → List Att → Nat → Prop
  | p, [], q => p = q
  | p, A :: as, q => AtP t n p A ∧ AL t n (A.ve + 1) as q
theorem AtP.le {p : Nat} {A : Att} (h : AtP t n p A) : p < A.na ∧ A.na + A.nl + 2 ≤ A.ve ∧ A.ve < n ∧ 0 < A.nl := by
  have h1 := h.lt
  have h2 := Chars.le h.ch
  have h3 := xx_lt' h.ve (by decide)
  have h4 := h.nm.len
  omega
theorem AL.snoc {A : Att} : ∀ {as : List Att} {p q : Nat}, AL t n p as q → AtP t n q A → AL t n p (as ++ [A]) (A.ve + 1)
  | [], p, q, h, hA => by have h : p = q := h; subst h; exact ⟨hA, rfl⟩
  | B :: as, p, q, h, hA => ⟨h.1, AL.snoc h.2 hA⟩
theorem AL.le : ∀ {as : List Att} {p q : Nat}, AL t n p as q → p ≤ q
  | [], p, q, h => by have h : p = q := h; omega
  | A :: as, p, q, h => by
    have h1 := AL.le h.2
    have h2 := AtP.le h.1
    omega
theorem AL.leN : ∀ {as : List Att} {p q : Nat}, AL t n p as q → p ≤ n → q ≤ n
  | [], p, q, h, hp => by have h : p = q := h; omega
  | A :: as, p, q, h, hp => AL.leN h.2 (by have := AtP.le h.1; omega)
theorem r_wasHad {tag en q na m : Nat} {as : List Att} (hT : MT τ t n) (htag : tag + 1 ≤ n) (hen : Runs cGn t n (tag + 1) en) (hal : AL t n en as q) (hw : Runs cWh t n q na) (hm : na + m ≤ n) {post : Int32 → MPS → Prop}
    (h1 : (∃ B ∈ as, seg t n B.na B.nl = seg t n na m) → ∀ τ', Df [19, 20, 21, 22] τ τ' → post 1 τ') (h0 : (∀ B ∈ as, ¬ seg t n B.na B.nl = seg t n na m) → ∀ τ', Df [19, 20, 21, 22] τ τ' → post 0 τ') : w_M_wasHad τ (nI tag) (nI na) (nI m) post := by
  have hn := hT.2.1
  have henn := hen.le cGn_m htag
  have hwle := hw.1
  unfold w_M_wasHad
  refine r_behindName hT htag hen ?_
  have key : ∀ (bs : List Att) (p : Nat) (τ1 : MPS), AL t n p bs q → p ≤ n → Df [19, 20, 21, 22] τ τ1 → ((∃ B ∈ bs, seg t n B.na B.nl = seg t n na m) → ∀ τ', Df [19, 20, 21, 22] τ τ' → post 1 τ') → ((∀ B ∈ bs, ¬ seg t n B.na B.nl = seg t n na m) → ∀ τ', Df [19, 20, 21, 22] τ τ' → post 0 τ') → ∀ g, bs.length + 2 ≤ g → w_M_wasHad_L10 (nI na) (nI m) post g 0 (nI p) τ1 := by
    intro bs
    induction bs with
    | nil =>
      intro p τ1 hl hp d h1 h0 g hg
      have hl : p = q := hl
      subst hl
      obtain ⟨g', rfl⟩ : ∃ g', g = g' + 1 := ⟨g - 1, by omega⟩
      unfold w_M_wasHad_L10
      refine br_t rfl (r_next0 (hT.df d (by decide)) hp (by omega) ⟨na, hw, Or.inl (Nat.le_refl _)⟩ (br_t rfl ⟨nar_0, h0 (fun B hB => by cases hB) τ1 d⟩))
    | cons A bs ih =>
      intro p τ1 hl hp d h1 h0 g hg
      obtain ⟨hA, hl2⟩ := hl
      have hAle := hA.le
      have hq := AL.le hl2
      obtain ⟨g', rfl⟩ : ∃ g', g = g' + 1 := ⟨g - 1, by omega⟩
      simp only [List.length_cons] at hg
      unfold w_M_wasHad_L10
      refine br_t rfl (r_next1 (hT.df d (by decide)) hp (by omega) hA (by omega) (Chars.no34 hA.ch) (fun τ2 d2 f1 f2 f3 f4 => br_f (by decide) ?_))
      have d' := d.trans d2
      have hT2 := hT.df d' (by decide)
      have hsl : (seg t n A.na A.nl).length = A.nl := seg_len _ _ _ _
      have hsm : (seg t n na m).length = m := seg_len _ _ _ _
      rw [f1, f2]
      have cont : ¬ seg t n A.na A.nl = seg t n na m → w_M_wasHad_J50 (nI na) (nI m) (w_M_wasHad_L10 (nI na) (nI m) post g') post τ2 := fun hne => by
        unfold w_M_wasHad_J50 w_M_wasHad_J51
        rw [f4, nI_1]
        refine ih (A.ve + 1) τ2 hl2 (by omega) d' (fun hex => h1 ?_) (fun hall => h0 ?_) g' (by omega)
        · obtain ⟨B, hB, e⟩ := hex; exact ⟨B, List.mem_cons_of_mem _ hB, e⟩
        · intro B hB
          rcases List.mem_cons.mp hB with e | e
          · rw [e]; exact hne
          · exact hall B e
      by_cases hlen : A.nl = m
      · refine br_t (by rw [hlen]) ?_
        rw [hlen] at hsl
        refine r_areAlike hT2 (by omega) hm ?_
        by_cases hs : seg t n A.na m = seg t n na m
        · refine bl_t (decide_eq_true hs) ?_
          unfold w_M_wasHad_J51
          obtain ⟨g'', rfl⟩ : ∃ g'', g' = g'' + 1 := ⟨g' - 1, by omega⟩
          unfold w_M_wasHad_L10
          exact br_f (by decide) ⟨nar_1, h1 ⟨A, List.mem_cons_self, by rw [hlen]; exact hs⟩ τ2 d'⟩
        · exact bl_f (decide_eq_false hs) (cont (by rw [hlen]; exact hs))
      · refine br_f (fun z => hlen ((nI_eq (by omega) (by omega)).mp z)) (cont (fun z => hlen ?_))
        rw [← hsl, z, hsm]
  exact ⟨as.length + 2, key as en τ hal henn (Df.refl τ) h1 h0 _ (Nat.le_refl _)⟩
/-- the reference takes a character -/
theorem r_takeCharacter (hT : MT τ t n) (ha : mp_at τ = nI k) (hk : k < n) {post : MPS → Prop} (h1 : ∀ c e τ', chf t n k = some (c, e) → Df [12, 13, 16] τ τ' → mp_at τ' = nI e → mp_bad τ' = mp_bad τ → post τ') (h0 : chf t n k = none → ∀ τ', Df [12, 13, 16] τ τ' → mp_at τ' = nI k → mp_bad τ' = 1 → post τ') : w_M_takeCharacter τ post := by
  unfold w_M_takeCharacter
  rw [ha]
  refine r_characterOf hT hk (fun c e τ' hc d w => ?_) (fun hc τ' d => ?_)
  · have hcf := chf_some hc
    have hp := (cOk_pos hcf.2.2).1
    refine br_t (i_nlt.mp hp) (fa_eq ?_)
    have e13 : mp_at τ' = nI k := (d.i 13 (by decide)).trans ha
    refine h1 c e _ hc ((d.mono (by decide)).trans (Df.set τ' (by decide))) ?_ (by show mp_bad τ' = _; exact d.i 16 (by decide))
    show mp_at τ' + mp_width τ' = nI e
    rw [e13, w, nI_add]; congr 1; omega
  · refine br_f (by decide) (fa_eq ?_)
    exact h0 hc _ ((d.mono (by decide)).trans (Df.set τ' (by decide))) (by show mp_at τ' = _; exact (d.i 13 (by decide)).trans ha) rfl
/-- the fields that reading changes -/
def Lr : List Nat := [12, 13, 16, 19, 20, 21, 22]
theorem r_takeAttribute {tag en q na : Nat} (hT : MT τ t n) (ha : mp_at τ = nI na) (hb : mp_bad τ = 0) (hB : cBn (xx t n na) = true) (htag : tag + 1 ≤ n) (hen : Runs cGn t n (tag + 1) en) (hal : AL t n en (S.as k) q) (hw : Runs cWh t n q na) {post : MPS → Prop}
    (h0 : ∀ p τ', AT t n S k na (.inl p) → Df Lr τ τ' → mp_at τ' = nI p → mp_bad τ' = 1 → post τ')
    (h1 : ∀ A τ', AT t n S k na (.inr (S.addAt k A)) → Df Lr τ τ' → mp_at τ' = nI (A.ve + 1) → mp_bad τ' = 0 → post τ') : w_M_takeAttribute τ (nI tag) post := by
  have hn := hT.2.1
  have hna := q_lt cBn_m hB
  unfold w_M_takeAttribute
  refine r_takeName hT ha hb (by omega) (fun p τ1 hN d a1 b1 r => ?_) (fun e τ1 hN d a1 b1 => ?_)
  · exact br_f (by rw [b1]; decide) (h0 p τ1 (AT.name hN) (d.mono (by decide)) a1 b1)
  · have hlen := hN.len
    have hT1 := hT.df d (by decide)
    rw [b1, ha]
    refine br_t rfl (r_wasHad (as := S.as k) hT1 htag hen hal hw (by omega) (fun hag τ2 d2 => ?_) (fun hno τ2 d2 => ?_))
    · refine br_f (by decide) (fa_eq (fa_eq ?_))
      refine h0 na _ (AT.again hN hag) ?_ rfl rfl
      exact (((d.mono (L' := Lr) (by decide)).trans (d2.mono (by decide))).trans (Df.set τ2 (by decide))).trans (Df.set _ (by decide))
    · have d12 : Df Lr τ τ2 := (d.mono (by decide)).trans (d2.mono (by decide))
      have hT2 := hT.df d12 (by decide)
      have a2 : mp_at τ2 = nI e := (d2.i 13 (by decide)).trans a1
      have b2 : mp_bad τ2 = 0 := (d2.i 16 (by decide)).trans b1
      refine br_t rfl ?_
      rw [a2]
      refine ⟨hT2.k (by omega), ?_⟩
      rw [hT2.x (by omega), nI_1]
      refine ⟨fun hx => fa_eq ?_, fun hx => fa_eq ?_⟩
      · unfold w_M_takeAttribute_J70 w_M_takeAttribute_J90
        have d3 : Df Lr τ (ms_at τ2 (nI (e + 1))) := d12.trans (Df.set τ2 (by decide))
        have hT3 := hT.df d3 (by decide)
        refine br_t b2 ?_
        rw [show mp_at (ms_at τ2 (nI (e + 1))) = nI (e + 1) from rfl]
        refine ⟨hT3.k (by omega), ?_⟩
        rw [hT3.x (by omega), nI_1]
        refine ⟨fun hx2 => fa_eq ?_, fun hx2 => fa_eq ?_⟩
        · have he2 := xx_lt' hx2 (by decide)
          have d4 : Df Lr τ (ms_at (ms_at τ2 (nI (e + 1))) (nI (e + 2))) := d3.trans (Df.set _ (by decide))
          have key : ∀ g p cs τ4, n - p < g → p ≤ n → Chars t n 34 (e + 2) p cs → Df Lr τ τ4 → mp_at τ4 = nI p → mp_bad τ4 = 0 → w_M_takeAttribute_L106 post (g + 1) τ4 := by
            intro g
            induction g with
            | zero => intro p cs τ4 h; omega
            | succ g ih =>
              intro p cs τ4 hg hp hC d5 a5 b5
              have hT5 := hT.df d5 (by decide)
              unfold w_M_takeAttribute_L106
              rw [b5, a5]
              refine br_t rfl ⟨hT5.k (by omega), ?_⟩
              rw [hT5.x (by omega), hT5.1]
              by_cases hx3 : xx t n p = 34
              · refine br_t hx3 ?_
                unfold w_M_takeAttribute_J165
                refine br_t b5 (fa_eq ?_)
                refine h1 (Att.mk na (e - na) p cs) _ (AT.ok hN hno hx hx2 hC hx3) (d5.trans (Df.set τ4 (by decide))) ?_ b5
                show mp_at τ4 + 1 = _
                rw [a5, nI_1]; rfl
              · refine br_f hx3 ?_
                have bad : (xx t n p = 60 ∨ xx t n p = -1) → w_M_takeAttribute_J150 (w_M_takeAttribute_L106 post (g + 1)) post τ4 := fun hst => by
                  unfold w_M_takeAttribute_J150
                  refine fa_eq ?_
                  unfold w_M_takeAttribute_L106 w_M_takeAttribute_J165
                  refine br_f (by show ¬ (1 : Int32) = 0; decide) (br_f (by show ¬ (1 : Int32) = 0; decide) ?_)
                  exact h0 p _ (AT.stop hN hno hx hx2 hC hx3 hst) (d5.trans (Df.set τ4 (by decide))) (by show mp_at τ4 = _; exact a5) rfl
                refine pk_le n p (fun hnp => bad (Or.inr (xx_out hnp))) (fun hnp => ⟨hT5.k (by omega), ?_⟩) rfl rfl (by omega) (by omega)
                by_cases hx4 : xx t n p = 60
                · exact br_t hx4 (bad (Or.inl hx4))
                · refine br_f hx4 ?_
                  have hxm : ¬ xx t n p = -1 := fun z => by
                    rw [xx_in hnp] at z
                    obtain ⟨b, hb, e1, _⟩ := hT.2.2 p hnp
                    rw [e1] at z
                    exact nI_m1 (by omega) z
                  refine r_takeCharacter hT5 a5 hnp (fun c e' τ6 hc d6 a6 b6 => ?_) (fun hc τ6 d6 a6 b6 => ?_)
                  · have hcf := chf_some hc
                    exact ih e' (cs ++ [c]) τ6 (by omega) hcf.2.1 (hC.snoc hx3 hx4 hxm hc) (d5.trans (d6.mono (by decide))) a6 (b6.trans b5)
                  · unfold w_M_takeAttribute_L106 w_M_takeAttribute_J165
                    refine br_f (by rw [b6]; decide) (br_f (by rw [b6]; decide) ?_)
                    exact h0 p τ6 (AT.char hN hno hx hx2 hC hx3 hx4 hxm hc) (d5.trans (d6.mono (by decide))) a6 b6
          exact ⟨_, key (n + 1) (e + 2) [] _ (by omega) (by omega) (Chars.nil _) d4 rfl b2⟩
        · exact h0 (e + 1) _ (AT.quote hN hno hx hx2) (d3.trans (Df.set _ (by decide))) rfl rfl
      · unfold w_M_takeAttribute_J70 w_M_takeAttribute_J90
        refine br_f (by show ¬ (1 : Int32) = 0; decide) (fa_eq ?_)
        exact h0 e _ (AT.eq hN hno hx) ((d12.trans (Df.set τ2 (by decide))).trans (Df.set _ (by decide))) (by show mp_at τ2 = _; exact a2) rfl
end MA
