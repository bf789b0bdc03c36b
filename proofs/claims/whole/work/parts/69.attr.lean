/-! PURE: the class reads an attribute. -/
section AB
variable {t : Nat → Int32} {n : Nat} {S : GS} {σ : PPS}
theorem Name.len {k e : Nat} (h : Name t n k e) : k < e ∧ e ≤ n := by
  obtain ⟨hb, hr, hl⟩ := h
  have h1 := hr.1
  have hk : k < n := q_lt cBn_m hb
  have hne : ¬ k = e := fun z => by
    subst z
    have := hr.2.2
    unfold cGn at this
    rw [hb] at this
    cases this
  exact ⟨by omega, hr.le cGn_m (by omega)⟩
theorem seg_end {k e : Nat} (h : k ≤ e) : (seg t n k (e - k)).length = e - k := seg_len _ _ _ _
set_option maxHeartbeats 1000000 in
theorem k_attr {k p : Nat} {os : List Nat} {nd at_ le : StS} {g a : Nat → Nat → Int32} {ls : List Int32} {A : Nat} (hT : Tp σ t n) (hop : S.op = k :: os) (hit : S.it = true) (hI : Inv t n S) (hb : Bk t n S nd at_ le g a ls A) (hlt : S.at_ < p) (hpn : p ≤ n) (hB : cBn (xx t n p) = true) (hwh : Runs cWh t n S.at_ p) {post : Int32 → PPS → Prop}
    (h0 : ∀ q σ', IT t n S (.inl q) → pWr σ' = nI q → kp σ' = kp σ → post 0 σ')
    (h1 : ∀ S' σ', IT t n S (.inr S') → CR t n S' σ' → kp σ' = kp σ → post 1 σ') :
    w_Reader_beginAttribute (mkS σ nd at_ le (nI S.E) (nI p) (nI k) 1 (-1)) (fun r35 σ35 => ((r35 = 0 → w_Reader_readInTag_J61 post σ35) ∧ (¬ r35 = 0 → w_Reader_takeCharacters σ35 34 (fun r44 σ44 => ((r44 = 0 → w_Reader_readInTag_J61 post σ44) ∧ (¬ r44 = 0 → w_Reader_endAttribute σ44  (fun r51 σ51 => ((r51 = 0 → w_Reader_readInTag_J61 post σ51) ∧ (¬ r51 = 0 → post 1 σ51))))))))) := by
  have hn := hI.n4
  have ho := hI.opn
  rw [hop] at ho
  obtain ⟨hkK, hel, -, -, -⟩ := ho
  have hK := hI.k900
  obtain ⟨h9, hlA⟩ := hb.cur hit k os hop
  have hall := hb.ale
  have hlle := hb.lle
  have F0 : ∀ q σ', AT t n S k p (.inl q) → pWr σ' = nI q → kp σ' = kp σ → post 0 σ' := fun q σ' h => h0 q σ' (IT.attr hop hwh hlt hB h)
  unfold w_Reader_beginAttribute
  refine k_passName (k := p) (by exact hT.mkS) (by rfl) hpn (fun hN => ?_) (fun e _ hR hl => ?_) (fun e _ hR hl => ?_)
  · rw [hB] at hN; cases hN
  · have hnm : Name t n p e := ⟨hB, hR, hl⟩
    have hlen := hnm.len
    have hA8 : A < 800 := by omega
    refine br_f (by decide) ?_
    show w_Book_addAttribute (mkS σ nd at_ le (nI S.E) (nI e) (nI k) 1 (-1)) (nI k) (nI p) _
    -- the new row
    obtain ⟨hRow, TA0⟩ := hb.at_.add (most := 800) hA8 (by decide)
    unfold w_Book_addAttribute
    rw [show tAddR 800 (pAt (mkS σ nd at_ le (nI S.E) (nI e) (nI k) 1 (-1))) = nI A from hRow]
    refine fa_eq ?_
    rw [show pAt (mkS σ nd at_ le (nI S.E) (nI e) (nI k) 1 (-1)) = at_ from rfl]
    generalize tAdd 800 5 at_ = at0 at TA0 ⊢
    refine fa_setA TA0 (by omega) rfl (c := 2) rfl rfl (Nat.lt_succ_self A) (by decide) (fun at1 TA1 => ?_)
    refine fa_setA TA1 (by omega) rfl (c := 3) rfl (v0 := nI ls.length) hb.le.1 (Nat.lt_succ_self A) (by decide) (fun at2 TA2 => ?_)
    obtain ⟨q, hat⟩ := (hb.row k hkK).att
    have hq : q + (S.as k).length = A := by
      have e1 := hat.c9
      rw [h9] at e1
      have h2 := hat.le
      have := (nI_eq (by omega) (by omega)).mp e1
      omega
    have e4 : tGet 14 nd (nI k) 4 + 1 = nI ((S.as k).length + 1) := by
      rw [hb.nd.get (by omega) (r := k) (c := 4) (x := 4) rfl hkK (by decide) (by decide), hat.c4, nI_1]
    refine fa_eq ?_
    rw [show pNd (sAt (mkS σ nd at_ le (nI S.E) (nI e) (nI k) 1 (-1)) at2) = nd from rfl, e4]
    have TN := hb.nd.set (by omega) (r := k) (c := 4) (x := 4) rfl hkK (by decide) (by decide) (nI ((S.as k).length + 1))
    generalize tSet 14 nd (nI k) 4 (nI ((S.as k).length + 1)) = nd1 at TN ⊢
    show w_Reader_keepLetters (mkS σ nd1 at2 le (nI S.E) (nI e) (nI k) 1 (-1)) (nI p) _
    have hsl : (seg t n p (e - p)).length = e - p := seg_len _ _ _ _
    refine k_keepLetters (m := e - p) (by exact hT.mkS) (by show nI e = _; congr 1; omega) (by omega) (by exact hb.le) (by omega) (fun le1 hL1 => ?_)
    show w_Book_endName (mkS σ nd1 at2 le1 (nI S.E) (nI e) (nI k) 1 (-1)) (nI A) _
    have hL1l : (ls ++ seg t n p (e - p)).length = ls.length + (e - p) := by rw [List.length_append, hsl]
    have e0 : (pLe (mkS σ nd1 at2 le1 (nI S.E) (nI e) (nI k) 1 (-1))).1 - tGet 5 at2 (nI A) 3 = nI (e - p) := by
      rw [TA2.get (by omega) (r := A) (c := 3) (x := 3) rfl (Nat.lt_succ_self A) (by decide) (by decide), g2_s, show (pLe (mkS σ nd1 at2 le1 (nI S.E) (nI e) (nI k) 1 (-1))).1 = _ from hL1.1, hL1l, pk_sub (by omega)]
      congr 1; omega
    unfold w_Book_endName
    refine fa_setA (σ := mkS σ nd1 at2 le1 (nI S.E) (nI e) (nI k) 1 (-1)) (at_ := at2) TA2 (by omega) rfl (c := 0) rfl (v0 := nI (e - p)) e0 (Nat.lt_succ_self A) (by decide) (fun at3 TA3 => ?_)
    refine fa_setA TA3 (by omega) rfl (c := 4) rfl (v0 := nI (ls.length + (e - p))) (by rw [← hL1l]; exact hL1.1) (Nat.lt_succ_self A) (by decide) (fun at4 TA4 => ?_)
    show w_Book_isNamedAgain (mkS σ nd1 at4 le1 (nI S.E) (nI e) (nI k) 1 (-1)) (nI k) (nI A) _
    have hold : ∀ r, r < A → ∀ c, c < 5 → g2 (g2 (g2 (g2 (fun r c => if r = A then -1 else a r c) A 2 (nI p)) A 3 (nI ls.length)) A 0 (nI (e - p))) A 4 (nI (ls.length + (e - p))) r c = a r c := fun r hr c hc => by
      have hne : ¬ r = A := by omega
      simp only [g2_r hne, hne, if_false]
    have hf : Seg (ls ++ seg t n p (e - p)) ls.length (seg t n p (e - p)) := Seg.end _ _
    refine k_isNamedAgain (t := t) (n := n) (q := q) (f := ls.length) (as := S.as k) (nm := seg t n p (e - p)) (ls := ls ++ seg t n p (e - p)) (by exact TN) (by omega) hkK (by exact TA4) (by omega) (by exact hL1) (by rw [hL1l]; omega) (by rw [g2_c (by decide)]; exact hat.c9) hq (fun j B hj => ?_) (by rw [hsl]; simp [g2]) (by simp [g2]) hf (fun hag => ?_) (fun hno => ?_)
    · have hj2 : j < (S.as k).length := (List.getElem?_eq_some_iff.mp hj).1
      have r := (hat.row j B hj).mono (a' := _) (hold (q + j) (by omega)) (seg t n p (e - p))
      exact ⟨r.c0, r.c3⟩
    · exact br_f (by decide) (k_refuse ⟨nar_0, br_t rfl (F0 _ _ (AT.again hnm hag) rfl rfl)⟩)
    · refine br_t rfl ?_
      have isn : ∀ {pst : Int32 → Prop}, (narrow .boolean (.int (b2i (decide (seg t n p (e - p) = tx 1)))) = .int (b2i (decide (seg t n p (e - p) = tx 1))) → pst (b2i (decide (seg t n p (e - p) = tx 1)))) → w_Book_isNamed (mkS σ nd1 at4 le1 (nI S.E) (nI e) (nI k) 1 (-1)) (nI A) 1 pst := fun {pst} h => by
        unfold w_Book_isNamed
        rw [show tGet 5 (pAt (mkS σ nd1 at4 le1 (nI S.E) (nI e) (nI k) 1 (-1))) (nI A) 3 = nI ls.length from by
            rw [show pAt (mkS σ nd1 at4 le1 (nI S.E) (nI e) (nI k) 1 (-1)) = at4 from rfl, TA4.get (by omega) (r := A) (c := 3) (x := 3) rfl (Nat.lt_succ_self A) (by decide) (by decide)]; simp [g2],
          show tGet 5 (pAt (mkS σ nd1 at4 le1 (nI S.E) (nI e) (nI k) 1 (-1))) (nI A) 0 = nI (seg t n p (e - p)).length from by
            rw [show pAt (mkS σ nd1 at4 le1 (nI S.E) (nI e) (nI k) 1 (-1)) = at4 from rfl, TA4.get (by omega) (r := A) (c := 0) (x := 0) rfl (Nat.lt_succ_self A) (by decide) (by decide), hsl]; simp [g2]]
        exact k_lettersAre (by decide) (by exact hL1) (by rw [hL1l]; omega) hf ⟨b2i_nar _, h (b2i_nar _)⟩
      -- behind the name, whatever the id
      have rest : ∀ (nd2 : StS) (g2' : Nat → Nat → Int32), Tab 14 nd2 S.K g2' → (∀ r, r < S.K → ∀ c, c < 14 → ¬ c = 13 → g2' r c = g2 g k 4 (nI ((S.as k).length + 1)) r c) → (∀ r, r < S.K → ¬ r = k → g2' r 13 = g r 13) → (seg t n p (e - p) = tx 1 → g2' k 13 = nI A) → (¬ seg t n p (e - p) = tx 1 → g2' k 13 = g k 13) →
          w_Reader_beginAttribute_J86 (fun r35 σ35 => ((r35 = 0 → w_Reader_readInTag_J61 post σ35) ∧ (¬ r35 = 0 → w_Reader_takeCharacters σ35 34 (fun r44 σ44 => ((r44 = 0 → w_Reader_readInTag_J61 post σ44) ∧ (¬ r44 = 0 → w_Reader_endAttribute σ44  (fun r51 σ51 => ((r51 = 0 → w_Reader_readInTag_J61 post σ51) ∧ (¬ r51 = 0 → post 1 σ51))))))))) (mkS σ nd2 at4 le1 (nI S.E) (nI e) (nI k) 1 (-1)) := by
        intro nd2 G TG hG1 hG2 hGy hGn
        unfold w_Reader_beginAttribute_J86
        refine k_take (k := e) (by exact hT.mkS) (by rfl) hlen.2 (fun hx => ?_) (fun hx => ?_)
        · refine br_f (by decide) ?_
          have he : e < n := xx_lt (fun z => by rw [z] at hx; revert hx; decide)
          refine k_take (k := e + 1) (by exact hT.mkS) (by rfl) (by omega) (fun hx2 => ?_) (fun hx2 => ?_)
          · have he2 : e + 1 < n := xx_lt (fun z => by rw [z] at hx2; revert hx2; decide)
            refine br_f (by decide) (br_f (by decide) ?_)
            show w_Reader_takeCharacters (mkS σ nd2 at4 le1 (nI S.E) (nI (e + 2)) (nI k) 1 (-1)) 34 _
            refine k_takeChars (k := e + 2) (ls := ls ++ seg t n p (e - p)) (by exact hT.mkS) (by rfl) (by omega) (by exact hL1) (by rw [hL1l]; omega) (fun v cs le2 hCh hst hvn hL2 => ?_) (fun v cs le2 pj hCh x1 x2 x3 hno2 => ?_)
            · refine br_f (by decide) ?_
              show w_Reader_endAttribute (mkS σ nd2 at4 le2 (nI S.E) (nI v) (nI k) 1 (-1)) _
              unfold w_Reader_endAttribute w_Book_endLatestValue
              have hL2l : (ls ++ seg t n p (e - p) ++ cs).length = ls.length + (e - p) + cs.length := by rw [List.length_append, hL1l]
              have hA1 : (pAt (mkS σ nd2 at4 le2 (nI S.E) (nI v) (nI k) 1 (-1))).1 - 1 = nI A := by rw [show (pAt (mkS σ nd2 at4 le2 (nI S.E) (nI v) (nI k) 1 (-1))).1 = _ from TA4.1, nI_pred]
              have e1 : (pLe (mkS σ nd2 at4 le2 (nI S.E) (nI v) (nI k) 1 (-1))).1 - tGet 5 at4 ((pAt (mkS σ nd2 at4 le2 (nI S.E) (nI v) (nI k) 1 (-1))).1 - 1) 4 = nI cs.length := by
                rw [hA1, TA4.get (by omega) (r := A) (c := 4) (x := 4) rfl (Nat.lt_succ_self A) (by decide) (by decide), g2_s, show (pLe (mkS σ nd2 at4 le2 (nI S.E) (nI v) (nI k) 1 (-1))).1 = _ from hL2.1, hL2l, pk_sub (by omega)]
                congr 1; omega
              refine fa_setA (σ := mkS σ nd2 at4 le2 (nI S.E) (nI v) (nI k) 1 (-1)) (at_ := at4) TA4 (by omega) hA1 (c := 1) rfl (v0 := nI cs.length) e1 (Nat.lt_succ_self A) (by decide) (fun at5 TA5 => ?_)
              show w_Reader_take (mkS σ nd2 at5 le2 (nI S.E) (nI v) (nI k) 1 (-1)) 34 _
              have hcl := (Chars.le hCh)
              refine k_take (k := v) (by exact hT.mkS) (by rfl) hvn (fun hx3 => ⟨nar_1, br_f (by decide) ?_⟩) (fun hx3 => ⟨nar_0, br_t rfl ?_⟩)
              · have hv : v < n := xx_lt (fun z => by rw [z] at hx3; revert hx3; decide)
                show post 1 (mkS σ nd2 at5 le2 (nI S.E) (nI (v + 1)) (nI k) 1 (-1))
                refine h1 _ _ (IT.attr hop hwh hlt hB (AT.ok hnm hno hx hx2 hCh hx3)) (CR.mkS (S := S.addAt k (Att.mk p (e - p) v cs)) (g := G) (ls := ls ++ seg t n p (e - p) ++ cs) (A := A + 1) (a := g2 (g2 (g2 (g2 (g2 (fun r c => if r = A then -1 else a r c) A 2 (nI p)) A 3 (nI ls.length)) A 0 (nI (e - p))) A 4 (nI (ls.length + (e - p)))) A 1 (nI cs.length)) hT (by rw [addAt_at_]; rfl) (by rw [addAt_op, hop]; rfl) rfl (by rw [addAt_E]) (fun _ => by rw [addAt_it, hit]; rfl) ?_) kp_mkS
                have hold2 : ∀ r, r < A → ∀ c, c < 5 → g2 (g2 (g2 (g2 (g2 (fun r c => if r = A then -1 else a r c) A 2 (nI p)) A 3 (nI ls.length)) A 0 (nI (e - p))) A 4 (nI (ls.length + (e - p)))) A 1 (nI cs.length) r c = a r c := fun r hr c hc => by
                  have hne : ¬ r = A := by omega
                  rw [g2_r hne]; exact hold r hr c hc
                have hnew : ARow t n (g2 (g2 (g2 (g2 (g2 (fun r c => if r = A then -1 else a r c) A 2 (nI p)) A 3 (nI ls.length)) A 0 (nI (e - p))) A 4 (nI (ls.length + (e - p)))) A 1 (nI cs.length)) (ls ++ seg t n p (e - p) ++ cs) A (Att.mk p (e - p) v cs) :=
                  ⟨by simp [g2, mk_nl], by simp [g2, mk_cs], by simp [g2, mk_na], ⟨ls.length, by simp [g2], Seg.end' _ _ _⟩, ⟨ls.length + (e - p), by simp [g2], by rw [← hL1l]; exact Seg.end _ _⟩⟩
                refine ⟨by rw [addAt_K]; exact TG, TA5, hL2, ?_, ?_, fun j hj => ?_, fun _ k' os' hop' => ?_⟩
                · rw [hL2l, addAt_at_]; show _ ≤ v + 1; omega
                · rw [addAt_at_]; show 5 * (A + 1) ≤ v + 1; omega
                · rw [addAt_K] at hj
                  have r := hb.row j hj
                  by_cases hjk : j = k
                  · subst hjk
                    have hlets : lets t n (S.addAt j (Att.mk p (e - p) v cs)) j = lets t n S j := lets_eq (congrFun addAt_el j) (congrFun addAt_bg j) (congrFun addAt_nl j) (congrFun addAt_cs j)
                    obtain ⟨f, l8, l3, lS⟩ := r.let_
                    have hc : ∀ c, c < 14 → ¬ c = 13 → ¬ c = 4 → G j c = g j c := fun c hc h13 h4 => by rw [hG1 j hj c hc h13, g2_c h4]
                    have hA4 : (S.addAt j (Att.mk p (e - p) v cs)).as j = S.as j ++ [(Att.mk p (e - p) v cs)] := va_s
                    refine ⟨?_, ?_, ⟨f, ?_, ?_, ?_⟩, ?_, ⟨q, ⟨by rw [hc 9 (by decide) (by decide) (by decide)]; exact hat.c9, ?_, ?_, ?_, ?_, ?_⟩⟩⟩
                    · simp only [NLnk, addAt_K, addAt_el, addAt_bg, addAt_nl, addAt_en, addAt_cs, addAt_as, addAt_up, addAt_fs, addAt_nx, addAt_ls, addAt_pa, addAt_dp, addAt_op, addAt_at_, addAt_it, addAt_E, addAt_X, addAt_F]
                      exact ⟨by rw [hc 0 (by decide) (by decide) (by decide)]; exact r.lnk.c0, by rw [hc 1 (by decide) (by decide) (by decide)]; exact r.lnk.c1, by rw [hc 2 (by decide) (by decide) (by decide)]; exact r.lnk.c2, by rw [hc 5 (by decide) (by decide) (by decide)]; exact r.lnk.c5, by rw [hc 6 (by decide) (by decide) (by decide)]; exact r.lnk.c6, by rw [hc 7 (by decide) (by decide) (by decide)]; exact r.lnk.c7, by rw [hc 11 (by decide) (by decide) (by decide)]; exact r.lnk.c11⟩
                    · rw [addAt_pa, hc 10 (by decide) (by decide) (by decide)]; exact r.c10
                    · rw [hc 8 (by decide) (by decide) (by decide)]; exact l8
                    · rw [hlets, hc 3 (by decide) (by decide) (by decide)]; exact l3
                    · rw [hlets]; exact (lS.app _).app _
                    · rw [hlets, addAt_el, hc 12 (by decide) (by decide) (by decide)]; exact r.kind
                    · rw [hG1 j hj 4 (by decide) (by decide), g2_s, hA4, List.length_append]; rfl
                    · rw [hA4, List.length_append]; show q + ((S.as j).length + 1) ≤ A + 1; omega
                    · rw [hA4]
                      intro i B hi
                      by_cases hil : i < (S.as j).length
                      · rw [List.getElem?_append_left hil] at hi
                        have := (hat.row i B hi).mono (a' := _) (hold2 (q + i) (by omega)) (seg t n p (e - p) ++ cs)
                        rw [← List.append_assoc] at this
                        exact this
                      · rw [List.getElem?_append_right (by omega)] at hi
                        have h00 : i - (S.as j).length = 0 := by
                          have := (List.getElem?_eq_some_iff.mp hi).1
                          simp only [List.length_cons, List.length_nil] at this
                          omega
                        rw [h00] at hi
                        cases hi
                        rw [show q + i = A from by omega]
                        exact hnew
                    · rw [hA4]
                      intro i B hi hB2
                      by_cases hil : i < (S.as j).length
                      · rw [List.getElem?_append_left hil] at hi
                        have hnt : ¬ seg t n p (e - p) = tx 1 := fun z => hno B (List.mem_of_getElem? hi) (by rw [hB2, z])
                        rw [hGn hnt]
                        exact hat.id1 i B hi hB2
                      · rw [List.getElem?_append_right (by omega)] at hi
                        have h00 : i - (S.as j).length = 0 := by
                          have := (List.getElem?_eq_some_iff.mp hi).1
                          simp only [List.length_cons, List.length_nil] at this
                          omega
                        rw [h00] at hi
                        cases hi
                        rw [hGy hB2, show q + i = A from by omega]
                    · rw [hA4]
                      intro hall2
                      have hnt : ¬ seg t n p (e - p) = tx 1 := hall2 (Att.mk p (e - p) v cs) (by simp)
                      rw [hGn hnt]
                      exact hat.id0 (fun B hB2 => hall2 B (List.mem_append_left _ hB2))
                  · have := r.mono (g' := G) (a' := g2 (g2 (g2 (g2 (g2 (fun r c => if r = A then -1 else a r c) A 2 (nI p)) A 3 (nI ls.length)) A 0 (nI (e - p))) A 4 (nI (ls.length + (e - p)))) A 1 (nI cs.length)) (A' := A + 1) (S' := S.addAt k (Att.mk p (e - p) v cs)) (fun c hc => by
                      by_cases h13 : c = 13
                      · subst h13; exact hG2 j hj hjk
                      · rw [hG1 j hj c hc h13, g2_r hjk]) hold2 (Nat.le_succ A) (seg t n p (e - p) ++ cs) (by simp only [SameN, addAt_K, addAt_el, addAt_bg, addAt_nl, addAt_en, addAt_cs, addAt_as, addAt_up, addAt_fs, addAt_nx, addAt_ls, addAt_pa, addAt_dp, addAt_op, addAt_at_, addAt_it, addAt_E, addAt_X, addAt_F, va_n hjk, and_self])
                    rw [← List.append_assoc] at this
                    exact this
                · have hkk : k' = k := by
                    rw [addAt_op, hop] at hop'
                    cases hop'; rfl
                  subst hkk
                  have hA4 : (S.addAt k' (Att.mk p (e - p) v cs)).as k' = S.as k' ++ [(Att.mk p (e - p) v cs)] := va_s
                  rw [hA4, List.length_append]
                  have e9 : G k' 9 = g k' 9 := by rw [hG1 k' hkK 9 (by decide) (by decide), g2_c (by decide)]
                  refine ⟨?_, by show (S.as k').length + 1 ≤ A + 1; omega⟩
                  rw [e9, h9]
                  show _ = nI (A + 1 - ((S.as k').length + 1))
                  congr 1; omega
              · rcases hst with hst | hst
                · exact absurd hst hx3
                · exact F0 _ _ (AT.stop hnm hno hx hx2 hCh hx3 hst) rfl rfl
            · exact br_t rfl (F0 _ _ (AT.char hnm hno hx hx2 hCh x1 x2 x3 hno2) rfl rfl)
          · exact br_t rfl (br_t rfl (F0 _ _ (AT.quote hnm hno hx hx2) rfl rfl))
        · exact br_t rfl (br_t rfl (F0 _ _ (AT.eq hnm hno hx) rfl rfl))
      refine isn (fun _ => ?_)
      by_cases hid : seg t n p (e - p) = tx 1
      · refine bl_t (decide_eq_true hid) (fa_eq ?_)
        have TI := TN.set (by omega) (r := k) (c := 13) (x := 13) rfl hkK (by decide) (by decide) (nI A)
        show w_Reader_beginAttribute_J86 _ (mkS σ (tSet 14 nd1 (nI k) 13 (nI A)) at4 le1 (nI S.E) (nI e) (nI k) 1 (-1))
        exact rest _ _ TI (fun r hr c hc h13 => g2_c h13) (fun r hr hrk => by rw [g2_r hrk, g2_r hrk]) (fun _ => g2_s) (fun z => absurd hid z)
      · refine bl_f (decide_eq_false hid) ?_
        exact rest nd1 _ TN (fun r hr c hc h13 => rfl) (fun r hr hrk => by rw [g2_r hrk]) (fun z => absurd z hid) (fun _ => g2_c (by decide))
  · exact br_t rfl (br_t rfl (F0 _ _ (AT.name (Or.inr ⟨hB, ⟨e, hR, hl⟩, rfl⟩)) rfl rfl))
end AB
