/-! PURE: the class within a tag. -/
section TG
variable {t : Nat → Int32} {n : Nat} {S : GS} {σ : PPS}
theorem k_isNamedAgain {K k q A : Nat} {g a : Nat → Nat → Int32} {ls nm : List Int32} {as : List Att} {f : Nat} (hN : Tab 14 (pNd σ) K g) (hK : K < 2 ^ 31) (hk : k < K) (hA : Tab 5 (pAt σ) (A + 1) a) (hA1 : A + 1 < 2 ^ 31) (hs : Str (pLe σ) ls) (hl : ls.length ≤ 4000)
    (h9 : g k 9 = nI q) (hqa : q + as.length = A) (hrow : ∀ j B, as[j]? = some B → a (q + j) 0 = nI B.nl ∧ ∃ f, a (q + j) 3 = nI f ∧ Seg ls f (seg t n B.na B.nl)) (hr0 : a A 0 = nI nm.length) (hr3 : a A 3 = nI f) (hf : Seg ls f nm)
    {post : Int32 → Prop} (h1 : (∃ B ∈ as, seg t n B.na B.nl = nm) → post 1) (h0 : (∀ B ∈ as, ¬ seg t n B.na B.nl = nm) → post 0) : w_Book_isNamedAgain σ (nI k) (nI A) post := by
  have hnl := hf.1
  unfold w_Book_isNamedAgain
  rw [hN.get hK (r := k) (c := 9) (x := 9) rfl hk (by decide) (by decide), h9, hA.get hA1 (r := A) (c := 3) (x := 3) rfl (by omega) (by decide) (by decide), hr3, hA.get hA1 (r := A) (c := 0) (x := 0) rfl (by omega) (by decide) (by decide), hr0]
  have key : ∀ m j, j + m = as.length → (∀ i B, i < j → as[i]? = some B → ¬ seg t n B.na B.nl = nm) → ∃ fu, w_Book_isNamedAgain_L33 σ (nI A) (nI f) (nI nm.length) post fu (nI (q + j)) := by
    intro m
    induction m with
    | zero =>
      intro j hj hno
      refine ⟨1, ?_⟩
      unfold w_Book_isNamedAgain_L33
      refine br_t (nI_le (by omega) (by omega)) (h0 (fun B hB => ?_))
      obtain ⟨i, hi, e⟩ := List.getElem_of_mem hB
      exact hno i B (by omega) (by rw [List.getElem?_eq_getElem hi, e])
    | succ m ih =>
      intro j hj hno
      have hjl : j < as.length := by omega
      have hB : as[j]? = some as[j] := List.getElem?_eq_getElem hjl
      obtain ⟨r0, f', r3, sf⟩ := hrow j _ hB
      have e0 : tGet 5 (pAt σ) (nI (q + j)) 0 = nI (as[j]).nl := by rw [hA.get hA1 (r := q + j) (c := 0) (x := 0) rfl (by omega) (by decide) (by decide), r0]
      have e3 : tGet 5 (pAt σ) (nI (q + j)) 3 = nI f' := by rw [hA.get hA1 (r := q + j) (c := 3) (x := 3) rfl (by omega) (by decide) (by decide), r3]
      have hsl : (seg t n (as[j]).na (as[j]).nl).length = (as[j]).nl := seg_len _ _ _ _
      have hsf := sf.1
      by_cases hc : seg t n (as[j]).na (as[j]).nl = nm
      · refine ⟨1, ?_⟩
        unfold w_Book_isNamedAgain_L33
        refine br_f (nI_ge (by omega) (by omega)) ?_
        rw [e0, e3]
        have hlen : (as[j]).nl = nm.length := by rw [← hsl, hc]
        refine br_t (by rw [hlen]) ?_
        rw [← hlen, ← hsl]
        refine k_lettersAgree hs hl sf hf (by omega) (bl_t (decide_eq_true hc) (h1 ⟨_, List.getElem_mem hjl, hc⟩))
      · obtain ⟨fu, hfu⟩ := ih (j + 1) (by omega) (fun i B hi hB2 => by
          by_cases e : i = j
          · subst e; rw [hB] at hB2; cases hB2; exact hc
          · exact hno i B (by omega) hB2)
        refine ⟨fu + 1, ?_⟩
        unfold w_Book_isNamedAgain_L33 w_Book_isNamedAgain_J76
        refine br_f (nI_ge (by omega) (by omega)) ?_
        rw [e0, e3, nI_1, show q + j + 1 = q + (j + 1) from by omega]
        by_cases hlen : (as[j]).nl = nm.length
        · refine br_t (by rw [hlen]) ?_
          rw [← hlen, ← hsl]
          rw [← hlen, ← hsl] at hfu
          exact k_lettersAgree hs hl sf hf (by omega) (bl_f (decide_eq_false hc) hfu)
        · refine br_f (fun z => hlen ((nI_eq (by omega) (by omega)).mp z)) hfu
  have := key as.length 0 (Nat.zero_add _) (fun i B hi => absurd hi (Nat.not_lt_zero i))
  exact this
theorem k_shutElement {k p fn : Nat} {os : List Nat} {nd at_ le : StS} {g a : Nat → Nat → Int32} {ls : List Int32} {A : Nat} {el in_ wr ps : Int32} (hop : S.op = k :: os) (hI : Inv t n S) (hb : Bk t n S nd at_ le g a ls A) (hps : S.at_ ≤ p) {post : PPS → Prop}
    (hq : ∀ nd' g', Bk t n (S.shut k p fn) nd' at_ le g' a ls A → post (mkS σ nd' at_ le el ps (hd os) in_ wr)) : w_Reader_shutElement (mkS σ nd at_ le el ps (nI k) in_ wr) post := by
  have ho := hI.opn
  rw [hop] at ho
  obtain ⟨hkK, -, hup, -, -⟩ := ho
  have hK := hI.k900
  have T := hb.nd.set (by omega) (r := k) (c := 10) (x := 10) rfl hkK (by decide) (by decide) (nI S.K)
  unfold w_Reader_shutElement w_Book_shut
  refine fa_eq (fa_eq ?_)
  have e1 : (pNd (mkS σ nd at_ le el ps (nI k) in_ wr)).1 = nI S.K := hb.nd.1
  rw [e1]
  have e2 : tGet 14 (tSet 14 nd (nI k) 10 (nI S.K)) (nI k) 1 = hd os := by
    rw [T.get (by omega) (r := k) (c := 1) (x := 1) rfl hkK (by decide) (by decide)]
    simp only [g2, Nat.reduceEqDiff, and_false, if_false]
    rw [(hb.row k hkK).lnk.c1, hup]
  show post (mkS σ (tSet 14 nd (nI k) 10 (nI S.K)) at_ le el ps (tGet 14 (tSet 14 nd (nI k) 10 (nI S.K)) (nI k) 1) in_ wr)
  rw [e2]
  refine hq _ _ ⟨by rw [shut_K]; exact T, hb.at_, hb.le, by rw [shut_at_]; exact Nat.le_trans hb.lle hps, by rw [shut_at_]; exact Nat.le_trans hb.ale hps, fun j hj => ?_, fun z => by rw [shut_it] at z; cases z⟩
  rw [shut_K] at hj
  have r := hb.row j hj
  obtain ⟨q, hq2⟩ := r.att
  have hc : ∀ c, ¬ c = 10 → g2 g k 10 (nI S.K) j c = g j c := fun c hc => g2_c hc
  have hlets : lets t n (S.shut k p fn) j = lets t n S j := lets_eq (congrFun shut_el j) (congrFun shut_bg j) (congrFun shut_nl j) (congrFun shut_cs j)
  refine ⟨?_, ?_, ?_, ?_, ?_⟩
  · simp only [NLnk, shut_K, shut_el, shut_bg, shut_nl, shut_en, shut_cs, shut_as, shut_up, shut_fs, shut_nx, shut_ls, shut_pa, shut_dp, shut_op, shut_at_, shut_it, shut_E, shut_X, shut_F]
    exact ⟨by rw [hc 0 (by decide)]; exact r.lnk.c0, by rw [hc 1 (by decide)]; exact r.lnk.c1, by rw [hc 2 (by decide)]; exact r.lnk.c2, by rw [hc 5 (by decide)]; exact r.lnk.c5, by rw [hc 6 (by decide)]; exact r.lnk.c6, by rw [hc 7 (by decide)]; exact r.lnk.c7, by rw [hc 11 (by decide)]; exact r.lnk.c11⟩
  · rw [shut_pa]
    by_cases e : j = k
    · subst e; rw [g2_s, va_s]
    · rw [g2_r e, va_n e]; exact r.c10
  · rw [hlets, hc 8 (by decide), hc 3 (by decide)]; exact r.let_
  · rw [hlets, shut_el, hc 12 (by decide)]; exact r.kind
  · refine ⟨q, ?_⟩
    rw [shut_as]
    exact ⟨by rw [hc 9 (by decide)]; exact hq2.c9, by rw [hc 4 (by decide)]; exact hq2.c4, hq2.le, hq2.row, by rw [hc 13 (by decide)]; exact hq2.id1, by rw [hc 13 (by decide)]; exact hq2.id0⟩
end TG
