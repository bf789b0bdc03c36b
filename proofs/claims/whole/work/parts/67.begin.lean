/-! PURE: the class begins an element. -/
/-- what reading leaves as it is -/
def kp (σ : PPS) : (Nat → Int32) × StS × StS × Int32 × Int32 := (pRd σ, pTp σ, pSh σ, pFs σ, pFp σ)
/-- a node is the same in two readings -/
def SameN (S S' : GS) (k : Nat) : Prop := (S'.el k = S.el k) ∧ (S'.bg k = S.bg k) ∧ (S'.nl k = S.nl k) ∧ (S'.cs k = S.cs k) ∧ (S'.as k = S.as k) ∧ (S'.up k = S.up k) ∧ (S'.fs k = S.fs k) ∧ (S'.nx k = S.nx k) ∧ (S'.ls k = S.ls k) ∧ (S'.pa k = S.pa k) ∧ (S'.dp k = S.dp k)
theorem SameN.el {S S' : GS} {k : Nat} (h : SameN S S' k) : S'.el k = S.el k := h.1
theorem SameN.bg {S S' : GS} {k : Nat} (h : SameN S S' k) : S'.bg k = S.bg k := h.2.1
theorem SameN.nl {S S' : GS} {k : Nat} (h : SameN S S' k) : S'.nl k = S.nl k := h.2.2.1
theorem SameN.cs {S S' : GS} {k : Nat} (h : SameN S S' k) : S'.cs k = S.cs k := h.2.2.2.1
theorem SameN.as {S S' : GS} {k : Nat} (h : SameN S S' k) : S'.as k = S.as k := h.2.2.2.2.1
theorem SameN.up {S S' : GS} {k : Nat} (h : SameN S S' k) : S'.up k = S.up k := h.2.2.2.2.2.1
theorem SameN.fs {S S' : GS} {k : Nat} (h : SameN S S' k) : S'.fs k = S.fs k := h.2.2.2.2.2.2.1
theorem SameN.nx {S S' : GS} {k : Nat} (h : SameN S S' k) : S'.nx k = S.nx k := h.2.2.2.2.2.2.2.1
theorem SameN.ls {S S' : GS} {k : Nat} (h : SameN S S' k) : S'.ls k = S.ls k := h.2.2.2.2.2.2.2.2.1
theorem SameN.pa {S S' : GS} {k : Nat} (h : SameN S S' k) : S'.pa k = S.pa k := h.2.2.2.2.2.2.2.2.2.1
theorem SameN.dp {S S' : GS} {k : Nat} (h : SameN S S' k) : S'.dp k = S.dp k := h.2.2.2.2.2.2.2.2.2.2
theorem SameN.refl (S : GS) (k : Nat) : SameN S S k := ⟨rfl, rfl, rfl, rfl, rfl, rfl, rfl, rfl, rfl, rfl, rfl⟩
section MO
variable {t : Nat → Int32} {n : Nat} {S S' : GS} {g a g' a' : Nat → Nat → Int32} {ls L : List Int32} {A A' k : Nat}
theorem ARow.mono {r : Nat} {B : Att} (h : ARow t n a ls r B) (ha : ∀ c, c < 5 → a' r c = a r c) (L : List Int32) : ARow t n a' (ls ++ L) r B := by
  obtain ⟨f3, h3, s3⟩ := h.c3
  obtain ⟨f4, h4, s4⟩ := h.c4
  exact ⟨by rw [ha 0 (by decide)]; exact h.c0, by rw [ha 1 (by decide)]; exact h.c1, by rw [ha 2 (by decide)]; exact h.c2, ⟨f3, by rw [ha 3 (by decide)]; exact h3, s3.app L⟩, ⟨f4, by rw [ha 4 (by decide)]; exact h4, s4.app L⟩⟩
theorem NAtt.mono {as : List Att} {q : Nat} (h : NAtt t n as g a ls A k q) (hg : ∀ c, c < 14 → g' k c = g k c) (ha : ∀ r, r < A → ∀ c, c < 5 → a' r c = a r c) (hA : A ≤ A') (L : List Int32) : NAtt t n as g' a' (ls ++ L) A' k q := by
  have h13 := hg 13 (by decide)
  refine ⟨by rw [hg 9 (by decide)]; exact h.c9, by rw [hg 4 (by decide)]; exact h.c4, Nat.le_trans h.le hA, fun j B hj => ?_, by rw [h13]; exact h.id1, by rw [h13]; exact h.id0⟩
  have hj2 : j < as.length := (List.getElem?_eq_some_iff.mp hj).1
  have := h.le
  exact (h.row j B hj).mono (ha (q + j) (by omega)) L
theorem NLnk.same (h : NLnk S g k) (hg : ∀ c, c < 14 → g' k c = g k c) (hS : SameN S S' k) : NLnk S' g' k :=
  ⟨by rw [hg 0 (by decide), hS.el]; exact h.c0, by rw [hg 1 (by decide), hS.up]; exact h.c1, by rw [hg 2 (by decide), hS.bg]; exact h.c2, by rw [hg 5 (by decide), hS.nx]; exact h.c5, by rw [hg 6 (by decide), hS.fs]; exact h.c6, by rw [hg 7 (by decide), hS.dp]; exact h.c7, by rw [hg 11 (by decide), hS.ls]; exact h.c11⟩
theorem lets_eq (h1 : S'.el k = S.el k) (h2 : S'.bg k = S.bg k) (h3 : S'.nl k = S.nl k) (h4 : S'.cs k = S.cs k) : lets t n S' k = lets t n S k := by
  unfold lets
  rw [h1, h2, h3, h4]
theorem SameN.lets (hS : SameN S S' k) : lets t n S' k = lets t n S k := by
  unfold Pilot.CPlainPagesLaw_law_r4091_10100c.lets
  rw [hS.el, hS.bg, hS.nl, hS.cs]
theorem NRow.mono (h : NRow t n S g a ls A k) (hg : ∀ c, c < 14 → g' k c = g k c) (ha : ∀ r, r < A → ∀ c, c < 5 → a' r c = a r c) (hA : A ≤ A') (L : List Int32) (hS : SameN S S' k) : NRow t n S' g' a' (ls ++ L) A' k := by
  obtain ⟨f, h8, h3, hs⟩ := h.let_
  obtain ⟨q, hq⟩ := h.att
  refine ⟨h.lnk.same hg hS, by rw [hg 10 (by decide), hS.pa]; exact h.c10, ⟨f, by rw [hg 8 (by decide)]; exact h8, by rw [hg 3 (by decide), hS.lets]; exact h3, by rw [hS.lets]; exact hs.app L⟩, by rw [hg 12 (by decide), hS.lets, hS.el]; exact h.kind, ⟨q, by rw [hS.as]; exact hq.mono hg ha hA L⟩⟩
theorem NRow.same (h : NRow t n S g a ls A k) (hS : SameN S S' k) : NRow t n S' g a ls A k := by
  have := h.mono (g' := g) (a' := a) (A' := A) (fun c hc => rfl) (fun r hr c hc => rfl) (Nat.le_refl A) [] hS
  rw [List.append_nil] at this
  exact this
end MO
/-- a state of the reader's over another state -/
def mkS (σ : PPS) (nd at_ le : StS) (el ps op in_ wr : Int32) : PPS := (pRd σ, pTp σ, pSh σ, nd, at_, le, el, ps, op, in_, wr, pFs σ, pFp σ)
theorem Tp.mkS {σ : PPS} {t : Nat → Int32} {n : Nat} (h : Tp σ t n) {nd at_ le : StS} {el ps op in_ wr : Int32} : Tp (mkS σ nd at_ le el ps op in_ wr) t n := h
theorem kp_mkS {σ : PPS} {nd at_ le : StS} {el ps op in_ wr : Int32} : kp (mkS σ nd at_ le el ps op in_ wr) = kp σ := rfl
theorem CR.mkS {t : Nat → Int32} {n : Nat} {S : GS} {σ : PPS} {nd at_ le : StS} {el ps op in_ wr : Int32} {g a : Nat → Nat → Int32} {ls : List Int32} {A : Nat} (h : Tp σ t n) (hps : ps = nI S.at_) (hop : op = hd S.op) (hwr : wr = -1) (hel : el = nI S.E) (hit : ¬ S.op = [] → in_ = b2i S.it) (hb : Bk t n S nd at_ le g a ls A) : CR t n S (mkS σ nd at_ le el ps op in_ wr) :=
  ⟨h.mkS, hps, hop, hwr, hel, hit, ⟨g, a, ls, A, hb⟩⟩
section BG
variable {t : Nat → Int32} {n : Nat} {S : GS} {σ : PPS}
theorem kLa_ok : ∀ i, i < 23 → kLa.getD i 0 < 49 := by decide +kernel
theorem k_keepKind {K k f : Nat} {g : Nat → Nat → Int32} {ls l : List Int32} (hT : Tab 14 (pNd σ) K g) (hK : K < 2 ^ 31) (hk : k < K) (hs : Str (pLe σ) ls) (hl : ls.length ≤ 4000) (h8 : g k 8 = nI f) (h3 : g k 3 = nI l.length) (h12 : g k 12 = -1) (h : Seg ls f l) {post : PPS → Prop}
    (hq : ∀ nd', Tab 14 nd' K (g2 g k 12 (kdOf l)) → post (sNd σ nd')) : w_Book_keepKind σ (nI k) post := by
  unfold w_Book_keepKind
  rw [hT.get hK (r := k) (c := 8) (x := 8) rfl hk (by decide) (by decide), hT.get hK (r := k) (c := 3) (x := 3) rfl hk (by decide) (by decide), h8, h3]
  have key : ∀ m i, i + m = 23 → ∀ nd', Tab 14 nd' K (g2 g k 12 (kdF l i)) → ∃ q, w_Book_keepKind_L24 (nI k) (nI f) (nI l.length) post q (nI i) (sNd σ nd') := by
    intro m
    induction m with
    | zero =>
      intro i hi nd' T
      refine ⟨1, ?_⟩
      unfold w_Book_keepKind_L24
      have : i = 23 := by omega
      subst this
      exact br_t (by decide) (hq nd' T)
    | succ m ih =>
      intro i hi nd' T
      have hi3 : i < 23 := by omega
      have hrec : ∃ q, w_Book_keepKind_L24 (nI k) (nI f) (nI l.length) post q (nI (i + 1)) (sNd σ (if l = tx (kLa.getD i 0) then tSet 14 nd' (nI k) 12 (nI i) else nd')) := by
        refine ih (i + 1) (by omega) _ ?_
        unfold kdF
        by_cases hc : l = tx (kLa.getD i 0)
        · rw [if_pos hc, if_pos hc]
          refine (T.set hK (r := k) (c := 12) (x := 12) rfl hk (by decide) (by decide) (nI i)).congr (fun r hr c hc => ?_)
          unfold g2
          split
          · rfl
          · rfl
        · rw [if_neg hc, if_neg hc]; exact T
      obtain ⟨q, hq2⟩ := hrec
      refine ⟨q + 1, ?_⟩
      unfold w_Book_keepKind_L24
      refine br_f (nI_ge (b := 23) hi3 (by decide)) ⟨vp_in_nI hi3 (by decide), vp_in_nI hi3 (by decide), by rw [nI_clamp (by omega)]; exact hi3, ?_⟩
      rw [nI_clamp (by omega)]
      refine k_lettersAre (kLa_ok i hi3) (by exact hs) hl h ?_
      by_cases hc : l = tx (kLa.getD i 0)
      · rw [if_pos hc] at hq2
        refine bl_t (decide_eq_true hc) (fa_eq ?_)
        unfold w_Book_keepKind_J72
        rw [nI_1]; exact hq2
      · rw [if_neg hc] at hq2
        refine bl_f (decide_eq_false hc) ?_
        unfold w_Book_keepKind_J72
        rw [nI_1]; exact hq2
  refine key 23 0 rfl (pNd σ) (hT.congr (fun r hr c hc => ?_))
  unfold g2
  split
  · rename_i e; rw [e.1, e.2, h12]; rfl
  · rfl
theorem k_endLetters {K k f m : Nat} {g : Nat → Nat → Int32} {ls : List Int32} (hT : Tab 14 (pNd σ) K g) (hK : K < 2 ^ 31) (hk : k < K) (hs : Str (pLe σ) ls) (h8 : g k 8 = nI f) (hm : f + m = ls.length) {post : PPS → Prop}
    (hq : ∀ nd', Tab 14 nd' K (g2 g k 3 (nI m)) → post (sNd σ nd')) : w_Book_endLetters σ (nI k) post := by
  unfold w_Book_endLetters
  refine fa_eq ?_
  rw [hT.get hK (r := k) (c := 8) (x := 8) rfl hk (by decide) (by decide), h8, hs.1, pk_sub (by omega), show ls.length - f = m from by omega]
  exact hq _ (hT.set hK (c := 3) rfl hk (by decide) (by decide) _)
theorem k_beginElement (hC : CR t n S σ) (hI : Inv t n S) (hE : S.E < 300) {post : Int32 → PPS → Prop}
    (h0 : ∀ p σ', BE t n S (.inl p) → pWr σ' = nI p → kp σ' = kp σ → post 0 σ')
    (h1 : ∀ S' σ', BE t n S (.inr S') → CR t n S' σ' → kp σ' = kp σ → post 1 σ') : w_Reader_beginElement σ post := by
  obtain ⟨g, a, ls, A, hb⟩ := hC.bk
  have hn := hI.n4
  have han := hI.an
  unfold w_Reader_beginElement
  refine k_take hC.tp hC.ps han (fun hx => ?_) (fun hx => ?_)
  · refine br_f (by decide) ?_
    have hlt : S.at_ < n := xx_lt (fun z => by rw [z] at hx; revert hx; decide)
    refine k_passName (k := S.at_ + 1) (by exact hC.tp) (by rfl) (by omega) (fun hN => ?_) (fun e hB hR hl => ?_) (fun e hB hR hl => ?_)
    · exact br_t rfl (h0 _ _ (BE.name hx (Or.inl ⟨hN, rfl⟩)) rfl rfl)
    · refine br_f (by decide) ?_
      have he := hR.le cGn_m (by omega)
      have hRle := hR.1
      have hK : S.K < 900 := by have := hI.k; have := hI.f; have := hI.x; omega
      rw [hC.ps, show pOp (sPs (sPs σ (nI (S.at_ + 1))) (nI e)) = hd S.op from hC.op]
      refine k_addNode (σ := sPs (sPs σ (nI (S.at_ + 1))) (nI e)) (nl := e - (S.at_ + 1)) (en := 0) (cs := []) true hb hI hK (fun nd' g' T' hrows hnew => fa_eq ?_)
      obtain ⟨nl0, n4, n8, n9, n10, n12, n13⟩ := hnew
      rw [if_pos rfl, show nI S.at_ + 1 = nI (S.at_ + 1) from nI_1 _]
      show w_Reader_keepLetters (mkS σ nd' (pAt σ) (pLe σ) (pEl σ + 1) (nI e) (nI S.K) (pIn σ) (pWr σ)) _ _
      have hlen := hb.lle
      refine k_keepLetters (m := e - (S.at_ + 1)) (by exact hC.tp) (by show nI e = _; congr 1; omega) (by omega) (by exact hb.le) (by omega) (fun le' hL => ?_)
      show w_Book_endLetters (mkS σ nd' (pAt σ) le' (pEl σ + 1) (nI e) (nI S.K) (pIn σ) (pWr σ)) (nI S.K) _
      refine k_endLetters (K := S.K + 1) (k := S.K) (f := ls.length) (m := e - (S.at_ + 1)) (by exact T') (by omega) (by omega) (by exact hL) n8 (by rw [List.length_append, seg_len]) (fun nd2 T2 => ?_)
      show w_Book_keepKind (mkS σ nd2 (pAt σ) le' (pEl σ + 1) (nI e) (nI S.K) (pIn σ) (pWr σ)) (nI S.K) _
      have hlenl : (seg t n (S.at_ + 1) (e - (S.at_ + 1))).length = e - (S.at_ + 1) := seg_len _ _ _ _
      refine k_keepKind (K := S.K + 1) (k := S.K) (f := ls.length) (l := seg t n (S.at_ + 1) (e - (S.at_ + 1))) (by exact T2) (by omega) (by omega) (by exact hL) (by rw [List.length_append, hlenl]; omega) (by simp [g2, n8]) (by rw [g2_s, hlenl]) (by simp [g2, n12]) (Seg.end _ _) (fun nd3 T3 => fa_eq ?_)
      show post 1 (mkS σ nd3 (pAt σ) le' (pEl σ + 1) (nI e) (nI S.K) 1 (pWr σ))
      refine h1 _ _ (BE.ok hx ⟨hB, hR, hl⟩) (CR.mkS (S := S.addEl S.at_ (e - (S.at_ + 1)) e) (g := g2 (g2 g' S.K 3 (nI (e - (S.at_ + 1)))) S.K 12 (kdOf (seg t n (S.at_ + 1) (e - (S.at_ + 1))))) (a := a) (ls := ls ++ seg t n (S.at_ + 1) (e - (S.at_ + 1))) (A := A) hC.tp (by rw [addEl_at_]) (by rw [addEl_op]; rfl) hC.wr (by rw [hC.el, nI_1, addEl_E]) (fun _ => by rw [addEl_it]; rfl) ?_) kp_mkS
      · refine ⟨by rw [addEl_K]; exact T3, hb.at_, hL, by rw [List.length_append, hlenl, addEl_at_]; omega, by have := hb.ale; rw [addEl_at_]; omega, fun k hk => ?_, fun _ k os hop => ?_⟩
        · by_cases hkK : k = S.K
          · subst hkK
            have hlets : lets t n (S.addEl S.at_ (e - (S.at_ + 1)) e) S.K = seg t n (S.at_ + 1) (e - (S.at_ + 1)) := by
              unfold lets
              rw [show (S.addEl S.at_ (e - (S.at_ + 1)) e).el S.K = true from va_s, if_pos rfl, show (S.addEl S.at_ (e - (S.at_ + 1)) e).bg S.K = S.at_ from va_s, show (S.addEl S.at_ (e - (S.at_ + 1)) e).nl S.K = e - (S.at_ + 1) from va_s]
            refine ⟨⟨?_, ?_, ?_, ?_, ?_, ?_, ?_⟩, ?_, ⟨ls.length, ?_, ?_, ?_⟩, ?_, ⟨A, ⟨?_, ?_, ?_, ?_, ?_, ?_⟩⟩⟩
            · simp only [g2, Nat.reduceEqDiff, and_false, if_false, addEl_K, addEl_el, addEl_bg, addEl_nl, addEl_en, addEl_cs, addEl_as, addEl_up, addEl_fs, addEl_nx, addEl_ls, addEl_pa, addEl_dp, addEl_op, addEl_at_, addEl_it, addEl_E, addEl_X, addEl_F]; exact nl0.c0
            · simp only [g2, Nat.reduceEqDiff, and_false, if_false, addEl_K, addEl_el, addEl_bg, addEl_nl, addEl_en, addEl_cs, addEl_as, addEl_up, addEl_fs, addEl_nx, addEl_ls, addEl_pa, addEl_dp, addEl_op, addEl_at_, addEl_it, addEl_E, addEl_X, addEl_F]; exact nl0.c1
            · simp only [g2, Nat.reduceEqDiff, and_false, if_false, addEl_K, addEl_el, addEl_bg, addEl_nl, addEl_en, addEl_cs, addEl_as, addEl_up, addEl_fs, addEl_nx, addEl_ls, addEl_pa, addEl_dp, addEl_op, addEl_at_, addEl_it, addEl_E, addEl_X, addEl_F]; exact nl0.c2
            · simp only [g2, Nat.reduceEqDiff, and_false, if_false, addEl_K, addEl_el, addEl_bg, addEl_nl, addEl_en, addEl_cs, addEl_as, addEl_up, addEl_fs, addEl_nx, addEl_ls, addEl_pa, addEl_dp, addEl_op, addEl_at_, addEl_it, addEl_E, addEl_X, addEl_F]; exact nl0.c5
            · simp only [g2, Nat.reduceEqDiff, and_false, if_false, addEl_K, addEl_el, addEl_bg, addEl_nl, addEl_en, addEl_cs, addEl_as, addEl_up, addEl_fs, addEl_nx, addEl_ls, addEl_pa, addEl_dp, addEl_op, addEl_at_, addEl_it, addEl_E, addEl_X, addEl_F]; exact nl0.c6
            · simp only [g2, Nat.reduceEqDiff, and_false, if_false, addEl_K, addEl_el, addEl_bg, addEl_nl, addEl_en, addEl_cs, addEl_as, addEl_up, addEl_fs, addEl_nx, addEl_ls, addEl_pa, addEl_dp, addEl_op, addEl_at_, addEl_it, addEl_E, addEl_X, addEl_F]; exact nl0.c7
            · simp only [g2, Nat.reduceEqDiff, and_false, if_false, addEl_K, addEl_el, addEl_bg, addEl_nl, addEl_en, addEl_cs, addEl_as, addEl_up, addEl_fs, addEl_nx, addEl_ls, addEl_pa, addEl_dp, addEl_op, addEl_at_, addEl_it, addEl_E, addEl_X, addEl_F]; exact nl0.c11
            · simp only [g2, Nat.reduceEqDiff, and_false, if_false]; rw [n10, addEl_pa, va_s]
            · simp only [g2, Nat.reduceEqDiff, and_false, if_false]; exact n8
            · rw [hlets, hlenl]; simp only [g2, Nat.reduceEqDiff, and_false, if_false, and_self, if_true]
            · rw [hlets]; exact Seg.end _ _
            · rw [hlets, g2_s, if_pos (show (S.addEl S.at_ (e - (S.at_ + 1)) e).el S.K = true from va_s)]
            · simp only [g2, Nat.reduceEqDiff, and_false, if_false]; exact n9
            · simp only [g2, Nat.reduceEqDiff, and_false, if_false]; rw [n4, show (S.addEl S.at_ (e - (S.at_ + 1)) e).as S.K = [] from va_s]; rfl
            · rw [show (S.addEl S.at_ (e - (S.at_ + 1)) e).as S.K = [] from va_s]; exact Nat.le_refl A
            · rw [show (S.addEl S.at_ (e - (S.at_ + 1)) e).as S.K = [] from va_s]; intro j B hj; cases hj
            · rw [show (S.addEl S.at_ (e - (S.at_ + 1)) e).as S.K = [] from va_s]; intro j B hj; cases hj
            · intro _; simp only [g2, Nat.reduceEqDiff, and_false, if_false]; exact n13
          · have hk2 : k < S.K := by
              rw [addEl_K] at hk
              omega
            exact (hrows k hk2).mono (fun c hc => by rw [g2_r hkK, g2_r hkK]) (fun r hr c hc => rfl) (Nat.le_refl A) _ (by simp only [SameN, add_K, add_el, add_bg, add_nl, add_en, add_cs, add_as, add_up, add_fs, add_nx, add_ls, add_pa, add_dp, add_op, add_at_, add_it, add_E, add_X, add_F, addEl_K, addEl_el, addEl_bg, addEl_nl, addEl_en, addEl_cs, addEl_as, addEl_up, addEl_fs, addEl_nx, addEl_ls, addEl_pa, addEl_dp, addEl_op, addEl_at_, addEl_it, addEl_E, addEl_X, addEl_F, va_n hkK, and_self])
        · have : k = S.K := by
            rw [addEl_op] at hop
            cases hop; rfl
          subst this
          rw [show (S.addEl S.at_ (e - (S.at_ + 1)) e).as S.K = [] from va_s]
          refine ⟨?_, Nat.zero_le _⟩
          simp only [g2, Nat.reduceEqDiff, and_false, if_false]; exact n9
    · exact br_t rfl (h0 _ _ (BE.name hx (Or.inr ⟨hB, ⟨e, hR, hl⟩, rfl⟩)) rfl rfl)
  · exact br_t rfl (h0 _ _ (BE.no hx) rfl rfl)
end BG
