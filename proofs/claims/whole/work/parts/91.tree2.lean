/-! PURE: the tree is kept by every piece. -/
section T2
variable {t : Nat → Int32} {n : Nat} {S S' : GS}
theorem Opn.dp : ∀ {os : List Nat}, Opn S os → ∀ u ∈ os, S.dp u ≤ os.length
  | [], _, u, h => by cases h
  | v :: os, h, u, hu => by
    rcases List.mem_cons.mp hu with e | e
    · rw [e, h.2.2.2.1]; exact Nat.le_refl _
    · have := h.2.2.2.2.2.dp u e
      simp only [List.length_cons]; omega
theorem wk_eq {j : Nat} (h1 : S'.el j = S.el j) (h2 : S'.nl j = S.nl j) (h3 : S'.as j = S.as j) (h4 : S'.cs j = S.cs j) : wk S' j = wk S j := by
  unfold wk
  rw [h1, h2, h3, h4]
theorem wk_new {e : Bool} {b nl en : Nat} {cs : List Int32} : ∀ j, j < S.K → wk (S.add e b nl en cs) j = wk S j := fun j hj => by
  have hne : ¬ j = S.K := by omega
  unfold wk
  rw [add_el, add_nl, add_as, add_cs, va_n hne, va_n hne, va_n hne, va_n hne]
theorem Gt.be (hI : Inv t n S) (hT : Gt t n S) (hz : S.op = [] → S.K = 0) (hE : S.E < 300) (hb : BE t n S (.inr S')) : Gt t n S' := by
  obtain ⟨e, hx, hnm, rfl⟩ := hb
  have hl := hnm.len
  have hK : S.K < 900 := by have := hI.k; have := hI.f; have := hI.x; omega
  have L := hT.links hI true hz hK
  have hlt := hI.opn.lt
  have hdp := hI.opn.dp
  have hwt := hT.wt
  simp only [Gt, addEl_K, addEl_el, addEl_bg, addEl_nl, addEl_en, addEl_cs, addEl_as, addEl_up, addEl_fs, addEl_nx, addEl_ls, addEl_pa, addEl_dp, addEl_op, addEl_at_, addEl_it, addEl_E, addEl_X, addEl_F]
  refine ⟨fun k hk hel => ?_, L.up, fun k hk j hj hjK => ?_, fun k hk hno => ?_, L.fs0, L.fs1, L.nx0, L.nx1, L.ls0, L.ls1, L.r0, ?_⟩
  · by_cases e1 : k = S.K
    · subst e1; rw [va_s] at hel; cases hel
    · rw [va_n e1] at hel ⊢; exact hT.ta k (by omega) hel
  · rcases List.mem_cons.mp hk with e1 | e1
    · omega
    · have hkK := hlt k e1
      rw [va_n (by omega)]
      by_cases e2 : j = S.K
      · rw [e2, va_s]; have := hdp k e1; omega
      · rw [va_n e2]; exact hT.po k e1 j hj (by omega)
  · have e1 : ¬ k = S.K := fun z => hno (by rw [z]; exact List.mem_cons_self)
    have hno2 : ¬ k ∈ S.op := fun z => hno (List.mem_cons_of_mem _ z)
    obtain ⟨q, h1, h2, h3, h4, h5, h6⟩ := hT.pc k (by omega) hno2
    refine ⟨q, by rw [va_n e1]; exact h1, h2, by omega, fun j a b => ?_, fun hq => ?_, fun hq => by omega⟩
    · rw [va_n e1, va_n (by omega)]; exact h4 j a b
    · rw [va_n e1]
      by_cases e2 : q = S.K
      · rw [e2, va_s]; exact h6 e2
      · rw [va_n e2]; exact h5 (by omega)
  · show wsum _ S.K + wk _ S.K ≤ _
    rw [wsum_congr (S := S) S.K (fun j hj => by
      have hne : ¬ j = S.K := by omega
      unfold wk
      simp only [addEl_K, addEl_el, addEl_bg, addEl_nl, addEl_en, addEl_cs, addEl_as, addEl_up, addEl_fs, addEl_nx, addEl_ls, addEl_pa, addEl_dp, addEl_op, addEl_at_, addEl_it, addEl_E, addEl_X, addEl_F, va_n hne])]
    have : wk (S.addEl S.at_ (e - (S.at_ + 1)) e) S.K = 2 * (e - (S.at_ + 1)) + 6 := by
      unfold wk
      simp only [addEl_K, addEl_el, addEl_bg, addEl_nl, addEl_en, addEl_cs, addEl_as, addEl_up, addEl_fs, addEl_nx, addEl_ls, addEl_pa, addEl_dp, addEl_op, addEl_at_, addEl_it, addEl_E, addEl_X, addEl_F, va_s, if_true, List.map_nil, List.sum_nil, Nat.add_zero]
    rw [this]; omega
theorem Gt.tag (hT : Gt t n S) (p : Nat) (hp : S.at_ ≤ p) : Gt t n (S.tagEnd p) := by
  have hw : wsum (S.tagEnd p) S.K = wsum S S.K := wsum_congr S.K (fun j _ => wk_eq (congrFun tagEnd_el j) (congrFun tagEnd_nl j) (congrFun tagEnd_as j) (congrFun tagEnd_cs j))
  have hwt := hT.wt
  simp only [Gt, tagEnd_K, tagEnd_el, tagEnd_bg, tagEnd_nl, tagEnd_en, tagEnd_cs, tagEnd_as, tagEnd_up, tagEnd_fs, tagEnd_nx, tagEnd_ls, tagEnd_pa, tagEnd_dp, tagEnd_op, tagEnd_at_, tagEnd_it, tagEnd_E, tagEnd_X, tagEnd_F]
  exact ⟨hT.ta, hT.up, hT.po, hT.pc, hT.fs0, hT.fs1, hT.nx0, hT.nx1, hT.ls0, hT.ls1, hT.r0, by rw [hw]; omega⟩
theorem Gt.shut (hI : Inv t n S) (hT : Gt t n S) {k p f : Nat} {os : List Nat} (hop : S.op = k :: os) (hp : S.at_ ≤ p) : Gt t n (S.shut k p f) := by
  have hw : wsum (S.shut k p f) S.K = wsum S S.K := wsum_congr S.K (fun j _ => wk_eq (congrFun shut_el j) (congrFun shut_nl j) (congrFun shut_as j) (congrFun shut_cs j))
  have hwt := hT.wt
  have ho := hI.opn
  rw [hop] at ho
  obtain ⟨hkK, _, _, hdp, hlts, _⟩ := ho
  have htl : S.op.tail = os := by rw [hop]; rfl
  simp only [Gt, shut_K, shut_el, shut_bg, shut_nl, shut_en, shut_cs, shut_as, shut_up, shut_fs, shut_nx, shut_ls, shut_pa, shut_dp, shut_op, shut_at_, shut_it, shut_E, shut_X, shut_F]
  refine ⟨hT.ta, hT.up, fun k2 hk2 => hT.po k2 (List.mem_of_mem_tail hk2), fun k2 hk2 hno => ?_, hT.fs0, hT.fs1, hT.nx0, hT.nx1, hT.ls0, hT.ls1, hT.r0, by rw [hw]; omega⟩
  rw [htl] at hno
  rw [htl]
  by_cases e : k2 = k
  · subst e
    refine ⟨S.K, va_s, hkK, Nat.le_refl _, fun j a b => hT.po k2 (by rw [hop]; exact List.mem_cons_self) j a b, fun z => by omega, fun _ => by rw [hdp]; exact Nat.le_refl _⟩
  · rw [va_n e]
    obtain ⟨q, h1, h2, h3, h4, h5, h6⟩ := hT.pc k2 hk2 (fun z => by
      rw [hop] at z
      rcases List.mem_cons.mp z with z | z
      · exact e z
      · exact hno z)
    refine ⟨q, h1, h2, h3, h4, h5, fun z => ?_⟩
    have := h6 z
    rw [hop] at this
    simp only [List.length_cons] at this
    omega
theorem Gt.it (hI : Inv t n S) (hT : Gt t n S) (hG : Gd t n S) (hb : IT t n S (.inr S')) : Gt t n S' := by
  rcases hb with ⟨k0, p, os0, hop, hw, hlt, hB, hA⟩ | ⟨p, hw, hx, rfl⟩ | ⟨k0, os0, p, hop, hw, hx, hx2, rfl⟩
  · obtain ⟨e, q, cs, hnm, hno, hx, hx2, hCh, hx3, rfl⟩ := hA
    have hl := hnm.len
    have hcl := Chars.le hCh
    have hwt := hT.wt
    have ho := hI.opn
    rw [hop] at ho
    have hk0 := ho.1
    have hel0 := ho.2.1
    have hW : wsum (S.addAt k0 (Att.mk p (e - p) q cs)) S.K = wsum S S.K + wat (Att.mk p (e - p) q cs) := by
      refine wsum_one (k0 := k0) S.K hk0 (fun j _ hj => ?_) ?_
      · unfold wk
        simp only [addAt_K, addAt_el, addAt_bg, addAt_nl, addAt_en, addAt_cs, addAt_as, addAt_up, addAt_fs, addAt_nx, addAt_ls, addAt_pa, addAt_dp, addAt_op, addAt_at_, addAt_it, addAt_E, addAt_X, addAt_F, va_n hj]
      · unfold wk
        simp only [addAt_K, addAt_el, addAt_bg, addAt_nl, addAt_en, addAt_cs, addAt_as, addAt_up, addAt_fs, addAt_nx, addAt_ls, addAt_pa, addAt_dp, addAt_op, addAt_at_, addAt_it, addAt_E, addAt_X, addAt_F, va_s, hel0, if_true, List.map_append, List.sum_append, List.map_cons, List.map_nil, List.sum_cons, List.sum_nil]
        omega
    simp only [Gt, addAt_K, addAt_el, addAt_bg, addAt_nl, addAt_en, addAt_cs, addAt_as, addAt_up, addAt_fs, addAt_nx, addAt_ls, addAt_pa, addAt_dp, addAt_op, addAt_at_, addAt_it, addAt_E, addAt_X, addAt_F]
    refine ⟨fun k hk hel => ?_, hT.up, hT.po, hT.pc, hT.fs0, hT.fs1, hT.nx0, hT.nx1, hT.ls0, hT.ls1, hT.r0, ?_⟩
    · have : ¬ k = k0 := fun z => by rw [z, hel0] at hel; cases hel
      rw [va_n this]; exact hT.ta k hk hel
    · rw [hW]
      show wsum S S.K + ((e - p) + 4 + 6 * cs.length) ≤ 6 * (q + 1)
      omega
  · exact hT.tag _ (by have := hw.1; omega)
  · exact hT.shut hI hop (by have := hw.1; omega)
theorem Gt.pcs (hI : Inv t n S) (hT : Gt t n S) (hG : Gd t n S) (hne : ¬ S.op = []) (hb : PC t n S (.inr S')) : Gt t n S' := by
  have hat := (hI.pc hne hb).2
  rcases hb with ⟨hit, h⟩ | ⟨hit, hx, hx1, h⟩ | ⟨_, _, _, _, h⟩ | ⟨hit, hx, hx1, hE, h40, h⟩ | ⟨hit, hx, h⟩
  · exact hT.it hI hG h
  · obtain ⟨k, os, e, p, hop, hnm, hs, hw, hx3, rfl⟩ := h
    rw [shut_at_] at hat
    exact hT.shut hI hop (by omega)
  · cases h
  · exact hT.be hI (fun z => absurd z hne) hE h
  · obtain ⟨e, cs, hm, hCh, hst, rfl⟩ := h
    have hx1 := hI.x1 hne (Or.inr ⟨hx, hm⟩)
    have hK : S.K < 900 := by have := hI.k; have := hI.e; have := hI.f; omega
    have L := hT.links hI false (fun z => absurd z hne) hK
    have hlt := hI.opn.lt
    have hdp := hI.opn.dp
    have hwt := hT.wt
    have hcl := Chars.le hCh
    simp only [Gt, addTx_K, addTx_el, addTx_bg, addTx_nl, addTx_en, addTx_cs, addTx_as, addTx_up, addTx_fs, addTx_nx, addTx_ls, addTx_pa, addTx_dp, addTx_op, addTx_at_, addTx_it, addTx_E, addTx_X, addTx_F]
    refine ⟨fun k hk hel => ?_, L.up, fun k hk j hj hjK => ?_, fun k hk hno => ?_, L.fs0, L.fs1, L.nx0, L.nx1, L.ls0, L.ls1, L.r0, ?_⟩
    · by_cases e1 : k = S.K
      · subst e1; rw [va_s]
      · rw [va_n e1] at hel ⊢; exact hT.ta k (by omega) hel
    · have hkK := hlt k hk
      rw [va_n (show ¬ k = S.K by omega)]
      by_cases e2 : j = S.K
      · rw [e2, va_s]; have := hdp k hk; omega
      · rw [va_n e2]; exact hT.po k hk j hj (by omega)
    · by_cases e1 : k = S.K
      · subst e1
        exact ⟨S.K + 1, va_s, by omega, Nat.le_refl _, fun j a b => by omega, fun z => by omega, fun _ => by rw [va_s]; exact Nat.le_refl _⟩
      · obtain ⟨q, h1, h2, h3, h4, h5, h6⟩ := hT.pc k (by omega) hno
        refine ⟨q, by rw [va_n e1]; exact h1, h2, by omega, fun j a b => ?_, fun hq => ?_, fun hq => by omega⟩
        · rw [va_n e1, va_n (by omega)]; exact h4 j a b
        · rw [va_n e1]
          by_cases e2 : q = S.K
          · rw [e2, va_s]; exact h6 e2
          · rw [va_n e2]; exact h5 (by omega)
    · show wsum _ S.K + wk _ S.K ≤ _
      rw [wsum_congr (S := S) S.K (fun j hj => by
        have hne : ¬ j = S.K := by omega
        unfold wk
        simp only [addTx_K, addTx_el, addTx_bg, addTx_nl, addTx_en, addTx_cs, addTx_as, addTx_up, addTx_fs, addTx_nx, addTx_ls, addTx_pa, addTx_dp, addTx_op, addTx_at_, addTx_it, addTx_E, addTx_X, addTx_F, va_n hne])]
      have : wk (S.addTx S.at_ e cs) S.K = 6 * cs.length := by
        unfold wk
        rw [if_neg (by rw [addTx_el, va_s]; decide), addTx_cs, va_s]
      rw [this]; omega
theorem RN.gt : ∀ (m : Nat) (S S' : GS), Inv t n S → Gd t n S → Gt t n S → RN t n m S (.inr S') → Gt t n S' ∧ Inv t n S' ∧ Gd t n S'
  | 0, S, S', hI, hG, hT, h => by
    rcases h with ⟨a, h⟩ | ⟨_, p, _, h⟩
    · cases h; exact ⟨hT, hI, hG⟩
    · cases h
  | m + 1, S, S', hI, hG, hT, h => by
    obtain ⟨hne, S1, hP, hR⟩ := h
    exact RN.gt m S1 S' (hI.pc hne hP).1 (hG.pc hI hP) (hT.pcs hI hG hne hP) hR
theorem RD.gt {S : GS} (hn : n ≤ 4000) (h : RD t n (.inr S)) : Gt t n S := by
  obtain ⟨a, hBg, S1, hB, m, hR, _⟩ := h
  have han : a ≤ n := by
    have hx : xx t n a = 60 := by
      obtain ⟨e, hx, _⟩ := hB
      exact hx
    have := xx_lt' hx (by decide)
    omega
  have hI := inv0 (t := t) han hn
  exact (RN.gt m S1 S (hI.be (by show 0 < 300; decide) (by show 0 < 40; decide) hB).1 (Gd.be hI gd0 rfl hB) (Gt.be hI gt0 (fun _ => rfl) (by show 0 < 300; decide) hB) hR).1
end T2
