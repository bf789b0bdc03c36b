/-! PURE: counts are kept; the class reads a text, and the whole. -/
section IV
variable {t : Nat → Int32} {n : Nat} {S S' : GS}
theorem Opn.lt : ∀ {os : List Nat}, Opn S os → ∀ u ∈ os, u < S.K
  | [], _, u, h => by cases h
  | v :: os, h, u, hu => by
    rcases List.mem_cons.mp hu with e | e
    · rw [e]; exact h.1
    · exact h.2.2.2.2.2.lt u e
theorem Opn.congr : ∀ {os : List Nat}, Opn S os → S.K ≤ S'.K → (∀ u, u < S.K → S'.el u = S.el u ∧ S'.up u = S.up u ∧ S'.dp u = S.dp u) → Opn S' os
  | [], _, _, _ => trivial
  | v :: os, h, hK, hs => by
    obtain ⟨a, b, c, d, e, f⟩ := h
    obtain ⟨s1, s2, s3⟩ := hs v a
    exact ⟨by omega, by rw [s1]; exact b, by rw [s2]; exact c, by rw [s3]; exact d, e, f.congr hK hs⟩
theorem Inv.add_ls (hI : Inv t n S) : ∀ r, r < S.K + 1 → va_up S.ls1 S.K (-1) r = -1 ∨ ∃ j, j < S.K + 1 ∧ va_up S.ls1 S.K (-1) r = nI j := by
  intro r hr
  by_cases e1 : r = S.K
  · rw [e1, va_s]; exact Or.inl rfl
  · rw [va_n e1]
    have old : S.ls r = -1 ∨ ∃ j, j < S.K + 1 ∧ S.ls r = nI j := by
      rcases hI.ls r (by omega) with h | ⟨j, hj, h⟩
      · exact Or.inl h
      · exact Or.inr ⟨j, by omega, h⟩
    cases hop : S.op with
    | nil => rw [ls1_nil hop]; exact old
    | cons u os =>
      rw [ls1_cons hop]
      by_cases e2 : r = u
      · rw [e2]; simp only [va_s]; exact Or.inr ⟨S.K, by omega, rfl⟩
      · simp only [va_n e2]; exact old
theorem Inv.be (hI : Inv t n S) (hE : S.E < 300) (h40 : S.op.length < 40) (hb : BE t n S (.inr S')) : Inv t n S' ∧ S.at_ + 2 ≤ S'.at_ ∧ S'.it = true ∧ ¬ S'.op = [] := by
  obtain ⟨e, hx, hnm, rfl⟩ := hb
  · have hl := hnm.len
    have := hI.k; have := hI.f; have := hI.x
    simp only [Inv, addEl_K, addEl_el, addEl_bg, addEl_nl, addEl_en, addEl_cs, addEl_as, addEl_up, addEl_fs, addEl_nx, addEl_ls, addEl_pa, addEl_dp, addEl_op, addEl_at_, addEl_it, addEl_E, addEl_X, addEl_F]
    refine ⟨⟨?_, ?_, ?_, ?_, ?_, ?_, ?_, ?_, ?_, hI.n4⟩, ?_, trivial, fun z => by cases z⟩
    · show S.K + 1 = S.E + 1 + S.X; omega
    · show S.E + 1 ≤ 300; omega
    · show S.F + (S.op.length + 1) ≤ S.E + 1; omega
    · show S.X ≤ S.E + 1 + S.F; omega
    · intro _ _; show S.X + 1 ≤ S.E + 1 + S.F; omega
    · refine ⟨Nat.lt_succ_self S.K, va_s, va_s, va_s, hI.opn.lt, hI.opn.congr (Nat.le_succ S.K) (fun u hu => ?_)⟩
      have hne : ¬ u = S.K := by omega
      exact ⟨va_n hne, va_n hne, va_n hne⟩
    · show S.op.length + 1 ≤ 40; omega
    · exact hI.add_ls
    · show e ≤ n; omega
    · show S.at_ + 2 ≤ e; omega
theorem Inv.it (hI : Inv t n S) (hit : S.it = true) (hne : ¬ S.op = []) (hb : IT t n S (.inr S')) : Inv t n S' ∧ S.at_ < S'.at_ := by
  have han := hI.an
  have hx1 := hI.x1 hne (Or.inl hit)
  rcases hb with ⟨k, p, os, hop, hw, hlt, hB, hA⟩ | ⟨p, hw, hx, rfl⟩ | ⟨k, os, p, hop, hw, hx, hx2, rfl⟩
  · obtain ⟨e, q, cs, hnm, hno, hx, hx2, hCh, hx3, rfl⟩ := hA
    · have hl := hnm.len
      have hc := (Chars.le hCh)
      have hqn : q < n := xx_lt (fun z => by rw [z] at hx3; revert hx3; decide)
      simp only [Inv, addAt_K, addAt_el, addAt_bg, addAt_nl, addAt_en, addAt_cs, addAt_as, addAt_up, addAt_fs, addAt_nx, addAt_ls, addAt_pa, addAt_dp, addAt_op, addAt_at_, addAt_it, addAt_E, addAt_X, addAt_F]
      refine ⟨⟨hI.k, hI.e, hI.f, hI.x, fun _ _ => hx1, hI.opn.congr (Nat.le_refl _) (fun u hu => by simp only [addAt_K, addAt_el, addAt_bg, addAt_nl, addAt_en, addAt_cs, addAt_as, addAt_up, addAt_fs, addAt_nx, addAt_ls, addAt_pa, addAt_dp, addAt_op, addAt_at_, addAt_it, addAt_E, addAt_X, addAt_F, tagEnd_K, tagEnd_el, tagEnd_bg, tagEnd_nl, tagEnd_en, tagEnd_cs, tagEnd_as, tagEnd_up, tagEnd_fs, tagEnd_nx, tagEnd_ls, tagEnd_pa, tagEnd_dp, tagEnd_op, tagEnd_at_, tagEnd_it, tagEnd_E, tagEnd_X, tagEnd_F, shut_K, shut_el, shut_bg, shut_nl, shut_en, shut_cs, shut_as, shut_up, shut_fs, shut_nx, shut_ls, shut_pa, shut_dp, shut_op, shut_at_, shut_it, shut_E, shut_X, shut_F, and_self]), hI.o40, hI.ls, ?_, hI.n4⟩, ?_⟩
      · show q + 1 ≤ n; omega
      · show S.at_ < q + 1; omega
  · have hle := hw.1
    have hpn : p < n := xx_lt (fun z => by rw [z] at hx; revert hx; decide)
    simp only [Inv, tagEnd_K, tagEnd_el, tagEnd_bg, tagEnd_nl, tagEnd_en, tagEnd_cs, tagEnd_as, tagEnd_up, tagEnd_fs, tagEnd_nx, tagEnd_ls, tagEnd_pa, tagEnd_dp, tagEnd_op, tagEnd_at_, tagEnd_it, tagEnd_E, tagEnd_X, tagEnd_F]
    refine ⟨⟨hI.k, hI.e, hI.f, hI.x, fun _ _ => hx1, hI.opn.congr (Nat.le_refl _) (fun u hu => by simp only [addAt_K, addAt_el, addAt_bg, addAt_nl, addAt_en, addAt_cs, addAt_as, addAt_up, addAt_fs, addAt_nx, addAt_ls, addAt_pa, addAt_dp, addAt_op, addAt_at_, addAt_it, addAt_E, addAt_X, addAt_F, tagEnd_K, tagEnd_el, tagEnd_bg, tagEnd_nl, tagEnd_en, tagEnd_cs, tagEnd_as, tagEnd_up, tagEnd_fs, tagEnd_nx, tagEnd_ls, tagEnd_pa, tagEnd_dp, tagEnd_op, tagEnd_at_, tagEnd_it, tagEnd_E, tagEnd_X, tagEnd_F, shut_K, shut_el, shut_bg, shut_nl, shut_en, shut_cs, shut_as, shut_up, shut_fs, shut_nx, shut_ls, shut_pa, shut_dp, shut_op, shut_at_, shut_it, shut_E, shut_X, shut_F, and_self]), hI.o40, hI.ls, ?_, hI.n4⟩, ?_⟩
    · show p + 1 ≤ n; omega
    · show S.at_ < p + 1; omega
  · have hle := hw.1
    have hpn : p + 1 < n := xx_lt (fun z => by rw [z] at hx2; revert hx2; decide)
    have ho := hI.opn
    have hf := hI.f
    have h40 := hI.o40
    rw [hop] at ho hf h40
    simp only [List.length_cons] at hf h40
    simp only [Inv, shut_K, shut_el, shut_bg, shut_nl, shut_en, shut_cs, shut_as, shut_up, shut_fs, shut_nx, shut_ls, shut_pa, shut_dp, shut_op, shut_at_, shut_it, shut_E, shut_X, shut_F]
    refine ⟨⟨hI.k, hI.e, ?_, hI.x, fun _ _ => hx1, ?_, ?_, hI.ls, ?_, hI.n4⟩, ?_⟩
    · show S.F + 0 + S.op.tail.length ≤ S.E; rw [hop]; show S.F + 0 + os.length ≤ S.E; omega
    · show Opn _ S.op.tail
      rw [hop]; exact ho.2.2.2.2.2.congr (Nat.le_refl _) (fun u hu => by simp only [addAt_K, addAt_el, addAt_bg, addAt_nl, addAt_en, addAt_cs, addAt_as, addAt_up, addAt_fs, addAt_nx, addAt_ls, addAt_pa, addAt_dp, addAt_op, addAt_at_, addAt_it, addAt_E, addAt_X, addAt_F, tagEnd_K, tagEnd_el, tagEnd_bg, tagEnd_nl, tagEnd_en, tagEnd_cs, tagEnd_as, tagEnd_up, tagEnd_fs, tagEnd_nx, tagEnd_ls, tagEnd_pa, tagEnd_dp, tagEnd_op, tagEnd_at_, tagEnd_it, tagEnd_E, tagEnd_X, tagEnd_F, shut_K, shut_el, shut_bg, shut_nl, shut_en, shut_cs, shut_as, shut_up, shut_fs, shut_nx, shut_ls, shut_pa, shut_dp, shut_op, shut_at_, shut_it, shut_E, shut_X, shut_F, and_self])
    · show S.op.tail.length ≤ 40; rw [hop]; show os.length ≤ 40; omega
    · show p + 2 ≤ n; omega
    · show S.at_ < p + 2; omega
theorem Inv.pc (hI : Inv t n S) (hne : ¬ S.op = []) (hb : PC t n S (.inr S')) : Inv t n S' ∧ S.at_ < S'.at_ := by
  have han := hI.an
  have := hI.k; have := hI.f; have hX := hI.x
  rcases hb with ⟨hit, h⟩ | ⟨hit, hx, hx1, h⟩ | ⟨_, _, _, _, h⟩ | ⟨hit, hx, hx1, hE, h40, h⟩ | ⟨hit, hx, h⟩
  · exact hI.it hit hne h
  · obtain ⟨k, os, e, p, hop, hnm, hs, hw, hx3, rfl⟩ := h
    · have hl := hnm.len
      have hle := hw.1
      have hpn : p < n := xx_lt (fun z => by rw [z] at hx3; revert hx3; decide)
      have ho := hI.opn
      have hf := hI.f
      have h40 := hI.o40
      rw [hop] at ho hf h40
      simp only [List.length_cons] at hf h40
      simp only [Inv, shut_K, shut_el, shut_bg, shut_nl, shut_en, shut_cs, shut_as, shut_up, shut_fs, shut_nx, shut_ls, shut_pa, shut_dp, shut_op, shut_at_, shut_it, shut_E, shut_X, shut_F]
      refine ⟨⟨hI.k, hI.e, ?_, ?_, ?_, ?_, ?_, hI.ls, ?_, hI.n4⟩, ?_⟩
      · show S.F + 1 + S.op.tail.length ≤ S.E; rw [hop]; show S.F + 1 + os.length ≤ S.E; omega
      · show S.X ≤ S.E + (S.F + 1); omega
      · intro _ _; show S.X + 1 ≤ S.E + (S.F + 1); omega
      · show Opn _ S.op.tail
        rw [hop]; exact ho.2.2.2.2.2.congr (Nat.le_refl _) (fun u hu => by simp only [addAt_K, addAt_el, addAt_bg, addAt_nl, addAt_en, addAt_cs, addAt_as, addAt_up, addAt_fs, addAt_nx, addAt_ls, addAt_pa, addAt_dp, addAt_op, addAt_at_, addAt_it, addAt_E, addAt_X, addAt_F, tagEnd_K, tagEnd_el, tagEnd_bg, tagEnd_nl, tagEnd_en, tagEnd_cs, tagEnd_as, tagEnd_up, tagEnd_fs, tagEnd_nx, tagEnd_ls, tagEnd_pa, tagEnd_dp, tagEnd_op, tagEnd_at_, tagEnd_it, tagEnd_E, tagEnd_X, tagEnd_F, shut_K, shut_el, shut_bg, shut_nl, shut_en, shut_cs, shut_as, shut_up, shut_fs, shut_nx, shut_ls, shut_pa, shut_dp, shut_op, shut_at_, shut_it, shut_E, shut_X, shut_F, and_self])
      · show S.op.tail.length ≤ 40; rw [hop]; show os.length ≤ 40; omega
      · show p + 1 ≤ n; omega
      · show S.at_ < p + 1; omega
  · cases h
  · have := hI.be hE h40 h
    exact ⟨this.1, by omega⟩
  · obtain ⟨e, cs, hm, hCh, hst, rfl⟩ := h
    · have hx1 := hI.x1 hne (Or.inr ⟨hx, hm⟩)
      have hc := (Chars.le hCh)
      have hlt : S.at_ < e := by
        cases cs with
        | nil =>
          have he : S.at_ = e := hCh
          rw [← he] at hst
          rcases hst with h | h
          · exact absurd h hx
          · exact absurd h hm
        | cons c L =>
          obtain ⟨_, _, _, k', h2, h3⟩ := hCh
          have a1 := chf_some h2
          have a2 := Chars.le h3
          omega
      simp only [Inv, addTx_K, addTx_el, addTx_bg, addTx_nl, addTx_en, addTx_cs, addTx_as, addTx_up, addTx_fs, addTx_nx, addTx_ls, addTx_pa, addTx_dp, addTx_op, addTx_at_, addTx_it, addTx_E, addTx_X, addTx_F]
      refine ⟨⟨?_, hI.e, hI.f, ?_, ?_, ?_, hI.o40, hI.add_ls, hc.2.2 han, hI.n4⟩, hlt⟩
      · show S.K + 1 = S.E + (S.X + 1); omega
      · show S.X + 1 ≤ S.E + S.F; exact hx1
      · intro _ hor
        have hor : S.it = true ∨ (¬ xx t n e = 60 ∧ ¬ xx t n e = -1) := hor
        rcases hor with h | ⟨h, h2⟩
        · rw [hit] at h; cases h
        · exact absurd hst (fun z => z.elim h h2)
      · refine hI.opn.congr (Nat.le_succ S.K) (fun u hu => ?_)
        have hne : ¬ u = S.K := by omega
        exact ⟨va_n hne, va_n hne, va_n hne⟩
end IV
section RT
variable {t : Nat → Int32} {n : Nat} {S : GS} {σ : PPS}
theorem k_readText (hC : CR t n S σ) (hit : S.it = false) (hne : ¬ S.op = []) (hI : Inv t n S) (hx : ¬ xx t n S.at_ = 60) {post : Int32 → PPS → Prop}
    (h0 : ∀ q σ', TX t n S (.inl q) → pWr σ' = nI q → kp σ' = kp σ → post 0 σ')
    (h1 : ∀ S' σ', TX t n S (.inr S') → CR t n S' σ' → kp σ' = kp σ → post 1 σ') : w_Reader_readText σ post := by
  have hn := hI.n4
  have han := hI.an
  obtain ⟨g, a, ls, A, hb⟩ := hC.bk
  have hin : pIn σ = 0 := by rw [hC.it hne, hit]; rfl
  have est : σ = mkS σ (pNd σ) (pAt σ) (pLe σ) (nI S.E) (nI S.at_) (hd S.op) 0 (-1) := by
    rw [← hC.el, ← hC.wr, ← hin, ← hC.op, ← hC.ps]; rfl
  unfold w_Reader_readText
  rw [show sGet (pTp σ) (pPs σ) = xx t n S.at_ from by rw [hC.ps]; exact hC.tp.get (by omega)]
  by_cases hm : xx t n S.at_ = -1
  · exact br_t hm (k_refuse ⟨nar_0, h0 _ _ (TX.no hm) (by show pPs σ = _; exact hC.ps) rfl⟩)
  · refine br_f hm ?_
    have hx1 := hI.x1 hne (Or.inr ⟨hx, hm⟩)
    have hK : S.K < 900 := by have := hI.k; have := hI.e; have := hI.f; omega
    have hlle := hb.lle
    have hlt : S.at_ < n := xx_lt hm
    rw [hC.op, hC.ps]
    -- the text's own letters come later: the row is told for any
    have keyAdd : ∀ {post : Int32 → PPS → Prop}, (∀ nd' g', Tab 14 nd' (S.K + 1) g' → (∀ cs e k, k < S.K → NRow t n (S.add false S.at_ 0 e cs) g' a ls A k) → newRow false S.at_ S ls.length A g' → post (nI S.K) (sNd σ nd')) → w_Book_addNode σ 0 (hd S.op) (nI S.at_) post := fun {post} hq => by
      refine k_addNode (nl := 0) (en := 0) (cs := []) false hb hI hK (fun nd' g' T hr hn => ?_)
      refine hq nd' g' T (fun cs e k hk => ?_) hn
      have hne : ¬ k = S.K := by omega
      have h := hr k hk
      have := h.mono (g' := g') (a' := a) (A' := A) (S' := S.add false S.at_ 0 e cs) (fun c hc => rfl) (fun r hr c hc => rfl) (Nat.le_refl A) [] (by simp only [SameN, add_K, add_el, add_bg, add_nl, add_en, add_cs, add_as, add_up, add_fs, add_nx, add_ls, add_pa, add_dp, add_op, add_at_, add_it, add_E, add_X, add_F, va_n hne, and_self])
      rw [List.append_nil] at this
      exact this
    refine keyAdd (fun nd' g' T' hrows hnew => ?_)
    obtain ⟨nl0, n4, n8, n9, n10, n12, n13⟩ := hnew
    have est2 : sNd σ nd' = mkS σ nd' (pAt σ) (pLe σ) (nI S.E) (nI S.at_) (hd S.op) 0 (-1) := by
      rw [← hC.el, ← hC.wr, ← hin, ← hC.op, ← hC.ps]; rfl
    rw [est2]
    refine k_takeChars (k := S.at_) (ls := ls) (by exact hC.tp.mkS) (by rfl) han (by exact hb.le) hlle (fun e cs le' hCh hst hen hL => ?_) (fun e cs le' p hCh x1 x2 x3 hno => ?_)
    · refine br_f (by decide) ?_
      have hst' : xx t n e = 60 ∨ xx t n e = -1 := by rcases hst with h | h | h; exact Or.inl h; exact Or.inl h; exact Or.inr h
      show w_Book_endLetters (mkS σ nd' (pAt σ) le' (nI S.E) (nI e) (hd S.op) 0 (-1)) (nI S.K) _
      refine k_endLetters (K := S.K + 1) (k := S.K) (f := ls.length) (m := cs.length) (by exact T') (by omega) (by omega) (by exact hL) n8 (by rw [List.length_append]) (fun nd2 T2 => ?_)
      have T3 := T2.set (by omega) (r := S.K) (c := 10) (x := 10) rfl (Nat.lt_succ_self S.K) (by decide) (by decide) (nI (S.K + 1))
      unfold w_Book_shut
      refine fa_eq ?_
      show post 1 (mkS σ (tSet 14 nd2 (nI S.K) 10 nd2.1) (pAt σ) le' (nI S.E) (nI e) (hd S.op) 0 (-1))
      rw [T2.1]
      have hcl := (Chars.le hCh)
      have hlets : lets t n (S.addTx S.at_ e cs) S.K = cs := by
        unfold lets
        rw [if_neg (by rw [show (S.addTx S.at_ e cs).el S.K = false from va_s]; decide)]
        exact va_s
      refine h1 _ _ (TX.ok hm hCh hst') (CR.mkS (S := S.addTx S.at_ e cs) (g := g2 (g2 g' S.K 3 (nI cs.length)) S.K 10 (nI (S.K + 1))) (a := a) (ls := ls ++ cs) (A := A) hC.tp (by rw [addTx_at_]) (by rw [addTx_op]) rfl (by rw [addTx_E]) (fun _ => by rw [addTx_it, hit]; rfl) ?_) kp_mkS
      refine ⟨by rw [addTx_K]; exact T3, hb.at_, hL, by rw [List.length_append, addTx_at_]; omega, by have := hb.ale; rw [addTx_at_]; omega, fun k hk => ?_, fun z => by
        rw [addTx_it, hit] at z; cases z⟩
      rw [addTx_K] at hk
      by_cases hkK : k = S.K
      · subst hkK
        have hasn : (S.addTx S.at_ e cs).as S.K = [] := va_s
        refine ⟨⟨?_, ?_, ?_, ?_, ?_, ?_, ?_⟩, ?_, ⟨ls.length, ?_, ?_, ?_⟩, ?_, ⟨A, ⟨?_, ?_, ?_, ?_, ?_, ?_⟩⟩⟩
        · simp only [g2, Nat.reduceEqDiff, and_false, if_false, addTx_K, addTx_el, addTx_bg, addTx_nl, addTx_en, addTx_cs, addTx_as, addTx_up, addTx_fs, addTx_nx, addTx_ls, addTx_pa, addTx_dp, addTx_op, addTx_at_, addTx_it, addTx_E, addTx_X, addTx_F]; exact nl0.c0
        · simp only [g2, Nat.reduceEqDiff, and_false, if_false, addTx_K, addTx_el, addTx_bg, addTx_nl, addTx_en, addTx_cs, addTx_as, addTx_up, addTx_fs, addTx_nx, addTx_ls, addTx_pa, addTx_dp, addTx_op, addTx_at_, addTx_it, addTx_E, addTx_X, addTx_F]; exact nl0.c1
        · simp only [g2, Nat.reduceEqDiff, and_false, if_false, addTx_K, addTx_el, addTx_bg, addTx_nl, addTx_en, addTx_cs, addTx_as, addTx_up, addTx_fs, addTx_nx, addTx_ls, addTx_pa, addTx_dp, addTx_op, addTx_at_, addTx_it, addTx_E, addTx_X, addTx_F]; exact nl0.c2
        · simp only [g2, Nat.reduceEqDiff, and_false, if_false, addTx_K, addTx_el, addTx_bg, addTx_nl, addTx_en, addTx_cs, addTx_as, addTx_up, addTx_fs, addTx_nx, addTx_ls, addTx_pa, addTx_dp, addTx_op, addTx_at_, addTx_it, addTx_E, addTx_X, addTx_F]; exact nl0.c5
        · simp only [g2, Nat.reduceEqDiff, and_false, if_false, addTx_K, addTx_el, addTx_bg, addTx_nl, addTx_en, addTx_cs, addTx_as, addTx_up, addTx_fs, addTx_nx, addTx_ls, addTx_pa, addTx_dp, addTx_op, addTx_at_, addTx_it, addTx_E, addTx_X, addTx_F]; exact nl0.c6
        · simp only [g2, Nat.reduceEqDiff, and_false, if_false, addTx_K, addTx_el, addTx_bg, addTx_nl, addTx_en, addTx_cs, addTx_as, addTx_up, addTx_fs, addTx_nx, addTx_ls, addTx_pa, addTx_dp, addTx_op, addTx_at_, addTx_it, addTx_E, addTx_X, addTx_F]; exact nl0.c7
        · simp only [g2, Nat.reduceEqDiff, and_false, if_false, addTx_K, addTx_el, addTx_bg, addTx_nl, addTx_en, addTx_cs, addTx_as, addTx_up, addTx_fs, addTx_nx, addTx_ls, addTx_pa, addTx_dp, addTx_op, addTx_at_, addTx_it, addTx_E, addTx_X, addTx_F]; exact nl0.c11
        · rw [g2_s, addTx_pa, va_s]
        · simp only [g2, Nat.reduceEqDiff, and_false, if_false]; exact n8
        · rw [hlets]; simp only [g2, Nat.reduceEqDiff, and_false, if_false, and_self, if_true]
        · rw [hlets]; exact Seg.end _ _
        · rw [if_neg (by rw [show (S.addTx S.at_ e cs).el S.K = false from va_s]; decide)]; simp only [g2, Nat.reduceEqDiff, and_false, if_false]; exact n12
        · simp only [g2, Nat.reduceEqDiff, and_false, if_false]; exact n9
        · simp only [g2, Nat.reduceEqDiff, and_false, if_false]; rw [n4, hasn]; rfl
        · rw [hasn]; exact Nat.le_refl A
        · rw [hasn]; intro j B hj; cases hj
        · rw [hasn]; intro j B hj; cases hj
        · intro _; simp only [g2, Nat.reduceEqDiff, and_false, if_false]; exact n13
      · have hk2 : k < S.K := by
          have : k < S.K + 1 := hk
          omega
        exact (hrows cs e k hk2).mono (fun c hc => by rw [g2_r hkK, g2_r hkK]) (fun r hr c hc => rfl) (Nat.le_refl A) _ (by simp only [SameN, add_K, add_el, add_bg, add_nl, add_en, add_cs, add_as, add_up, add_fs, add_nx, add_ls, add_pa, add_dp, add_op, add_at_, add_it, add_E, add_X, add_F, addTx_K, addTx_el, addTx_bg, addTx_nl, addTx_en, addTx_cs, addTx_as, addTx_up, addTx_fs, addTx_nx, addTx_ls, addTx_pa, addTx_dp, addTx_op, addTx_at_, addTx_it, addTx_E, addTx_X, addTx_F, va_n hkK, and_self])
    · exact br_t rfl (h0 _ _ (TX.char hm hCh x1 x3 hno) rfl rfl)
end RT
