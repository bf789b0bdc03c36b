/-! PURE: the reference ends elements, takes texts. -/
section ME
variable {t : Nat → Int32} {n : Nat} {S S' : GS} {τ τ' : MPS}
theorem MR.stk0 (hM : MR t n S τ) (hit : S.it = false) : mp_deep τ = nI S.op.length ∧ Stk S τ S.op := by
  have hstk : S.stk = S.op := by unfold GS.stk; rw [if_neg (by rw [hit]; decide)]
  exact ⟨by rw [hM.dp, hstk], by have := hM.st; rw [hstk] at this; exact this⟩
/-- the state after an element is shut -/
theorem MR.shut {k p f : Nat} {os : List Nat} (hM : MR t n S τ) (hop : S.op = k :: os) (d : Kr τ τ') (ha : ∀ j, 6 ≤ j → j ≤ 16 → τ'.2 j = τ.2 j) (h1 : mp_at τ' = nI p) (h2 : mp_bad τ' = 0) (h3 : mp_elements τ' = mp_elements τ) (h4 : mp_nodes τ' = mp_nodes τ) (h5 : mp_deep τ' = nI os.length) (hs : Stk S τ os) : MR t n (S.shut k p f) τ' := by
  have hst' : (S.shut k p f).stk = os := by unfold GS.stk; rw [if_neg (by rw [shut_it]; decide), shut_op, hop]; rfl
  refine ⟨hM.tx.kr d, ?_, h2, ?_, ?_, fun k hk => ?_, ?_, ?_, fun z => ?_⟩
  · rw [shut_at_]; exact h1
  · rw [shut_E, h3]; exact hM.el
  · rw [shut_K, h4]; exact hM.nd
  · rw [shut_K] at hk
    exact (hM.row k hk).mv (fun j h8 h15 => ha j (by omega) (by omega)) (by rw [shut_el]) (by rw [shut_bg]) (by rw [shut_en]) (by rw [shut_up]) (by rw [shut_fs]) (by rw [shut_nx]) (by rw [shut_dp]) (by rw [shut_ls])
  · rw [hst']; exact h5
  · rw [hst']
    exact hs.mv (fun j _ => by rw [show mp_openNode τ' = mp_openNode τ from ha 16 (by decide) (by decide), show mp_openAt τ' = mp_openAt τ from ha 6 (by decide) (by decide), show mp_openMany τ' = mp_openMany τ from ha 7 (by decide) (by decide)]; exact ⟨rfl, rfl, rfl⟩) (fun u _ => by rw [shut_bg, shut_nl]; exact ⟨rfl, rfl⟩)
  · rw [shut_it] at z; cases z
theorem r_takeEnding (hM : MR t n S τ) (hit : S.it = false) (hne : ¬ S.op = []) (hI : Inv t n S) (hG : Gd t n S) (hx : xx t n S.at_ = 60) (hx1 : xx t n (S.at_ + 1) = 47) {post : MPS → Prop}
    (h0 : ∀ p τ', EE t n S (.inl p) → Kr τ τ' → mp_at τ' = nI p → mp_bad τ' = 1 → post τ') (h1 : ∀ S' τ', EE t n S (.inr S') → MR t n S' τ' → Kr τ τ' → post τ') : w_M_takeEnding τ post := by
  have hT := hM.tx
  have hn := hT.2.1
  have hlt := xx_lt' hx1 (by decide)
  obtain ⟨hdp, hst⟩ := hM.stk0 hit
  have h40 := hI.o40
  obtain ⟨k, os, hop⟩ : ∃ k os, S.op = k :: os := by
    cases h : S.op with
    | nil => exact absurd h hne
    | cons k os => exact ⟨k, os, rfl⟩
  rw [hop] at hdp hst h40
  have hol : os.length + 1 ≤ 40 := h40
  obtain ⟨s1, s2, s3, s4⟩ := hst
  have ho := hI.opn
  rw [hop] at ho
  have hkK := ho.1
  have hel := ho.2.1
  have hnm := hG.nm k hkK hel
  have hnml := hnm.len
  unfold w_M_takeEnding
  refine fa_eq ?_
  simp only [q_nodes_nodes, q_isElement_nodes, q_begins_nodes, q_ends_nodes, q_up_nodes, q_depth_nodes, q_first_nodes, q_next_nodes, q_last_nodes, q_openAt_nodes, q_openMany_nodes, q_openNode_nodes, q_deep_nodes, q_elements_nodes, q_at_nodes, q_bad_nodes, q_size_nodes, q_text_nodes, q_nodes_isElement, q_isElement_isElement, q_begins_isElement, q_ends_isElement, q_up_isElement, q_depth_isElement, q_first_isElement, q_next_isElement, q_last_isElement, q_openAt_isElement, q_openMany_isElement, q_openNode_isElement, q_deep_isElement, q_elements_isElement, q_at_isElement, q_bad_isElement, q_size_isElement, q_text_isElement, q_nodes_begins, q_isElement_begins, q_begins_begins, q_ends_begins, q_up_begins, q_depth_begins, q_first_begins, q_next_begins, q_last_begins, q_openAt_begins, q_openMany_begins, q_openNode_begins, q_deep_begins, q_elements_begins, q_at_begins, q_bad_begins, q_size_begins, q_text_begins, q_nodes_ends, q_isElement_ends, q_begins_ends, q_ends_ends, q_up_ends, q_depth_ends, q_first_ends, q_next_ends, q_last_ends, q_openAt_ends, q_openMany_ends, q_openNode_ends, q_deep_ends, q_elements_ends, q_at_ends, q_bad_ends, q_size_ends, q_text_ends, q_nodes_up, q_isElement_up, q_begins_up, q_ends_up, q_up_up, q_depth_up, q_first_up, q_next_up, q_last_up, q_openAt_up, q_openMany_up, q_openNode_up, q_deep_up, q_elements_up, q_at_up, q_bad_up, q_size_up, q_text_up, q_nodes_depth, q_isElement_depth, q_begins_depth, q_ends_depth, q_up_depth, q_depth_depth, q_first_depth, q_next_depth, q_last_depth, q_openAt_depth, q_openMany_depth, q_openNode_depth, q_deep_depth, q_elements_depth, q_at_depth, q_bad_depth, q_size_depth, q_text_depth, q_nodes_first, q_isElement_first, q_begins_first, q_ends_first, q_up_first, q_depth_first, q_first_first, q_next_first, q_last_first, q_openAt_first, q_openMany_first, q_openNode_first, q_deep_first, q_elements_first, q_at_first, q_bad_first, q_size_first, q_text_first, q_nodes_next, q_isElement_next, q_begins_next, q_ends_next, q_up_next, q_depth_next, q_first_next, q_next_next, q_last_next, q_openAt_next, q_openMany_next, q_openNode_next, q_deep_next, q_elements_next, q_at_next, q_bad_next, q_size_next, q_text_next, q_nodes_last, q_isElement_last, q_begins_last, q_ends_last, q_up_last, q_depth_last, q_first_last, q_next_last, q_last_last, q_openAt_last, q_openMany_last, q_openNode_last, q_deep_last, q_elements_last, q_at_last, q_bad_last, q_size_last, q_text_last, q_nodes_openAt, q_isElement_openAt, q_begins_openAt, q_ends_openAt, q_up_openAt, q_depth_openAt, q_first_openAt, q_next_openAt, q_last_openAt, q_openAt_openAt, q_openMany_openAt, q_openNode_openAt, q_deep_openAt, q_elements_openAt, q_at_openAt, q_bad_openAt, q_size_openAt, q_text_openAt, q_nodes_openMany, q_isElement_openMany, q_begins_openMany, q_ends_openMany, q_up_openMany, q_depth_openMany, q_first_openMany, q_next_openMany, q_last_openMany, q_openAt_openMany, q_openMany_openMany, q_openNode_openMany, q_deep_openMany, q_elements_openMany, q_at_openMany, q_bad_openMany, q_size_openMany, q_text_openMany, q_nodes_openNode, q_isElement_openNode, q_begins_openNode, q_ends_openNode, q_up_openNode, q_depth_openNode, q_first_openNode, q_next_openNode, q_last_openNode, q_openAt_openNode, q_openMany_openNode, q_openNode_openNode, q_deep_openNode, q_elements_openNode, q_at_openNode, q_bad_openNode, q_size_openNode, q_text_openNode, q_nodes_deep, q_isElement_deep, q_begins_deep, q_ends_deep, q_up_deep, q_depth_deep, q_first_deep, q_next_deep, q_last_deep, q_openAt_deep, q_openMany_deep, q_openNode_deep, q_deep_deep, q_elements_deep, q_at_deep, q_bad_deep, q_size_deep, q_text_deep, q_nodes_elements, q_isElement_elements, q_begins_elements, q_ends_elements, q_up_elements, q_depth_elements, q_first_elements, q_next_elements, q_last_elements, q_openAt_elements, q_openMany_elements, q_openNode_elements, q_deep_elements, q_elements_elements, q_at_elements, q_bad_elements, q_size_elements, q_text_elements, q_nodes_at, q_isElement_at, q_begins_at, q_ends_at, q_up_at, q_depth_at, q_first_at, q_next_at, q_last_at, q_openAt_at, q_openMany_at, q_openNode_at, q_deep_at, q_elements_at, q_at_at, q_bad_at, q_size_at, q_text_at, q_nodes_bad, q_isElement_bad, q_begins_bad, q_ends_bad, q_up_bad, q_depth_bad, q_first_bad, q_next_bad, q_last_bad, q_openAt_bad, q_openMany_bad, q_openNode_bad, q_deep_bad, q_elements_bad, q_at_bad, q_bad_bad, q_size_bad, q_text_bad]
  rw [hM.at_, show nI S.at_ + 2 = nI (S.at_ + 2) from nI_add _ 2]
  have d0 : Df Lr τ (ms_at τ (nI (S.at_ + 2))) := Df.set τ (by decide)
  refine r_takeName (k := S.at_ + 2) (hT.df d0 (by decide)) rfl hM.bad (by omega) (fun p τ1 hN d a1 b1 r => ?_) (fun e τ1 hN d a1 b1 => ?_)
  · exact br_f (by rw [b1]; decide) (h0 p τ1 (EE.name hN) ((d0.trans (d.mono (by decide))).kr (by decide)) a1 b1)
  · have d1 : Df Lr τ τ1 := d0.trans (d.mono (by decide))
    have hT1 := hT.df d1 (by decide)
    have hlen := hN.len
    have e15 : mp_deep τ1 - 1 = nI os.length := by
      rw [show mp_deep τ1 = mp_deep τ from d1.i 15 (by decide), hdp]; exact nI_pred os.length
    have eOM : mp_openMany τ1 os.length = nI (S.nl k) := by rw [show mp_openMany τ1 = mp_openMany τ from congrFun d1.1 7]; exact s3
    have eOA : mp_openAt τ1 os.length = nI (S.bg k + 1) := by rw [show mp_openAt τ1 = mp_openAt τ from congrFun d1.1 6]; exact s2
    have hsl : (seg t n (S.at_ + 2) (e - (S.at_ + 2))).length = e - (S.at_ + 2) := seg_len _ _ _ _
    have hsk : (seg t n (S.bg k + 1) (S.nl k)).length = S.nl k := seg_len _ _ _ _
    have other : ¬ seg t n (S.at_ + 2) (e - (S.at_ + 2)) = seg t n (S.bg k + 1) (S.nl k) → w_M_takeEnding_J63 post (nI (S.at_ + 2)) τ1 := fun hs => by
      unfold w_M_takeEnding_J63
      refine fa_eq (fa_eq (h0 _ _ (EE.other hop hN hs) ?_ rfl rfl))
      exact (((d1.trans (Df.set τ1 (by decide))).trans (Df.set _ (by decide))) : Df Lr τ _).kr (by decide)
    rw [b1]
    refine br_t rfl ⟨by rw [e15]; exact vp_in_nI (by omega) (by decide), ?_⟩
    rw [e15, nI_clamp (by omega), eOM, eOA]
    by_cases hl : e - (S.at_ + 2) = S.nl k
    · refine br_t (by rw [hl]) ⟨vp_in_nI (by omega) (by decide), ?_⟩
      refine r_areAlike hT1 (by omega) (by omega) ?_
      by_cases hs : seg t n (S.at_ + 2) (e - (S.at_ + 2)) = seg t n (S.bg k + 1) (e - (S.at_ + 2))
      · refine bl_t (decide_eq_true hs) ?_
        have hs' : seg t n (S.at_ + 2) (e - (S.at_ + 2)) = seg t n (S.bg k + 1) (S.nl k) := by rw [hs, hl]
        obtain ⟨p, hw⟩ := Runs.ex cWh_m t n e
        have hpn := hw.le cWh_m hlen.2
        refine r_skipWhite hT1 a1 hlen.2 hw (fun τ2 d2 a2 => ?_)
        have d12 : Df Lr τ τ2 := d1.trans (d2.mono (by decide))
        have hT2 := hT.df d12 (by decide)
        have b2 : mp_bad τ2 = 0 := (d2.i 16 (by decide)).trans b1
        have e15' : mp_deep τ2 - 1 = nI os.length := by rw [show mp_deep τ2 = mp_deep τ1 from d2.i 15 (by decide)]; exact e15
        rw [a2]
        refine ⟨hT2.k (by omega), ?_⟩
        rw [hT2.x (by omega), nI_1]
        unfold w_M_takeEnding_J109
        refine ⟨fun hx3 => fa_eq (fa_eq ?_), fun hx3 => fa_eq (fa_eq ?_)⟩
        · have d3 : Df (15 :: Lr) τ (ms_deep (ms_at τ2 (nI (p + 1))) (mp_deep (ms_at τ2 (nI (p + 1))) - 1)) := ((d12.mono (fun j hj => List.mem_cons_of_mem _ hj)).trans (Df.set τ2 (by decide))).trans (Df.set _ (by decide))
          refine h1 _ _ (EE.ok hop hN hs' hw hx3) (hM.shut hop (d3.kr (by decide)) (fun j _ _ => congrFun d3.1 j) rfl b2 (d3.i 14 (by decide)) (d3.i 32 (by decide)) ?_ s4) (d3.kr (by decide))
          show mp_deep τ2 - 1 = _
          exact e15'
        · have d3 : Df (15 :: Lr) τ (ms_deep (ms_bad τ2 1) (mp_deep (ms_bad τ2 1) - 1)) := ((d12.mono (fun j hj => List.mem_cons_of_mem _ hj)).trans (Df.set τ2 (by decide))).trans (Df.set _ (by decide))
          exact h0 p _ (EE.no hop hN hs' hw hx3) (d3.kr (by decide)) (by show mp_at τ2 = _; exact a2) rfl
      · refine bl_f (decide_eq_false hs) (other (fun z => hs ?_))
        rw [z, hl]
    · refine br_f (fun z => hl ((nI_eq (by omega) (by omega)).mp z)) (other (fun z => hl ?_))
      rw [← hsl, z, hsk]
theorem r_takeText (hM : MR t n S τ) (hit : S.it = false) (hne : ¬ S.op = []) (hI : Inv t n S) (hG : Gd t n S) (hx : ¬ xx t n S.at_ = 60) (hlt : S.at_ < n) {post : MPS → Prop}
    (h0 : ∀ p τ', TX t n S (.inl p) → Kr τ τ' → mp_at τ' = nI p → mp_bad τ' = 1 → post τ')
    (h2 : ∀ cs τ', Chars t n 60 S.at_ n cs → Kr τ τ' → mp_at τ' = nI n → mp_bad τ' = 1 → post τ')
    (h1 : ∀ S' τ', TX t n S (.inr S') → MR t n S' τ' → Kr τ τ' → post τ') : w_M_takeText τ post := by
  have hT := hM.tx
  have hn := hT.2.1
  obtain ⟨hdp, hst⟩ := hM.stk0 hit
  have nom : ∀ p, p < n → ¬ xx t n p = -1 := fun p hp z => by
    rw [xx_in hp] at z
    obtain ⟨b, hb, e1, _⟩ := hT.2.2 p hp
    rw [e1] at z
    exact nI_m1 (by omega) z
  have hm := nom _ hlt
  have hx1 := hI.x1 hne (Or.inr ⟨hx, hm⟩)
  have hK : S.K < 900 := by have := hI.k; have := hI.e; have := hI.f; omega
  -- the end: nothing more, or a <
  have fin : ∀ p cs τ1, p ≤ n → (p = n ∨ xx t n p = 60) → Chars t n 60 S.at_ p cs → Df Lr τ τ1 → mp_at τ1 = nI p → mp_bad τ1 = 0 → w_M_takeText_J43 post (nI S.at_) τ1 := by
    intro p cs τ1 hp hor hC d a1 b1
    unfold w_M_takeText_J43
    have hT1 := hT.df d (by decide)
    rw [b1, a1, hT1.1]
    refine br_t rfl (pk_eq p n (fun e => fa_eq ?_) (fun e => ?_) rfl rfl (by omega) (by omega))
    · unfold w_M_takeText_J66
      refine br_f (by show ¬ (1 : Int32) = 0; decide) ?_
      subst e
      exact h2 cs _ hC ((d.trans (Df.set τ1 (by decide))).kr (by decide)) (by show mp_at τ1 = _; exact a1) rfl
    · have hx60 : xx t n p = 60 := hor.resolve_left e
      unfold w_M_takeText_J66
      refine br_t b1 ?_
      rw [a1]
      refine r_add (S := S) (nl := 0) (en := p) (cs := cs) (b := S.at_) (to_ := p) false ((d.i 32 (by decide)).trans hM.nd) hK (fun k hk => ?_) ((d.i 15 (by decide)).trans hdp) hI.o40 (fun u os hop => ?_) hI.ls hG.fl (fun _ => rfl) (fun τ2 ka n2 r2 => ?_)
      · exact (hM.row k hk).mv (fun j _ _ => congrFun d.1 j) rfl rfl rfl rfl rfl rfl rfl rfl
      · rw [hop] at hst
        refine ⟨hI.opn.lt u (by rw [hop]; exact List.mem_cons_self), ?_⟩
        rw [show mp_openNode τ1 = mp_openNode τ from congrFun d.1 16]; exact hst.1
      · have kr2 : Kr τ τ2 := (d.kr (by decide)).trans ka.kr
        refine h1 _ τ2 (TX.ok hm hC (Or.inl hx60)) ?_ kr2
        have hst' : (S.addTx S.at_ p cs).stk = S.op := by unfold GS.stk; rw [if_neg (by rw [addTx_it, hit]; decide), addTx_op]
        refine ⟨hT.kr kr2, ?_, (ka.1 16 (by decide)).trans b1, ?_, ?_, fun k hk => ?_, ?_, ?_, fun z => ?_⟩
        · rw [addTx_at_]; exact (ka.1 13 (by decide)).trans a1
        · rw [addTx_E]; exact (ka.1 14 (by decide)).trans ((d.i 14 (by decide)).trans hM.el)
        · rw [addTx_K]; exact n2
        · rw [addTx_K] at hk
          exact (r2 k hk).mv (fun j _ _ => rfl) (by rw [addTx_el, add_el]) (by rw [addTx_bg, add_bg]) (by rw [addTx_en, add_en]) (by rw [addTx_up, add_up]) (by rw [addTx_fs, add_fs]) (by rw [addTx_nx, add_nx]) (by rw [addTx_dp, add_dp]) (by rw [addTx_ls, add_ls])
        · rw [hst']; exact (ka.1 15 (by decide)).trans ((d.i 15 (by decide)).trans hdp)
        · rw [hst']
          refine hst.mv (fun j hj => ?_) (fun u hu => ?_)
          · rw [show mp_openNode τ2 = mp_openNode τ1 from ka.2 16 (Or.inr rfl), show mp_openNode τ1 = mp_openNode τ from congrFun d.1 16, show mp_openAt τ2 = mp_openAt τ1 from ka.2 6 (Or.inl (by decide)), show mp_openAt τ1 = mp_openAt τ from congrFun d.1 6, show mp_openMany τ2 = mp_openMany τ1 from ka.2 7 (Or.inl (by decide)), show mp_openMany τ1 = mp_openMany τ from congrFun d.1 7]; exact ⟨rfl, rfl, rfl⟩
          · have hne : ¬ u = S.K := by have := hI.opn.lt u hu; omega
            rw [addTx_bg, addTx_nl, va_n hne, va_n hne]; exact ⟨rfl, rfl⟩
        · rw [addTx_it, hit] at z; cases z
  have key : ∀ g p cs τ1, n - p < g → p ≤ n → Chars t n 60 S.at_ p cs → Df Lr τ τ1 → mp_at τ1 = nI p → mp_bad τ1 = 0 → w_M_takeText_L5 (nI S.at_) post (g + 1) τ1 := by
    intro g
    induction g with
    | zero => intro p cs τ1 h; omega
    | succ g ih =>
      intro p cs τ1 hg hp hC d a1 b1
      have hT1 := hT.df d (by decide)
      unfold w_M_takeText_L5
      rw [b1, a1, hT1.1]
      refine br_t rfl (pk_le n p (fun hnp => fin p cs τ1 hp (Or.inl (by omega)) hC d a1 b1) (fun hnp => ⟨hT1.k (by omega), ?_⟩) rfl rfl (by omega) (by omega))
      rw [hT1.x (by omega)]
      by_cases hx4 : xx t n p = 60
      · exact br_t hx4 (fin p cs τ1 hp (Or.inr hx4) hC d a1 b1)
      · refine br_f hx4 ?_
        have hxm := nom p hnp
        refine r_takeCharacter hT1 a1 hnp (fun c e' τ6 hc d6 a6 b6 => ?_) (fun hc τ6 d6 a6 b6 => ?_)
        · have hcf := chf_some hc
          exact ih e' (cs ++ [c]) τ6 (by omega) hcf.2.1 (hC.snoc hx4 hx4 hxm hc) (d.trans (d6.mono (by decide))) a6 (b6.trans b1)
        · unfold w_M_takeText_L5 w_M_takeText_J43 w_M_takeText_J66
          refine br_f (by rw [b6]; decide) (br_f (by rw [b6]; decide) (br_f (by rw [b6]; decide) ?_))
          exact h0 p τ6 (TX.char hm hC hx4 hxm hc) ((d.trans (d6.mono (by decide))).kr (by decide)) a6 b6
  unfold w_M_takeText
  rw [hM.at_]
  exact ⟨_, key (n + 1) S.at_ [] τ (by omega) (by omega) (Chars.nil _) (Df.refl τ) hM.at_ hM.bad⟩
end ME
