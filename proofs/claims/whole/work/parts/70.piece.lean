/-! PURE: the class reads a piece. -/
section PI
variable {t : Nat → Int32} {n : Nat} {S : GS} {σ : PPS}
theorem Bk.mv {nd at_ le : StS} {g a : Nat → Nat → Int32} {ls : List Int32} {A p : Nat} (h : Bk t n S nd at_ le g a ls A) (hp : S.at_ ≤ p) : Bk t n (S.tagEnd p) nd at_ le g a ls A :=
  ⟨by rw [tagEnd_K]; exact h.nd, h.at_, h.le, by rw [tagEnd_at_]; exact Nat.le_trans h.lle hp, by rw [tagEnd_at_]; exact Nat.le_trans h.ale hp, fun k hk => by
    rw [tagEnd_K] at hk
    exact (h.row k hk).same (by simp only [SameN, tagEnd_K, tagEnd_el, tagEnd_bg, tagEnd_nl, tagEnd_en, tagEnd_cs, tagEnd_as, tagEnd_up, tagEnd_fs, tagEnd_nx, tagEnd_ls, tagEnd_pa, tagEnd_dp, tagEnd_op, tagEnd_at_, tagEnd_it, tagEnd_E, tagEnd_X, tagEnd_F, and_self]), fun z => by rw [tagEnd_it] at z; cases z⟩
theorem k_readInTag (hC : CR t n S σ) (hit : S.it = true) (hne : ¬ S.op = []) (hI : Inv t n S) {post : Int32 → PPS → Prop}
    (h0 : ∀ q σ', IT t n S (.inl q) → pWr σ' = nI q → kp σ' = kp σ → post 0 σ')
    (h1 : ∀ S' σ', IT t n S (.inr S') → CR t n S' σ' → kp σ' = kp σ → post 1 σ') : w_Reader_readInTag σ post := by
  obtain ⟨g, a, ls, A, hb⟩ := hC.bk
  have hn := hI.n4
  have han := hI.an
  obtain ⟨k, os, hop⟩ : ∃ k os, S.op = k :: os := by
    cases h : S.op with
    | nil => exact absurd h hne
    | cons k os => exact ⟨k, os, rfl⟩
  have hin : pIn σ = 1 := by rw [hC.it hne, hit]; rfl
  obtain ⟨p, hw⟩ := Runs.ex cWh_m t n S.at_
  have hpn := hw.le cWh_m han
  have hle := hw.1
  unfold w_Reader_readInTag
  refine k_skipWhite hC.tp hC.ps han hw ?_
  have est : sPs σ (nI p) = mkS σ (pNd σ) (pAt σ) (pLe σ) (nI S.E) (nI p) (nI k) 1 (-1) := by
    rw [← hC.el, ← hC.wr, ← hin, show nI k = pOp σ from by rw [hC.op, hop]; rfl]; rfl
  rw [est, hC.ps]
  have eg : sGet (pTp (mkS σ (pNd σ) (pAt σ) (pLe σ) (nI S.E) (nI p) (nI k) 1 (-1))) (pPs (mkS σ (pNd σ) (pAt σ) (pLe σ) (nI S.E) (nI p) (nI k) 1 (-1))) = xx t n p := hC.tp.get (by omega)
  rw [eg]
  by_cases hB : cBn (xx t n p) = true
  · refine bl_t hB ?_
    by_cases hlt : S.at_ < p
    · refine br_f (nI_ge hlt (by omega)) ?_
      exact k_attr hC.tp hop hit hI hb hlt hpn hB hw h0 h1
    · have he : p = S.at_ := by omega
      subst he
      refine br_t (nI_le (Nat.le_refl _) (by omega)) (k_refuse ⟨nar_0, h0 _ _ (IT.white hB) rfl rfl⟩)
  · have hB' : cBn (xx t n p) = false := Bool.eq_false_iff.mpr hB
    refine bl_f hB' ?_
    by_cases h47 : xx t n p = 47
    · have hpl : p < n := xx_lt (fun z => by rw [z] at h47; revert h47; decide)
      refine br_t h47 (br_f (by decide) (fa_eq ?_))
      show w_Reader_readInTag_J110 post 1 (mkS σ (pNd σ) (pAt σ) (pLe σ) (nI S.E) (nI p + 1) (nI k) 1 (-1))
      rw [nI_1]
      unfold w_Reader_readInTag_J110
      refine k_take (k := p + 1) (by exact hC.tp.mkS) (by rfl) (by omega) (fun hx => br_f (by decide) (fa_eq (br_f (by decide) ?_))) (fun hx => br_t rfl (h0 _ _ (IT.no2 hw h47 hx) rfl rfl))
      show w_Reader_shutElement (mkS σ (pNd σ) (pAt σ) (pLe σ) (nI S.E) (nI (p + 2)) (nI k) 0 (-1)) _
      refine k_shutElement (p := p + 2) (fn := 0) hop hI hb (by omega) (fun nd' g' hb' => ?_)
      refine h1 _ _ (IT.empty hop hw h47 hx) (CR.mkS hC.tp (by rw [shut_at_]) (by rw [shut_op, hop]; rfl) rfl (by rw [shut_E]) (fun _ => by rw [shut_it]; rfl) hb') kp_mkS
    · refine br_f h47 (br_t rfl ?_)
      unfold w_Reader_readInTag_J110
      refine k_take (k := p) (by exact hC.tp.mkS) (by rfl) hpn (fun hx => br_f (by decide) (fa_eq (br_t rfl ?_))) (fun hx => br_t rfl (h0 _ _ (IT.no hw hB' h47 hx) rfl rfl))
      show post 1 (mkS σ (pNd σ) (pAt σ) (pLe σ) (nI S.E) (nI (p + 1)) (nI k) 0 (-1))
      refine h1 _ _ (IT.opens hw hx) (CR.mkS hC.tp (by rw [tagEnd_at_]) (by rw [tagEnd_op, hop]; rfl) rfl (by rw [tagEnd_E]) (fun _ => by rw [tagEnd_it]; rfl) (hb.mv (by omega))) kp_mkS
theorem k_isOpenName {k e b f : Nat} {nd at_ le : StS} {g : Nat → Nat → Int32} {ls l : List Int32} {K : Nat} {el in_ wr : Int32} (hT : Tp σ t n) (hN : Tab 14 nd K g) (hK : K < 2 ^ 31) (hk : k < K) (hs : Str le ls) (hl : ls.length ≤ 4000) (h3 : g k 3 = nI l.length) (h8 : g k 8 = nI f) (hf : Seg ls f l) (hbe : b ≤ e) (hen : e ≤ n)
    {post : Int32 → Prop} (hq : post (b2i (decide (seg t n b (e - b) = l)))) : w_Reader_isOpenName (mkS σ nd at_ le el (nI e) (nI k) in_ wr) (nI b) post := by
  have hn := hT.2
  have hfl := hf.1
  unfold w_Reader_isOpenName
  have e3 : tGet 14 (pNd (mkS σ nd at_ le el (nI e) (nI k) in_ wr)) (pOp (mkS σ nd at_ le el (nI e) (nI k) in_ wr)) 3 = nI l.length := by
    rw [← h3]; exact hN.get hK (r := k) (c := 3) (x := 3) rfl hk (by decide) (by decide)
  have e8 : tGet 14 (pNd (mkS σ nd at_ le el (nI e) (nI k) in_ wr)) (pOp (mkS σ nd at_ le el (nI e) (nI k) in_ wr)) 8 = nI f := by
    rw [← h8]; exact hN.get hK (r := k) (c := 8) (x := 8) rfl hk (by decide) (by decide)
  have ep : pPs (mkS σ nd at_ le el (nI e) (nI k) in_ wr) - nI b = nI (e - b) := pk_sub (a := e) (b := b) hbe
  rw [e3, e8, ep]
  have hsl : (seg t n b (e - b)).length = e - b := seg_len _ _ _ _
  by_cases hlen : l.length = e - b
  · refine br_t (by rw [hlen]) ?_
    have key : ∀ m i, i + m = l.length → (∀ j, j < i → l.getD j 0 = (seg t n b (e - b)).getD j 0) → ∃ fu, w_Reader_isOpenName_L42 (mkS σ nd at_ le el (nI e) (nI k) in_ wr) (nI b) (nI l.length) (nI f) post fu (nI i) := by
      intro m
      induction m with
      | zero =>
        intro i hi ha
        refine ⟨1, ?_⟩
        unfold w_Reader_isOpenName_L42
        refine br_t (nI_le (by omega) (by omega)) ?_
        rw [decide_eq_true (list_ext_getD (by omega) (fun j hj => ha j (by omega))).symm] at hq
        exact hq
      | succ m ih =>
        intro i hi ha
        have e1 : bLet (mkS σ nd at_ le el (nI e) (nI k) in_ wr) (nI f) (nI l.length) (nI i) = l.getD i 0 := by
          unfold bLet
          rw [if_neg (nI_pos (by omega)), if_neg (nI_ge (by omega) (by omega)), nI_add]
          exact hf.get hs (by omega) (by omega)
        have e2 : sGet (pTp (mkS σ nd at_ le el (nI e) (nI k) in_ wr)) (nI b + nI i) = (seg t n b (e - b)).getD i 0 := by
          rw [nI_add, List.getD_eq_getElem?_getD, seg_get t n _ _ i (by omega)]
          exact hT.get (by omega)
        by_cases hc : l.getD i 0 = (seg t n b (e - b)).getD i 0
        · obtain ⟨fu, hfu⟩ := ih (i + 1) (by omega) (fun j hj => by
            by_cases ej : j = i
            · rw [ej]; exact hc
            · exact ha j (by omega))
          refine ⟨fu + 1, ?_⟩
          unfold w_Reader_isOpenName_L42
          refine br_f (nI_ge (by omega) (by omega)) ?_
          rw [e1, e2, nI_1]
          exact br_t hc hfu
        · refine ⟨1, ?_⟩
          unfold w_Reader_isOpenName_L42
          refine br_f (nI_ge (by omega) (by omega)) ?_
          rw [e1, e2]
          rw [decide_eq_false (fun z => hc (by rw [z]))] at hq
          exact br_f hc hq
    exact key _ 0 (Nat.zero_add _) (fun j hj => absurd hj (Nat.not_lt_zero j))
  · refine br_f (fun z => hlen ((nI_eq (by omega) (by omega)).mp z)) ?_
    rw [decide_eq_false (fun z => hlen (by rw [← z, hsl]))] at hq
    exact hq
theorem k_endElement (hC : CR t n S σ) (hit : S.it = false) (hne : ¬ S.op = []) (hI : Inv t n S) (hx : xx t n S.at_ = 60) (hx1 : xx t n (S.at_ + 1) = 47) {post : Int32 → PPS → Prop}
    (h0 : ∀ q σ', EE t n S (.inl q) → pWr σ' = nI q → kp σ' = kp σ → post 0 σ')
    (h1 : ∀ S' σ', EE t n S (.inr S') → CR t n S' σ' → kp σ' = kp σ → post 1 σ') : w_Reader_endElement σ post := by
  obtain ⟨g, a, ls, A, hb⟩ := hC.bk
  have hn := hI.n4
  have han := hI.an
  obtain ⟨k, os, hop⟩ : ∃ k os, S.op = k :: os := by
    cases h : S.op with
    | nil => exact absurd h hne
    | cons k os => exact ⟨k, os, rfl⟩
  have ho := hI.opn
  rw [hop] at ho
  obtain ⟨hkK, hel, -, -, -⟩ := ho
  have hK := hI.k900
  have hin : pIn σ = 0 := by rw [hC.it hne, hit]; rfl
  have hlt : S.at_ + 1 < n := xx_lt (fun z => by rw [z] at hx1; revert hx1; decide)
  unfold w_Reader_endElement
  refine fa_eq ?_
  rw [hC.ps, show nI S.at_ + 2 = nI (S.at_ + 2) from nI_add _ 2]
  have est : ∀ v, sPs σ v = mkS σ (pNd σ) (pAt σ) (pLe σ) (nI S.E) v (nI k) 0 (-1) := fun v => by
    rw [← hC.el, ← hC.wr, ← hin, show nI k = pOp σ from by rw [hC.op, hop]; rfl]; rfl
  rw [est]
  refine k_passName (k := S.at_ + 2) (by exact hC.tp.mkS) (by rfl) (by omega) (fun hN => ?_) (fun e hB hR hl => ?_) (fun e hB hR hl => ?_)
  · exact br_t rfl (h0 _ _ (EE.name (Or.inl ⟨hN, rfl⟩)) rfl rfl)
  · have hnm : Name t n (S.at_ + 2) e := ⟨hB, hR, hl⟩
    have hlen := hnm.len
    refine br_f (by decide) ?_
    obtain ⟨f, l8, l3, lS⟩ := (hb.row k hkK).let_
    have hlets : lets t n S k = seg t n (S.bg k + 1) (S.nl k) := by unfold lets; rw [if_pos hel]
    have hll := hb.lle
    show w_Reader_isOpenName (mkS σ (pNd σ) (pAt σ) (pLe σ) (nI S.E) (nI e) (nI k) 0 (-1)) (nI (S.at_ + 2)) _
    refine k_isOpenName hC.tp hb.nd (by omega) hkK hb.le (by omega) l3 l8 lS (by omega) hlen.2 ?_
    rw [hlets]
    by_cases hs : seg t n (S.at_ + 2) (e - (S.at_ + 2)) = seg t n (S.bg k + 1) (S.nl k)
    · refine bl_t (decide_eq_true hs) ?_
      obtain ⟨p, hw⟩ := Runs.ex cWh_m t n e
      have hpn := hw.le cWh_m hlen.2
      have hwle := hw.1
      show w_Reader_skipWhite (mkS σ (pNd σ) (pAt σ) (pLe σ) (nI S.E) (nI e) (nI k) 0 (-1)) _
      refine k_skipWhite (k := e) (e := p) (by exact hC.tp.mkS) (by rfl) hlen.2 hw ?_
      show w_Reader_take (mkS σ (pNd σ) (pAt σ) (pLe σ) (nI S.E) (nI p) (nI k) 0 (-1)) 62 _
      refine k_take (k := p) (by exact hC.tp.mkS) (by rfl) hpn (fun hx3 => br_f (by decide) ?_) (fun hx3 => br_t rfl (h0 _ _ (EE.no hop hnm hs hw hx3) rfl rfl))
      show w_Reader_shutElement (mkS σ (pNd σ) (pAt σ) (pLe σ) (nI S.E) (nI (p + 1)) (nI k) 0 (-1)) _
      refine k_shutElement (p := p + 1) (fn := 1) hop hI hb (by omega) (fun nd' g' hb' => ?_)
      refine h1 _ _ (EE.ok hop hnm hs hw hx3) (CR.mkS hC.tp (by rw [shut_at_]) (by rw [shut_op, hop]; rfl) rfl (by rw [shut_E]) (fun _ => by rw [shut_it]; rfl) hb') kp_mkS
    · exact bl_f (decide_eq_false hs) (k_refuse ⟨nar_0, h0 _ _ (EE.other hop hnm hs) rfl rfl⟩)
  · exact br_t rfl (h0 _ _ (EE.name (Or.inr ⟨hB, ⟨e, hR, hl⟩, rfl⟩)) rfl rfl)
theorem k_readTag (hC : CR t n S σ) (hit : S.it = false) (hne : ¬ S.op = []) (hI : Inv t n S) (hx : xx t n S.at_ = 60) {post : Int32 → PPS → Prop}
    (h0 : ∀ q σ', PC t n S (.inl q) → pWr σ' = nI q → kp σ' = kp σ → post 0 σ')
    (h1 : ∀ S' σ', PC t n S (.inr S') → CR t n S' σ' → kp σ' = kp σ → post 1 σ') : w_Reader_readTag σ post := by
  have hn := hI.n4
  have han := hI.an
  obtain ⟨g, a, ls, A, hb⟩ := hC.bk
  obtain ⟨k, os, hop⟩ : ∃ k os, S.op = k :: os := by
    cases h : S.op with
    | nil => exact absurd h hne
    | cons k os => exact ⟨k, os, rfl⟩
  have ho := hI.opn
  rw [hop] at ho
  obtain ⟨hkK, hel, -, hdp, -⟩ := ho
  have hK := hI.k900
  have hE := hI.e
  have ho40 := hI.o40
  have hlen : S.op.length = os.length + 1 := by rw [hop]; rfl
  unfold w_Reader_readTag
  rw [hC.ps, nI_1, hC.tp.get (k := S.at_ + 1) (by omega)]
  by_cases h47 : xx t n (S.at_ + 1) = 47
  · exact br_t h47 (k_endElement hC hit hne hI hx h47 (fun q σ' h a b => ⟨nar_0, h0 q σ' (PC.ee hit hx h47 h) a b⟩) (fun S' σ' h a b => ⟨nar_1, h1 S' σ' (PC.ee hit hx h47 h) a b⟩))
  · refine br_f h47 ?_
    have ed : tGet 14 (pNd σ) (pOp σ) 7 = nI S.op.length := by
      rw [hC.op, hop, show hd (k :: os) = nI k from rfl, hb.nd.get (by omega) (r := k) (c := 7) (x := 7) rfl hkK (by decide) (by decide), (hb.row k hkK).lnk.c7, hdp, ← hlen, hop]
    have full : (300 ≤ S.E ∨ 40 ≤ S.op.length) → w_Reader_readTag_J54 post σ := fun hf =>
      br_f (by decide) (k_refuse ⟨nar_0, h0 _ _ (PC.full hit hx h47 hf) (by show pPs σ = _; exact hC.ps) rfl⟩)
    rw [hC.el, ed]
    refine pk_le 300 S.E (fun h => full (Or.inl h)) (fun h => ?_) rfl rfl (by omega) (by omega)
    refine pk_lt S.op.length 40 (fun h2 => br_t rfl ?_) (fun h2 => full (Or.inr h2)) rfl rfl (by omega) (by omega)
    exact k_beginElement hC hI h (fun p σ' hB a b => ⟨nar_0, h0 p σ' (PC.be hit hx h47 h h2 hB) a b⟩) (fun S' σ' hB a b => ⟨nar_1, h1 S' σ' (PC.be hit hx h47 h h2 hB) a b⟩)
end PI
