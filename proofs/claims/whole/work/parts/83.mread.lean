/-! PURE: the reference reads the whole text. -/
section MP
variable {t : Nat → Int32} {n : Nat}
/-- the reference's arrays hold what is read -/
def MB (S : GS) (τ : MPS) : Prop := mp_nodes τ = nI S.K ∧ mp_elements τ = nI S.E ∧ ∀ k, k < S.K → MRow S τ k
theorem MR.mb {S : GS} {τ : MPS} (h : MR t n S τ) : MB S τ := ⟨h.nd, h.el, h.row⟩
theorem MB.df {L : List Nat} {S : GS} {τ τ' : MPS} (h : MB S τ) (d : Df L τ τ') (h1 : ¬ 32 ∈ L) (h2 : ¬ 14 ∈ L) : MB S τ' :=
  ⟨(d.i 32 h1).trans h.1, (d.i 14 h2).trans h.2.1, fun k hk => (h.2.2 k hk).mv (fun j _ _ => congrFun d.1 j) rfl rfl rfl rfl rfl rfl rfl rfl⟩
theorem r_bad {post : MPS → Prop} {τ : MPS} (g : Nat) (hb : mp_bad τ = 1) (hq : post τ) : w_M_lookThrough_L70 post (g + 1) τ := by
  unfold w_M_lookThrough_L70 w_M_lookThrough_J152
  exact br_f (by rw [hb]; decide) (br_f (by rw [hb]; decide) hq)
theorem r_tagbad {v1 v2 : Int32} {post : MPS → Prop} {τ : MPS} {v3 : Int32} (f : Nat) (hb : mp_bad τ = 1) (hq : post τ) : w_M_takeBeginning_L108 v1 v2 post (f + 1) v3 τ := by
  unfold w_M_takeBeginning_L108 w_M_takeBeginning_J174
  have hb0 : ¬ mp_bad τ = 0 := by rw [hb]; decide
  exact ⟨fun _ => br_f hb0 hq, fun _ => br_f hb0 (br_f hb0 hq)⟩
theorem r_pieces (τ0 : MPS) {post : MPS → Prop} : ∀ (v : Nat) (S : GS) (τ : MPS), n - S.at_ ≤ v → Inv t n S → Gd t n S → MR t n S τ → Kr τ0 τ →
    (∀ p τ' m, RN t n m S (.inl p) → Kr τ0 τ' → mp_at τ' = nI p → mp_bad τ' = 1 → post τ') →
    (∀ S' p τ' m, RN t n m S (.inr S') → Runs cWh t n S'.at_ p → ¬ p = n → Kr τ0 τ' → mp_at τ' = nI p → mp_bad τ' = 1 → post τ') →
    (∀ S' τ' m, RN t n m S (.inr S') → Runs cWh t n S'.at_ n → MB S' τ' → Inv t n S' → Gd t n S' → Kr τ0 τ' → mp_bad τ' = 0 → post τ') →
    (S.it = false → ∀ g, v + 2 ≤ g → w_M_lookThrough_L70 post g τ) ∧
    (S.it = true → ∀ k os, S.op = k :: os → ∀ (g f : Nat) (Q : MPS → Prop), (∀ σ, w_M_lookThrough_L70 post g σ → Q σ) → v + 2 ≤ g → v + 2 ≤ f → w_M_takeBeginning_L108 (nI (S.bg k)) (nI k) Q f 1 τ) := by
  intro v
  induction v using Nat.strongRecOn with
  | ind v ih =>
    intro S τ hv hI hG hM hkr h0 h2 h1
    have hT := hM.tx
    have hn := hT.2.1
    have han := hI.an
    -- the next piece is taken: what follows
    have next : ∀ S' τ', ¬ S.op = [] → PC t n S (.inr S') → MR t n S' τ' → Kr τ0 τ' →
        (S'.it = false → ∀ g, v + 1 ≤ g → w_M_lookThrough_L70 post g τ') ∧ (S'.it = true → ∀ k os, S'.op = k :: os → ∀ (g f : Nat) (Q : MPS → Prop), (∀ σ, w_M_lookThrough_L70 post g σ → Q σ) → v + 1 ≤ g → v + 1 ≤ f → w_M_takeBeginning_L108 (nI (S'.bg k)) (nI k) Q f 1 τ') := fun S' τ' hop hP hM' hk' => by
      obtain ⟨hI', hat⟩ := hI.pc hop hP
      have hG' := hG.pc hI hP
      have han' := hI'.an
      have := ih (v - 1) (by omega) S' τ' (by omega) hI' hG' hM' hk' (fun p τ'' m hR => h0 p τ'' (m + 1) ⟨hop, S', hP, hR⟩) (fun S'' p τ'' m hR => h2 S'' p τ'' (m + 1) ⟨hop, S', hP, hR⟩) (fun S'' τ'' m hR => h1 S'' τ'' (m + 1) ⟨hop, S', hP, hR⟩)
      exact ⟨fun a g hg => this.1 a g (by omega), fun a k os b g f Q hQ hg hf => this.2 a k os b g f Q hQ (by omega) (by omega)⟩
    have bad : ∀ p τ', ¬ S.op = [] → PC t n S (.inl p) → Kr τ0 τ' → mp_at τ' = nI p → mp_bad τ' = 1 → post τ' := fun p τ' hop hP => h0 p τ' 0 (Or.inr ⟨hop, p, hP, rfl⟩)
    refine ⟨fun hit g hg => ?_, fun hit k os hop g f Q hQ hg hf => ?_⟩
    · obtain ⟨g', rfl⟩ : ∃ g', g = g' + 1 := ⟨g - 1, by omega⟩
      obtain ⟨hdp, hst⟩ := hM.stk0 hit
      have h40 := hI.o40
      unfold w_M_lookThrough_L70
      rw [hM.bad, hdp]
      refine br_t rfl ?_
      by_cases hop : S.op = []
      · refine br_t (by rw [hop]; decide) ?_
        unfold w_M_lookThrough_J152
        refine br_t hM.bad ?_
        obtain ⟨p, hr⟩ := Runs.ex cWh_m t n S.at_
        have hpn := hr.le cWh_m han
        refine r_skipWhite hT hM.at_ han hr (fun τ1 d a1 => ?_)
        have hT1 := hT.df d (by decide)
        rw [hT1.1, a1]
        refine pk_le n p (fun hnp => fa_eq ?_) (fun hnp => fa_eq ?_) rfl rfl (by omega) (by omega)
        · have hpe : p = n := by omega
          subst hpe
          have d2 : Df [13, 16] τ (ms_bad τ1 0) := (d.mono (by decide)).trans (Df.set τ1 (by decide))
          exact h1 S _ 0 (Or.inl ⟨hop, rfl⟩) hr (hM.mb.df d2 (by decide) (by decide)) hI hG (hkr.trans (d2.kr (by decide))) rfl
        · have d2 : Df [13, 16] τ (ms_bad τ1 1) := (d.mono (by decide)).trans (Df.set τ1 (by decide))
          exact h2 S p _ 0 (Or.inl ⟨hop, rfl⟩) hr (by omega) (hkr.trans (d2.kr (by decide))) a1 rfl
      · have hpos : 0 < S.op.length := List.length_pos_iff.mpr hop
        refine br_f (nI_nle hpos (by omega)) ?_
        rw [hM.at_, hT.1]
        refine pk_lt S.at_ n (fun hlt => ⟨hT.k (by omega), ?_⟩) (fun hge => fa_eq ?_) rfl rfl (by omega) (by omega)
        · rw [hT.x (by omega), nI_1]
          by_cases hx : xx t n S.at_ = 60
          · refine br_t hx ⟨hT.k (by omega), ?_⟩
            rw [hT.x (by omega)]
            by_cases h47 : xx t n (S.at_ + 1) = 47
            · refine br_t h47 (r_takeEnding hM hit hop hI hG hx h47 (fun p τ' hE kr a b => ?_) (fun S' τ' hE hM' kr => ?_))
              · obtain ⟨g'', rfl⟩ : ∃ g'', g' = g'' + 1 := ⟨g' - 1, by omega⟩
                exact r_bad _ b (bad p τ' hop (PC.ee hit hx h47 hE) (hkr.trans kr) a b)
              · have hit' : S'.it = false := by
                  obtain ⟨_, _, _, _, _, _, _, _, _, rfl⟩ := hE
                  rw [shut_it]
                exact (next S' τ' hop (PC.ee hit hx h47 hE) hM' (hkr.trans kr)).1 hit' g' (by omega)
            · refine br_f h47 (r_takeBeginning hM hit hI hG hx (fun hfull τ' kr a b => ?_) (fun hE h40 p τ' hB kr a b => ?_) (fun hE h40 S' τ' hB hM' kr hbg hop' => ?_))
              · obtain ⟨g'', rfl⟩ : ∃ g'', g' = g'' + 1 := ⟨g' - 1, by omega⟩
                exact r_bad _ b (bad _ τ' hop (PC.full hit hx h47 hfull) (hkr.trans kr) a b)
              · obtain ⟨g'', rfl⟩ : ∃ g'', g' = g'' + 1 := ⟨g' - 1, by omega⟩
                exact r_bad _ b (bad p τ' hop (PC.be hit hx h47 hE h40 hB) (hkr.trans kr) a b)
              · have hit' : S'.it = true := by
                  obtain ⟨_, _, _, rfl⟩ := hB
                  rw [addEl_it]
                have := (next S' τ' hop (PC.be hit hx h47 hE h40 hB) hM' (hkr.trans kr)).2 hit' S.K S.op hop' g' (v + 1) (fun σ => w_M_lookThrough_L70 post g' σ) (fun _ h => h) (by omega) (Nat.le_refl _)
                rw [hbg] at this
                exact ⟨v + 1, this⟩
          · refine br_f hx (r_takeText hM hit hop hI hG hx hlt (fun p τ' hE kr a b => ?_) (fun cs τ' hC kr a b => ?_) (fun S' τ' hE hM' kr => ?_))
            · obtain ⟨g'', rfl⟩ : ∃ g'', g' = g'' + 1 := ⟨g' - 1, by omega⟩
              exact r_bad _ b (bad p τ' hop (PC.tx hit hx hE) (hkr.trans kr) a b)
            · obtain ⟨g'', rfl⟩ : ∃ g'', g' = g'' + 1 := ⟨g' - 1, by omega⟩
              have hm : ¬ xx t n S.at_ = -1 := fun z => by
                rw [xx_in hlt] at z
                obtain ⟨b, hb, e1, _⟩ := hT.2.2 _ hlt
                rw [e1] at z
                exact nI_m1 (by omega) z
              have hxn : xx t n n = -1 := xx_out (Nat.le_refl n)
              refine r_bad _ b (h0 n τ' 1 ⟨hop, S.addTx S.at_ n cs, PC.tx hit hx (TX.ok hm hC (Or.inr hxn)), Or.inr ⟨by rw [addTx_op]; exact hop, n, PC.tx (by rw [addTx_it]; exact hit) (by rw [addTx_at_, hxn]; decide) ?_, rfl⟩⟩ (hkr.trans kr) a b)
              have := TX.no (t := t) (n := n) (S := S.addTx S.at_ n cs) (by rw [addTx_at_]; exact hxn)
              rw [addTx_at_] at this
              exact this
            · have hit' : S'.it = false := by
                obtain ⟨_, _, _, _, _, rfl⟩ := hE
                rw [addTx_it]; exact hit
              exact (next S' τ' hop (PC.tx hit hx hE) hM' (hkr.trans kr)).1 hit' g' (by omega)
        · obtain ⟨g'', rfl⟩ : ∃ g'', g' = g'' + 1 := ⟨g' - 1, by omega⟩
          have hxm : xx t n S.at_ = -1 := xx_out hge
          refine r_bad _ rfl (bad S.at_ _ hop (PC.tx hit (by rw [hxm]; decide) (TX.no hxm)) (hkr.trans ((Df.set (L := [16]) τ (by decide)).kr (by decide))) hM.at_ rfl)
    · obtain ⟨f', rfl⟩ : ∃ f', f = f' + 1 := ⟨f - 1, by omega⟩
      obtain ⟨g', rfl⟩ : ∃ g', g = g' + 1 := ⟨g - 1, by omega⟩
      obtain ⟨f'', rfl⟩ : ∃ f'', f' = f'' + 1 := ⟨f' - 1, by omega⟩
      have hne : ¬ S.op = [] := by rw [hop]; exact List.cons_ne_nil _ _
      have ho := hI.opn
      rw [hop] at ho
      have hkK := ho.1
      have hel := ho.2.1
      have hK := hI.k900
      have h40 := hI.o40
      have hol : os.length + 1 ≤ 40 := by rw [hop] at h40; exact h40
      have hnm := hG.nm k hkK hel
      have hnml := hnm.len
      have hAL := hG.cu hit k os hop
      have hstk : S.stk = os := by unfold GS.stk; rw [if_pos hit, hop]; rfl
      have hdp := hM.dp
      have hst := hM.st
      rw [hstk] at hdp hst
      obtain ⟨p, hw⟩ := Runs.ex cWh_m t n S.at_
      have hpn := hw.le cWh_m han
      have hle := hw.1
      have badT : ∀ q τ' , IT t n S (.inl q) → Kr τ0 τ' → mp_at τ' = nI q → mp_bad τ' = 1 → Q τ' := fun q τ' hP kr a b => hQ _ (r_bad _ b (bad q τ' hne (PC.it hit hP) kr a b))
      unfold w_M_takeBeginning_L108
      rw [hM.bad, hM.at_]
      refine br_f (by decide) (br_t rfl ⟨hT.k (by omega), ?_⟩)
      refine r_skipWhite hT hM.at_ han hw (fun τ1 d a1 => ?_)
      have hT1 := hT.df d (by decide)
      have b1 : mp_bad τ1 = 0 := (d.i 16 (by decide)).trans hM.bad
      have kr1 : Kr τ0 τ1 := hkr.trans (d.kr (by decide))
      rw [hT.x (by omega), a1, hT1.x (by omega), cNs_1]
      -- no attribute: the tag's end
      have tend : (cBn (xx t n p) = false ∨ p = S.at_) → w_M_takeBeginning_J160 (nI (S.bg k)) (nI k) (w_M_takeBeginning_L108 (nI (S.bg k)) (nI k) Q (f'' + 1)) Q τ1 := fun hor => by
        unfold w_M_takeBeginning_J160 w_M_takeBeginning_J161 w_M_takeBeginning_J171
        refine br_t rfl ?_
        unfold w_M_takeBeginning_L108 w_M_takeBeginning_J174
        refine br_t rfl (br_t b1 ?_)
        rw [a1]
        refine ⟨hT1.k (by omega), ?_⟩
        rw [hT1.x (by omega), nI_1]
        by_cases h47 : xx t n p = 47
        · have hpl := xx_lt' h47 (by decide)
          refine br_t h47 (fa_eq ?_)
          have d2 : Df Lr τ (ms_at τ1 (nI (p + 1))) := (d.mono (by decide)).trans (Df.set τ1 (by decide))
          have hT2 := hT.df d2 (by decide)
          rw [show mp_at (ms_at τ1 (nI (p + 1))) = nI (p + 1) from rfl]
          refine ⟨hT2.k (by omega), ?_⟩
          rw [hT2.x (by omega), nI_1]
          refine ⟨fun hx => fa_eq ?_, fun hx => fa_eq ?_⟩
          · have d3 : Df Lr τ (ms_at (ms_at τ1 (nI (p + 1))) (nI (p + 2))) := d2.trans (Df.set _ (by decide))
            refine hQ _ ((next (S.shut k (p + 2) 0) _ hne (PC.it hit (IT.empty hop hw h47 hx)) (hM.shut hop (d3.kr (by decide)) (fun j _ _ => congrFun d3.1 j) rfl b1 (d3.i 14 (by decide)) (d3.i 32 (by decide)) ((d3.i 15 (by decide)).trans hdp) hst) (hkr.trans (d3.kr (by decide)))).1 (by rw [shut_it]) (g' + 1) (by omega))
          · have d3 : Df Lr τ (ms_bad (ms_at τ1 (nI (p + 1))) 1) := d2.trans (Df.set _ (by decide))
            exact badT (p + 1) _ (IT.no2 hw h47 hx) (hkr.trans (d3.kr (by decide))) rfl rfl
        · refine br_f h47 ⟨hT1.k (by omega), ?_⟩
          by_cases h62 : xx t n p = 62
          · refine br_t h62 (fa_eq ?_)
            have hdp1 : mp_deep (ms_at τ1 (nI (p + 1))) = nI os.length := by
              show mp_deep τ1 = _
              exact (d.i 15 (by decide)).trans hdp
            rw [hdp1]
            refine ⟨vp_in_nI (by omega) (by decide), fa_eq (fa_eq ?_)⟩
            rw [nI_clamp (by omega)]
            have hd3 : mp_deep (ms_openNode (ms_at τ1 (nI (p + 1))) (upd (mp_openNode (ms_at τ1 (nI (p + 1)))) os.length (nI k))) = nI os.length := hdp1
            rw [hd3, nI_1]
            have hst' : (S.tagEnd (p + 1)).stk = k :: os := by unfold GS.stk; rw [if_neg (by rw [tagEnd_it]; decide), tagEnd_op, hop]
            obtain ⟨c1, c2⟩ := hM.cu hit k os hop
            have krf : Kr τ1 (ms_deep (ms_openNode (ms_at τ1 (nI (p + 1))) (upd (mp_openNode (ms_at τ1 (nI (p + 1)))) os.length (nI k))) (nI (os.length + 1))) := by
              refine ⟨fun j hj => ?_, fun j hj => va_up_ne τ1.2 _ (by omega)⟩
              show va_up (va_up τ1.1 13 _) 15 _ j = _
              have n13 : ¬ j = 13 := fun z => by subst z; revert hj; decide
              have n15 : ¬ j = 15 := fun z => by subst z; revert hj; decide
              rw [va_n n15, va_n n13]
            have ar : ∀ j, ¬ j = 16 → (ms_deep (ms_openNode (ms_at τ1 (nI (p + 1))) (upd (mp_openNode (ms_at τ1 (nI (p + 1)))) os.length (nI k))) (nI (os.length + 1))).2 j = τ.2 j := fun j hj => (va_up_ne τ1.2 _ hj).trans (congrFun d.1 j)
            have eN : mp_openNode (ms_deep (ms_openNode (ms_at τ1 (nI (p + 1))) (upd (mp_openNode (ms_at τ1 (nI (p + 1)))) os.length (nI k))) (nI (os.length + 1))) = upd (mp_openNode τ) os.length (nI k) := by
              show upd (mp_openNode τ1) _ _ = _
              rw [show mp_openNode τ1 = mp_openNode τ from congrFun d.1 16]
            refine hQ _ ((next (S.tagEnd (p + 1)) _ hne (PC.it hit (IT.opens hw h62)) ⟨hT.kr ((d.kr (by decide)).trans krf), by rw [tagEnd_at_]; rfl, b1, ?_, ?_, fun j hj => ?_, ?_, ?_, fun z => ?_⟩ (kr1.trans krf)).1 (by rw [tagEnd_it]) (g' + 1) (by omega))
            · rw [tagEnd_E]; exact (d.i 14 (by decide)).trans hM.el
            · rw [tagEnd_K]; exact (d.i 32 (by decide)).trans hM.nd
            · rw [tagEnd_K] at hj
              exact (hM.row j hj).mv (fun i h8 h15 => ar i (by omega)) (by rw [tagEnd_el]) (by rw [tagEnd_bg]) (by rw [tagEnd_en]) (by rw [tagEnd_up]) (by rw [tagEnd_fs]) (by rw [tagEnd_nx]) (by rw [tagEnd_dp]) (by rw [tagEnd_ls])
            · rw [hst']; rfl
            · rw [hst']
              refine ⟨by rw [eN, upd_s], ?_, ?_, ?_⟩
              · rw [show mp_openAt _ = mp_openAt τ from ar 6 (by decide), tagEnd_bg]; exact c1
              · rw [show mp_openMany _ = mp_openMany τ from ar 7 (by decide), tagEnd_nl]; exact c2
              · refine hst.mv (fun j hj => ?_) (fun u _ => by rw [tagEnd_bg, tagEnd_nl]; exact ⟨rfl, rfl⟩)
                rw [eN, upd_n (by omega), show mp_openAt _ = mp_openAt τ from ar 6 (by decide), show mp_openMany _ = mp_openMany τ from ar 7 (by decide)]
                exact ⟨rfl, rfl, rfl⟩
            · rw [tagEnd_it] at z; cases z
          · refine br_f h62 (fa_eq ?_)
            have kr2 : Kr τ0 (ms_bad τ1 1) := kr1.trans ((Df.set (L := [16]) τ1 (by decide)).kr (by decide))
            by_cases hB : cBn (xx t n p) = true
            · have hpe : p = S.at_ := hor.resolve_left (by rw [hB]; decide)
              exact badT S.at_ _ (IT.white (by rw [← hpe]; exact hB)) kr2 (by show mp_at τ1 = _; rw [a1, hpe]) rfl
            · exact badT p _ (IT.no hw (Bool.eq_false_iff.mpr hB) h47 h62) kr2 a1 rfl
      by_cases hlt : S.at_ < p
      · refine bl_t (hw.2.1 S.at_ (Nat.le_refl _) hlt) ⟨hT1.k (by omega), ?_⟩
        by_cases hB : cBn (xx t n p) = true
        · refine bl_t hB ?_
          unfold w_M_takeBeginning_J161 w_M_takeBeginning_J171
          refine br_f (by decide) ?_
          refine r_takeAttribute (S := S) (k := k) (en := S.bg k + 1 + S.nl k) (q := S.at_) hT1 a1 b1 hB (by omega) hnm.2.1 hAL hw (fun q τ2 hA d2 a2 b2 => ?_) (fun B τ2 hA d2 a2 b2 => ?_)
          · have kr2 := kr1.trans (d2.kr (by decide))
            exact r_tagbad _ b2 (badT q τ2 (IT.attr hop hw hlt hB hA) kr2 a2 b2)
          · have d12 : Df Lr τ τ2 := (d.mono (by decide)).trans d2
            have hst' : (S.addAt k B).stk = os := by unfold GS.stk; rw [if_pos (by rw [addAt_it]; exact hit), addAt_op, hop]; rfl
            have := (next (S.addAt k B) τ2 hne (PC.it hit (IT.attr hop hw hlt hB hA)) ⟨hT.df d12 (by decide), by rw [addAt_at_]; exact a2, b2, ?_, ?_, fun j hj => ?_, ?_, ?_, fun z => ?_⟩ (hkr.trans (d12.kr (by decide)))).2 (by rw [addAt_it]; exact hit) k os (by rw [addAt_op]; exact hop) (g' + 1) (f'' + 1) Q hQ (by omega) (by omega)
            · rw [addAt_bg] at this; exact this
            · rw [addAt_E]; exact (d12.i 14 (by decide)).trans hM.el
            · rw [addAt_K]; exact (d12.i 32 (by decide)).trans hM.nd
            · rw [addAt_K] at hj
              exact (hM.row j hj).mv (fun i h8 h15 => congrFun d12.1 i) (by rw [addAt_el]) (by rw [addAt_bg]) (by rw [addAt_en]) (by rw [addAt_up]) (by rw [addAt_fs]) (by rw [addAt_nx]) (by rw [addAt_dp]) (by rw [addAt_ls])
            · rw [hst']; exact (d12.i 15 (by decide)).trans hdp
            · rw [hst']
              exact (hst.df d12).mv (fun j _ => ⟨rfl, rfl, rfl⟩) (fun u _ => by rw [addAt_bg, addAt_nl]; exact ⟨rfl, rfl⟩)
            · rw [addAt_op, addAt_bg, addAt_nl, show mp_openAt τ2 = mp_openAt τ from congrFun d12.1 6, show mp_openMany τ2 = mp_openMany τ from congrFun d12.1 7]
              exact hM.cu hit
        · exact bl_f (Bool.eq_false_iff.mpr hB) (tend (Or.inl (Bool.eq_false_iff.mpr hB)))
      · have hpe : p = S.at_ := by omega
        exact bl_f (by rw [← hpe]; exact hw.2.2) (tend (Or.inr hpe))
end MP
