/-! PURE: isPage of both. -/
section PG
variable {t : Nat → Int32} {n : Nat} {σ : PPS} {τ : MPS} {S : GS} {g a : Nat → Nat → Int32} {ls : List Int32} {A : Nat}
def Fit (t : Nat → Int32) (n : Nat) (S : GS) (k i q : Nat) : Prop := May t n S k i ∧ AtOk t n S k i ∧ Hol t n S k i q = true ∧ Tok S k i q
/-- an element that no page may have there -/
def Unfit (t : Nat → Int32) (n : Nat) (S : GS) (k : Nat) : Prop := S.el k = true ∧ ¬ ∃ i q, kOf t n S k = some i ∧ q ≤ S.K ∧ S.pa k = nI q ∧ Fit t n S k i q
theorem unfit_iff (h : KN σ τ t n S g a ls A) {k i q : Nat} (he : S.el k = true) (hi : kOf t n S k = some i) (hq : S.pa k = nI q) (hqK : q ≤ S.K) : Unfit t n S k ↔ ¬ Fit t n S k i q := by
  have hK := h.K
  constructor
  · intro z y
    exact z.2 ⟨i, q, hi, hqK, hq, y⟩
  · intro z
    refine ⟨he, fun ⟨i', q', y1, y2, y3, y4⟩ => z ?_⟩
    rw [hi] at y1; cases y1
    rw [hq] at y3
    have : q = q' := (nI_eq (by omega) (by omega)).mp y3
    subst this
    exact y4
theorem unfit_none {k : Nat} (he : S.el k = true) (hi : kOf t n S k = none) : Unfit t n S k := ⟨he, fun ⟨i, q, y, _⟩ => by rw [hi] at y; cases y⟩
theorem unfit_text {k : Nat} (he : S.el k = false) : ¬ Unfit t n S k := fun z => by have := z.1; rw [he] at this; cases this
theorem kOf_el {k i : Nat} (h : kOf t n S k = some i) : S.el k = true := by
  unfold kOf at h
  by_cases he : S.el k = true
  · exact he
  · rw [if_neg he] at h; cases h
theorem k_firstUnfit (h : KN σ τ t n S g a ls A) {post : Int32 → Prop} (h1 : ∀ k, k < S.K → Unfit t n S k → (∀ j, j < k → ¬ Unfit t n S j) → post (nI (S.bg k))) (h0 : (∀ k, k < S.K → ¬ Unfit t n S k) → post (-1)) : w_Insp_firstUnfit σ post := by
  have hK := h.K
  have key : ∀ m k, k + m = S.K → (∀ j, j < k → ¬ Unfit t n S j) → w_Insp_firstUnfit_L2 σ post (m + 1) (nI k) := by
    intro m
    induction m with
    | zero =>
      intro k hk hno
      unfold w_Insp_firstUnfit_L2
      rw [h.bk.nd.1]
      exact br_t (nI_le (by omega) (by omega)) (h0 (fun j hj => hno j (by omega)))
    | succ m ih =>
      intro k hk hno
      have hkK : k < S.K := by omega
      have cont : ¬ Unfit t n S k → w_Insp_firstUnfit_J93 σ (w_Insp_firstUnfit_L2 σ post (m + 1)) post (nI k) := fun hne => by
        unfold w_Insp_firstUnfit_J93
        rw [nI_1]
        refine ih (k + 1) (by omega) (fun j hj => ?_)
        by_cases e : j = k
        · rw [e]; exact hne
        · exact hno j (by omega)
      have J0 : (S.el k = true → Unfit t n S k) → w_Insp_firstUnfit_J66 σ (w_Insp_firstUnfit_L2 σ post (m + 1)) post (nI k) := fun hu => by
        unfold w_Insp_firstUnfit_J66 w_Insp_firstUnfit_J67
        rw [h.bEle hkK]
        cases he : S.el k with
        | false => exact bl_f rfl (cont (unfit_text he))
        | true =>
          refine bl_t rfl (br_t rfl ?_)
          rw [show tGet 14 (pNd σ) (nI k) 2 = nI (S.bg k) from (h.get (c := 2) rfl hkK (by decide)).trans (h.bk.row k hkK).lnk.c2]
          exact h1 k hkK (hu he) hno
      have J1 : ¬ Unfit t n S k → w_Insp_firstUnfit_J67 σ (w_Insp_firstUnfit_L2 σ post (m + 1)) post (nI k) 1 := fun hu => by
        unfold w_Insp_firstUnfit_J67
        rw [h.bEle hkK]
        cases he : S.el k with
        | false => exact bl_f rfl (cont hu)
        | true => exact bl_t rfl (br_f (by decide) (cont hu))
      unfold w_Insp_firstUnfit_L2
      rw [h.bk.nd.1]
      refine br_f (nI_ge (by omega) (by omega)) (fa_eq ?_)
      rw [h.kind hkK]
      cases hki : kOf t n S k with
      | none => exact br_t rfl (J0 (fun he => unfit_none he hki))
      | some i =>
        have he := kOf_el hki
        have hi := kOf_lt hki
        obtain ⟨q, hq, hkq, hqK, _, hq5⟩ := h.past hkK
        have hu := unfit_iff h he hki hq hqK
        refine br_f (by intro z; cases z) (k_mayBeThere h hkK hki (fun hM => br_f (by decide) ?_) (fun hM => br_t rfl (J0 (fun _ => hu.mpr (fun z => hM z.1)))))
        refine k_hasFitAttributes h hkK hi (fun hA => br_f (by decide) ?_) (fun hA => br_t rfl (J0 (fun _ => hu.mpr (fun z => hA z.2.1))))
        refine k_holds h hkK hi hq hkq hqK ?_
        show ((b2i (Hol t n S k i q) = 0 → _) ∧ (¬ b2i (Hol t n S k i q) = 0 → _))
        cases hH : Hol t n S k i q with
        | false => exact bl_f rfl (J0 (fun _ => hu.mpr (fun z => by have := z.2.2.1; rw [hH] at this; cases this)))
        | true =>
          refine bl_t rfl (k_hasFitText h hkK hi hq hkq hqK (fun hT => br_f (by decide) (J1 (fun z => hu.mp z ⟨hM, hA, hH, hT⟩))) (fun hT => br_t rfl (J0 (fun _ => hu.mpr (fun z => hT z.2.2.2)))))
  exact ⟨_, key S.K 0 (Nat.zero_add _) (fun j hj => absurd hj (Nat.not_lt_zero j))⟩
theorem r_isPageL (h : KN σ τ t n S g a ls A) (hf : mp_fault τ = 0) {post : Int32 → MPS → Prop} (h1 : ∀ k τ', k < S.K → Unfit t n S k → (∀ j, j < k → ¬ Unfit t n S j) → Jt τ τ' → post 0 (ms_faultAt (ms_fault τ' 2) (nI (S.bg k)))) (h0 : (∀ k, k < S.K → ¬ Unfit t n S k) → ∀ τ', Jt τ τ' → post 1 τ') : ∃ f, w_M_isPage_L33 post f 0 τ := by
  have hK := h.K
  have hn := h.mt.2.1
  have key : ∀ m k τ1, k + m = S.K → Jt τ τ1 → (∀ j, j < k → ¬ Unfit t n S j) → w_M_isPage_L33 post (m + 2) (nI k) τ1 := by
    intro m
    induction m with
    | zero =>
      intro k τ1 hk j1 hno
      show w_M_isPage_L33 post (1 + 1) (nI k) τ1
      unfold w_M_isPage_L33 w_M_isPage_J165
      rw [(h.js j1.1).mb.1]
      refine br_t (nI_le (by omega) (by omega)) (br_t ((j1.1.1 9 (by decide)).trans hf) (h0 (fun j hj => hno j (by omega)) τ1 j1))
    | succ m ih =>
      intro k τ1 hk j1 hno
      have hkK : k < S.K := by omega
      have h1' := h.js j1.1
      have cont : ∀ τ2, Jt τ τ2 → ¬ Unfit t n S k → w_M_isPage_J159 (w_M_isPage_L33 post (m + 2)) post (nI k) τ2 := fun τ2 j2 hne => by
        unfold w_M_isPage_J159
        rw [nI_1]
        refine ih (k + 1) τ2 (by omega) j2 (fun j hj => ?_)
        by_cases e : j = k
        · rw [e]; exact hne
        · exact hno j (by omega)
      have J0 : ∀ τ2, Jt τ τ2 → Unfit t n S k → w_M_isPage_J142 (w_M_isPage_L33 post (m + 2)) post (nI k) τ2 := fun τ2 j2 hU => by
        unfold w_M_isPage_J142 w_M_isPage_J143 w_M_tell w_M_isPage_J159
        rw [nI_clamp (by omega), ((h.js j2.1).mb.2.2 k hkK).bg, nI_1]
        refine br_t rfl ⟨h.in_ hkK, fa_eq (fa_eq ?_)⟩
        have fin := h1 k τ2 hkK hU hno j2
        unfold w_M_isPage_L33 w_M_isPage_J165
        have hf3 : ¬ mp_fault (ms_faultAt (ms_fault τ2 2) (nI (S.bg k))) = 0 := by show ¬ (2 : Int32) = 0; decide
        exact ⟨fun _ => br_f hf3 fin, fun _ => br_f hf3 (br_f hf3 fin)⟩
      show w_M_isPage_L33 post ((m + 2) + 1) (nI k) τ1
      unfold w_M_isPage_L33
      rw [h1'.mb.1]
      refine br_f (nI_ge (by omega) (by omega)) (br_t ((j1.1.1 9 (by decide)).trans hf) ⟨h.in_ hkK, ?_⟩)
      rw [h1'.isEl hkK]
      cases he : S.el k with
      | false => exact bl_f rfl (cont τ1 j1 (unfit_text he))
      | true =>
        refine bl_t rfl (r_kindOf h1' hkK he ?_)
        refine r_may h1' hkK he (fun i hki hM => ?_) (fun hM => J0 τ1 j1 ⟨he, fun ⟨i, q, y1, y2, y3, y4⟩ => hM i y1 y4.1⟩)
        have hi := kOf_lt hki
        obtain ⟨q, hq, hkq, hqK, _, hq5⟩ := h.past hkK
        have hu := unfit_iff h he hki hq hqK
        unfold w_M_isPage_J111
        refine r_hasGoodAttributes h1' hkK he hi (fun v hv τ2 j2 => ?_)
        have ha := atOk_iff h1' hkK he hi hv
        have j12 := j1.trans j2
        have h2' := h.js j12.1
        revert ha
        generalize (v && kok i (nms t n S k) && (!decide (i = 6) || sN t n S k)) = w
        intro ha
        cases w with
        | false => exact bl_f rfl (J0 τ2 j12 (hu.mpr (fun z => by have := ha.mpr z.2.1; cases this)))
        | true =>
          have hA := ha.mp rfl
          refine bl_t rfl (r_holdsAll h2' hkK hi hkq hqK hq5 ?_)
          cases hH : Hol t n S k i q with
          | false => exact bl_f rfl (J0 τ2 j12 (hu.mpr (fun z => by have := z.2.2.1; rw [hH] at this; cases this)))
          | true =>
            refine bl_t rfl (r_hasGoodText h2' hkK hi hkq hqK hq5 (fun hT τ3 d => br_f (by decide) ?_) (fun hT τ3 d => br_t rfl (J0 τ3 (j12.trans (d.jt (by decide) (by decide))) (hu.mpr (fun z => hT z.2.2.2)))))
            unfold w_M_isPage_J143
            exact br_f (by decide) (cont τ3 (j12.trans (d.jt (by decide) (by decide))) (fun z => hu.mp z ⟨hM, hA, hH, hT⟩))
  exact ⟨_, key S.K 0 τ (Nat.zero_add _) (Jt.refl τ) (fun j hj => absurd hj (Nat.not_lt_zero j))⟩
theorem c4_isPage {f : Nat → Int64} (h : RL σ τ) {next : PPS → MPS → (Nat → Int64) → Prop} (hq : ∀ σ' τ' g, RL σ' τ' → next σ' τ' g) : w_L_isPage σ f (fun r v g => w_M_isPage τ (fun r' τ' => lawB r g r' (mp_thrown τ') (next v τ' g))) := by
  unfold w_L_isPage w_X_isPage
  rcases h.book with ⟨k0, hE⟩ | ⟨t, n, S, g, a, ls, A, hK⟩
  · refine br_t hE.1 ?_
    unfold w_M_isPage w_M_isPage_J13
    refine br_t k0 (fa_eq (br_f (by show ¬ (1 : Int32) ≤ 0; decide) ?_))
    exact lawB_t (hq _ _ _ (h.js (Js.set τ (by decide))))
  · have hK9 := hK.K
    have hpos := hK.pos
    refine br_f (by rw [hK.bk.nd.1]; exact nI_ne0 hpos (by omega)) ?_
    have J0 : Js τ (ms_thrown τ 0) := Js.set τ (by decide)
    have h2 := (h.js J0).flt 0 (-1)
    have hKf : KN σ (ms_faultAt (ms_fault (ms_thrown τ 0) 0) (-1)) t n S g a ls A := by
      have := hK.js J0
      exact ⟨this.rd, this.inv, this.gd, this.pos, this.bk, ⟨this.mb.1, this.mb.2.1, fun k hk => (this.mb.2.2 k hk).mv (fun j _ _ => rfl) rfl rfl rfl rfl rfl rfl rfl rfl⟩, ⟨this.mt.1, this.mt.2.1, this.mt.2.2⟩, this.kn⟩
    have entry : ∀ {post : Int32 → MPS → Prop}, (∃ fu, w_M_isPage_L33 post fu 0 (ms_faultAt (ms_fault (ms_thrown τ 0) 0) (-1))) → w_M_isPage τ post := fun {post} hL => by
      unfold w_M_isPage w_M_isPage_J13 w_M_tell
      exact br_f (by rw [hK.kn]; decide) (fa_eq (br_t (by show (0 : Int32) ≤ 0; decide) (fa_eq (fa_eq hL))))
    refine k_firstUnfit hK (fun k hk hA hno => ?_) (fun hno => ?_)
    · have hbm : ¬ nI (S.bg k) = -1 := nI_m1 (by
        have := (hK.gd.nm k hk hA.1).len
        have := hK.inv.n4
        omega)
      unfold w_X_keepFault w_X_keepFault_J11
      refine br_f hbm (fa_eq (fa_eq (br_f hbm ⟨nar_0, br_t rfl (entry (r_isPageL hKf rfl (fun k' τ' hk' hA' hno' js => ?_) (fun hno' => absurd hA (hno' k hk))))⟩)))
      have : k' = k := by
        rcases Nat.lt_trichotomy k' k with z | z | z
        · exact absurd hA' (hno k' z)
        · exact z
        · exact absurd hA (hno' k z)
      subst this
      rw [show mp_thrown (ms_faultAt (ms_fault τ' 2) (nI (S.bg k'))) = 0 from js.2]
      refine lawB_0 (hq _ _ _ ?_)
      have h3 : RL σ (ms_faultAt (ms_fault τ' (pFs σ)) (pFp σ)) := by
        have h5 := (h2.js js.1).flt (pFs σ) (pFp σ)
        exact h5
      have h6 := h3.flt 2 (nI (S.bg k'))
      have e : ms_faultAt (ms_fault (ms_faultAt (ms_fault τ' (pFs σ)) (pFp σ)) 2) (nI (S.bg k')) = ms_faultAt (ms_fault τ' 2) (nI (S.bg k')) := flt_flt
      rw [e] at h6
      exact h6
    · unfold w_X_keepFault w_X_keepFault_J11
      refine br_t rfl (fa_eq (fa_eq (br_t rfl ⟨nar_1, br_f (by decide) (entry (r_isPageL hKf rfl (fun k' τ' hk' hA' _ _ => absurd hA' (hno k' hk')) (fun _ τ' js => ?_)))⟩)))
      rw [show mp_thrown τ' = 0 from js.2]
      exact lawB_1 (hq _ _ _ (h2.js js.1))
end PG
