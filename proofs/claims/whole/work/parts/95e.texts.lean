/-! PURE: the texts that an element holds. -/
section TXS
variable {t : Nat → Int32} {n : Nat} {σ : PPS} {τ : MPS} {S : GS} {g a : Nat → Nat → Int32} {ls : List Int32} {A : Nat}
def allW (L : List Int32) : Bool := L.all cWh
/-- a text that may be there -/
def Tgd (S : GS) (k i j : Nat) : Prop := S.up j = nI k → S.el j = false → kSays i 512 = true ∧ allW (S.cs j) = true
def Tok (S : GS) (k i q : Nat) : Prop := kSays i 256 = true ∨ ∀ j, k < j → j < q → Tgd S k i j
theorem k_isWhiteText (h : KN σ τ t n S g a ls A) {k : Nat} (hk : k < S.K) (he : S.el k = false) {post : Int32 → Prop} (hq : post (b2i (allW (S.cs k)))) : w_Insp_isWhiteText σ (nI k) post := by
  obtain ⟨f, l8, l3, lS⟩ := (h.bk.row k hk).let_
  have hl : lets t n S k = S.cs k := by unfold lets; rw [if_neg (by rw [he]; decide)]
  rw [hl] at l3 lS
  have hSl := lS.1
  have hlsl := h.lsl
  have e8 : tGet 14 (pNd σ) (nI k) 8 = nI f := (h.get (c := 8) rfl hk (by decide)).trans l8
  have e3 : tGet 14 (pNd σ) (nI k) 3 = nI (S.cs k).length := (h.get (c := 3) rfl hk (by decide)).trans l3
  unfold w_Insp_isWhiteText
  rw [e8, e3]
  have key : ∀ (R M : List Int32), S.cs k = M ++ R → post (b2i (allW R)) → ∃ fu, w_Insp_isWhiteText_L24 σ (nI f) (nI (S.cs k).length) post fu (nI M.length) := by
    intro R
    induction R with
    | nil =>
      intro M hM hp
      refine ⟨1, ?_⟩
      unfold w_Insp_isWhiteText_L24
      rw [hM, List.append_nil]
      exact br_t (nI_le (Nat.le_refl _) (by rw [hM, List.append_nil] at hSl; omega)) hp
    | cons c R ih =>
      intro M hM hp
      have hML : M.length < (S.cs k).length := by rw [hM, List.length_append]; simp only [List.length_cons]; omega
      have ec : bLet σ (nI f) (nI (S.cs k).length) (nI M.length) = c := by
        rw [bLet_seg h.bk.le hlsl lS (by omega), hM, List.getElem?_append_right (Nat.le_refl _), Nat.sub_self]; rfl
      have ea : allW (c :: R) = (cWh c && allW R) := rfl
      rw [ea] at hp
      cases hc : cWh c with
      | false =>
        rw [hc] at hp
        refine ⟨1, ?_⟩
        unfold w_Insp_isWhiteText_L24
        rw [ec]
        exact br_f (nI_ge hML (by omega)) (bl_f hc hp)
      | true =>
        rw [hc] at hp
        obtain ⟨fu, hfu⟩ := ih (M ++ [c]) (by rw [hM, List.append_assoc]; rfl) hp
        rw [List.length_append] at hfu
        refine ⟨fu + 1, ?_⟩
        unfold w_Insp_isWhiteText_L24
        rw [ec, nI_1]
        exact br_f (nI_ge hML (by omega)) (bl_t hc hfu)
  exact key (S.cs k) [] rfl hq
theorem k_hasFitText (h : KN σ τ t n S g a ls A) {k i q : Nat} (hk : k < S.K) (hi : i < 23) (hq : S.pa k = nI q) (hkq : k < q) (hqK : q ≤ S.K) {post : Int32 → Prop} (h1 : Tok S k i q → post 1) (h0 : ¬ Tok S k i q → post 0) : w_Insp_hasFitText σ (nI k) (some i) post := by
  have hK := h.K
  have e10 : tGet 14 (pNd σ) (nI k) 10 = nI q := ((h.get (c := 10) rfl hk (by decide)).trans (h.bk.row k hk).c10).trans hq
  unfold w_Insp_hasFitText
  refine ⟨i, rfl, hi, ?_⟩
  cases hs : kSays i 256 with
  | true => exact bl_t rfl (h1 (Or.inl hs))
  | false =>
    refine bl_f rfl ?_
    rw [nI_1]
    have key : ∀ m b, b + m = q → k < b → (∀ j, k < j → j < b → Tgd S k i j) → ∃ f, w_Insp_hasFitText_L16 σ (nI k) (some i) post f (nI b) := by
      intro m
      induction m with
      | zero =>
        intro b hb hkb ha
        refine ⟨1, ?_⟩
        unfold w_Insp_hasFitText_L16
        rw [e10]
        exact br_t (nI_le (by omega) (by omega)) (h1 (Or.inr (fun j a c => ha j a (by omega))))
      | succ m ih =>
        intro b hb hkb ha
        have hbK : b < S.K := by omega
        have g1 := h.g1 hbK
        have bad : ¬ Tgd S k i b → post 0 := fun hz => h0 (fun y => by
          rcases y with y | y
          · rw [hs] at y; cases y
          · exact hz (y b hkb (by omega)))
        have cont : Tgd S k i b → ∃ f, w_Insp_hasFitText_L16 σ (nI k) (some i) post f (nI (b + 1)) := fun hz => ih (b + 1) (by omega) (by omega) (fun j a c => by
          by_cases e : j = b
          · rw [e]; exact hz
          · exact ha j a (by omega))
        by_cases hup : S.up b = nI k
        · cases hel : S.el b with
          | true =>
            obtain ⟨f, hf⟩ := cont (fun _ z => by rw [hel] at z; cases z)
            refine ⟨f + 1, ?_⟩
            unfold w_Insp_hasFitText_L16 w_Insp_hasFitText_J58 w_Insp_hasFitText_J59 w_Insp_hasFitText_J86
            rw [e10, g1, h.bEle hbK, nI_1]
            exact br_f (nI_ge (by omega) (by omega)) (br_t hup (bl_t hel (br_t rfl hf)))
          | false =>
            cases hw : kSays i 512 with
            | false =>
              refine ⟨1, ?_⟩
              unfold w_Insp_hasFitText_L16 w_Insp_hasFitText_J59
              rw [e10, g1, h.bEle hbK]
              refine br_f (nI_ge (by omega) (by omega)) (br_t hup (bl_f hel (br_f (by decide) ⟨i, rfl, hi, bl_f hw (bad (fun z => ?_))⟩)))
              have := (z hup hel).1
              rw [hw] at this; cases this
            | true =>
              cases hW : allW (S.cs b) with
              | false =>
                refine ⟨1, ?_⟩
                unfold w_Insp_hasFitText_L16 w_Insp_hasFitText_J59
                rw [e10, g1, h.bEle hbK]
                refine br_f (nI_ge (by omega) (by omega)) (br_t hup (bl_f hel (br_f (by decide) ⟨i, rfl, hi, bl_t hw (k_isWhiteText h hbK hel ?_)⟩)))
                rw [hW]
                refine bl_f rfl (bad (fun z => ?_))
                have := (z hup hel).2
                rw [hW] at this; cases this
              | true =>
                obtain ⟨f, hf⟩ := cont (fun _ _ => ⟨hw, hW⟩)
                refine ⟨f + 1, ?_⟩
                unfold w_Insp_hasFitText_L16 w_Insp_hasFitText_J59 w_Insp_hasFitText_J86
                rw [e10, g1, h.bEle hbK, nI_1]
                refine br_f (nI_ge (by omega) (by omega)) (br_t hup (bl_f hel (br_f (by decide) ⟨i, rfl, hi, bl_t hw (k_isWhiteText h hbK hel ?_)⟩)))
                rw [hW]
                exact bl_t rfl hf
        · obtain ⟨f, hf⟩ := cont (fun z => absurd z hup)
          refine ⟨f + 1, ?_⟩
          unfold w_Insp_hasFitText_L16 w_Insp_hasFitText_J58 w_Insp_hasFitText_J59 w_Insp_hasFitText_J86
          rw [e10, g1, nI_1]
          exact br_f (nI_ge (by omega) (by omega)) (br_f hup (br_t rfl hf))
    exact key (q - (k + 1)) (k + 1) (by omega) (by omega) (fun j a c => by omega)
theorem r_white_L {v2 : Int32} {j e : Nat} {K10 : Int32 → Int32 → MPS → Prop} {post : Int32 → MPS → Prop} (hin : vp_in (nI j) 1000) : ∀ {L : List Int32} {p : Nat} {τ1 : MPS}, MT τ1 t n → e ≤ n → mp_ends τ1 (nI j).toNatClampNeg = nI e → Chars t n 60 p e L → (∀ τ', Df [12] τ1 τ' → w_M_hasGoodText_J98 v2 K10 post (b2i (allW L)) (nI j) τ') → w_M_hasGoodText_L60 v2 (nI j) K10 post (L.length + 1) 1 (nI p) τ1
  | [], p, τ1, hT, he, hE, h, hq => by
    have h : p = e := h
    have hn := hT.2.1
    subst h
    unfold w_M_hasGoodText_L60
    rw [hE]
    exact ⟨hin, br_t (nI_le (Nat.le_refl _) (by omega)) (hq τ1 (Df.refl τ1))⟩
  | c :: L, p, τ1, hT, he, hE, h, hq => by
    have hn := hT.2.1
    obtain ⟨_, _, _, k', f, hr⟩ := h
    have hf := chf_some f
    have hle := Chars.le hr
    show w_M_hasGoodText_L60 v2 (nI j) K10 post ((L.length + 1) + 1) 1 (nI p) τ1
    unfold w_M_hasGoodText_L60
    rw [hE]
    refine ⟨hin, br_f (nI_ge (by omega) (by omega)) (br_f (by decide) (r_characterOf hT (by omega) (fun c' e' τ' hc d w => ?_) (fun hc => by rw [f] at hc; cases hc)))⟩
    rw [f] at hc
    cases hc
    rw [w, nI_add, show p + (k' - p) = k' from by omega]
    have hE' : mp_ends τ' (nI j).toNatClampNeg = nI e := by rw [show mp_ends τ' = mp_ends τ1 from congrFun d.1 10]; exact hE
    cases hw : cWh c with
    | true => exact r_white_L hin (hT.df d (by decide)) he hE' hr (fun τ'' d2 => by
        have := hq τ'' (d.trans d2)
        rw [show allW (c :: L) = allW L from by show (cWh c && allW L) = _; rw [hw]; rfl] at this
        exact this)
    | false =>
      have := hq τ' d
      rw [show allW (c :: L) = false from by show (cWh c && allW L) = _; rw [hw]; rfl] at this
      unfold w_M_hasGoodText_L60
      exact ⟨hin, ⟨fun _ => this, fun _ => br_t rfl this⟩⟩
theorem r_textL (h : KN σ τ t n S g a ls A) {k i q : Nat} (hk : k < S.K) (hi : i < 23) (hkq : k < q) (hqK : q ≤ S.K) (hq5 : q < S.K → S.dp q ≤ S.dp k) (hs : kSays i 256 = false) {post : Int32 → MPS → Prop} (h1 : (∀ j, k < j → j < q → Tgd S k i j) → ∀ τ', Df [12] τ τ' → post 1 τ') (h0 : ¬ (∀ j, k < j → j < q → Tgd S k i j) → ∀ τ', Df [12] τ τ' → post 0 τ') : ∀ (m b : Nat) (v : Int32) (τ1 : MPS), b + m = q → k < b → Df [12] τ τ1 → PtC S k b v → (∀ j, k < j → j < b → Tgd S k i j) → ∀ f, m + 2 ≤ f → w_M_hasGoodText_L10 (nI (i + 1)) post f 1 v τ1 := by
  have hK := h.K
  intro m
  induction m using Nat.strongRecOn with
  | ind m ih =>
    intro b v τ1 hbm hkb d1 hpt ha f hf
    obtain ⟨f, rfl⟩ : ∃ f', f = f' + 1 + 1 := ⟨f - 2, by omega⟩
    have h' := h.js (d1.js (by decide))
    unfold w_M_hasGoodText_L10
    rcases hpt with ⟨e, hno⟩ | ⟨j, e, hbj, hj, hup, hno⟩
    · subst e
      refine br_t (by decide) ⟨nar_1, h1 (fun j a c => ?_) τ1 d1⟩
      by_cases hjb : j < b
      · exact ha j a hjb
      · exact fun z => absurd z (hno j (by omega) (by omega))
    · subst e
      obtain ⟨_, hjq⟩ := h.inside hk hj hup hkq hq5
      have hnp : ¬ nI j < 0 := nI_pos (by omega)
      have hcj : (nI j).toNatClampNeg = j := nI_clamp (by omega)
      have hnx := h.ptNx hk hj hup
      have haj : ∀ i2, k < i2 → i2 < j → Tgd S k i i2 := fun i2 a c => by
        by_cases hjb : i2 < b
        · exact ha i2 a hjb
        · exact fun z => absurd z (hno i2 (by omega) c)
      have next : ∀ τ2, Df [12] τ τ2 → Tgd S k i j → w_M_hasGoodText_J98 (nI (i + 1)) (w_M_hasGoodText_L10 (nI (i + 1)) post (f + 1)) post 1 (nI j) τ2 := fun τ2 d2 hz => by
        unfold w_M_hasGoodText_J98
        refine ⟨h.in_ hj, ?_⟩
        rw [hcj, ((h.js (d2.js (by decide))).mb.2.2 j hj).nx]
        refine ih (q - (j + 1)) (by omega) (j + 1) (S.nx j) τ2 (by omega) (by omega) d2 hnx (fun i2 a c => ?_) (f + 1) (by omega)
        by_cases e : i2 = j
        · rw [e]; exact hz
        · exact haj i2 a (by omega)
      have stop : ∀ τ2, Df [12] τ τ2 → ¬ Tgd S k i j → w_M_hasGoodText_J98 (nI (i + 1)) (w_M_hasGoodText_L10 (nI (i + 1)) post (f + 1)) post 0 (nI j) τ2 := fun τ2 d2 hz => by
        unfold w_M_hasGoodText_J98
        refine ⟨h.in_ hj, ?_⟩
        have fin := h0 (fun y => hz (y j (by omega) hjq)) τ2 d2
        unfold w_M_hasGoodText_L10
        exact ⟨fun _ => ⟨nar_0, fin⟩, fun _ => br_t rfl ⟨nar_0, fin⟩⟩
      refine br_f hnp (br_f (by decide) (r_mayHaveText ?_))
      rw [mht_eq i hi, hs]
      refine bl_f rfl ⟨h.in_ hj, ?_⟩
      rw [h'.isEl hj]
      cases hel : S.el j with
      | true => exact bl_t rfl (next τ1 d1 (fun _ z => by rw [hel] at z; cases z))
      | false =>
        refine bl_f rfl ?_
        obtain ⟨hC, hen⟩ := h.txe hj hel
        have hrow := h'.mb.2.2 j hj
        have hE : mp_ends τ1 (nI j).toNatClampNeg = nI (S.en j) := by rw [hcj]; exact hrow.en hel
        have hw := wht_eq i hi hs
        unfold w_M_hasGoodText_J50
        rw [hcj, hrow.bg]
        refine ⟨fun e21 => ⟨h.in_ hj, ?_⟩, fun e21 => ⟨h.in_ hj, ?_⟩⟩
        · rw [decide_eq_true e21] at hw
          have hw5 : kSays i 512 = false := by cases hc : kSays i 512 <;> simp [hc] at hw ⊢
          have st := stop τ1 d1 (fun z => by have := (z hup hel).1; rw [hw5] at this; cases this)
          refine ⟨1, ?_⟩
          unfold w_M_hasGoodText_L60
          exact ⟨h.in_ hj, ⟨fun _ => st, fun _ => br_t rfl st⟩⟩
        · rw [decide_eq_false e21] at hw
          have hw5 : kSays i 512 = true := by cases hc : kSays i 512 <;> simp [hc] at hw ⊢
          refine ⟨_, r_white_L (h.in_ hj) h'.mt hen hE hC (fun τ2 d2 => ?_)⟩
          have d12 := d1.trans d2
          cases hW : allW (S.cs j) with
          | true => exact next τ2 d12 (fun _ _ => ⟨hw5, hW⟩)
          | false => exact stop τ2 d12 (fun z => by have := (z hup hel).2; rw [hW] at this; cases this)
theorem r_hasGoodText (h : KN σ τ t n S g a ls A) {k i q : Nat} (hk : k < S.K) (hi : i < 23) (hkq : k < q) (hqK : q ≤ S.K) (hq5 : q < S.K → S.dp q ≤ S.dp k) {post : Int32 → MPS → Prop} (h1 : Tok S k i q → ∀ τ', Df [12] τ τ' → post 1 τ') (h0 : ¬ Tok S k i q → ∀ τ', Df [12] τ τ' → post 0 τ') : w_M_hasGoodText τ (nI k) (nI (i + 1)) post := by
  have hK := h.K
  unfold w_M_hasGoodText
  refine ⟨h.in_ hk, ?_⟩
  rw [nI_clamp (by omega), (h.mb.2.2 k hk).fs]
  cases hs : kSays i 256 with
  | false =>
    exact ⟨_, r_textL h hk hi hkq hqK hq5 hs (fun z => h1 (Or.inr z)) (fun z => h0 (fun y => by
      rcases y with y | y
      · rw [hs] at y; cases y
      · exact z y)) (q - (k + 1)) (k + 1) _ τ (by omega) (by omega) (Df.refl τ) (h.ptFs hk) (fun j a c => by omega) _ (Nat.le_refl _)⟩
  | true =>
    refine ⟨1, ?_⟩
    have fin := h1 (Or.inl hs) τ (Df.refl τ)
    unfold w_M_hasGoodText_L10
    refine ⟨fun _ => ⟨nar_1, fin⟩, fun _ => br_f (by decide) (r_mayHaveText ?_)⟩
    rw [mht_eq i hi, hs]
    exact bl_t rfl ⟨nar_1, fin⟩
end TXS
