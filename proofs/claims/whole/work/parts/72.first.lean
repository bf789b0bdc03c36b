/-! PURE: the class reads the whole text. -/
section FF
variable {t : Nat → Int32} {n : Nat} {S : GS} {σ : PPS}
/-- the book is empty -/
def Emp (σ : PPS) : Prop := (pNd σ).1 = 0 ∧ (pAt σ).1 = 0 ∧ (pLe σ).1 = 0 ∧ pEl σ = 0
/-- the book holds what is read -/
def Hld (t : Nat → Int32) (n : Nat) (S : GS) (σ : PPS) : Prop := pEl σ = nI S.E ∧ ∃ g a ls A, Bk t n S (pNd σ) (pAt σ) (pLe σ) g a ls A
theorem k_J162 {post : Int32 → PPS → Prop} (h0 : ¬ pWr σ = -1 → ∀ σ', Emp σ' → kp σ' = kp σ → post (pWr σ) σ') (h1 : pWr σ = -1 → post (-1) σ) : w_Reader_firstFault_J162 post σ := by
  unfold w_Reader_firstFault_J162
  by_cases h : pWr σ = -1
  · refine br_t h ?_
    rw [h]; exact h1 h
  · refine br_f h (fa_eq (fa_eq (fa_eq (fa_eq ?_))))
    exact h0 h _ ⟨rfl, rfl, rfl, rfl⟩ rfl
theorem k_skipAny (hT : Tp σ t n) {post : PPS → Prop} (hq : ∀ v, post (sPs σ v)) : w_Reader_skipWhite σ post := by
  have hn := hT.2
  have stop : (cWh (sGet (pTp σ) (pPs σ)) = false ∨ (pTp σ).1 ≤ pPs σ) → w_Reader_skipWhite σ post := fun h => by
    refine ⟨1, ?_⟩
    unfold w_Reader_skipWhite_L0
    have : post σ := by have := hq (pPs σ); exact this
    rcases h with h | h
    · exact ⟨fun _ => this, fun _ => bl_f h this⟩
    · exact br_t h this
  rcases pk_ix (pPs σ) (n := n) (by omega) with h | h | ⟨k, hk, h⟩
  · exact stop (Or.inl (by rw [sG_neg h]; exact cWh_m))
  · exact stop (Or.inr (by rw [hT.sz]; exact h))
  · obtain ⟨e, hr⟩ := Runs.ex cWh_m t n k
    exact k_skipWhite hT h (by omega) hr (hq _)
theorem k_J123_bad {post : Int32 → PPS → Prop} {p : Nat} (hT : Tp σ t n) (hw : pWr σ = nI p) (hp : p ≤ 5000) (h0 : ∀ σ', Emp σ' → kp σ' = kp σ → post (nI p) σ') : w_Reader_firstFault_J123 post 0 σ := by
  unfold w_Reader_firstFault_J123
  refine k_skipAny hT (fun v => br_t rfl (k_J162 (fun _ σ' a b => ?_) (fun z => ?_)))
  · have : pWr (sPs σ v) = nI p := hw
    rw [this]; exact h0 σ' a b
  · have : pWr (sPs σ v) = nI p := hw
    rw [this] at z
    exact absurd z (nI_m1 (by omega))
theorem xx_lt' {k : Nat} {v : Int32} (h : xx t n k = v) (hv : ¬ v = -1) : k < n := xx_lt (by rw [h]; exact hv)
theorem NameF.le {k p : Nat} (h : NameF t n k p) (hk : k ≤ n) : p ≤ n := by
  rcases h with ⟨_, h⟩ | ⟨_, ⟨e, hr, h2⟩, h⟩
  · omega
  · have := hr.le cGn_m hk; omega
theorem BE.le {p : Nat} (h : BE t n S (.inl p)) (ha : S.at_ ≤ n) : p ≤ n := by
  rcases h with ⟨_, rfl⟩ | ⟨hx, h⟩
  · exact ha
  · exact h.le (by have := xx_lt' hx (by decide)
                   omega)
theorem AT.le {k na p : Nat} (h : AT t n S k na (.inl p)) (ha : na ≤ n) : p ≤ n := by
  rcases h with h | ⟨e, _, _, rfl⟩ | ⟨e, h, _, _, rfl⟩ | ⟨e, h, _, hx, _, rfl⟩ | ⟨e, cs, h, _, hx, hx2, hC, _⟩
  · exact h.le ha
  · exact ha
  · exact h.len.2
  · have := xx_lt' hx (by decide)
    omega
  · have := xx_lt' hx2 (by decide)
    exact (Chars.le hC).2.2 (by omega)
theorem IT.le {p : Nat} (h : IT t n S (.inl p)) (ha : S.at_ ≤ n) : p ≤ n := by
  rcases h with ⟨_, rfl⟩ | ⟨k, na, os, _, hw, _, _, hA⟩ | ⟨hw, _⟩ | ⟨q, hw, hx, _, rfl⟩
  · exact ha
  · exact hA.le (hw.le cWh_m ha)
  · exact hw.le cWh_m ha
  · have := xx_lt' hx (by decide)
    omega
theorem PC.le {p : Nat} (h : PC t n S (.inl p)) (ha : S.at_ ≤ n) : p ≤ n := by
  rcases h with ⟨_, h⟩ | ⟨_, hx, hx1, h⟩ | ⟨_, _, _, _, h⟩ | ⟨_, _, _, _, _, h⟩ | ⟨_, _, h⟩
  · exact h.le ha
  · have h2 := xx_lt' hx1 (by decide)
    rcases h with h | ⟨k, os, e, _, _, _, rfl⟩ | ⟨k, os, e, _, h, _, hw, _⟩
    · exact h.le (by omega)
    · omega
    · exact hw.le cWh_m h.len.2
  · cases h; exact ha
  · exact h.le ha
  · rcases h with ⟨_, rfl⟩ | ⟨cs, _, hC, _⟩
    · exact ha
    · exact (Chars.le hC).2.2 ha
theorem kp_tp {σ σ' : PPS} (h : kp σ' = kp σ) : pTp σ' = pTp σ := by
  have := congrArg (fun z : (Nat → Int32) × StS × StS × Int32 × Int32 => z.2.1) h
  exact this
theorem Tp.kp {σ σ' : PPS} (h : Tp σ t n) (e : kp σ' = kp σ) : Tp σ' t n := ⟨(kp_tp e).trans h.1, h.2⟩
/-- the loop over the pieces -/
theorem k_pieces (σ0 : PPS) {post : Int32 → PPS → Prop} : ∀ (v : Nat) (S : GS) (σ : PPS), v ≤ 4000 → n - S.at_ < v → Inv t n S → CR t n S σ → kp σ = kp σ0 →
    (∀ p σ' m, RN t n m S (.inl p) → p ≤ n → Emp σ' → kp σ' = kp σ0 → post (nI p) σ') →
    (∀ S' p σ' m, RN t n m S (.inr S') → Runs cWh t n S'.at_ p → ¬ p = n → p ≤ n → Emp σ' → kp σ' = kp σ0 → post (nI p) σ') →
    (∀ S' σ' m, RN t n m S (.inr S') → Runs cWh t n S'.at_ n → Hld t n S' σ' → kp σ' = kp σ0 → post (-1) σ') →
    w_Reader_firstFault_L57 post (v + 1) 1 (nI v) σ := by
  intro v
  induction v with
  | zero => intro S σ _ h; omega
  | succ v ih =>
    intro S σ hv4 hlt hI hC hkp h0 h2 h1
    have hn := hI.n4
    have han := hI.an
    by_cases hop : S.op = []
    · have hJ : w_Reader_firstFault_J123 post 1 σ := by
        unfold w_Reader_firstFault_J123
        obtain ⟨p, hr⟩ := Runs.ex cWh_m t n S.at_
        have hpn := hr.le cWh_m han
        refine k_skipWhite hC.tp hC.ps han hr (br_f (by decide) ?_)
        refine br_t (by show pOp σ = -1; rw [hC.op, hop]; rfl) ?_
        rw [show (pTp (sPs σ (nI p))).1 = nI n from hC.tp.sz]
        show (nI p = nI n → _) ∧ (¬ nI p = nI n → _)
        refine pk_eq p n (fun e => ?_) (fun e => ?_) rfl rfl (by omega) (by omega)
        · subst e
          refine k_J162 (fun z => absurd hC.wr z) (fun _ => ?_)
          obtain ⟨g, a, ls, A, hb⟩ := hC.bk
          exact h1 S _ 0 (Or.inl ⟨hop, rfl⟩) hr ⟨hC.el, g, a, ls, A, hb⟩ hkp
        · unfold w_Reader_firstFault_J153
          refine k_refuse (k_J162 (fun _ σ' a b => ?_) (fun z => ?_))
          · exact h2 S p σ' 0 (Or.inl ⟨hop, rfl⟩) hr e hpn a (b.trans hkp)
          · have z : nI p = -1 := z
            exact absurd z (nI_m1 (by omega))
      unfold w_Reader_firstFault_L57
      refine ⟨fun _ => hJ, fun _ => br_f (by decide) (br_t (by rw [hC.op, hop]; rfl) hJ)⟩
    · -- a piece
      have bad : ∀ p σ', PC t n S (.inl p) → pWr σ' = nI p → kp σ' = kp σ → w_Reader_firstFault_J117 (w_Reader_firstFault_L57 post (v + 1)) post 0 (nI (v + 1)) σ' := fun p σ' hP hw hk => by
        have hpn := hP.le han
        have hJ : w_Reader_firstFault_J123 post 0 σ' := k_J123_bad (hC.tp.kp hk) hw (by omega) (fun σ'' a b => h0 p σ'' 0 (Or.inr ⟨hop, p, hP, rfl⟩) hpn a (b.trans (hk.trans hkp)))
        unfold w_Reader_firstFault_J117
        rw [pk_m1]
        unfold w_Reader_firstFault_L57
        exact ⟨fun _ => hJ, fun _ => br_t rfl hJ⟩
      have good : ∀ S' σ', PC t n S (.inr S') → CR t n S' σ' → kp σ' = kp σ → w_Reader_firstFault_J117 (w_Reader_firstFault_L57 post (v + 1)) post 1 (nI (v + 1)) σ' := fun S' σ' hP hC' hk => by
        obtain ⟨hI', hat⟩ := hI.pc hop hP
        have han' := hI'.an
        unfold w_Reader_firstFault_J117
        rw [pk_m1]
        exact ih S' σ' (by omega) (by omega) hI' hC' (hk.trans hkp) (fun p σ'' m hR => h0 p σ'' (m + 1) ⟨hop, S', hP, hR⟩) (fun S'' p σ'' m hR => h2 S'' p σ'' (m + 1) ⟨hop, S', hP, hR⟩) (fun S'' σ'' m hR => h1 S'' σ'' (m + 1) ⟨hop, S', hP, hR⟩)
      unfold w_Reader_firstFault_L57
      obtain ⟨k, os, hop2⟩ : ∃ k os, S.op = k :: os := by
        cases h : S.op with
        | nil => exact absurd h hop
        | cons k os => exact ⟨k, os, rfl⟩
      have ho := hI.opn
      rw [hop2] at ho
      have hkK := ho.1
      have hK := hI.k900
      refine br_f (nI_nle (by omega) (by omega)) (br_f (by decide) (br_f (by rw [hC.op, hop2]; exact nI_m1 (by omega)) ?_))
      rw [hC.it hop, show sGet (pTp σ) (pPs σ) = xx t n S.at_ from by rw [hC.ps]; exact hC.tp.get (by omega)]
      by_cases hit : S.it = true
      · exact bl_t hit (k_readInTag hC hit hop hI (fun p σ' h => bad p σ' (PC.it hit h)) (fun S' σ' h => good S' σ' (PC.it hit h)))
      · have hit : S.it = false := Bool.eq_false_iff.mpr hit
        refine bl_f hit ?_
        by_cases hx : xx t n S.at_ = 60
        · exact br_t hx (k_readTag hC hit hop hI hx bad good)
        · exact br_f hx (k_readText hC hit hop hI hx (fun p σ' h => bad p σ' (PC.tx hit hx h)) (fun S' σ' h => good S' σ' (PC.tx hit hx h)))
theorem inv0 {a : Nat} (ha : a ≤ n) (hn : n ≤ 4000) : Inv t n (G0 a) :=
  ⟨rfl, Nat.zero_le _, Nat.le_refl _, Nat.le_refl _, fun z => absurd rfl z, trivial, Nat.zero_le _, fun r hr => absurd hr (Nat.not_lt_zero r), ha, hn⟩
theorem k_firstFault (hT : Tp σ t n) {post : Int32 → PPS → Prop} (h0 : ∀ p σ', RD t n (.inl p) → p ≤ n → Emp σ' → kp σ' = kp σ → post (nI p) σ') (h1 : ∀ S σ', RD t n (.inr S) → Hld t n S σ' → kp σ' = kp σ → post (-1) σ') : w_Reader_firstFault σ post := by
  have hn := hT.2
  unfold w_Reader_firstFault
  refine fa_eq (fa_eq (fa_eq (fa_eq (fa_eq (fa_eq ?_)))))
  show w_Reader_standsAt (mkS σ (sClr (pNd σ)) (sClr (pAt σ)) (sClr (pLe σ)) 0 (pPs σ) (-1) (pIn σ) (-1)) 0 0 _
  have rest : ∀ b, b ≤ n → (if stAt t n 0 0 = true then 38 else 0) = b → w_Reader_firstFault_J37 post (nI b) (mkS σ (sClr (pNd σ)) (sClr (pAt σ)) (sClr (pLe σ)) 0 (pPs σ) (-1) (pIn σ) (-1)) := fun b hb hbe => by
    unfold w_Reader_firstFault_J37
    refine fa_eq ?_
    show w_Reader_skipWhite (mkS σ (sClr (pNd σ)) (sClr (pAt σ)) (sClr (pLe σ)) 0 (nI b) (-1) (pIn σ) (-1)) _
    obtain ⟨a, hr⟩ := Runs.ex cWh_m t n b
    have han := hr.le cWh_m hb
    have hBeg : Beg t n a := by unfold Beg; rw [hbe]; exact hr
    refine k_skipWhite (by exact hT.mkS) (by rfl) hb hr ?_
    show w_Reader_beginElement (mkS σ (sClr (pNd σ)) (sClr (pAt σ)) (sClr (pLe σ)) 0 (nI a) (-1) (pIn σ) (-1)) _
    have hI := inv0 (t := t) han hn
    have hC : CR t n (G0 a) (mkS σ (sClr (pNd σ)) (sClr (pAt σ)) (sClr (pLe σ)) 0 (nI a) (-1) (pIn σ) (-1)) :=
      CR.mkS (g := fun _ _ => 0) (a := fun _ _ => 0) (ls := []) (A := 0) hT rfl rfl rfl rfl (fun z => absurd rfl z) ⟨Tab.clr, Tab.clr, Str.clr _, Nat.zero_le _, Nat.zero_le _, fun k hk => absurd hk (Nat.not_lt_zero k), fun z => by cases z⟩
    refine k_beginElement hC hI (by show 0 < 300; decide) (fun p σ' hB hw hk => ?_) (fun S σ' hB hC' hk => ?_)
    · have hpn := hB.le han
      have hJ : w_Reader_firstFault_J123 post 0 σ' := k_J123_bad ((hT.mkS).kp hk) hw (by omega) (fun σ'' x y => h0 p σ'' ⟨a, hBeg, Or.inl hB⟩ hpn x (y.trans hk))
      refine ⟨1, ?_⟩
      unfold w_Reader_firstFault_L57
      exact ⟨fun _ => hJ, fun _ => br_t rfl hJ⟩
    · obtain ⟨hI', hat, -, -⟩ := hI.be (by show 0 < 300; decide) (by show 0 < 40; decide) hB
      have hat : a + 2 ≤ S.at_ := hat
      have hSn := hI'.an
      rw [((hT.mkS).kp hk).sz]
      exact ⟨n + 1, k_pieces σ n S σ' hn (by omega) hI' hC' hk (fun p σ'' m hR => h0 p σ'' ⟨a, hBeg, Or.inr ⟨S, hB, m, Or.inl hR⟩⟩) (fun S' p σ'' m hR hr hne => h0 p σ'' ⟨a, hBeg, Or.inr ⟨S, hB, m, Or.inr ⟨S', hR, hr, hne⟩⟩⟩) (fun S' σ'' m hR hr => h1 S' σ'' ⟨a, hBeg, S, hB, m, hR, hr⟩)⟩
  refine k_standsAt (k := 0) (by decide) (by exact hT.mkS) (Nat.zero_le _) ?_
  by_cases hd : stAt t n 0 0 = true
  · refine bl_t hd ⟨by decide, ?_⟩
    have := stAt_end (m := 37) hd (by decide) (by decide +kernel)
    exact rest 38 (by omega) (if_pos hd)
  · exact bl_f (Bool.eq_false_iff.mpr hd) (rest 0 (Nat.zero_le _) (if_neg hd))
end FF
