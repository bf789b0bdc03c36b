/-! PURE: ids are looked for; find of both. -/
section FD
variable {t : Nat → Int32} {n : Nat} {σ : PPS} {τ : MPS} {S : GS} {g a : Nat → Nat → Int32} {ls : List Int32} {A : Nat}
/-- a node's id is W -/
def idIs (t : Nat → Int32) (n : Nat) (S : GS) (k : Nat) (W : List Int32) : Prop := ∃ B ∈ S.as k, seg t n B.na B.nl = tx 1 ∧ B.cs = W
theorem we1 : wEq 26980 2 1 := by unfold wEq; decide +kernel
theorem row_eq {f h : Nat → Int32} {V W : List Int32} (hv : ∀ i, i < V.length → V[i]? = some (f i)) (hw : ∀ i, i < W.length → W[i]? = some (h i)) (hl : V.length = W.length) (he : ∀ i, i < V.length → f i = h i) : V = W := by
  apply List.ext_getElem?
  intro i
  by_cases hi : i < V.length
  · rw [hv i hi, hw i (by omega), he i hi]
  · rw [List.getElem?_eq_none (by omega), List.getElem?_eq_none (by omega)]
theorem r_cmp {v1 v3 : Int32} {K4 : Int32 → Int32 → MPS → Prop} {post : Int32 → MPS → Prop} {V W : List Int32} (hv : Row (mp_valueMany τ) (mp_value τ) V) (hw : Row (mp_wantedMany τ) (mp_wanted τ) W) (hl : V.length = W.length) (hV : V.length ≤ 4000)
    (h1 : V = W → w_M_withId_J106 v1 K4 post v3 1 τ) (h0 : ¬ V = W → w_M_withId_J106 v1 K4 post v3 0 τ) : ∃ f, w_M_withId_L62 v1 v3 K4 post f 1 0 τ := by
  have key : ∀ q i, i + q = V.length → (∀ j, j < i → mp_value τ j = mp_wanted τ j) → ∃ f, w_M_withId_L62 v1 v3 K4 post f 1 (nI i) τ := by
    intro q
    induction q with
    | zero =>
      intro i hi ha
      refine ⟨1, ?_⟩
      unfold w_M_withId_L62
      rw [hv.1]
      exact br_t (nI_le (by omega) (by omega)) (h1 (row_eq hv.2 hw.2 hl (fun j hj => ha j (by omega))))
    | succ q ih =>
      intro i hi ha
      by_cases hc : mp_value τ i = mp_wanted τ i
      · obtain ⟨f, hf⟩ := ih (i + 1) (by omega) (fun j hj => by
          by_cases e : j = i
          · rw [e]; exact hc
          · exact ha j (by omega))
        refine ⟨f + 1, ?_⟩
        unfold w_M_withId_L62 w_M_withId_J98
        rw [hv.1, nI_clamp (by omega), nI_1]
        exact br_f (nI_ge (by omega) (by omega)) (br_f (by decide) ⟨vp_in_nI (by omega) (by decide), vp_in_nI (by omega) (by decide), br_t hc hf⟩)
      · refine ⟨2, ?_⟩
        unfold w_M_withId_L62 w_M_withId_J98
        rw [hv.1, nI_clamp (by omega)]
        refine br_f (nI_ge (by omega) (by omega)) (br_f (by decide) ⟨vp_in_nI (by omega) (by decide), vp_in_nI (by omega) (by decide), br_f hc ?_⟩)
        have hne : ¬ V = W := fun z => by
          subst z
          have := hw.2 i (by omega)
          rw [hv.2 i (by omega)] at this
          exact hc (Option.some.inj this)
        unfold w_M_withId_L62
        exact ⟨fun _ => h0 hne, fun _ => br_t rfl (h0 hne)⟩
  exact key _ 0 (Nat.zero_add _) (fun j hj => absurd hj (Nat.not_lt_zero j))
theorem r_cmp0 {v1 v3 : Int32} {K4 : Int32 → Int32 → MPS → Prop} {post : Int32 → MPS → Prop} (h0 : w_M_withId_J106 v1 K4 post v3 0 τ) : ∃ f, w_M_withId_L62 v1 v3 K4 post f 0 0 τ := by
  refine ⟨1, ?_⟩
  unfold w_M_withId_L62
  exact ⟨fun _ => h0, fun _ => br_t rfl h0⟩
theorem Jw.row {τ' : MPS} {W : List Int32} (h : Jw τ τ') (hW : Row (mp_wantedMany τ) (mp_wanted τ) W) : Row (mp_wantedMany τ') (mp_wanted τ') W := by
  rw [show mp_wantedMany τ' = mp_wantedMany τ from h.1 36 (by decide), show mp_wanted τ' = mp_wanted τ from h.2 18 (by decide)]; exact hW
/-- one id of a node -/
theorem KN.idU (h : KN σ τ t n S g a ls A) {k : Nat} {B : Att} {W : List Int32} (hk : k < S.K) (he : S.el k = true) (hB : B ∈ S.as k) (hs : seg t n B.na B.nl = tx 1) : idIs t n S k W ↔ B.cs = W := by
  constructor
  · intro ⟨C, hC, hCs, hCW⟩
    obtain ⟨i, hi, ei⟩ := List.getElem_of_mem hB
    obtain ⟨j, hj, ej⟩ := List.getElem_of_mem hC
    have := h.gd.uq k hk he i j B C (by rw [List.getElem?_eq_getElem hi, ei]) (by rw [List.getElem?_eq_getElem hj, ej]) (by rw [hs, hCs])
    subst this
    rw [← ei, ej]; exact hCW
  · intro e
    exact ⟨B, hB, hs, e⟩
theorem r_withId (h : KN σ τ t n S g a ls A) {m : Nat} (hm : m ≤ S.K) {W : List Int32} (hW : Row (mp_wantedMany τ) (mp_wanted τ) W) (hW4 : W.length ≤ 4000) {post : Int32 → MPS → Prop}
    (h1 : ∀ k τ', k < m → idIs t n S k W → (∀ j, j < k → ¬ idIs t n S j W) → Jw τ τ' → post (nI k) τ') (h0 : (∀ k, k < m → ¬ idIs t n S k W) → ∀ τ', Jw τ τ' → post (-1) τ') : w_M_withId τ (nI m) post := by
  have hK := h.K
  have hn := h.mt.2.1
  have key : ∀ q i τ1, i + q = m → Jw τ τ1 → (∀ j, j < i → ¬ idIs t n S j W) → w_M_withId_L4 (nI m) post (q + 2) (-1) (nI i) τ1 := by
    intro q
    induction q with
    | zero =>
      intro i τ1 hi j1 hno
      show w_M_withId_L4 (nI m) post (1 + 1) (-1) (nI i) τ1
      unfold w_M_withId_L4
      exact br_t (nI_le (by omega) (by omega)) (h0 (fun k hk => hno k (by omega)) τ1 j1)
    | succ q ih =>
      intro i τ1 hi j1 hno
      have hk1 := h.js j1.js
      have hik : i < S.K := by omega
      have nextNo : ∀ τ2, Jw τ τ2 → ¬ idIs t n S i W → w_M_withId_J117 (nI m) (w_M_withId_L4 (nI m) post (q + 2)) post (-1) (nI i) τ2 := fun τ2 j2 hne => by
        unfold w_M_withId_J117
        rw [nI_1]
        refine ih (i + 1) τ2 (by omega) j2 (fun j hj => ?_)
        by_cases e : j = i
        · rw [e]; exact hne
        · exact hno j (by omega)
      show w_M_withId_L4 (nI m) post ((q + 2) + 1) (-1) (nI i) τ1
      unfold w_M_withId_L4
      refine br_f (nI_ge (by omega) (by omega)) (br_f (by decide) ⟨hk1.in_ hik, ?_⟩)
      rw [hk1.isEl hik]
      cases he : S.el i with
      | false =>
        refine bl_f rfl (nextNo τ1 j1 (fun z => ?_))
        obtain ⟨B, hB, _⟩ := z
        rw [h.gt.ta i hik he] at hB; cases hB
      | true =>
        refine bl_t rfl (r_hasAttribute (x := 1) (m := 2) (by decide) (by decide) we1 hk1 hik he (fun B τ2 hB hs d lat => br_f (by decide) ?_) (fun hall τ2 d => br_t rfl (nextNo τ2 (j1.trans d.jw) (fun z => ?_))))
        · obtain ⟨q2, hAL, _⟩ := h.al hik he
          obtain ⟨jx, hjx, ejx⟩ := List.getElem_of_mem hB
          obtain ⟨p', hAP⟩ := AL.get hAL (show (S.as i)[jx]? = some B by rw [List.getElem?_eq_getElem hjx, ejx])
          have hle := hAP.le
          have hcl := Chars.le hAP.ch
          refine r_takeValue (hk1.mt.df d (by decide)) hAP lat (fun τ3 jv hV => ?_)
          have j3 : Jw τ τ3 := (j1.trans d.jw).trans jv.jw
          have hW3 := j3.row hW
          have hid := h.idU (W := W) hik he hB hs
          have J1 : B.cs = W → w_M_withId_J106 (nI m) (w_M_withId_L4 (nI m) post (q + 2)) post (nI i) 1 τ3 := fun e => by
            unfold w_M_withId_J106 w_M_withId_J116 w_M_withId_J117
            refine br_f (by decide) ?_
            have fin := h1 i τ3 (by omega) (hid.mpr e) hno j3
            unfold w_M_withId_L4
            exact ⟨fun _ => fin, fun _ => br_t (nI_pos' (by omega)) fin⟩
          have J0 : ¬ B.cs = W → w_M_withId_J106 (nI m) (w_M_withId_L4 (nI m) post (q + 2)) post (nI i) 0 τ3 := fun e => by
            unfold w_M_withId_J106 w_M_withId_J116
            exact br_t rfl (nextNo τ3 j3 (fun z => e (hid.mp z)))
          unfold w_M_withId_J57
          rw [hV.1, hW3.1]
          refine pk_eq B.cs.length W.length (fun el => r_cmp hV hW3 el (by omega) J1 J0) (fun el => r_cmp0 (J0 (fun z => el (by rw [z])))) rfl rfl (by omega) (by omega)
        · obtain ⟨B, hB, hs, _⟩ := z
          exact hall B hB hs
  exact ⟨_, key m 0 τ (Nat.zero_add m) (Jw.refl τ) (fun j hj => absurd hj (Nat.not_lt_zero j))⟩
/-- the text from p on is just these characters -/
def Dec (t : Nat → Int32) (n : Nat) : Nat → List Int32 → Prop
  | p, [] => p = n
  | p, c :: L => u8 t n p = c ∧ Dec t n (p + cByN c) L
theorem u8_le {k : Nat} (hm : ¬ u8 t n k = -1) : k < n ∧ k + cByN (u8 t n k) ≤ n := by
  unfold u8 at hm ⊢
  by_cases h1 : 128 ≤ xx t n k
  · rw [if_pos h1] at hm ⊢
    by_cases h2 : xx t n k < 192
    · rw [if_pos h2] at hm; exact absurd rfl hm
    rw [if_neg h2] at hm ⊢
    by_cases h3 : xx t n k < 248
    · rw [if_pos h3] at hm ⊢
      have hw : 2 ≤ u8w (xx t n k) ∧ u8w (xx t n k) ≤ 4 := by
        unfold u8w
        split
        · split <;> decide
        · decide
      cases hr : u8r t n (u8w (xx t n k) - 1) (k + 1) (xx t n k &&& (127 >>> (nI (u8w (xx t n k)) &&& 31))) with
      | none => rw [hr] at hm; exact absurd rfl hm
      | some c =>
        rw [hr] at hm
        unfold u8f at hm ⊢
        simp only at hm ⊢
        by_cases hb : cCh c = true ∧ cBy c = nI (u8w (xx t n k))
        · rw [if_pos hb]
          have h4 := cByN_le c
          have e : cByN c = u8w (xx t n k) := by
            have := hb.2
            rw [cBy_N] at this
            exact (nI_eq (by omega) (by omega)).mp this
          rw [e]
          rcases u8r_some _ _ _ _ hr with a | a <;> omega
        · rw [if_neg hb] at hm; exact absurd rfl hm
    · rw [if_neg h3] at hm; exact absurd rfl hm
  · rw [if_neg h1] at hm ⊢
    have : k < n := xx_lt hm
    unfold cByN
    rw [if_pos (i_nle.mp h1)]; omega
theorem k_valueIs {r f : Nat} {L : List Int32} {tt : Nat → Int32} {nn : Nat} (hT : Tp σ tt nn) (e4 : tGet 5 (pAt σ) (nI r) 4 = nI f) (e1 : tGet 5 (pAt σ) (nI r) 1 = nI L.length) (hs : Str (pLe σ) ls) (hl : ls.length ≤ 4000) (hS : Seg ls f L) (hok : ∀ c ∈ L, ¬ c = -1) {post : Int32 → Prop} (h1 : Dec tt nn 0 L → post 1) (h0 : ¬ Dec tt nn 0 L → post 0) : w_Book_valueIs σ (nI r) post := by
  have hn := hT.2
  have hSl := hS.1
  unfold w_Book_valueIs
  rw [e4, e1]
  have key : ∀ (M R : List Int32) (p : Nat), L = M ++ R → p ≤ nn → (Dec tt nn p R → post 1) → (¬ Dec tt nn p R → post 0) → w_Book_valueIs_L27 σ (nI f) (nI L.length) post (R.length + 1) (nI p) (nI M.length) := by
    intro M R
    induction R generalizing M with
    | nil =>
      intro p hL hp h1 h0
      rw [List.append_nil] at hL
      show w_Book_valueIs_L27 σ (nI f) (nI L.length) post (0 + 1) (nI p) (nI M.length)
      unfold w_Book_valueIs_L27
      rw [hT.sz, hL]
      exact br_t (nI_le (Nat.le_refl _) (by rw [← hL]; omega)) (pk_eq p nn (fun e => h1 e) (fun e => h0 e) rfl rfl (by omega) (by omega))
    | cons c R ih =>
      intro p hL hp h1 h0
      have hML : M.length < L.length := by rw [hL, List.length_append]; simp only [List.length_cons]; omega
      have ec : sGet (pLe σ) (nI f + nI M.length) = c := by
        rw [nI_add, hS.get hs (by omega) hML, hL, List.getD_eq_getElem?_getD, List.getElem?_append_right (Nat.le_refl _), Nat.sub_self]; rfl
      have hcm : ¬ c = -1 := hok c (by rw [hL]; simp)
      show w_Book_valueIs_L27 σ (nI f) (nI L.length) post ((R.length + 1) + 1) (nI p) (nI M.length)
      unfold w_Book_valueIs_L27
      refine br_f (nI_ge hML (by omega)) (k_characterAt hT (by omega) ?_)
      rw [ec, cBy_N, nI_add, nI_1]
      by_cases hu : u8 tt nn p = c
      · refine br_t hu ?_
        have := ih (M ++ [c]) (p + cByN c) (by rw [hL, List.append_assoc]; rfl) (by
          have := u8_le (t := tt) (n := nn) (k := p) (by rw [hu]; exact hcm)
          rw [hu] at this
          exact this.2) (fun z => h1 ⟨hu, z⟩) (fun z => h0 (fun y => z y.2))
        rw [List.length_append] at this
        exact this
      · exact br_f hu (h0 (fun y => hu y.1))
  exact ⟨_, key [] L 0 rfl (Nat.zero_le _) h1 h0⟩
/-- the id of a node, as the one keeps it -/
theorem KN.id (h : KN σ τ t n S g a ls A) {k : Nat} (hk : k < S.K) : (tGet 14 (pNd σ) (nI k) 13 = -1 ∧ ∀ B ∈ S.as k, ¬ seg t n B.na B.nl = tx 1) ∨ ∃ r B f, r < 2 ^ 31 ∧ tGet 14 (pNd σ) (nI k) 13 = nI r ∧ B ∈ S.as k ∧ seg t n B.na B.nl = tx 1 ∧ S.el k = true ∧ tGet 5 (pAt σ) (nI r) 4 = nI f ∧ tGet 5 (pAt σ) (nI r) 1 = nI B.cs.length ∧ Seg ls f B.cs ∧ (∀ c ∈ B.cs, cOk c = true) := by
  obtain ⟨q, hat⟩ := (h.bk.row k hk).att
  have e13 : tGet 14 (pNd σ) (nI k) 13 = g k 13 := h.get rfl hk (by decide)
  by_cases hex : ∃ B ∈ S.as k, seg t n B.na B.nl = tx 1
  · obtain ⟨B, hB, hs⟩ := hex
    have he : S.el k = true := by
      cases hc : S.el k with
      | true => rfl
      | false => rw [h.gt.ta k hk hc] at hB; cases hB
    obtain ⟨j, hj, ej⟩ := List.getElem_of_mem hB
    have hB2 : (S.as k)[j]? = some B := by rw [List.getElem?_eq_getElem hj, ej]
    have hrow := hat.row j B hB2
    obtain ⟨f, r4, s4⟩ := hrow.c4
    have := hat.le
    have := h.bk.ale
    have := h.inv.an
    have := h.inv.n4
    obtain ⟨q2, hAL, _⟩ := h.al hk he
    obtain ⟨p', hAP⟩ := AL.get hAL hB2
    refine Or.inr ⟨q + j, B, f, by omega, by rw [e13]; exact hat.id1 j B hB2 hs, hB, hs, he, ?_, ?_, s4, Chars.ok hAP.ch⟩
    · rw [h.at_ hat hB2 (x := 4) (c := 4) rfl (by decide)]; exact r4
    · rw [h.at_ hat hB2 (x := 1) (c := 1) rfl (by decide)]; exact hrow.c1
  · refine Or.inl ⟨by rw [e13]; exact hat.id0 (fun B hB hs => hex ⟨B, hB, hs⟩), fun B hB hs => hex ⟨B, hB, hs⟩⟩
theorem k_find {tt : Nat → Int32} {nn : Nat} (h : KN σ τ t n S g a ls A) (hT : Tp σ tt nn) {post : Int32 → Prop} (h1 : ∀ k, k < S.K → (∃ B ∈ S.as k, seg t n B.na B.nl = tx 1 ∧ Dec tt nn 0 B.cs) → (∀ j, j < k → ¬ ∃ B ∈ S.as j, seg t n B.na B.nl = tx 1 ∧ Dec tt nn 0 B.cs) → post (nI k)) (h0 : (∀ k, k < S.K → ¬ ∃ B ∈ S.as k, seg t n B.na B.nl = tx 1 ∧ Dec tt nn 0 B.cs) → post (-1)) : w_X_find σ post := by
  have hK := h.K
  have key : ∀ q i, i + q = S.K → (∀ j, j < i → ¬ ∃ B ∈ S.as j, seg t n B.na B.nl = tx 1 ∧ Dec tt nn 0 B.cs) → w_X_find_L2 σ post (q + 1) (nI i) := by
    intro q
    induction q with
    | zero =>
      intro i hi hno
      unfold w_X_find_L2
      rw [h.bk.nd.1]
      exact br_t (nI_le (by omega) (by omega)) (h0 (fun k hk => hno k (by omega)))
    | succ q ih =>
      intro i hi hno
      have hik : i < S.K := by omega
      have cont : (¬ ∃ B ∈ S.as i, seg t n B.na B.nl = tx 1 ∧ Dec tt nn 0 B.cs) → w_X_find_J46 σ (w_X_find_L2 σ post (q + 1)) post (nI i) := fun hne => by
        unfold w_X_find_J46
        rw [nI_1]
        refine ih (i + 1) (by omega) (fun j hj => ?_)
        by_cases e : j = i
        · rw [e]; exact hne
        · exact hno j (by omega)
      unfold w_X_find_L2
      rw [h.bk.nd.1]
      refine br_f (nI_ge (by omega) (by omega)) ?_
      rcases h.id hik with ⟨e, hall⟩ | ⟨r, B, f, hr, e, hB, hs, he, e4, e1, sS, hok⟩
      · exact br_t e (cont (fun ⟨B, hB, hs, _⟩ => hall B hB hs))
      · rw [e]
        refine br_f (nI_m1 hr) (k_valueIs hT e4 e1 h.bk.le h.lsl sS (fun c hc => (cOk_pos (hok c hc)).2) (fun hD => br_f (by decide) (h1 i hik ⟨B, hB, hs, hD⟩ hno)) (fun hD => br_t rfl (cont (fun ⟨C, hC, hCs, hCD⟩ => ?_))))
        have := (h.idU (W := C.cs) hik he hB hs).mp ⟨C, hC, hCs, rfl⟩
        rw [← this] at hCD
        exact hD hCD
  exact ⟨_, key S.K 0 (Nat.zero_add _) (fun j hj => absurd hj (Nat.not_lt_zero j))⟩
theorem Dec.nil {p : Nat} {L : List Int32} (hp : p = n) (hok : ∀ c ∈ L, ¬ c = -1) : Dec t n p L ↔ L = [] := by
  cases L with
  | nil => exact ⟨fun _ => rfl, fun _ => hp⟩
  | cons c L =>
    refine ⟨fun z => ?_, fun z => by cases z⟩
    exfalso
    have hc := hok c List.mem_cons_self
    have := u8_le (t := t) (n := n) (k := p) (by rw [z.1]; exact hc)
    omega
theorem r_find {tt : Nat → Int32} {nn : Nat} (h : KN σ τ t n S g a ls A) (hMt : MTt τ tt nn) {post : Int32 → MPS → Prop}
    (h1 : ∀ k τ', k < S.K → (∃ B ∈ S.as k, seg t n B.na B.nl = tx 1 ∧ Dec tt nn 0 B.cs) → (∀ j, j < k → ¬ ∃ B ∈ S.as j, seg t n B.na B.nl = tx 1 ∧ Dec tt nn 0 B.cs) → Js τ τ' → post (nI k) τ')
    (h0 : (∀ k, k < S.K → ¬ ∃ B ∈ S.as k, seg t n B.na B.nl = tx 1 ∧ Dec tt nn 0 B.cs) → ∀ τ', Js τ τ' → post (-1) τ') : ∃ f, w_M_find_L21 post f 0 (ms_wantedMany τ 0) := by
  have hn := hMt.2.1
  have hK := h.K
  -- an id's characters are none of them -1
  have okB : ∀ k, k < S.K → ∀ B ∈ S.as k, ∀ c ∈ B.cs, ¬ c = -1 := fun k hk B hB c hc => by
    have he : S.el k = true := by
      cases hc : S.el k with
      | true => rfl
      | false => rw [h.gt.ta k hk hc] at hB; cases hB
    obtain ⟨j, hj, ej⟩ := List.getElem_of_mem hB
    obtain ⟨q2, hAL, _⟩ := h.al hk he
    obtain ⟨p', hAP⟩ := AL.get hAL (show (S.as k)[j]? = some B by rw [List.getElem?_eq_getElem hj, ej])
    exact (cOk_pos (Chars.ok hAP.ch c hc)).2
  have key : ∀ gf p (M : List Int32) (τ1 : MPS), nn - p < gf → p ≤ nn → M.length ≤ p → (∀ j, ¬ j ∈ [12, 36] → τ1.1 j = τ.1 j) → (∀ j, ¬ j = 18 → τ1.2 j = τ.2 j) → Row (mp_wantedMany τ1) (mp_wanted τ1) M → (∀ L', (∀ c ∈ L', ¬ c = -1) → (Dec tt nn 0 L' ↔ ∃ L, L' = M ++ L ∧ Dec tt nn p L)) → w_M_find_L21 post (gf + 1) (nI p) τ1 := by
    intro gf
    induction gf with
    | zero => intro p M τ1 hg; omega
    | succ gf ih =>
      intro p M τ1 hg hp hM p1 p2 hW hD
      have j1 : Js τ τ1 := ⟨fun j hj => p1 j (fun z => hj (by
        unfold Lj
        simp only [List.mem_cons, List.not_mem_nil, or_false] at z ⊢
        omega)), fun j _ b => p2 j b⟩
      have hM1 : MTt τ1 tt nn := by
        refine ⟨(p1 6 (by decide)).trans hMt.1, hn, fun k hk => ?_⟩
        rw [show mp_tape τ1 = mp_tape τ from p2 1 (by decide)]; exact hMt.2.2 k hk
      unfold w_M_find_L21
      rw [hM1.1]
      refine pk_le nn p (fun hge => ?_) (fun hlt => ?_) rfl rfl (by omega) (by omega)
      · have hpe : p = nn := by omega
        have hk1 := h.js j1
        rw [hk1.mb.1]
        have eqv : ∀ k, k < S.K → (idIs t n S k M ↔ ∃ B ∈ S.as k, seg t n B.na B.nl = tx 1 ∧ Dec tt nn 0 B.cs) := fun k hk => by
          constructor
          · intro ⟨B, hB, hs, e⟩
            refine ⟨B, hB, hs, (hD _ (okB k hk B hB)).mpr ⟨[], by rw [List.append_nil]; exact e, hpe⟩⟩
          · intro ⟨B, hB, hs, hd⟩
            obtain ⟨L, e, hl⟩ := (hD _ (okB k hk B hB)).mp hd
            have : L = [] := (Dec.nil (t := tt) (n := nn) (p := p) hpe (fun c hc => okB k hk B hB c (by rw [e]; exact List.mem_append_right _ hc))).mp hl
            rw [this, List.append_nil] at e
            exact ⟨B, hB, hs, e⟩
        refine r_withId hk1 (Nat.le_refl _) hW (by omega) (fun k τ' hk hid hno jw => ?_) (fun hno τ' jw => ?_)
        · exact h1 k τ' hk ((eqv k hk).mp hid) (fun j hj z => hno j hj ((eqv j (by omega)).mpr z)) (j1.trans jw.js)
        · exact h0 (fun k hk z => hno k hk ((eqv k hk).mpr z)) τ' (j1.trans jw.js)
      · refine rt_characterAt hM1 hlt (fun τ2 d hne w => ?_) (fun hm τ2 d => ?_)
        · have hpos := u8_pos hM1.byt hne
          have hle := u8_le hne
          have hcb := cByN_le (u8 tt nn p)
          have e36 : mp_wantedMany τ2 = nI M.length := (d.i 36 (by decide)).trans hW.1
          refine br_t (i_nlt.mp hpos) ⟨by rw [e36]; exact vp_in_nI (by omega) (by decide), fa_eq (fa_eq ?_)⟩
          rw [e36, nI_clamp (by omega)]
          show w_M_find_L21 post (gf + 1) (nI p + mp_width τ2) (ms_wantedMany (ms_wanted τ2 (upd (mp_wanted τ2) M.length (u8 tt nn p))) (mp_wantedMany τ2 + 1))
          rw [w, e36, nI_1, nI_add]
          refine ih (p + cByN (u8 tt nn p)) (M ++ [u8 tt nn p]) _ (by omega) hle.2 (by rw [List.length_append]; simp only [List.length_cons, List.length_nil]; omega) (fun j hj => ?_) (fun j hj => ?_) ⟨by rw [List.length_append]; rfl, ?_⟩ (fun L' hok => ?_)
          · show va_up τ2.1 36 _ j = _
            have h36 : ¬ j = 36 := fun z => hj (by rw [z]; decide)
            have h12 : ¬ j ∈ [12] := fun z => hj (by rw [List.mem_singleton.mp z]; decide)
            rw [va_n h36]; exact (d.2 j h12).trans (p1 j hj)
          · show va_up τ2.2 18 _ j = _
            rw [va_n hj]; exact (congrFun d.1 j).trans (p2 j hj)
          · show ∀ i, i < (M ++ [u8 tt nn p]).length → (M ++ [u8 tt nn p])[i]? = some (upd (mp_wanted τ2) M.length (u8 tt nn p) i)
            rw [show mp_wanted τ2 = mp_wanted τ1 from congrFun d.1 18]; exact Row.snoc hW.2 _
          · rw [hD L' hok]
            constructor
            · intro ⟨L, e, hd⟩
              cases L with
              | nil => have hd : p = nn := hd; omega
              | cons x L =>
                obtain ⟨hx, hd⟩ := hd
                rw [← hx] at hd e
                exact ⟨L, by rw [e, List.append_assoc]; rfl, hd⟩
            · intro ⟨L, e, hd⟩
              exact ⟨u8 tt nn p :: L, by rw [e, List.append_assoc]; rfl, rfl, hd⟩
        · refine br_f (by decide) (h0 (fun k hk ⟨B, hB, _, hd⟩ => ?_) τ2 (j1.trans (d.js (by decide))))
          obtain ⟨L, e, hd⟩ := (hD _ (okB k hk B hB)).mp hd
          cases L with
          | nil => have hd : p = nn := hd; omega
          | cons x L =>
            exact okB k hk B hB x (by rw [e]; simp) (by rw [← hd.1]; exact hm)
  refine ⟨_, key (nn + 1) 0 [] _ (by omega) (Nat.zero_le _) (Nat.le_refl _) (fun j hj => va_up_ne τ.1 _ (fun z => hj (by rw [z]; decide))) (fun j _ => rfl) ⟨rfl, fun i hi => absurd hi (Nat.not_lt_zero i)⟩ (fun L' _ => ⟨fun z => ⟨L', rfl, z⟩, fun ⟨L, e, z⟩ => by rw [e]; exact z⟩)⟩
theorem c11_find (h : RL σ τ) {post : Int32 → Int32 → MPS → Prop} (hq : ∀ r τ', RL σ τ' → post r r τ') : w_X_find σ (fun r => w_M_find τ (fun r' τ' => post r r' τ')) := by
  obtain ⟨nn, hn4, t1, t2, t3⟩ := h.tp
  have hT : Tp σ (pTp σ).2 nn := ⟨by rw [← t1], hn4⟩
  have h2 : RL σ (ms_thrown τ 0) := h.js (Js.set τ (by decide))
  rcases h2.book with ⟨k0, hE⟩ | ⟨t, n, S, g, a, ls, A, hK⟩
  · refine ⟨1, ?_⟩
    unfold w_X_find_L2
    rw [hE.1]
    refine br_t (by decide) ?_
    unfold w_M_find
    exact fa_eq (br_t k0 (hq _ _ h2))
  · have hMt : MTt (ms_thrown τ 0) (pTp σ).2 nn := ⟨t2, hn4, fun k hk => t3 k hk⟩
    have hK9 := hK.K
    refine k_find hK hT (fun k hk hP hno => ?_) (fun hno => ?_)
    · unfold w_M_find
      refine fa_eq (br_f (by rw [hK.kn]; decide) (fa_eq (r_find hK hMt (fun k' τ' hk' hP' hno' js => ?_) (fun hno' => absurd hP (hno' k hk)))))
      have : k' = k := by
        rcases Nat.lt_trichotomy k' k with z | z | z
        · exact absurd hP' (hno k' z)
        · exact z
        · exact absurd hP (hno' k z)
      subst this
      exact hq _ _ (h2.js js)
    · unfold w_M_find
      refine fa_eq (br_f (by rw [hK.kn]; decide) (fa_eq (r_find hK hMt (fun k' τ' hk' hP' _ _ => absurd hP' (hno k' hk')) (fun _ τ' js => hq _ _ (h2.js js)))))
end FD
