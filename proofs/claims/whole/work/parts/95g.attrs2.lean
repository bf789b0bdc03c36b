/-! PURE: the attributes of an element, as both look through them. -/
section AT2
variable {t : Nat → Int32} {n : Nat} {σ : PPS} {τ : MPS} {S : GS} {g a : Nat → Nat → Int32} {ls : List Int32} {A : Nat}
def nmB (t : Nat → Int32) (n : Nat) (B : Att) : List Int32 := seg t n B.na B.nl
def nms (t : Nat → Int32) (n : Nat) (S : GS) (k : Nat) : List (List Int32) := (S.as k).map (nmB t n)
def AtB (t : Nat → Int32) (n : Nat) (S : GS) (k : Nat) (B : Att) : Prop := ¬ mkN (nmB t n B) = 0 ∧ (mkN (nmB t n B) = 1 → ∀ j, j < k → ¬ idIs t n S j B.cs) ∧ (mkN (nmB t n B) = 64 → isNumB B.cs = true)
def AtOk (t : Nat → Int32) (n : Nat) (S : GS) (k i : Nat) : Prop := (∀ B ∈ S.as k, AtB t n S k B) ∧ kAllows i (nI (orF (nms t n S k))) = true
theorem k_markOf (h : KN σ τ t n S g a ls A) {r f0 : Nat} {l : List Int32} (e3 : tGet 5 (pAt σ) (nI r) 3 = nI f0) (e0 : tGet 5 (pAt σ) (nI r) 0 = nI l.length) (hs : Seg ls f0 l) {post : Int32 → Prop} (hq : post (nI (mkN l))) : w_Insp_markOf σ (nI r) post := by
  unfold w_Insp_markOf
  unfold mkN at hq
  refine k_isNamed h (by decide) e3 e0 hs (fun e => br_f (by decide) (by rw [if_pos e] at hq; exact hq)) (fun e => br_t rfl ?_)
  rw [if_neg e] at hq
  refine k_isNamed h (by decide) e3 e0 hs (fun e => br_f (by decide) (by rw [if_pos e] at hq; exact hq)) (fun e => br_t rfl ?_)
  rw [if_neg e] at hq
  refine k_isNamed h (by decide) e3 e0 hs (fun e => br_f (by decide) (by rw [if_pos e] at hq; exact hq)) (fun e => br_t rfl ?_)
  rw [if_neg e] at hq
  refine k_isNamed h (by decide) e3 e0 hs (fun e => br_f (by decide) (by rw [if_pos e] at hq; exact hq)) (fun e => br_t rfl ?_)
  rw [if_neg e] at hq
  refine k_isNamed h (by decide) e3 e0 hs (fun e => br_f (by decide) (by rw [if_pos e] at hq; exact hq)) (fun e => br_t rfl ?_)
  rw [if_neg e] at hq
  refine k_isNamed h (by decide) e3 e0 hs (fun e => br_f (by decide) (by rw [if_pos e] at hq; exact hq)) (fun e => br_t rfl ?_)
  rw [if_neg e] at hq
  refine k_isNamed h (by decide) e3 e0 hs (fun e => br_f (by decide) (by rw [if_pos e] at hq; exact hq)) (fun e => br_t rfl ?_)
  rw [if_neg e] at hq
  exact hq
theorem k_isNumber (h : KN σ τ t n S g a ls A) {r f : Nat} {V : List Int32} (hv : VRow σ ls r V f) {post : Int32 → Prop} (hq : post (b2i (isNumB V))) : w_Insp_isNumber σ (nI r) post := by
  have hSl := hv.sg.1
  have hlsl := h.lsl
  unfold w_Insp_isNumber
  rw [hv.e4, hv.e1]
  have key : ∀ (R M : List Int32), V = M ++ R → (R.all cDg = true → post (b2i (decide (1 ≤ V.length) && decide (V.length ≤ 9)))) → (R.all cDg = false → post 0) → ∃ fu, w_Insp_isNumber_L23 σ (nI f) (nI V.length) post fu (nI M.length) := by
    intro R
    induction R with
    | nil =>
      intro M hM h1 h0
      have hp := h1 rfl
      refine ⟨1, ?_⟩
      unfold w_Insp_isNumber_L23
      have eM : M = V := by rw [hM, List.append_nil]
      rw [eM]
      refine br_t (nI_le (Nat.le_refl _) (by omega)) (pk_lt V.length 1 (fun c => ?_) (fun c => ?_) rfl rfl (by omega) (by decide))
      · rw [decide_eq_false (by omega)] at hp; exact hp
      · refine pk_lt 9 V.length (fun d => ?_) (fun d => ?_) rfl rfl (by decide) (by omega)
        · rw [decide_eq_true (by omega : 1 ≤ V.length), decide_eq_false (by omega)] at hp; exact hp
        · rw [decide_eq_true (by omega : 1 ≤ V.length), decide_eq_true (by omega : V.length ≤ 9)] at hp; exact hp
    | cons c R ih =>
      intro M hM h1 h0
      have hML : M.length < V.length := by rw [hM, List.length_append]; simp only [List.length_cons]; omega
      have ec : bLet σ (nI f) (nI V.length) (nI M.length) = c := by
        rw [bLet_seg h.bk.le hlsl hv.sg (by omega)]
        have : V[M.length]? = some c := by rw [hM, List.getElem?_append_right (Nat.le_refl _), Nat.sub_self]; rfl
        rw [this]; rfl
      have ea : (c :: R).all cDg = (cDg c && R.all cDg) := rfl
      rw [ea] at h1 h0
      cases hc : cDg c with
      | false =>
        rw [hc] at h0
        refine ⟨1, ?_⟩
        unfold w_Insp_isNumber_L23
        rw [ec]
        exact br_f (nI_ge hML (by omega)) (bl_f hc (h0 rfl))
      | true =>
        rw [hc] at h1 h0
        obtain ⟨fu, hfu⟩ := ih (M ++ [c]) (by rw [hM, List.append_assoc]; rfl) h1 h0
        rw [List.length_append] at hfu
        refine ⟨fu + 1, ?_⟩
        unfold w_Insp_isNumber_L23
        rw [ec, nI_1]
        exact br_f (nI_ge hML (by omega)) (bl_t hc hfu)
  refine key V [] rfl (fun z => ?_) (fun z => ?_)
  · unfold isNumB at hq; rw [z] at hq; exact hq
  · unfold isNumB at hq; rw [z] at hq; exact hq
theorem or_nI : ∀ x, x < 128 → ∀ y, y < 7 → nI x ||| nI (2 ^ y) = nI (x ||| 2 ^ y) := by decide +kernel
theorem mk_is (l : List Int32) : (mkN l = 1 ↔ l = tx 9) ∧ (mkN l = 64 ↔ l = tx 15) := by
  rcases mk_cases l with ⟨x, hx, he, hm, hd⟩ | ⟨hm, hd⟩
  · rw [hm, he]
    exact (by decide +kernel : ∀ x, x < 7 → ((2 ^ x = 1 ↔ tx (9 + x) = tx 9) ∧ (2 ^ x = 64 ↔ tx (9 + x) = tx 15))) x hx
  · rw [hm]
    exact ⟨⟨fun z => (by cases z), fun z => absurd z (of_decide_eq_false (hd 0 (by decide)))⟩, ⟨fun z => (by cases z), fun z => absurd z (of_decide_eq_false (hd 6 (by decide)))⟩⟩
theorem orF_nil : orF [] = 0 := by decide
theorem orF_lt (N : List (List Int32)) : orF N < 128 := num7_lt _ _ _ _ _ _ _
theorem k_hasFitAttributes (h : KN σ τ t n S g a ls A) {k i : Nat} (hk : k < S.K) (hi : i < 23) {post : Int32 → Prop} (h1 : AtOk t n S k i → post 1) (h0 : ¬ AtOk t n S k i → post 0) : w_Insp_hasFitAttributes σ (nI k) (some i) post := by
  have hK := h.K
  obtain ⟨q, hat⟩ := (h.bk.row k hk).att
  have hal := as_len h hk
  have e4 : tGet 14 (pNd σ) (nI k) 4 = nI (S.as k).length := (h.get (c := 4) rfl hk (by decide)).trans hat.c4
  have key : ∀ m j, j + m = (S.as k).length → (∀ x B, x < j → (S.as k)[x]? = some B → AtB t n S k B) → w_Insp_hasFitAttributes_L5 σ (nI k) (some i) post (m + 1) (nI (orF ((nms t n S k).take j))) (nI j) := by
    intro m
    induction m with
    | zero =>
      intro j hj hno
      unfold w_Insp_hasFitAttributes_L5
      rw [e4]
      refine br_t (nI_le (by omega) (by omega)) ⟨i, rfl, hi, ?_⟩
      rw [List.take_of_length_le (by unfold nms; rw [List.length_map]; omega)]
      have hall : ∀ B ∈ S.as k, AtB t n S k B := fun B hB => by
        obtain ⟨x, hx, e⟩ := List.getElem_of_mem hB
        exact hno x B (by omega) (by rw [List.getElem?_eq_getElem hx, e])
      cases hc : kAllows i (nI (orF (nms t n S k))) with
      | true => exact h1 ⟨hall, hc⟩
      | false => exact h0 (fun z => by rw [z.2] at hc; cases hc)
    | succ m ih =>
      intro j hj hno
      have hB : (S.as k)[j]? = some ((S.as k)[j]'(by omega)) := List.getElem?_eq_getElem (by omega)
      revert hB
      generalize (S.as k)[j]'(by omega) = B
      intro hB
      have hBm : B ∈ S.as k := List.mem_of_getElem? hB
      obtain ⟨r, f0, f, hr, eb, e3, e0, s0, hv⟩ := h.rowOf hk hB
      unfold w_Insp_hasFitAttributes_L5
      rw [eb, e4]
      refine br_f (nI_ge (by omega) (by omega)) (k_markOf h e3 e0 s0 ?_)
      have bad : ¬ AtB t n S k B → post 0 := fun z => h0 (fun y => z (y.1 B hBm))
      have es : orF ((nms t n S k).take (j + 1)) = orF ((nms t n S k).take j) ||| mkN (nmB t n B) := by
        rw [List.take_add_one, show (nms t n S k)[j]? = some (nmB t n B) from by unfold nms; rw [List.getElem?_map, hB]; rfl]
        exact orF_snoc _ _
      have cont : AtB t n S k B → w_Insp_hasFitAttributes_L5 σ (nI k) (some i) post (m + 1) (nI (orF ((nms t n S k).take j)) ||| nI (mkN (nmB t n B))) (nI j + 1) := fun z => by
        have := ih (j + 1) (by omega) (fun x C hx hC => by
          by_cases e : x = j
          · subst e; rw [hB] at hC; cases hC; exact z
          · exact hno x C (by omega) hC)
        rw [es] at this
        rw [nI_1]
        rcases mk_cases (nmB t n B) with ⟨y, hy, _, hm, _⟩ | ⟨hm, _⟩
        · rw [hm] at this ⊢
          rw [or_nI _ (orF_lt _) y hy]; exact this
        · exact absurd hm z.1
      show ((nI (mkN (nmB t n B)) = 0 → _) ∧ _)
      rcases mk_cases (nmB t n B) with ⟨y, hy, _, hm, _⟩ | ⟨hm, _⟩
      · have h00 : ¬ mkN (nmB t n B) = 0 := by rw [hm]; exact Nat.pos_iff_ne_zero.mp (Nat.pow_pos (by decide))
        have hlt : mkN (nmB t n B) < 2 ^ 31 := by
          rw [hm]
          exact (by decide : ∀ y, y < 7 → 2 ^ y < 2 ^ 31) y hy
        refine br_f (fun z => h00 ((nI_eq (b := 0) hlt (by decide)).mp z)) ?_
        have J61 : (mkN (nmB t n B) = 1 → ∀ j, j < k → ¬ idIs t n S j B.cs) → w_Insp_hasFitAttributes_J61 σ (nI k) (some i) (w_Insp_hasFitAttributes_L5 σ (nI k) (some i) post (m + 1)) post (nI (orF ((nms t n S k).take j))) (nI j) (nI r) (nI (mkN (nmB t n B))) := fun hid => by
          unfold w_Insp_hasFitAttributes_J61 w_Insp_hasFitAttributes_J79
          refine pk_eq (mkN (nmB t n B)) 64 (fun e => k_isNumber h hv ?_) (fun e => cont ⟨h00, hid, fun z => absurd z e⟩) rfl rfl hlt (by decide)
          cases hc : isNumB B.cs with
          | true => exact br_f (by decide) (cont ⟨h00, hid, fun _ => hc⟩)
          | false => exact br_t rfl (bad (fun z => by have := z.2.2 e; rw [hc] at this; cases this))
        refine pk_eq (mkN (nmB t n B)) 1 (fun e => ?_) (fun e => J61 (fun z => absurd z e)) rfl rfl hlt (by decide)
        refine k_isIdAhead (d := 0) h hv (Nat.zero_le _) (by omega) (fun hex => br_f (by decide) (bad (fun z => ?_))) (fun hno2 => br_t rfl (J61 (fun _ => hno2)))
        obtain ⟨x, hx, hid⟩ := hex
        exact z.2.1 e x hx hid
      · exact br_t (by rw [hm]; rfl) (bad (fun z => z.1 hm))
  have := key (S.as k).length 0 (Nat.zero_add _) (fun x B hx => absurd hx (Nat.not_lt_zero x))
  rw [List.take_zero, orF_nil] at this
  exact ⟨_, this⟩
/-! The reference. -/
theorem we9 : wEq 26980 2 9 := by unfold wEq; decide +kernel
theorem we11 : wEq 499985443941 5 11 := by unfold wEq; decide +kernel
theorem we12 : wEq 7565923 3 12 := by unfold wEq; decide +kernel
theorem we13 : wEq 6384756 3 13 := by unfold wEq; decide +kernel
theorem we14 : wEq 427020088179 5 14 := by unfold wEq; decide +kernel
theorem we15 : wEq 495873782388 5 15 := by unfold wEq; decide +kernel
theorem flg_t {k x : Nat} {B : Att} (hB : B ∈ S.as k) (hs : nmB t n B = tx x) : flg (nms t n S k) x = true := by
  unfold flg nms
  rw [List.any_eq_true]
  exact ⟨_, List.mem_map_of_mem hB, decide_eq_true hs⟩
theorem flg_f {k x : Nat} (hall : ∀ B ∈ S.as k, ¬ nmB t n B = tx x) : flg (nms t n S k) x = false := by
  unfold flg nms
  rw [List.any_eq_false]
  intro y hy
  obtain ⟨B, hB, e⟩ := List.mem_map.mp hy
  rw [decide_eq_true_eq, ← e]
  exact hall B hB
theorem r_has {word : Int64} {m x k : Nat} (hx : x < 49) (hm8 : m ≤ 8) (hw : wEq word m x) (h : KN σ τ t n S g a ls A) (hk : k < S.K) (he : S.el k = true) {post : Int32 → MPS → Prop}
    (h1 : ∀ B τ', B ∈ S.as k → nmB t n B = tx x → flg (nms t n S k) x = true → Df [19, 20, 21, 22] τ τ' → Lat τ' B → post 1 τ') (h0 : flg (nms t n S k) x = false → (∀ B ∈ S.as k, ¬ nmB t n B = tx x) → ∀ τ', Df [19, 20, 21, 22] τ τ' → post 0 τ') : w_M_hasAttribute τ (nI k) word (nI m) post :=
  r_hasAttribute hx hm8 hw h hk he (fun B τ' hB hs d l => h1 B τ' hB hs (flg_t hB hs) d l) (fun hall τ' d => h0 (flg_f hall) hall τ' d)
theorem KN.jt {τ' : MPS} (h : KN σ τ t n S g a ls A) (d : Jt τ τ') : KN σ τ' t n S g a ls A := h.js d.1
theorem r_J330 (h : KN σ τ t n S g a ls A) {k c : Nat} {v : Bool} (hk : k < S.K) (he : S.el k = true) (hc : c < 2 ^ 31) {post : Int32 → MPS → Prop} (hq : ∀ τ', Jt τ τ' → post (b2i (v && decide (c = (nms t n S k).length))) τ') : w_M_hasGoodAttributes_J330 post (nI k) (nI c) (b2i v) τ := by
  have hal := as_len h hk
  unfold w_M_hasGoodAttributes_J330
  cases v with
  | false => exact br_t rfl (hq τ (Jt.refl τ))
  | true =>
    refine br_f (by decide) (r_attributes h hk he (fun τ' d => ?_))
    have := hq τ' d.jw.jt
    rw [show (nms t n S k).length = (S.as k).length from List.length_map _] at this
    refine pk_eq c (S.as k).length (fun e => ?_) (fun e => ?_) rfl rfl hc (by omega)
    · rw [decide_eq_true e] at this; exact this
    · rw [decide_eq_false e] at this; exact this
def sN (t : Nat → Int32) (n : Nat) (S : GS) (k : Nat) : Bool := (S.as k).all (fun B => !decide (nmB t n B = tx 15) || isNumB B.cs)
theorem kOk_17 {N : List (List Int32)} : kok 17 N = (flg N 10 && decide ((flg N 9).toNat + 1 + (flg N 11).toNat = N.length)) := by unfold kok; rw [if_pos rfl]
theorem kOk_22 {N : List (List Int32)} : kok 22 N = (flg N 12 && flg N 13 && decide ((flg N 9).toNat + 2 + (flg N 11).toNat = N.length)) := by unfold kok; rw [if_neg (by decide), if_pos rfl]
theorem kOk_19 {N : List (List Int32)} : kok 19 N = decide ((flg N 9).toNat + (flg N 14).toNat = N.length) := by unfold kok; rw [if_neg (by decide), if_neg (by decide), if_pos rfl]
theorem kOk_6 {N : List (List Int32)} : kok 6 N = decide ((flg N 9).toNat + (flg N 15).toNat = N.length) := by unfold kok; rw [if_neg (by decide), if_neg (by decide), if_neg (by decide), if_pos rfl]
theorem kOk_o {i : Nat} {N : List (List Int32)} (h17 : ¬ i = 17) (h22 : ¬ i = 22) (h19 : ¬ i = 19) (h6 : ¬ i = 6) : kok i N = decide ((flg N 9).toNat = N.length) := by unfold kok; rw [if_neg h17, if_neg h22, if_neg h19, if_neg h6]
theorem tN (b : Bool) : b.toNat ≤ 1 := by cases b <;> decide
theorem b2i_tN (b : Bool) : b2i b = nI b.toNat := by cases b <;> rfl
/-- the loop over a number's characters -/
theorem r_L290 (h : KN σ τ t n S g a ls A) {k c : Nat} (hk : k < S.K) (he : S.el k = true) (hc : c < 2 ^ 31) {V : List Int32} (hV : Row (mp_valueMany τ) (mp_value τ) V) (hl : V.length ≤ 4000) {post : Int32 → MPS → Prop} : ∀ m i (v : Bool), i + m = V.length → (∀ τ', Jt τ τ' → post (b2i (v && (V.drop i).all cDg && decide (c = (nms t n S k).length))) τ') → w_M_hasGoodAttributes_L290 (nI k) (nI c) post (m + 1) (b2i v) (nI i) τ := by
  intro m
  induction m with
  | zero =>
    intro i v hi hq
    unfold w_M_hasGoodAttributes_L290
    rw [hV.1]
    refine br_t (nI_le (by omega) (by omega)) (r_J330 h hk he hc ?_)
    rw [List.drop_of_length_le (by omega)] at hq
    rw [show (v && ([] : List Int32).all cDg) = v from by cases v <;> rfl] at hq
    exact hq
  | succ m ih =>
    intro i v hi hq
    have hx : V[i]? = some (mp_value τ i) := hV.2 i (by omega)
    have hd : V.drop i = mp_value τ i :: V.drop (i + 1) := by
      have hlt : i < V.length := by omega
      rw [List.drop_eq_getElem_cons hlt]
      congr 1
      rw [List.getElem?_eq_getElem hlt] at hx
      exact Option.some.inj hx
    rw [hd] at hq
    have ea : (mp_value τ i :: V.drop (i + 1)).all cDg = (cDg (mp_value τ i) && (V.drop (i + 1)).all cDg) := rfl
    rw [ea] at hq
    unfold w_M_hasGoodAttributes_L290 w_M_hasGoodAttributes_J321 w_M_hasGoodAttributes_J322
    rw [hV.1, nI_1, nI_clamp (by omega)]
    refine br_f (nI_ge (by omega) (by omega)) ?_
    cases v with
    | false => exact br_t rfl (ih (i + 1) false (by omega) hq)
    | true =>
      refine br_f (by decide) ⟨vp_in_nI (by omega) (by decide), ?_⟩
      cases hc : cDg (mp_value τ i) with
      | false => rw [hc] at hq; exact bl_f rfl (ih (i + 1) false (by omega) hq)
      | true => rw [hc] at hq; exact bl_t rfl (ih (i + 1) true (by omega) hq)
theorem AtP_of (h : KN σ τ t n S g a ls A) {k : Nat} {B : Att} (hk : k < S.K) (he : S.el k = true) (hB : B ∈ S.as k) : ∃ p, AtP t n p B := by
  obtain ⟨j, hj, ej⟩ := List.getElem_of_mem hB
  obtain ⟨q2, hAL, _⟩ := h.al hk he
  exact AL.get hAL (show (S.as k)[j]? = some B by rw [List.getElem?_eq_getElem hj, ej])
theorem AtP.cl {B : Att} {p : Nat} (h : AtP t n p B) (hn : n ≤ 4000) : B.cs.length ≤ 4000 := by
  have := h.le
  have := Chars.le h.ch
  omega
theorem r_J44 (h : KN σ τ t n S g a ls A) {k i : Nat} {v : Bool} (hk : k < S.K) (he : S.el k = true) (hi : i < 23) {post : Int32 → MPS → Prop} (hq : ∀ τ', Jt τ τ' → post (b2i (v && kok i (nms t n S k) && (!decide (i = 6) || sN t n S k))) τ') : w_M_hasGoodAttributes_J44 post (nI k) (nI (i + 1)) (nI (flg (nms t n S k) 9).toNat) (b2i v) τ := by
  have hal := as_len h hk
  have hn := h.mt.2.1
  have hid1 := tN (flg (nms t n S k) 9)
  unfold w_M_hasGoodAttributes_J44
  refine pk_eq (i + 1) 18 (fun e => ?_) (fun e17 => ?_) rfl rfl (by omega) (by decide)
  · have ei : i = 17 := by omega
    subst ei
    rw [kOk_17] at hq
    have J76 : ∀ (w : Bool) τ1, Jt τ τ1 → flg (nms t n S k) 10 = w → w_M_hasGoodAttributes_J76 post (nI k) (nI (flg (nms t n S k) 9).toNat) (b2i w) (b2i (v && w)) τ1 := fun w τ1 j1 ew => by
      have h1 := h.jt j1
      rw [ew] at hq
      have J89 : ∀ c, c = w.toNat → w_M_hasGoodAttributes_J89 post (nI k) (b2i (v && w)) (nI c) (nI (flg (nms t n S k) 9).toNat) τ1 := fun c ec => by
        unfold w_M_hasGoodAttributes_J89 w_M_hasGoodAttributes_J109
        rw [nI_add]
        refine r_has (x := 11) (m := 5) (by decide) (by decide) we11 h1 hk he (fun B τ2 hB hs hf d l => br_f (by decide) ?_) (fun hf _ τ2 d => br_t rfl ?_)
        · rw [nI_1]
          refine r_J330 (h1.jt d.jw.jt) hk he (by have := tN w; omega) (fun τ3 j3 => ?_)
          have := hq τ3 ((j1.trans d.jw.jt).trans j3)
          rw [hf] at this
          revert this
          rw [ec]
          cases v <;> cases w <;> simp
        · rw [show nI ((flg (nms t n S k) 9).toNat + c) + 0 = nI ((flg (nms t n S k) 9).toNat + c) from by rw [show (0 : Int32) = nI 0 from rfl, nI_add]; rfl]
          refine r_J330 (h1.jt d.jw.jt) hk he (by have := tN w; omega) (fun τ3 j3 => ?_)
          have := hq τ3 ((j1.trans d.jw.jt).trans j3)
          rw [hf] at this
          revert this
          rw [ec]
          cases v <;> cases w <;> simp
      unfold w_M_hasGoodAttributes_J76
      cases w with
      | false => exact br_t rfl (J89 0 rfl)
      | true => exact br_f (by decide) (J89 1 rfl)
    refine r_has (x := 10) (m := 4) (by decide) (by decide) we10 h hk he (fun B τ1 hB hs hf d l => ?_) (fun hf _ τ1 d => ?_)
    · have J := J76 true τ1 d.jw.jt hf
      unfold w_M_hasGoodAttributes_J75
      cases v with
      | false => exact br_t rfl J
      | true => exact br_f (by decide) (br_f (by decide) J)
    · have J := J76 false τ1 d.jw.jt hf
      unfold w_M_hasGoodAttributes_J75
      cases v with
      | false => exact br_t rfl J
      | true => exact br_f (by decide) (br_t rfl J)
  refine pk_eq (i + 1) 23 (fun e => ?_) (fun e22 => ?_) rfl rfl (by omega) (by decide)
  · have ei : i = 22 := by omega
    subst ei
    rw [kOk_22] at hq
    have J166 : ∀ (w : Bool) τ1, Jt τ τ1 → (flg (nms t n S k) 12 && flg (nms t n S k) 13) = w → w_M_hasGoodAttributes_J166 post (nI k) (nI (flg (nms t n S k) 9).toNat) (b2i w) (b2i (v && w)) τ1 := fun w τ1 j1 ew => by
      have h1 := h.jt j1
      rw [ew] at hq
      have J179 : ∀ c, c = 2 * w.toNat → w_M_hasGoodAttributes_J179 post (nI k) (b2i (v && w)) (nI c) (nI (flg (nms t n S k) 9).toNat) τ1 := fun c ec => by
        unfold w_M_hasGoodAttributes_J179 w_M_hasGoodAttributes_J199
        rw [nI_add]
        refine r_has (x := 11) (m := 5) (by decide) (by decide) we11 h1 hk he (fun B τ2 hB hs hf d l => br_f (by decide) ?_) (fun hf _ τ2 d => br_t rfl ?_)
        · rw [nI_1]
          refine r_J330 (h1.jt d.jw.jt) hk he (by have := tN w; omega) (fun τ3 j3 => ?_)
          have := hq τ3 ((j1.trans d.jw.jt).trans j3)
          rw [hf] at this
          revert this
          rw [ec]
          cases v <;> cases w <;> simp
        · rw [show nI ((flg (nms t n S k) 9).toNat + c) + 0 = nI ((flg (nms t n S k) 9).toNat + c) from by rw [show (0 : Int32) = nI 0 from rfl, nI_add]; rfl]
          refine r_J330 (h1.jt d.jw.jt) hk he (by have := tN w; omega) (fun τ3 j3 => ?_)
          have := hq τ3 ((j1.trans d.jw.jt).trans j3)
          rw [hf] at this
          revert this
          rw [ec]
          cases v <;> cases w <;> simp
      unfold w_M_hasGoodAttributes_J166
      cases w with
      | false => exact br_t rfl (J179 0 rfl)
      | true => exact br_f (by decide) (J179 2 rfl)
    have J149 : ∀ (w : Bool) τ1, Jt τ τ1 → (flg (nms t n S k) 12 && flg (nms t n S k) 13) = w → w_M_hasGoodAttributes_J149 post (nI k) (nI (flg (nms t n S k) 9).toNat) (b2i v) (b2i w) τ1 := fun w τ1 j1 ew => by
      have J := J166 w τ1 j1 ew
      unfold w_M_hasGoodAttributes_J149 w_M_hasGoodAttributes_J165
      cases v with
      | false => exact br_t rfl J
      | true =>
        cases w with
        | false => exact br_f (by decide) (br_t rfl J)
        | true => exact br_f (by decide) (br_f (by decide) J)
    refine r_has (x := 12) (m := 3) (by decide) (by decide) we12 h hk he (fun B τ1 hB hs hf d l => br_f (by decide) ?_) (fun hf _ τ1 d => br_t rfl ?_)
    · refine r_has (x := 13) (m := 3) (by decide) (by decide) we13 (h.jt d.jw.jt) hk he (fun C τ2 hC hCs hf2 d2 l2 => br_f (by decide) ?_) (fun hf2 _ τ2 d2 => br_t rfl ?_)
      · exact J149 true τ2 (d.jw.jt.trans d2.jw.jt) (by rw [hf, hf2]; rfl)
      · exact J149 false τ2 (d.jw.jt.trans d2.jw.jt) (by rw [hf2, Bool.and_false])
    · exact J149 false τ1 d.jw.jt (by rw [hf, Bool.false_and])
  refine pk_eq (i + 1) 20 (fun e => ?_) (fun e19 => ?_) rfl rfl (by omega) (by decide)
  · have ei : i = 19 := by omega
    subst ei
    rw [kOk_19] at hq
    unfold w_M_hasGoodAttributes_J228
    refine r_has (x := 14) (m := 5) (by decide) (by decide) we14 h hk he (fun B τ1 hB hs hf d l => br_f (by decide) ?_) (fun hf _ τ1 d => br_t rfl ?_)
    · rw [nI_1]
      refine r_J330 (h.jt d.jw.jt) hk he (by omega) (fun τ3 j3 => ?_)
      have := hq τ3 (d.jw.jt.trans j3)
      rw [hf] at this
      revert this
      cases v <;> simp
    · rw [show nI (flg (nms t n S k) 9).toNat + 0 = nI (flg (nms t n S k) 9).toNat from by rw [show (0 : Int32) = nI 0 from rfl, nI_add]; rfl]
      refine r_J330 (h.jt d.jw.jt) hk he (by omega) (fun τ3 j3 => ?_)
      have := hq τ3 (d.jw.jt.trans j3)
      rw [hf] at this
      revert this
      cases v <;> simp
  refine pk_eq (i + 1) 7 (fun e => ?_) (fun e6 => ?_) rfl rfl (by omega) (by decide)
  · have ei : i = 6 := by omega
    subst ei
    rw [kOk_6] at hq
    refine r_has (x := 15) (m := 5) (by decide) (by decide) we15 h hk he (fun B τ1 hB hs hf d l => br_f (by decide) ?_) (fun hf hall τ1 d => br_t rfl ?_)
    · obtain ⟨p, hP⟩ := AtP_of h hk he hB
      have hcl := hP.cl hn
      have esN : sN t n S k = isNumB B.cs := by
        unfold sN
        cases hc : isNumB B.cs with
        | true =>
          rw [List.all_eq_true]
          intro C hC
          by_cases eC : nmB t n C = tx 15
          · rw [h.nmU hk hC eC hB hs, hc, Bool.or_true]
          · rw [decide_eq_false eC]; rfl
        | false =>
          rw [List.all_eq_false]
          exact ⟨B, hB, by rw [decide_eq_true hs, hc]; decide⟩
      refine r_takeValue ((h.jt d.jw.jt).mt) hP l (fun τ2 jv hV => ?_)
      have j2 : Jt τ τ2 := d.jw.jt.trans jv.jw.jt
      have h2 := h.jt j2
      have hq2 : ∀ τ', Jt τ2 τ' → post (b2i (v && decide ((flg (nms t n S k) 9).toNat + 1 = (nms t n S k).length) && isNumB B.cs)) τ' := fun τ' j => by
        have := hq τ' (j2.trans j)
        rw [hf, esN] at this
        exact this
      have J285 : ∀ w : Bool, w = (v && decide (1 ≤ B.cs.length) && decide (B.cs.length ≤ 9)) → w_M_hasGoodAttributes_J285 post (nI k) (nI (flg (nms t n S k) 9).toNat + 1) (b2i w) τ2 := fun w ew => by
        unfold w_M_hasGoodAttributes_J285
        rw [nI_1]
        refine ⟨_, r_L290 h2 hk he (by omega) hV hcl B.cs.length 0 w (Nat.zero_add _) (fun τ' j => ?_)⟩
        have := hq2 τ' j
        rw [List.drop_zero, ew]
        unfold isNumB at this
        revert this
        generalize B.cs.all cDg = z
        generalize decide (1 ≤ B.cs.length) = z1
        generalize decide (B.cs.length ≤ 9) = z2
        generalize decide ((flg (nms t n S k) 9).toNat + 1 = (nms t n S k).length) = z3
        cases v <;> cases z <;> cases z1 <;> cases z2 <;> cases z3 <;> exact fun y => y
      rw [hV.1]
      unfold w_M_hasGoodAttributes_J284
      cases v with
      | false => exact br_t rfl (J285 false rfl)
      | true =>
        refine br_f (by decide) (pk_lt B.cs.length 1 (fun c => J285 false (by rw [decide_eq_false (by omega)]; rfl)) (fun c => ?_) rfl rfl (by omega) (by decide))
        refine pk_lt 9 B.cs.length (fun c2 => J285 false (by rw [decide_eq_false (by omega : ¬ B.cs.length ≤ 9), Bool.and_false])) (fun c2 => J285 true (by rw [decide_eq_true (by omega : 1 ≤ B.cs.length), decide_eq_true (by omega : B.cs.length ≤ 9)]; rfl)) rfl rfl (by decide) (by omega)
    · refine r_J330 (h.jt d.jw.jt) hk he (by omega) (fun τ3 j3 => ?_)
      have := hq τ3 (d.jw.jt.trans j3)
      have esN : sN t n S k = true := by
        unfold sN
        rw [List.all_eq_true]
        intro C hC
        rw [decide_eq_false (hall C hC)]; rfl
      rw [hf, esN] at this
      revert this
      cases v <;> simp
  · refine r_J330 h hk he (by omega) (fun τ3 j3 => ?_)
    have := hq τ3 j3
    rw [kOk_o (by omega) (by omega) (by omega) (by omega), decide_eq_false (by omega : ¬ i = 6)] at this
    revert this
    cases v <;> simp
def IdOk (t : Nat → Int32) (n : Nat) (S : GS) (k : Nat) : Prop := ∀ B ∈ S.as k, nmB t n B = tx 9 → ∀ j, j < k → ¬ idIs t n S j B.cs
theorem r_hasGoodAttributes (h : KN σ τ t n S g a ls A) {k i : Nat} (hk : k < S.K) (he : S.el k = true) (hi : i < 23) {post : Int32 → MPS → Prop} (hq : ∀ v : Bool, (v = true ↔ IdOk t n S k) → ∀ τ', Jt τ τ' → post (b2i (v && kok i (nms t n S k) && (!decide (i = 6) || sN t n S k))) τ') : w_M_hasGoodAttributes τ (nI k) (nI (i + 1)) post := by
  have hn := h.mt.2.1
  unfold w_M_hasGoodAttributes w_M_hasGoodAttributes_J42
  refine r_has (x := 9) (m := 2) (by decide) (by decide) we9 h hk he (fun B τ1 hB hs hf d l => br_f (by decide) ?_) (fun hf hall τ1 d => br_t rfl ?_)
  · obtain ⟨p, hP⟩ := AtP_of h hk he hB
    have hcl := hP.cl hn
    have onB : ∀ C, C ∈ S.as k → nmB t n C = tx 9 → C = B := fun C hC hCs => h.nmU hk hC hCs hB hs
    refine r_takeValue ((h.jt d.jw.jt).mt) hP l (fun τ2 jv hV => ?_)
    have j2 : Jt τ τ2 := d.jw.jt.trans jv.jw.jt
    refine r_want (d := 0) hV (Nat.zero_le _) hcl (fun τ3 j3 hW => ?_)
    have j23 := j2.trans j3
    rw [List.drop_zero] at hW
    have J : ∀ (v : Bool) τ4, (v = true ↔ IdOk t n S k) → Jt τ τ4 → w_M_hasGoodAttributes_J44 post (nI k) (nI (i + 1)) (0 + 1) (b2i v) τ4 := fun v τ4 hv j4 => by
      have := r_J44 (v := v) (h.jt j4) hk he hi (fun τ' j => hq v hv τ' (j4.trans j))
      rw [hf] at this
      exact this
    refine r_withId (h.jt j23) (Nat.le_of_lt hk) hW hcl (fun k' τ4 hk' hid _ jw => ?_) (fun hno τ4 jw => ?_)
    · refine br_t (nI_pos' (by have := h.K; omega)) (J false τ4 ⟨fun z => (by cases z), fun z => absurd hid (z B hB hs k' hk')⟩ (j23.trans jw.jt))
    · refine br_f (by decide) (J true τ4 ⟨fun _ C hC hCs => ?_, fun _ => rfl⟩ (j23.trans jw.jt))
      rw [onB C hC hCs]; exact hno
  · have := r_J44 (v := true) (h.jt d.jw.jt) hk he hi (fun τ' j => hq true ⟨fun _ B hB hs => absurd hs (hall B hB), fun _ => rfl⟩ τ' (d.jw.jt.trans j))
    rw [hf] at this
    exact this
theorem al_6 : ∀ i, i < 23 → (i = 6 ∨ ∀ a b c d e f g : Bool, kAllows i (nI (num7 a b c d e f g)) = true → g = false) := by decide +kernel
theorem KN.nd_ (h : KN σ τ t n S g a ls A) {k : Nat} (hk : k < S.K) (he : S.el k = true) : (nms t n S k).Nodup := by
  have hu := h.gd.uq k hk he
  unfold nms
  unfold List.Nodup
  rw [List.pairwise_iff_getElem]
  intro x y hx hy hxy e
  rw [List.length_map] at hx hy
  simp only [List.getElem_map] at e
  have := hu x y _ _ (List.getElem?_eq_getElem hx) (List.getElem?_eq_getElem hy) e
  omega
theorem oth0 {N : List (List Int32)} : oth N = 0 ↔ ∀ l ∈ N, ¬ mkN l = 0 := by
  unfold oth
  rw [List.length_eq_zero_iff, List.filter_eq_nil_iff]
  constructor
  · intro h l hl z
    exact h l hl (decide_eq_true z)
  · intro h l hl z
    exact h l hl (of_decide_eq_true z)
/-- both look alike -/
theorem atOk_iff (h : KN σ τ t n S g a ls A) {k i : Nat} (hk : k < S.K) (he : S.el k = true) (hi : i < 23) {v : Bool} (hv : v = true ↔ IdOk t n S k) : (v && kok i (nms t n S k) && (!decide (i = 6) || sN t n S k)) = true ↔ AtOk t n S k i := by
  rw [kok_eq hi (h.nd_ hk he), Bool.and_eq_true, Bool.and_eq_true, Bool.and_eq_true, decide_eq_true_eq, oth0, hv]
  have hmap : (∀ l ∈ nms t n S k, ¬ mkN l = 0) ↔ ∀ B ∈ S.as k, ¬ mkN (nmB t n B) = 0 := by
    unfold nms
    exact ⟨fun z B hB => z _ (List.mem_map_of_mem hB), fun z l hl => by obtain ⟨B, hB, e⟩ := List.mem_map.mp hl; rw [← e]; exact z B hB⟩
  rw [hmap]
  have hsN : sN t n S k = true ↔ ∀ B ∈ S.as k, nmB t n B = tx 15 → isNumB B.cs = true := by
    unfold sN
    rw [List.all_eq_true]
    refine ⟨fun z B hB e => ?_, fun z B hB => ?_⟩
    · have := z B hB
      rw [decide_eq_true e] at this; exact this
    · by_cases e : nmB t n B = tx 15
      · rw [z B hB e, Bool.or_true]
      · rw [decide_eq_false e]; rfl
  unfold AtOk AtB
  constructor
  · intro ⟨⟨hid, hmk, hal⟩, hs⟩
    refine ⟨fun B hB => ⟨hmk B hB, fun z => hid B hB ((mk_is _).1.mp z), fun z => ?_⟩, hal⟩
    have e15 := (mk_is _).2.mp z
    by_cases e6 : i = 6
    · rw [decide_eq_true e6] at hs
      exact hsN.mp hs B hB e15
    · rcases al_6 i hi with z6 | z6
      · exact absurd z6 e6
      · have := z6 _ _ _ _ _ _ _ hal
        rw [flg_t hB e15] at this
        cases this
  · intro ⟨hB, hal⟩
    refine ⟨⟨fun B hb e => (hB B hb).2.1 ((mk_is _).1.mpr e), fun B hb => (hB B hb).1, hal⟩, ?_⟩
    rw [hsN.mpr (fun B hb e => (hB B hb).2.2 ((mk_is _).2.mpr e)), Bool.or_true]
end AT2
