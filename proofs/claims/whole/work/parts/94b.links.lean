/-! PURE: isLinked of both. -/
section LKD
variable {t : Nat → Int32} {n : Nat} {σ : PPS} {τ : MPS} {S : GS} {g a : Nat → Nat → Int32} {ls : List Int32} {A : Nat}
/-- a value that the one holds in a row -/
def VRow (σ : PPS) (ls : List Int32) (r : Nat) (V : List Int32) (f : Nat) : Prop := (tGet 5 (pAt σ) (nI r) 4 = nI f) ∧ (tGet 5 (pAt σ) (nI r) 1 = nI V.length) ∧ (Seg ls f V)
theorem VRow.e4 {σ : PPS} {ls : List Int32} {r : Nat} {V : List Int32} {f : Nat} (h : VRow σ ls r V f) : tGet 5 (pAt σ) (nI r) 4 = nI f := h.1
theorem VRow.e1 {σ : PPS} {ls : List Int32} {r : Nat} {V : List Int32} {f : Nat} (h : VRow σ ls r V f) : tGet 5 (pAt σ) (nI r) 1 = nI V.length := h.2.1
theorem VRow.sg {σ : PPS} {ls : List Int32} {r : Nat} {V : List Int32} {f : Nat} (h : VRow σ ls r V f) : Seg ls f V := h.2.2
theorem Seg.drop {l m : List Int32} {f d : Nat} (h : Seg l f m) (hd : d ≤ m.length) : Seg l (f + d) (m.drop d) := by
  have := h.1
  refine ⟨by rw [List.length_drop]; omega, fun i hi => ?_⟩
  rw [List.length_drop] at hi
  rw [List.getElem?_drop, show f + d + i = f + (d + i) from by omega]
  exact h.2 (d + i) (by omega)
theorem KN.idv (h : KN σ τ t n S g a ls A) {k : Nat} (hk : k < S.K) : (tGet 14 (pNd σ) (nI k) 13 = -1 ∧ ∀ W, ¬ idIs t n S k W) ∨ ∃ r f W, r < 2 ^ 31 ∧ tGet 14 (pNd σ) (nI k) 13 = nI r ∧ VRow σ ls r W f ∧ ∀ W', idIs t n S k W' ↔ W = W' := by
  rcases h.id hk with ⟨e, hall⟩ | ⟨r, B, f, hr, e, hB, hs, he, e4, e1, sS, hok⟩
  · exact Or.inl ⟨e, fun W ⟨B, hB, hs, _⟩ => hall B hB hs⟩
  · exact Or.inr ⟨r, f, B.cs, hr, e, ⟨e4, e1, sS⟩, fun W' => h.idU hk he hB hs⟩
theorem k_isIdAhead (h : KN σ τ t n S g a ls A) {r f d m : Nat} {V : List Int32} (hv : VRow σ ls r V f) (hd : d ≤ V.length) (hm : m ≤ S.K) {post : Int32 → Prop} (h1 : (∃ k, k < m ∧ idIs t n S k (V.drop d)) → post 1) (h0 : (∀ k, k < m → ¬ idIs t n S k (V.drop d)) → post 0) : w_Insp_isIdAhead σ (nI r) (nI d) (nI m) post := by
  have hK := h.K
  have hlsl := h.lsl
  have hVl := hv.sg.1
  have key : ∀ q i, i + q = m → (∀ j, j < i → ¬ idIs t n S j (V.drop d)) → ∃ fu, w_Insp_isIdAhead_L3 σ (nI r) (nI d) (nI m) post fu (nI i) := by
    intro q
    induction q with
    | zero =>
      intro i hi hno
      refine ⟨1, ?_⟩
      unfold w_Insp_isIdAhead_L3
      exact br_t (nI_le (by omega) (by omega)) (h0 (fun k hk => hno k (by omega)))
    | succ q ih =>
      intro i hi hno
      have hik : i < S.K := by omega
      have cont : ¬ idIs t n S i (V.drop d) → ∃ fu, w_Insp_isIdAhead_L3 σ (nI r) (nI d) (nI m) post fu (nI (i + 1)) := fun hne => ih (i + 1) (by omega) (fun j hj => by
        by_cases e : j = i
        · rw [e]; exact hne
        · exact hno j (by omega))
      rcases h.idv hik with ⟨e, hall⟩ | ⟨r', f', W, hr', e, hv', hiff⟩
      · obtain ⟨fu, hfu⟩ := cont (hall _)
        refine ⟨fu + 1, ?_⟩
        unfold w_Insp_isIdAhead_L3 w_Insp_isIdAhead_J44
        rw [e, nI_1]
        exact br_f (nI_ge (by omega) (by omega)) (br_t rfl hfu)
      · have hW := hv'.sg.1
        have vb : ∀ {pst : Int32 → Prop}, (W = V.drop d → pst 1) → (¬ W = V.drop d → pst 0) → w_Book_valueBehindIs σ (nI r) (nI d) (nI r') pst := fun {pst} p1 p0 => by
          unfold w_Book_valueBehindIs
          rw [hv.e1, hv.e4, hv'.e1, hv'.e4, pk_sub hd, nI_add]
          refine pk_eq (V.length - d) W.length (fun el => ?_) (fun el => p0 (fun z => el (by rw [z, List.length_drop]))) rfl rfl (by omega) (by omega)
          have hdl : (V.drop d).length = W.length := by rw [List.length_drop]; exact el
          rw [← hdl]
          refine k_lettersAgree h.bk.le hlsl (hv.sg.drop hd) hv'.sg hdl ?_
          by_cases ew : V.drop d = W
          · exact bl_t (decide_eq_true ew) (p1 ew.symm)
          · exact bl_f (decide_eq_false ew) (p0 (fun z => ew z.symm))
        by_cases ew : W = V.drop d
        · refine ⟨1, ?_⟩
          unfold w_Insp_isIdAhead_L3
          rw [e]
          exact br_f (nI_ge (by omega) (by omega)) (br_f (nI_m1 hr') (vb (fun _ => br_f (by decide) (h1 ⟨i, by omega, (hiff _).mpr ew⟩)) (fun z => absurd ew z)))
        · obtain ⟨fu, hfu⟩ := cont (fun z => ew ((hiff _).mp z))
          refine ⟨fu + 1, ?_⟩
          unfold w_Insp_isIdAhead_L3 w_Insp_isIdAhead_J44
          rw [e, nI_1]
          exact br_f (nI_ge (by omega) (by omega)) (br_f (nI_m1 hr') (vb (fun z => absurd z ew) (fun _ => br_t rfl hfu)))
  exact key m 0 (Nat.zero_add m) (fun j hj => absurd hj (Nat.not_lt_zero j))
/-- an attribute's row by its number -/
theorem KN.rowOf (h : KN σ τ t n S g a ls A) {k j : Nat} {B : Att} (hk : k < S.K) (hB : (S.as k)[j]? = some B) : ∃ r f0 f, r < 2 ^ 31 ∧ bAtt σ (nI k) (nI j) = nI r ∧ tGet 5 (pAt σ) (nI r) 3 = nI f0 ∧ tGet 5 (pAt σ) (nI r) 0 = nI (seg t n B.na B.nl).length ∧ Seg ls f0 (seg t n B.na B.nl) ∧ VRow σ ls r B.cs f := by
  obtain ⟨q, hat⟩ := (h.bk.row k hk).att
  have hj := (List.getElem?_eq_some_iff.mp hB).1
  have hrow := hat.row j B hB
  obtain ⟨f3, r3, s3⟩ := hrow.c3
  obtain ⟨f4, r4, s4⟩ := hrow.c4
  have := hat.le
  have := h.bk.ale
  have := h.inv.an
  have := h.inv.n4
  have e4 : tGet 14 (pNd σ) (nI k) 4 = nI (S.as k).length := (h.get (c := 4) rfl hk (by decide)).trans hat.c4
  have e9 : tGet 14 (pNd σ) (nI k) 9 = nI q := (h.get (c := 9) rfl hk (by decide)).trans hat.c9
  refine ⟨q + j, f3, f4, by omega, ?_, ?_, ?_, s3, ⟨?_, ?_, s4⟩⟩
  · unfold bAtt
    rw [if_neg (nI_pos (by omega)), e4, if_neg (nI_ge hj (by omega)), e9, nI_add]
  · rw [h.at_ hat hB (x := 3) (c := 3) rfl (by decide)]; exact r3
  · rw [h.at_ hat hB (x := 0) (c := 0) rfl (by decide), seg_len]; exact hrow.c0
  · rw [h.at_ hat hB (x := 4) (c := 4) rfl (by decide)]; exact r4
  · rw [h.at_ hat hB (x := 1) (c := 1) rfl (by decide)]; exact hrow.c1
theorem k_isNamed (h : KN σ τ t n S g a ls A) {r f0 x : Nat} {l : List Int32} (hx : x < 49) (e3 : tGet 5 (pAt σ) (nI r) 3 = nI f0) (e0 : tGet 5 (pAt σ) (nI r) 0 = nI l.length) (hs : Seg ls f0 l) {post : Int32 → Prop} (h1 : l = tx x → post 1) (h0 : ¬ l = tx x → post 0) : w_Book_isNamed σ (nI r) x post := by
  unfold w_Book_isNamed
  rw [e3, e0]
  refine k_lettersAre hx h.bk.le h.lsl hs ?_
  by_cases e : l = tx x
  · rw [decide_eq_true e]; exact ⟨nar_1, h1 e⟩
  · rw [decide_eq_false e]; exact ⟨nar_0, h0 e⟩
theorem k_attributeNamed (h : KN σ τ t n S g a ls A) {k x : Nat} (hk : k < S.K) (hx : x < 49) {post : Int32 → Prop} (h1 : ∀ B r f, B ∈ S.as k → seg t n B.na B.nl = tx x → r < 2 ^ 31 → VRow σ ls r B.cs f → post (nI r)) (h0 : (∀ B ∈ S.as k, ¬ seg t n B.na B.nl = tx x) → post (-1)) : w_Book_attributeNamed σ (nI k) x post := by
  obtain ⟨q, hat⟩ := (h.bk.row k hk).att
  have hal := as_len h hk
  have e4 : tGet 14 (pNd σ) (nI k) 4 = nI (S.as k).length := (h.get (c := 4) rfl hk (by decide)).trans hat.c4
  unfold w_Book_attributeNamed
  rw [e4]
  have key : ∀ m j, j + m = (S.as k).length → (∀ i B, i < j → (S.as k)[i]? = some B → ¬ seg t n B.na B.nl = tx x) → ∃ fu, w_Book_attributeNamed_L13 σ (nI k) x (nI (S.as k).length) post fu (nI j) := by
    intro m
    induction m with
    | zero =>
      intro j hj hno
      refine ⟨1, ?_⟩
      unfold w_Book_attributeNamed_L13
      refine br_t (nI_le (by omega) (by omega)) (h0 (fun B hB => ?_))
      obtain ⟨i, hi, e⟩ := List.getElem_of_mem hB
      exact hno i B (by omega) (by rw [List.getElem?_eq_getElem hi, e])
    | succ m ih =>
      intro j hj hno
      have hB : (S.as k)[j]? = some ((S.as k)[j]'(by omega)) := List.getElem?_eq_getElem (by omega)
      obtain ⟨r, f0, f, hr, eb, e3, e0, s0, hv⟩ := h.rowOf hk hB
      by_cases hs : seg t n ((S.as k)[j]'(by omega)).na ((S.as k)[j]'(by omega)).nl = tx x
      · refine ⟨1, ?_⟩
        unfold w_Book_attributeNamed_L13
        rw [eb]
        exact br_f (nI_ge (by omega) (by omega)) (k_isNamed h hx e3 e0 s0 (fun _ => br_f (by decide) (h1 _ r f (List.getElem_mem (by omega)) hs hr hv)) (fun z => absurd hs z))
      · obtain ⟨fu, hfu⟩ := ih (j + 1) (by omega) (fun i B hi hB2 => by
          by_cases e : i = j
          · subst e; rw [hB] at hB2; cases hB2; exact hs
          · exact hno i B (by omega) hB2)
        refine ⟨fu + 1, ?_⟩
        unfold w_Book_attributeNamed_L13
        rw [eb, nI_1]
        exact br_f (nI_ge (by omega) (by omega)) (k_isNamed h hx e3 e0 s0 (fun z => absurd z hs) (fun _ => br_t rfl hfu))
  exact key _ 0 (Nat.zero_add _) (fun i B hi => absurd hi (Nat.not_lt_zero i))
/-- an a whose link leads nowhere -/
def Astray (t : Nat → Int32) (n : Nat) (S : GS) (k : Nat) : Prop := kOf t n S k = some 17 ∧ ∃ B ∈ S.as k, seg t n B.na B.nl = tx 10 ∧ B.cs[0]? = some 35 ∧ ∀ j, j < S.K → ¬ idIs t n S j (B.cs.drop 1)
/-- names are not twice -/
theorem KN.nmU (h : KN σ τ t n S g a ls A) {k x : Nat} {B C : Att} (hk : k < S.K) (hB : B ∈ S.as k) (hs : seg t n B.na B.nl = tx x) (hC : C ∈ S.as k) (hCs : seg t n C.na C.nl = tx x) : B = C := by
  have he : S.el k = true := by
    cases hc : S.el k with
    | true => rfl
    | false => rw [h.gt.ta k hk hc] at hB; cases hB
  obtain ⟨i, hi, ei⟩ := List.getElem_of_mem hB
  obtain ⟨j, hj, ej⟩ := List.getElem_of_mem hC
  have := h.gd.uq k hk he i j B C (by rw [List.getElem?_eq_getElem hi, ei]) (by rw [List.getElem?_eq_getElem hj, ej]) (by rw [hs, hCs])
  subst this
  rw [← ei, ej]
theorem k_firstAstray (h : KN σ τ t n S g a ls A) {post : Int32 → Prop} (h1 : ∀ k, k < S.K → Astray t n S k → (∀ j, j < k → ¬ Astray t n S j) → post (nI (S.bg k))) (h0 : (∀ k, k < S.K → ¬ Astray t n S k) → post (-1)) : w_Insp_firstAstray σ post := by
  have hK := h.K
  have key : ∀ q i, i + q = S.K → (∀ j, j < i → ¬ Astray t n S j) → w_Insp_firstAstray_L2 σ post (q + 1) (nI i) := by
    intro q
    induction q with
    | zero =>
      intro i hi hno
      unfold w_Insp_firstAstray_L2
      rw [h.bk.nd.1]
      exact br_t (nI_le (by omega) (by omega)) (h0 (fun k hk => hno k (by omega)))
    | succ q ih =>
      intro i hi hno
      have hik : i < S.K := by omega
      have cont : ¬ Astray t n S i → w_Insp_firstAstray_J45 σ (w_Insp_firstAstray_L2 σ post (q + 1)) post (nI i) := fun hne => by
        unfold w_Insp_firstAstray_J45
        rw [nI_1]
        refine ih (i + 1) (by omega) (fun j hj => ?_)
        by_cases e : j = i
        · rw [e]; exact hne
        · exact hno j (by omega)
      unfold w_Insp_firstAstray_L2
      rw [h.bk.nd.1]
      refine br_f (nI_ge (by omega) (by omega)) (fa_eq ?_)
      rw [h.kind hik]
      refine ⟨fun k e => kOf_lt e, ?_⟩
      by_cases hA : kOf t n S i = some 17
      · refine br_t hA ?_
        unfold w_Insp_isLed
        refine k_attributeNamed h hik (by decide) (fun B r f hB hs hr hv => ?_) (fun hall => ?_)
        · rw [hv.e4, hv.e1, show (0 : Int32) = nI 0 from rfl, bLet_seg h.bk.le h.lsl hv.sg (by decide), h.bk.nd.1]
          have onB : ∀ C, C ∈ S.as i → seg t n C.na C.nl = tx 10 → C = B := fun C hC hCs => h.nmU hik hC hCs hB hs
          by_cases h35 : B.cs[0]? = some 35
          · refine br_t (by rw [h35]; rfl) ?_
            have hlen : 1 ≤ B.cs.length := (List.getElem?_eq_some_iff.mp h35).1
            refine k_isIdAhead h (d := 1) hv hlen (Nat.le_refl _) (fun hex => ⟨nar_1, br_f (by decide) (cont (fun z => ?_))⟩) (fun hno2 => ⟨nar_0, br_t rfl ?_⟩)
            · obtain ⟨_, C, hC, hCs, _, hz⟩ := z
              rw [onB C hC hCs] at hz
              obtain ⟨j, hj, hid⟩ := hex
              exact hz j hj hid
            · rw [show tGet 14 (pNd σ) (nI i) 2 = nI (S.bg i) from (h.get (c := 2) rfl hik (by decide)).trans (h.bk.row i hik).lnk.c2]
              exact h1 i hik ⟨hA, B, hB, hs, h35, hno2⟩ hno
          · refine br_f (fun z => h35 ?_) (br_f (by decide) (cont (fun z => ?_)))
            · cases hz : B.cs[0]? with
              | none => rw [hz] at z; revert z; decide
              | some c => rw [hz] at z; have z : c = 35 := z; rw [z]
            · obtain ⟨_, C, hC, hCs, hz, _⟩ := z
              rw [onB C hC hCs] at hz
              exact h35 hz
        · rw [tGet5_m1, tGet5_m1, bLet_m1]
          refine br_f (by decide) (br_f (by decide) (cont (fun z => ?_)))
          obtain ⟨_, C, hC, hCs, _⟩ := z
          exact hall C hC hCs
      · exact br_f hA (cont (fun z => hA z.1))
  exact ⟨_, key S.K 0 (Nat.zero_add _) (fun j hj => absurd hj (Nat.not_lt_zero j))⟩
/-- what no answer shows may differ, but for the throw -/
def Jt (τ τ' : MPS) : Prop := Js τ τ' ∧ τ'.1 0 = τ.1 0
theorem Jt.refl (τ : MPS) : Jt τ τ := ⟨Js.refl τ, rfl⟩
theorem Jt.trans {a b c : MPS} (h : Jt a b) (h2 : Jt b c) : Jt a c := ⟨h.1.trans h2.1, h2.2.trans h.2⟩
theorem Jw.jt {τ τ' : MPS} (h : Jw τ τ') : Jt τ τ' := ⟨h.js, h.1 0 (by decide)⟩
theorem Df.jt {L : List Nat} {τ τ' : MPS} (h : Df L τ τ') (hL : ∀ j, j ∈ L → j ∈ Lj) (h0 : ¬ 0 ∈ L) : Jt τ τ' := ⟨h.js hL, h.2 0 h0⟩
theorem r_want {V : List Int32} {d : Nat} (hV : Row (mp_valueMany τ) (mp_value τ) V) (hd : d ≤ V.length) (hl : V.length ≤ 4000) {post : MPS → Prop} (hq : ∀ τ', Jt τ τ' → Row (mp_wantedMany τ') (mp_wanted τ') (V.drop d) → post τ') : w_M_want τ (nI d) post := by
  unfold w_M_want
  refine fa_eq ?_
  have key : ∀ q i τ1, i + q = V.length → d ≤ i → (∀ j, ¬ j = 36 → τ1.1 j = τ.1 j) → (∀ j, ¬ j = 18 → τ1.2 j = τ.2 j) → Row (mp_wantedMany τ1) (mp_wanted τ1) ((V.drop d).take (i - d)) → ∃ f, w_M_want_L7 post f (nI i) τ1 := by
    intro q
    induction q with
    | zero =>
      intro i τ1 hi hdi p1 p2 hR
      refine ⟨1, ?_⟩
      unfold w_M_want_L7
      rw [show mp_valueMany τ1 = nI V.length from (p1 35 (by decide)).trans hV.1]
      refine br_t (nI_le (by omega) (by omega)) (hq τ1 ⟨⟨fun j hj => p1 j (fun z => hj (by rw [z]; decide)), fun j _ b => p2 j b⟩, p1 0 (by decide)⟩ ?_)
      rw [List.take_of_length_le (by rw [List.length_drop]; omega)] at hR
      exact hR
    | succ q ih =>
      intro i τ1 hi hdi p1 p2 hR
      have hlen : ((V.drop d).take (i - d)).length = i - d := by rw [List.length_take, List.length_drop]; omega
      have e36 : mp_wantedMany τ1 = nI (i - d) := by rw [hR.1, hlen]
      have ev : mp_value τ1 = mp_value τ := p2 17 (by decide)
      obtain ⟨f, hf⟩ := ih (i + 1) (ms_wantedMany (ms_wanted τ1 (upd (mp_wanted τ1) (i - d) (mp_value τ i))) (nI (i - d + 1))) (by omega) (by omega) (fun j hj => (va_up_ne τ1.1 _ hj).trans (p1 j hj)) (fun j hj => (va_up_ne τ1.2 _ hj).trans (p2 j hj)) (by
        have hx : V[i]? = some (mp_value τ i) := hV.2 i (by omega)
        have etk : (V.drop d).take (i + 1 - d) = (V.drop d).take (i - d) ++ [mp_value τ i] := by
          rw [show i + 1 - d = (i - d) + 1 from by omega, List.take_add_one, List.getElem?_drop, show d + (i - d) = i from by omega, hx]; rfl
        rw [etk]
        refine ⟨by rw [List.length_append, hlen]; rfl, ?_⟩
        have := Row.snoc hR.2 (mp_value τ i)
        rw [hlen] at this
        exact this)
      refine ⟨f + 1, ?_⟩
      unfold w_M_want_L7
      rw [show mp_valueMany τ1 = nI V.length from (p1 35 (by decide)).trans hV.1, e36, ev]
      refine br_f (nI_ge (by omega) (by omega)) ⟨vp_in_nI (by omega) (by decide), vp_in_nI (by omega) (by decide), fa_eq (fa_eq ?_)⟩
      rw [nI_clamp (by omega), nI_clamp (by omega), nI_1, show mp_wantedMany (ms_wanted τ1 (upd (mp_wanted τ1) (i - d) (mp_value τ i))) = nI (i - d) from e36, nI_1]
      exact hf
  obtain ⟨f, hf⟩ := key (V.length - d) d (ms_wantedMany τ 0) (by omega) (Nat.le_refl _) (fun j hj => va_up_ne τ.1 _ hj) (fun j _ => rfl) (by rw [Nat.sub_self]; exact ⟨rfl, fun i hi => absurd hi (Nat.not_lt_zero i)⟩)
  exact ⟨f, hf⟩
theorem we10 : wEq 1752327526 4 10 := by unfold wEq; decide +kernel
theorem kOf_is {k i : Nat} (hi : i < 23) : kOf t n S k = some i ↔ S.el k = true ∧ seg t n (S.bg k + 1) (S.nl k) = tx (kLa.getD i 0) := by
  unfold kOf
  by_cases he : S.el k = true
  · rw [if_pos he, kid_iff hi]; exact ⟨fun h => ⟨he, h⟩, fun h => h.2⟩
  · rw [if_neg he]; exact ⟨fun h => (by cases h), fun h => absurd h.1 he⟩
theorem r_isLinkedL (h : KN σ τ t n S g a ls A) (hf : mp_fault τ = 0) {post : Int32 → MPS → Prop} (h1 : ∀ k τ', k < S.K → Astray t n S k → (∀ j, j < k → ¬ Astray t n S j) → Jt τ τ' → post 0 (ms_faultAt (ms_fault τ' 3) (nI (S.bg k)))) (h0 : (∀ k, k < S.K → ¬ Astray t n S k) → ∀ τ', Jt τ τ' → post 1 τ') : ∃ f, w_M_isLinked_L33 post f 0 τ := by
  have hK := h.K
  have hn := h.mt.2.1
  have key : ∀ q i τ1, i + q = S.K → Jt τ τ1 → (∀ j, j < i → ¬ Astray t n S j) → w_M_isLinked_L33 post (q + 2) (nI i) τ1 := by
    intro q
    induction q with
    | zero =>
      intro i τ1 hi j1 hno
      show w_M_isLinked_L33 post (1 + 1) (nI i) τ1
      unfold w_M_isLinked_L33 w_M_isLinked_J133
      rw [(h.js j1.1).mb.1]
      refine br_t (nI_le (by omega) (by omega)) (br_t ((j1.1.1 9 (by decide)).trans hf) (h0 (fun k hk => hno k (by omega)) τ1 j1))
    | succ q ih =>
      intro i τ1 hi j1 hno
      have hik : i < S.K := by omega
      have h1' := h.js j1.1
      have cont : ∀ τ2, Jt τ τ2 → ¬ Astray t n S i → w_M_isLinked_J127 (w_M_isLinked_L33 post (q + 2)) post (nI i) τ2 := fun τ2 j2 hne => by
        unfold w_M_isLinked_J127
        rw [nI_1]
        refine ih (i + 1) τ2 (by omega) j2 (fun j hj => ?_)
        by_cases e : j = i
        · rw [e]; exact hne
        · exact hno j (by omega)
      show w_M_isLinked_L33 post ((q + 2) + 1) (nI i) τ1
      unfold w_M_isLinked_L33
      rw [h1'.mb.1]
      refine br_f (nI_ge (by omega) (by omega)) (br_t ((j1.1.1 9 (by decide)).trans hf) ?_)
      refine r_isNamed (x := 26) (m := 1) (by decide) (by decide) wk26 h1' hik (fun he hsA => br_f (by decide) ?_) (fun hnA => br_t rfl (cont τ1 j1 (fun z => ?_)))
      · have hkA : kOf t n S i = some 17 := (kOf_is (by decide)).mpr ⟨he, hsA⟩
        refine r_hasAttribute (x := 10) (m := 4) (by decide) (by decide) we10 h1' hik he (fun B τ2 hB hs d lat => br_f (by decide) ?_) (fun hall τ2 d => br_t rfl (cont τ2 (j1.trans d.jw.jt) (fun z => ?_)))
        · obtain ⟨q2, hAL, _⟩ := h.al hik he
          obtain ⟨jx, hjx, ejx⟩ := List.getElem_of_mem hB
          obtain ⟨p', hAP⟩ := AL.get hAL (show (S.as i)[jx]? = some B by rw [List.getElem?_eq_getElem hjx, ejx])
          have hle := hAP.le
          have hcl := Chars.le hAP.ch
          have onB : ∀ C, C ∈ S.as i → seg t n C.na C.nl = tx 10 → C = B := fun C hC hCs => h.nmU hik hC hCs hB hs
          refine r_takeValue (h1'.mt.df d (by decide)) hAP lat (fun τ3 jv hV => ?_)
          have j3 : Jt τ τ3 := (j1.trans d.jw.jt).trans jv.jw.jt
          rw [hV.1]
          refine ⟨fun z => cont τ3 j3 (fun ⟨_, C, hC, hCs, h35, _⟩ => ?_), fun z => ⟨by unfold vp_in; decide, ?_⟩⟩
          · rw [onB C hC hCs] at h35
            have hl := (List.getElem?_eq_some_iff.mp h35).1
            exact nI_ne0 hl (by omega) z
          · have hl : 0 < B.cs.length := by
              by_cases hz : B.cs.length = 0
              · rw [hz] at z; exact absurd rfl z
              · omega
            have hv0 := hV.2 0 hl
            refine ⟨fun e35 => ?_, fun e35 => cont τ3 j3 (fun ⟨_, C, hC, hCs, h35, _⟩ => ?_)⟩
            · have h35 : B.cs[0]? = some 35 := by rw [hv0]; exact congrArg some e35
              refine r_want (d := 1) hV hl (by omega) (fun τ4 j4 hW => ?_)
              have j34 := j3.trans j4
              have h4 := h.js j34.1
              rw [h4.mb.1]
              refine r_withId h4 (Nat.le_refl _) hW (by rw [List.length_drop]; omega) (fun k τ5 hk hid _ jw => ?_) (fun hnoId τ5 jw => ?_)
              · refine br_t (nI_pos' (by omega)) (cont τ5 (j34.trans jw.jt) (fun ⟨_, C, hC, hCs, _, hz⟩ => ?_))
                rw [onB C hC hCs] at hz
                exact hz k hk hid
              · have j5 := j34.trans jw.jt
                have hA : Astray t n S i := ⟨hkA, B, hB, hs, h35, hnoId⟩
                refine br_f (by decide) ⟨h.in_ hik, ?_⟩
                unfold w_M_tell w_M_isLinked_J127
                rw [nI_clamp (by omega), ((h.js j5.1).mb.2.2 i hik).bg, nI_1]
                refine fa_eq (fa_eq ?_)
                have fin := h1 i τ5 hik hA hno j5
                unfold w_M_isLinked_L33 w_M_isLinked_J133
                have hf3 : ¬ mp_fault (ms_faultAt (ms_fault τ5 3) (nI (S.bg i))) = 0 := by show ¬ (3 : Int32) = 0; decide
                exact ⟨fun _ => br_f hf3 fin, fun _ => br_f hf3 (br_f hf3 fin)⟩
            · rw [onB C hC hCs] at h35
              rw [hv0] at h35
              exact e35 (Option.some.inj h35)
        · obtain ⟨_, C, hC, hCs, _⟩ := z
          exact hall C hC hCs
      · have := ((kOf_is (by decide)).mp z.1)
        exact hnA this.1 this.2
  exact ⟨_, key S.K 0 τ (Nat.zero_add _) (Jt.refl τ) (fun j hj => absurd hj (Nat.not_lt_zero j))⟩
theorem flt_flt {τ : MPS} {x y u v : Int32} : ms_faultAt (ms_fault (ms_faultAt (ms_fault τ x) y) u) v = ms_faultAt (ms_fault τ u) v := by
  unfold ms_faultAt ms_fault
  refine Prod.ext ?_ rfl
  funext j
  show va_up (va_up (va_up (va_up τ.1 9 x) 10 y) 9 u) 10 v j = va_up (va_up τ.1 9 u) 10 v j
  by_cases e : j = 10
  · rw [e, va_s, va_s]
  · rw [va_n e, va_n e]
    by_cases e9 : j = 9
    · rw [e9, va_s, va_s]
    · rw [va_n e9, va_n e, va_n e9, va_n e9]
theorem RL.flt (h : RL σ τ) (x y : Int32) : RL (sFp (sFs σ x) y) (ms_faultAt (ms_fault τ x) y) :=
  ⟨h.rd, h.tp, h.sh, rfl, rfl, h.dc, (h.bk.sig (σ' := sFp (sFs σ x) y) rfl rfl rfl rfl).tau rfl (fun j hj => by
    show va_up (va_up τ.1 9 _) 10 _ j = _
    rw [va_n (by omega), va_n (by omega)]) (fun j _ => rfl)⟩
/-- what the law asks of a call that answers a truth or throws -/
def lawB (r1 : Int32) (g : Nat → Int64) (r2 th : Int32) (N : Prop) : Prop := ((th = r1 → ((r1 = 0 → ((r2 = 0 → ((g (0 : Int32).toNatClampNeg = (0 : Int64) → N) ∧ (¬ g (0 : Int32).toNatClampNeg = (0 : Int64) → False))) ∧ (¬ r2 = 0 → ((g (0 : Int32).toNatClampNeg = (1 : Int64) → N) ∧ (¬ g (0 : Int32).toNatClampNeg = (1 : Int64) → False))))) ∧ (¬ r1 = 0 → N))) ∧ (¬ th = r1 → False))
theorem lawB_0 {f : Nat → Int64} {N : Prop} (h : N) : lawB 0 (vp_updL f (0 : Int32).toNatClampNeg 0) 0 0 N := br_t rfl (br_t rfl (br_t rfl (br_t pk_uLs h)))
theorem lawB_1 {f : Nat → Int64} {N : Prop} (h : N) : lawB 0 (vp_updL f (0 : Int32).toNatClampNeg 1) 1 0 N := br_t rfl (br_t rfl (br_f (by decide) (br_t pk_uLs h)))
theorem lawB_t {g : Nat → Int64} {r : Int32} {N : Prop} (h : N) : lawB 1 g r 1 N := br_t rfl (br_f (by decide) h)
theorem c5_isLinked {f : Nat → Int64} (h : RL σ τ) {next : PPS → MPS → (Nat → Int64) → Prop} (hq : ∀ σ' τ' g, RL σ' τ' → next σ' τ' g) : w_L_isLinked σ f (fun r v g => w_M_isLinked τ (fun r' τ' => lawB r g r' (mp_thrown τ') (next v τ' g))) := by
  unfold w_L_isLinked w_X_isLinked
  rcases h.book with ⟨k0, hE⟩ | ⟨t, n, S, g, a, ls, A, hK⟩
  · refine br_t hE.1 ?_
    unfold w_M_isLinked w_M_isLinked_J13
    refine br_t k0 (fa_eq (br_f (by show ¬ (1 : Int32) ≤ 0; decide) ?_))
    exact lawB_t (hq _ _ _ (h.js (Js.set τ (by decide))))
  · have hK9 := hK.K
    have hpos := hK.pos
    refine br_f (by rw [hK.bk.nd.1]; exact nI_ne0 hpos (by omega)) ?_
    have J0 : Js τ (ms_thrown τ 0) := Js.set τ (by decide)
    have h2 := (h.js J0).flt 0 (-1)
    have hKf : KN σ (ms_faultAt (ms_fault (ms_thrown τ 0) 0) (-1)) t n S g a ls A := by
      have := hK.js J0
      exact ⟨this.rd, this.inv, this.gd, this.pos, this.bk, ⟨this.mb.1, this.mb.2.1, fun k hk => (this.mb.2.2 k hk).mv (fun j _ _ => rfl) rfl rfl rfl rfl rfl rfl rfl rfl⟩, ⟨this.mt.1, this.mt.2.1, this.mt.2.2⟩, this.kn⟩
    have entry : ∀ {post : Int32 → MPS → Prop}, (∃ fu, w_M_isLinked_L33 post fu 0 (ms_faultAt (ms_fault (ms_thrown τ 0) 0) (-1))) → w_M_isLinked τ post := fun {post} hL => by
      unfold w_M_isLinked w_M_isLinked_J13 w_M_tell
      exact br_f (by rw [hK.kn]; decide) (fa_eq (br_t (by show (0 : Int32) ≤ 0; decide) (fa_eq (fa_eq hL))))
    refine k_firstAstray hK (fun k hk hA hno => ?_) (fun hno => ?_)
    · have hbm : ¬ nI (S.bg k) = -1 := nI_m1 (by
        have he := ((kOf_is (by decide)).mp hA.1).1
        have := (hK.gd.nm k hk he).len
        have := hK.inv.n4
        omega)
      unfold w_X_keepFault w_X_keepFault_J11
      refine br_f hbm (fa_eq (fa_eq (br_f hbm ⟨nar_0, br_t rfl (entry (r_isLinkedL hKf rfl (fun k' τ' hk' hA' hno' js => ?_) (fun hno' => absurd hA (hno' k hk))))⟩)))
      have : k' = k := by
        rcases Nat.lt_trichotomy k' k with z | z | z
        · exact absurd hA' (hno k' z)
        · exact z
        · exact absurd hA (hno' k z)
      subst this
      rw [show mp_thrown (ms_faultAt (ms_fault τ' 3) (nI (S.bg k'))) = 0 from js.2]
      refine lawB_0 (hq _ _ _ ?_)
      have h3 : RL σ (ms_faultAt (ms_fault τ' (pFs σ)) (pFp σ)) := by
        have h5 := (h2.js js.1).flt (pFs σ) (pFp σ)
        exact h5
      have h6 := h3.flt 3 (nI (S.bg k'))
      have e : ms_faultAt (ms_fault (ms_faultAt (ms_fault τ' (pFs σ)) (pFp σ)) 3) (nI (S.bg k')) = ms_faultAt (ms_fault τ' 3) (nI (S.bg k')) := flt_flt
      rw [e] at h6
      exact h6
    · unfold w_X_keepFault w_X_keepFault_J11
      refine br_t rfl (fa_eq (fa_eq (br_t rfl ⟨nar_1, br_f (by decide) (entry (r_isLinkedL hKf rfl (fun k' τ' hk' hA' _ _ => absurd hA' (hno k' hk')) (fun _ τ' js => ?_)))⟩)))
      rw [show mp_thrown τ' = 0 from js.2]
      exact lawB_1 (hq _ _ _ (h2.js js.1))
end LKD
