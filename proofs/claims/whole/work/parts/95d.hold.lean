/-! PURE: what an element holds. -/
section HD
variable {t : Nat → Int32} {n : Nat} {σ : PPS} {τ : MPS} {S : GS} {g a : Nat → Nat → Int32} {ls : List Int32} {A : Nat}
/-- the kinds of the elements among m nodes from b on that k holds -/
def chl (t : Nat → Int32) (n : Nat) (S : GS) (k : Nat) : Nat → Nat → List (Option Nat)
  | _, 0 => []
  | b, m + 1 => if S.up b = nI k ∧ S.el b = true then kOf t n S b :: chl t n S k (b + 1) m else chl t n S k (b + 1) m
theorem chl_skip {k : Nat} : ∀ (d b m : Nat), (∀ i, b ≤ i → i < b + d → ¬ S.up i = nI k) → chl t n S k b (d + m) = chl t n S k (b + d) m
  | 0, b, m, _ => by rw [Nat.zero_add, Nat.add_zero]
  | d + 1, b, m, h => by
    rw [show d + 1 + m = (d + m) + 1 from by omega]
    show (if S.up b = nI k ∧ S.el b = true then _ else _) = _
    rw [if_neg (fun z => h b (Nat.le_refl _) (by omega) z.1), chl_skip d (b + 1) m (fun i a c => h i (by omega) (by omega)), show b + 1 + d = b + (d + 1) from by omega]
theorem chl_none {k : Nat} : ∀ (m b : Nat), (∀ i, b ≤ i → i < b + m → ¬ S.up i = nI k) → chl t n S k b m = []
  | 0, _, _ => rfl
  | m + 1, b, h => by
    show (if S.up b = nI k ∧ S.el b = true then _ else _) = _
    rw [if_neg (fun z => h b (Nat.le_refl _) (by omega) z.1)]
    exact chl_none m (b + 1) (fun i a c => h i (by omega) (by omega))
/-- the first that k holds from b on -/
def PtC (S : GS) (k b : Nat) (v : Int32) : Prop := (v = -1 ∧ ∀ i, b ≤ i → i < S.K → ¬ S.up i = nI k) ∨ ∃ j, v = nI j ∧ b ≤ j ∧ j < S.K ∧ S.up j = nI k ∧ ∀ i, b ≤ i → i < j → ¬ S.up i = nI k
theorem KN.ptFs (h : KN σ τ t n S g a ls A) {k : Nat} (hk : k < S.K) : PtC S k (k + 1) (S.fs k) := by
  have hK := h.K
  by_cases e : S.fs k = -1
  · exact Or.inl ⟨e, fun i _ hi => h.gt.fs0 k hk e i hi⟩
  · obtain ⟨j, h1, h2, h3, h4⟩ := h.gt.fs1 k hk e
    refine Or.inr ⟨j, h2, ?_, h1, h3, fun i _ hi => h4 i hi⟩
    rcases h.gt.up j h1 with z | ⟨u, z1, z2, _⟩
    · rw [z.1] at h3; exact absurd h3.symm (nI_m1 (by omega))
    · rw [z2] at h3
      have := (nI_eq (by omega) (by omega)).mp h3
      omega
theorem KN.ptNx (h : KN σ τ t n S g a ls A) {k j : Nat} (hk : k < S.K) (hj : j < S.K) (hup : S.up j = nI k) : PtC S k (j + 1) (S.nx j) := by
  have hK := h.K
  by_cases e : S.nx j = -1
  · exact Or.inl ⟨e, fun i hi hiK => h.gt.nx0 j k hj hk hup e i (by omega) hiK⟩
  · obtain ⟨j2, u, h1, h2, hu, h3, h4, h5, h6⟩ := h.gt.nx1 j hj e
    rw [hup] at h4
    have : k = u := (nI_eq (by omega) (by omega)).mp h4
    subst this
    exact Or.inr ⟨j2, h3, by omega, h2, h5, fun i a b => h6 i (by omega) b⟩
/-- what is due of those held, bit by bit -/
def dueRun (due : Int32) : List (Option Nat) → Bool
  | [] => decide (due = 0)
  | none :: _ => false
  | some i :: L => if (kAs.getD i 0 &&& (due &&& (-due))) = 0 then false else dueRun (due - (due &&& (-due))) L
theorem k_holds (h : KN σ τ t n S g a ls A) {k i : Nat} (hk : k < S.K) (hi : i < 23) {q : Nat} (hq : S.pa k = nI q) (hkq : k < q) (hqK : q ≤ S.K) {post : Int32 → Prop} (hp : post (b2i (!kSays i 1024 || dueRun (kHo.getD i 0 &&& 255) (chl t n S k (k + 1) (q - (k + 1)))))) : w_Insp_holdsWhatItMust σ (nI k) (some i) post := by
  have hK := h.K
  have e10 : tGet 14 (pNd σ) (nI k) 10 = nI q := ((h.get (c := 10) rfl hk (by decide)).trans (h.bk.row k hk).c10).trans hq
  unfold w_Insp_holdsWhatItMust
  refine ⟨i, rfl, hi, ?_⟩
  cases hs : kSays i 1024 with
  | false => rw [hs] at hp; exact bl_f rfl hp
  | true =>
    rw [hs] at hp
    refine bl_t rfl ⟨hi, ?_⟩
    rw [nI_1]
    have key : ∀ m b due, b + m = q → post (b2i (dueRun due (chl t n S k b m))) → ∃ f, w_Insp_holdsWhatItMust_L26 σ (nI k) post f due (nI b) := by
      intro m
      induction m with
      | zero =>
        intro b due hb hp
        refine ⟨1, ?_⟩
        unfold w_Insp_holdsWhatItMust_L26
        rw [e10]
        refine br_t (nI_le (by omega) (by omega)) ?_
        exact eq_b hp
      | succ m ih =>
        intro b due hb hp
        have hbK : b < S.K := by omega
        have g1 := h.g1 hbK
        by_cases hup : S.up b = nI k
        · by_cases hel : S.el b = true
          · have hp : post (b2i (dueRun due (kOf t n S b :: chl t n S k (b + 1) m))) := by
              rw [show chl t n S k b (m + 1) = kOf t n S b :: chl t n S k (b + 1) m from if_pos ⟨hup, hel⟩] at hp; exact hp
            cases hkb : kOf t n S b with
            | none =>
              rw [hkb] at hp
              refine ⟨1, ?_⟩
              unfold w_Insp_holdsWhatItMust_L26
              rw [e10, g1, h.bEle hbK]
              refine br_f (nI_ge (by omega) (by omega)) (br_t hup (bl_t hel (fa_eq ?_)))
              rw [h.kind hbK, hkb]
              exact br_t rfl hp
            | some c =>
              rw [hkb] at hp
              by_cases hz : (kAs.getD c 0 &&& (due &&& (-due))) = 0
              · rw [show dueRun due (some c :: chl t n S k (b + 1) m) = false from if_pos hz] at hp
                refine ⟨1, ?_⟩
                unfold w_Insp_holdsWhatItMust_L26
                rw [e10, g1, h.bEle hbK]
                refine br_f (nI_ge (by omega) (by omega)) (br_t hup (bl_t hel (fa_eq ?_)))
                rw [h.kind hbK, hkb]
                exact br_f (by intro z; cases z) ⟨c, rfl, kOf_lt hkb, br_t hz hp⟩
              · rw [show dueRun due (some c :: chl t n S k (b + 1) m) = dueRun (due - (due &&& (-due))) (chl t n S k (b + 1) m) from if_neg hz] at hp
                obtain ⟨f, hf⟩ := ih (b + 1) _ (by omega) hp
                refine ⟨f + 1, ?_⟩
                unfold w_Insp_holdsWhatItMust_L26 w_Insp_holdsWhatItMust_J107
                rw [e10, g1, h.bEle hbK, nI_1]
                refine br_f (nI_ge (by omega) (by omega)) (br_t hup (bl_t hel (fa_eq ?_)))
                rw [h.kind hbK, hkb]
                exact br_f (by intro z; cases z) ⟨c, rfl, kOf_lt hkb, br_f hz hf⟩
          · rw [show chl t n S k b (m + 1) = chl t n S k (b + 1) m from if_neg (fun z => hel z.2)] at hp
            obtain ⟨f, hf⟩ := ih (b + 1) _ (by omega) hp
            refine ⟨f + 1, ?_⟩
            unfold w_Insp_holdsWhatItMust_L26 w_Insp_holdsWhatItMust_J107
            rw [e10, g1, h.bEle hbK, nI_1]
            exact br_f (nI_ge (by omega) (by omega)) (br_t hup (bl_f (Bool.eq_false_iff.mpr hel) hf))
        · rw [show chl t n S k b (m + 1) = chl t n S k (b + 1) m from if_neg (fun z => hup z.1)] at hp
          obtain ⟨f, hf⟩ := ih (b + 1) _ (by omega) hp
          refine ⟨f + 1, ?_⟩
          unfold w_Insp_holdsWhatItMust_L26 w_Insp_holdsWhatItMust_J107
          rw [e10, g1, nI_1]
          exact br_f (nI_ge (by omega) (by omega)) (br_f hup hf)
    exact key (q - (k + 1)) (k + 1) _ (by omega) hp
/-- as the reference counts those held -/
def refStep (v2 : Int32) (c : Nat) (k : Option Nat) : Bool := if v2 = 1 then (decide (c = 0) && decide (k = some 1)) || (decide (c = 1) && decide (k = some 3)) else if v2 = 2 then decide (c = 0) && decide (k = some 2) else decide (c = 0) && decide (k = some 19)
def refRun (v2 : Int32) : Nat → List (Option Nat) → Bool
  | c, [] => decide (c = if v2 = 1 then 2 else 1)
  | c, k :: L => if refStep v2 c k = true then refRun v2 (c + 1) L else false
theorem kNo_eq {o : Option Nat} {i : Nat} (ho : ∀ j, o = some j → j < 23) (hi : i < 23) : kNo o = nI (i + 1) ↔ o = some i := by
  cases o with
  | none => exact ⟨fun z => absurd z.symm (nI_ne0 (by omega) (by omega)), fun z => by cases z⟩
  | some j =>
    have hj := ho j rfl
    refine ⟨fun z => ?_, fun z => by cases z; rfl⟩
    have := (nI_eq (a := j + 1) (b := i + 1) (by omega) (by omega)).mp z
    have : j = i := by omega
    rw [this]
theorem r_hStep (h : KN σ τ t n S g a ls A) {v2 : Int32} {c : Nat} {o : Option Nat} (ho : ∀ j, o = some j → j < 23) (hv : v2 = 1 ∨ v2 = 2 ∨ v2 = 19) (hc : c ≤ 1000) {K31 : Int32 → Int32 → Int32 → Prop} {post : Int32 → Prop} {v5 : Int32} (hq : w_M_holdsAll_J140 τ v2 K31 post (nI (c + 1)) (b2i (refStep v2 c o)) v5) :
    ((v2 = 1 → ((nI c = 0 → ((kNo o = 2 → w_M_holdsAll_J88 τ v2 K31 post (nI c) v5) ∧ (¬ kNo o = 2 → w_M_holdsAll_J77 τ v2 K31 post (nI c) v5 (kNo o)))) ∧ (¬ nI c = 0 → w_M_holdsAll_J77 τ v2 K31 post (nI c) v5 (kNo o)))) ∧ (¬ v2 = 1 → ((v2 = 2 → ((nI c = 0 → ((kNo o = 3 → w_M_holdsAll_J135 τ v2 K31 post (nI c) v5 1) ∧ (¬ kNo o = 3 → w_M_holdsAll_J115 τ v2 K31 post (nI c) v5))) ∧ (¬ nI c = 0 → w_M_holdsAll_J115 τ v2 K31 post (nI c) v5))) ∧ (¬ v2 = 2 → ((nI c = 0 → ((kNo o = 20 → w_M_holdsAll_J135 τ v2 K31 post (nI c) v5 1) ∧ (¬ kNo o = 20 → w_M_holdsAll_J134 τ v2 K31 post (nI c) v5))) ∧ (¬ nI c = 0 → w_M_holdsAll_J134 τ v2 K31 post (nI c) v5)))))) := by
  unfold w_M_holdsAll_J77 w_M_holdsAll_J88 w_M_holdsAll_J92 w_M_holdsAll_J115 w_M_holdsAll_J134 w_M_holdsAll_J135
  rw [show (2 : Int32) = nI (1 + 1) from rfl, show (3 : Int32) = nI (2 + 1) from rfl, show (20 : Int32) = nI (19 + 1) from rfl, show (4 : Int32) = nI (3 + 1) from rfl, kNo_eq ho (by decide), kNo_eq ho (by decide), kNo_eq ho (by decide), kNo_eq ho (by decide), nI_1]
  have c0 : nI c = 0 ↔ c = 0 := nI_eq (a := c) (b := 0) (by omega) (by decide)
  have c1 : nI c = 1 ↔ c = 1 := nI_eq (a := c) (b := 1) (by omega) (by decide)
  rw [c0, c1]
  unfold refStep at hq
  rcases hv with rfl | rfl | rfl
  · refine br_t rfl ?_
    rw [if_pos rfl] at hq
    by_cases z0 : c = 0
    · subst z0
      refine br_t rfl ⟨fun e => ?_, fun e => br_f (by decide) ?_⟩
      · simpa [e, b2i_t, b2i_f] using hq
      · simpa [e, b2i_t, b2i_f] using hq
    · refine br_f z0 ⟨fun z1 => ⟨fun e => ?_, fun e => ?_⟩, fun z1 => ?_⟩
      · simpa [z0, z1, e, b2i_t, b2i_f] using hq
      · simpa [z0, z1, e, b2i_t, b2i_f] using hq
      · simpa [z0, z1, b2i_t, b2i_f] using hq
  · refine br_f (by decide) (br_t rfl ?_)
    rw [if_neg (by decide), if_pos rfl] at hq
    by_cases z0 : c = 0
    · subst z0
      refine br_t rfl ⟨fun e => ?_, fun e => ?_⟩
      · simpa [e, b2i_t, b2i_f] using hq
      · simpa [e, b2i_t, b2i_f] using hq
    · refine br_f z0 ?_
      simpa [z0, b2i_t, b2i_f] using hq
  · refine br_f (by decide) (br_f (by decide) ?_)
    rw [if_neg (by decide), if_neg (by decide)] at hq
    by_cases z0 : c = 0
    · subst z0
      refine br_t rfl ⟨fun e => ?_, fun e => ?_⟩
      · simpa [e, b2i_t, b2i_f] using hq
      · simpa [e, b2i_t, b2i_f] using hq
    · refine br_f z0 ?_
      simpa [z0, b2i_t, b2i_f] using hq
theorem r_holdsL (h : KN σ τ t n S g a ls A) {k q : Nat} {v2 : Int32} (hk : k < S.K) (hkq : k < q) (hqK : q ≤ S.K) (hq5 : q < S.K → S.dp q ≤ S.dp k) (hv : v2 = 1 ∨ v2 = 2 ∨ v2 = 19) {post : Int32 → Prop} : ∀ (m b c : Nat) (v : Int32), b + m = q → c + m ≤ 1000 → k < b → PtC S k b v → post (b2i (refRun v2 c (chl t n S k b m))) → ∀ f, m + 2 ≤ f → w_M_holdsAll_L31 τ v2 post f (nI c) 1 v := by
  have hK := h.K
  have endG : ∀ c, c ≤ 1000 → post (b2i (refRun v2 c [])) → w_M_holdsAll_J152 τ post v2 (nI c) 1 := fun c hc hp => by
    unfold w_M_holdsAll_J152 w_M_holdsAll_J168
    refine br_f (by decide) ?_
    have hp : post (b2i (decide (c = if v2 = 1 then 2 else 1))) := hp
    refine ⟨fun e => ?_, fun e => ?_⟩
    · rw [if_pos e] at hp
      refine pk_eq c 2 (fun z => ?_) (fun z => ?_) rfl rfl (by omega) (by decide)
      · rw [decide_eq_true z] at hp; exact hp
      · rw [decide_eq_false z] at hp; exact hp
    · rw [if_neg e] at hp
      refine pk_eq c 1 (fun z => ?_) (fun z => ?_) rfl rfl (by omega) (by decide)
      · rw [decide_eq_true z] at hp; exact hp
      · rw [decide_eq_false z] at hp; exact hp
  intro m
  induction m using Nat.strongRecOn with
  | ind m ih =>
    intro b c v hbm hc hkb hpt hp f hf
    obtain ⟨f, rfl⟩ : ∃ f', f = f' + 1 + 1 := ⟨f - 2, by omega⟩
    unfold w_M_holdsAll_L31
    rcases hpt with ⟨e, hno⟩ | ⟨j, e, hbj, hj, hup, hno⟩
    · subst e
      rw [chl_none m b (fun i a c => hno i a (by omega))] at hp
      exact br_t (by decide) (endG c (by omega) hp)
    · subst e
      obtain ⟨_, hjq⟩ := h.inside hk hj hup hkq hq5
      have hnp : ¬ nI j < 0 := nI_pos (by omega)
      have hcj : (nI j).toNatClampNeg = j := nI_clamp (by omega)
      have em : m = (j - b) + ((q - (j + 1)) + 1) := by omega
      have hsk := chl_skip (t := t) (n := n) (S := S) (k := k) (j - b) b ((q - (j + 1)) + 1) (fun i a c => hno i a (by omega))
      rw [← em, show b + (j - b) = j from by omega] at hsk
      rw [hsk] at hp
      have hnx := h.ptNx hk hj hup
      refine br_f hnp (br_f (by decide) ⟨h.in_ hj, ?_⟩)
      rw [h.isEl hj]
      have hrow := (h.mb.2.2 j hj).nx
      cases hel : S.el j with
      | false =>
        refine bl_f rfl ?_
        unfold w_M_holdsAll_J140
        refine ⟨h.in_ hj, ?_⟩
        rw [hcj, hrow]
        rw [show chl t n S k j ((q - (j + 1)) + 1) = chl t n S k (j + 1) (q - (j + 1)) from if_neg (fun z => by rw [hel] at z; cases z.2)] at hp
        exact ih (q - (j + 1)) (by omega) (j + 1) c (S.nx j) (by omega) (by omega) (by omega) hnx hp (f + 1) (by omega)
      | true =>
        refine bl_t rfl (r_kindOf h hj hel ?_)
        rw [show chl t n S k j ((q - (j + 1)) + 1) = kOf t n S j :: chl t n S k (j + 1) (q - (j + 1)) from if_pos ⟨hup, hel⟩] at hp
        refine r_hStep h (fun i e => kOf_lt e) hv (by omega) ?_
        unfold w_M_holdsAll_J140
        refine ⟨h.in_ hj, ?_⟩
        rw [hcj, hrow]
        cases hs : refStep v2 c (kOf t n S j) with
        | true =>
          rw [show refRun v2 c (kOf t n S j :: chl t n S k (j + 1) (q - (j + 1))) = refRun v2 (c + 1) (chl t n S k (j + 1) (q - (j + 1))) from if_pos hs] at hp
          exact ih (q - (j + 1)) (by omega) (j + 1) (c + 1) (S.nx j) (by omega) (by omega) (by omega) hnx hp (f + 1) (by omega)
        | false =>
          rw [show refRun v2 c (kOf t n S j :: chl t n S k (j + 1) (q - (j + 1))) = false from if_neg (by rw [hs]; decide)] at hp
          unfold w_M_holdsAll_L31 w_M_holdsAll_J152
          exact ⟨fun _ => br_t rfl hp, fun _ => br_t rfl (br_t rfl hp)⟩
/-- both judge what is held alike -/
theorem as2 : ∀ i, i < 23 → ((kAs.getD i 0 &&& ((6 : Int32) &&& (-6))) = 0 ↔ ¬ i = 1) ∧ ((kAs.getD i 0 &&& ((4 : Int32) &&& (-4))) = 0 ↔ ¬ i = 3) ∧ ((kAs.getD i 0 &&& ((8 : Int32) &&& (-8))) = 0 ↔ ¬ i = 2) ∧ ((kAs.getD i 0 &&& ((16 : Int32) &&& (-16))) = 0 ↔ ¬ i = 19) ∧ (kAs.getD i 0 &&& ((0 : Int32) &&& (-0))) = 0 := by decide +kernel
theorem due0 {L : List (Option Nat)} (hL : ∀ o ∈ L, ∀ j, o = some j → j < 23) : dueRun 0 L = decide (L = []) := by
  cases L with
  | nil => rfl
  | cons o L =>
    cases o with
    | none => rfl
    | some i =>
      have := (as2 i (hL _ List.mem_cons_self i rfl)).2.2.2.2
      show (if (kAs.getD i 0 &&& ((0 : Int32) &&& (-0))) = 0 then false else _) = _
      rw [if_pos this]; rfl
theorem due1 {d : Int32} {i0 : Nat} (hd : ∀ i, i < 23 → ((kAs.getD i 0 &&& (d &&& (-d))) = 0 ↔ ¬ i = i0)) (hz : d - (d &&& (-d)) = 0) (hn : ¬ d = 0) {L : List (Option Nat)} (hL : ∀ o ∈ L, ∀ j, o = some j → j < 23) : dueRun d L = decide (L = [some i0]) := by
  cases L with
  | nil => show decide (d = 0) = _; rw [decide_eq_false hn]; rfl
  | cons o L =>
    cases o with
    | none => rfl
    | some i =>
      have hi := hL _ List.mem_cons_self i rfl
      show (if (kAs.getD i 0 &&& (d &&& (-d))) = 0 then false else dueRun (d - (d &&& (-d))) L) = _
      by_cases e : i = i0
      · subst e
        rw [if_neg (fun z => (hd i hi).mp z rfl), hz, due0 (fun o ho => hL o (List.mem_cons_of_mem _ ho))]
        cases L <;> simp
      · rw [if_pos ((hd i hi).mpr e), decide_eq_false (by simp [e])]
theorem due6 {L : List (Option Nat)} (hL : ∀ o ∈ L, ∀ j, o = some j → j < 23) : dueRun 6 L = decide (L = [some 1, some 3]) := by
  cases L with
  | nil => rfl
  | cons o L =>
    cases o with
    | none => rfl
    | some i =>
      have hi := hL _ List.mem_cons_self i rfl
      show (if (kAs.getD i 0 &&& ((6 : Int32) &&& (-6))) = 0 then false else dueRun ((6 : Int32) - ((6 : Int32) &&& (-6))) L) = _
      by_cases e : i = 1
      · subst e
        rw [if_neg (fun z => (as2 1 hi).1.mp z rfl), show (6 : Int32) - ((6 : Int32) &&& (-6)) = 4 from by decide, due1 (d := 4) (i0 := 3) (fun i hi => (as2 i hi).2.1) (by decide) (by decide) (fun o ho => hL o (List.mem_cons_of_mem _ ho))]
        simp
      · rw [if_pos ((as2 i hi).1.mpr e), decide_eq_false (by simp [e])]
theorem ref_more {v2 : Int32} {c : Nat} (hc : 2 ≤ c) (hc2 : ¬ (v2 = 1 ∧ c = 2)) : ∀ L, refRun v2 c L = false := by
  intro L
  have st : ∀ o, refStep v2 c o = false := fun o => by
    unfold refStep
    have h0 : ¬ c = 0 := by omega
    have h1 : ¬ c = 1 := by omega
    split
    · simp [h0, h1]
    · split <;> simp [h0]
  cases L with
  | nil =>
    show decide _ = false
    refine decide_eq_false (fun z => ?_)
    by_cases e : v2 = 1
    · rw [if_pos e] at z; exact hc2 ⟨e, z⟩
    · rw [if_neg e] at z; omega
  | cons o L => exact if_neg (by rw [st o]; decide)
theorem ref1 : ∀ L, refRun 1 0 L = decide (L = [some 1, some 3])
  | [] => rfl
  | [o] => by
    show (if refStep 1 0 o = true then refRun 1 1 [] else false) = _
    rw [show refRun 1 1 [] = false from by decide]
    simp
  | o :: o2 :: L => by
    show (if refStep 1 0 o = true then (if refStep 1 1 o2 = true then refRun 1 2 L else false) else false) = _
    have e0 : refStep 1 0 o = decide (o = some 1) := by unfold refStep; simp
    have e1 : refStep 1 1 o2 = decide (o2 = some 3) := by unfold refStep; simp
    rw [e0, e1]
    have e2 : refRun 1 2 L = decide (L = []) := by
      cases L with
      | nil => rfl
      | cons x L => exact if_neg (by unfold refStep; simp)
    rw [e2]
    by_cases a : o = some 1 <;> by_cases b : o2 = some 3 <;> simp [a, b]
theorem ref2 {v2 : Int32} {i0 : Nat} (h1 : ¬ v2 = 1) (hs : ∀ o, refStep v2 0 o = decide (o = some i0)) : ∀ L, refRun v2 0 L = decide (L = [some i0])
  | [] => by
    show decide (0 = if v2 = 1 then 2 else 1) = _
    rw [if_neg h1]; rfl
  | o :: L => by
    show (if refStep v2 0 o = true then refRun v2 1 L else false) = _
    rw [hs o]
    have e1 : refRun v2 1 L = decide (L = []) := by
      cases L with
      | nil => show decide (1 = if v2 = 1 then 2 else 1) = _; rw [if_neg h1]; rfl
      | cons x L => exact if_neg (by unfold refStep; rw [if_neg h1]; split <;> simp)
    rw [e1]
    by_cases a : o = some i0 <;> simp [a]
theorem ho_must : ∀ i, i < 23 → (kSays i 1024 = true ↔ i = 0 ∨ i = 1 ∨ i = 18) := by decide +kernel
theorem chl_ok {k : Nat} : ∀ (m b : Nat), ∀ o ∈ chl t n S k b m, ∀ j, o = some j → j < 23
  | 0, _, o, h => by cases h
  | m + 1, b, o, h => by
    unfold chl at h
    split at h
    · rcases List.mem_cons.mp h with e | e
      · intro j hj; rw [e] at hj; exact kOf_lt hj
      · exact chl_ok m (b + 1) o e
    · exact chl_ok m (b + 1) o h
/-- an element holds what it must -/
def Hol (t : Nat → Int32) (n : Nat) (S : GS) (k i q : Nat) : Bool := !kSays i 1024 || dueRun (kHo.getD i 0 &&& 255) (chl t n S k (k + 1) (q - (k + 1)))
theorem r_holdsAll (h : KN σ τ t n S g a ls A) {k i q : Nat} (hk : k < S.K) (hi : i < 23) (hkq : k < q) (hqK : q ≤ S.K) (hq5 : q < S.K → S.dp q ≤ S.dp k) {post : Int32 → Prop} (hp : post (b2i (Hol t n S k i q))) : w_M_holdsAll τ (nI k) (nI (i + 1)) post := by
  have hK := h.K
  have hL := chl_ok (t := t) (n := n) (S := S) (k := k) (q - (k + 1)) (k + 1)
  have J : ∀ v2, (v2 = 1 ∨ v2 = 2 ∨ v2 = 19) → post (b2i (refRun v2 0 (chl t n S k (k + 1) (q - (k + 1))))) → w_M_holdsAll_J18 τ post (nI k) v2 := fun v2 hv hp => by
    unfold w_M_holdsAll_J18
    refine ⟨h.in_ hk, ?_⟩
    rw [nI_clamp (by omega), (h.mb.2.2 k hk).fs]
    exact ⟨_, r_holdsL h hk hkq hqK hq5 hv (q - (k + 1)) (k + 1) 0 _ (by omega) (by omega) (by omega) (h.ptFs hk) hp _ (Nat.le_refl _)⟩
  unfold Hol at hp
  unfold w_M_holdsAll
  have hm := ho_must i hi
  by_cases i0 : i = 0
  · subst i0
    rw [show kSays 0 1024 = true from by decide +kernel, show kHo.getD 0 0 &&& 255 = 6 from by decide, due6 hL] at hp
    exact br_t rfl (J 1 (Or.inl rfl) (by rw [ref1]; exact hp))
  by_cases i1 : i = 1
  · subst i1
    rw [show kSays 1 1024 = true from by decide +kernel, show kHo.getD 1 0 &&& 255 = 8 from by decide, due1 (d := 8) (i0 := 2) (fun i hi => (as2 i hi).2.2.1) (by decide) (by decide) hL] at hp
    refine br_f (by decide) (br_t rfl (J 2 (Or.inr (Or.inl rfl)) ?_))
    rw [ref2 (v2 := 2) (i0 := 2) (by decide) (fun o => by unfold refStep; simp)]; exact hp
  by_cases i18 : i = 18
  · subst i18
    rw [show kSays 18 1024 = true from by decide +kernel, show kHo.getD 18 0 &&& 255 = 16 from by decide, due1 (d := 16) (i0 := 19) (fun i hi => (as2 i hi).2.2.2.1) (by decide) (by decide) hL] at hp
    refine br_f (by decide) (br_f (by decide) (br_t rfl (J 19 (Or.inr (Or.inr rfl)) ?_)))
    rw [ref2 (v2 := 19) (i0 := 19) (by decide) (fun o => by unfold refStep; simp)]; exact hp
  · have hf : kSays i 1024 = false := by
      cases hc : kSays i 1024 with
      | false => rfl
      | true => rcases hm.mp hc with z | z | z
                · exact absurd z i0
                · exact absurd z i1
                · exact absurd z i18
    rw [hf] at hp
    have ne : ∀ c, c < 30 → ¬ i + 1 = c → ¬ nI (i + 1) = nI c := fun c hc hne z => hne ((nI_eq (by omega) (by omega)).mp z)
    exact br_f (ne 1 (by decide) (by omega)) (br_f (ne 2 (by decide) (by omega)) (br_f (ne 19 (by decide) (by omega)) hp))
end HD
