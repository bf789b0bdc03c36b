/-! PURE: the tags of the one; which elements end where. -/
theorem cGn_lt {c : Int32} (h : cGn c = true) : ∃ v : Nat, v < 128 ∧ c = nI v := by
  have hlo : ¬ c < 45 ∧ ¬ 122 < c := by
    unfold cGn cBn cDg at h
    simp only [Bool.or_eq_true, Bool.and_eq_true, decide_eq_true_eq] at h
    rw [Int32.lt_iff_toInt_lt, Int32.lt_iff_toInt_lt]
    simp only [Int32.le_iff_toInt_le] at h
    have e : ∀ y : Int32, c = y → c.toInt = y.toInt := fun y z => by rw [z]
    have h45 : (45 : Int32).toInt = 45 := by decide
    have h122 : (122 : Int32).toInt = 122 := by decide
    have h65 : (65 : Int32).toInt = 65 := by decide
    have h90 : (90 : Int32).toInt = 90 := by decide
    have h97 : (97 : Int32).toInt = 97 := by decide
    have h95 : (95 : Int32).toInt = 95 := by decide
    have h48 : (48 : Int32).toInt = 48 := by decide
    have h57 : (57 : Int32).toInt = 57 := by decide
    have h46 : (46 : Int32).toInt = 46 := by decide
    have h58 : (58 : Int32).toInt = 58 := by decide
    rcases h with ((((h | h) | h) | h) | h) | h
    · rcases h with h | h
      · omega
      · omega
    · have := e _ h; omega
    · omega
    · have := e _ h; omega
    · have := e _ h; omega
    · have := e _ h; omega
  rcases pk_ix c (n := 128) (by decide) with z | z | z
  · exact absurd (Int32.lt_trans z (by decide)) hlo.1
  · exact absurd (Int32.lt_of_lt_of_le (by decide : (122 : Int32) < nI 128) z) hlo.2
  · exact z
theorem encL_name : ∀ {L : List Int32}, (∀ c ∈ L, cGn c = true) → encL L = L
  | [], _ => rfl
  | c :: L, h => by
    rw [encL_cons, encL_name (fun x hx => h x (List.mem_cons_of_mem _ hx))]
    obtain ⟨v, hv, e⟩ := cGn_lt (h c List.mem_cons_self)
    rw [e, enc_nI (by omega)]
    unfold encN
    rw [if_pos hv]; rfl
section TG
variable {t : Nat → Int32} {n : Nat} {σ : PPS} {τ : MPS} {S : GS} {g a : Nat → Nat → Int32} {ls : List Int32} {A : Nat} {O : List Int32}
theorem seg_ok {k l : Nat} (h : ∀ j, k ≤ j → j < k + l → cGn (xx t n j) = true) : ∀ c ∈ seg t n k l, cGn c = true := by
  intro c hc
  obtain ⟨i, hi, e⟩ := List.getElem_of_mem hc
  rw [seg_len] at hi
  have := seg_get t n l k i hi
  rw [List.getElem?_eq_getElem (by rw [seg_len]; exact hi), e] at this
  rw [Option.some.inj this]
  exact h (k + i) (by omega) (by omega)
theorem Cp.gn {c : Int32} (h : cGn c = true) : Cp c := by
  obtain ⟨v, hv, e⟩ := cGn_lt h
  exact ⟨v, by omega, e⟩
theorem KN.nmok (h : KN σ τ t n S g a ls A) {k : Nat} (hk : k < S.K) (he : S.el k = true) : ∀ c ∈ nam t n S k, cGn c = true := seg_ok (h.gd.nm k hk he).2.1.2.1
theorem AtP.nmok {p : Nat} {B : Att} (h : AtP t n p B) : ∀ c ∈ nmB t n B, cGn c = true := seg_ok h.nm.2.1.2.1
theorem KN.let2 (h : KN σ τ t n S g a ls A) {k : Nat} (hk : k < S.K) : ∃ f, tGet 14 (pNd σ) (nI k) 8 = nI f ∧ tGet 14 (pNd σ) (nI k) 3 = nI (lets t n S k).length ∧ Seg ls f (lets t n S k) := by
  obtain ⟨f, l8, l3, lS⟩ := (h.bk.row k hk).let_
  exact ⟨f, (h.get (c := 8) rfl hk (by decide)).trans l8, (h.get (c := 3) rfl hk (by decide)).trans l3, lS⟩
theorem lets_el {k : Nat} (he : S.el k = true) : lets t n S k = nam t n S k := by unfold lets nam; rw [if_pos he]
theorem lets_tx {k : Nat} (he : S.el k = false) : lets t n S k = S.cs k := by unfold lets; rw [if_neg (by rw [he]; decide)]
theorem KN.g6 (h : KN σ τ t n S g a ls A) {k : Nat} (hk : k < S.K) : tGet 14 (pNd σ) (nI k) 6 = S.fs k := (h.get (c := 6) rfl hk (by decide)).trans (h.bk.row k hk).lnk.c6
theorem KN.g10 (h : KN σ τ t n S g a ls A) {k : Nat} (hk : k < S.K) : tGet 14 (pNd σ) (nI k) 10 = S.pa k := (h.get (c := 10) rfl hk (by decide)).trans (h.bk.row k hk).c10
theorem KN.txok (h : KN σ τ t n S g a ls A) {k : Nat} (hk : k < S.K) (he : S.el k = false) : ∀ c ∈ S.cs k, Cp c := fun c hc => Cp.ok (Chars.ok (h.gd.tx k hk he).1 c hc)
/-- a name is put -/
theorem k_putName (h : KN σ τ t n S g a ls A) {k : Nat} (hk : k < S.K) (he : S.el k = true) {x : StS} (hx : Str x O) (hO : O.length + S.nl k ≤ 24000) {post : PPS → Prop} (hq : ∀ x', Str x' (O ++ nam t n S k) → post (sSh σ x')) : w_Scribe_putLetters (sSh σ x) (tGet 14 (pNd (sSh σ x)) (nI k) 8) (tGet 14 (pNd (sSh σ x)) (nI k) 3) post := by
  obtain ⟨f, l8, l3, lS⟩ := h.let2 hk
  rw [lets_el he] at l3 lS
  have l8 : tGet 14 (pNd (sSh σ x)) (nI k) 8 = nI f := l8
  have l3 : tGet 14 (pNd (sSh σ x)) (nI k) 3 = nI (nam t n S k).length := l3
  have hok := h.nmok hk he
  have en := encL_name hok
  rw [l8, l3]
  refine k_putLetters h.bk.le h.lsl lS (fun c hc => Cp.gn (hok c hc)) hx (by rw [en, nam_len]; exact hO) ?_
  rw [en]; exact hq
theorem k_L34 (h : KN σ τ t n S g a ls A) {k : Nat} (hk : k < S.K) (he : S.el k = true) {post : PPS → Prop} : ∀ m j x O, j + m = (S.as k).length → Str x O → O.length + ((((S.as k).drop j).map wat).sum + 2) ≤ 24000 → (∀ x', Str x' (O ++ (((S.as k).drop j).flatMap (attT t n) ++ (if S.fs k = -1 then tx 24 else tx 25))) → post (sSh σ x')) → w_Scribe_putBegin_L34 (nI k) post (m + 1) (nI j) (sSh σ x) := by
  have hal := as_len h hk
  obtain ⟨q, hat⟩ := (h.bk.row k hk).att
  have e4 : ∀ x, tGet 14 (pNd (sSh σ x)) (nI k) 4 = nI (S.as k).length := fun x => (h.get (c := 4) rfl hk (by decide)).trans hat.c4
  have e6 : ∀ x, tGet 14 (pNd (sSh σ x)) (nI k) 6 = S.fs k := fun x => h.g6 hk
  intro m
  induction m with
  | zero =>
    intro j x O hj hx hO hq
    rw [List.drop_of_length_le (by omega)] at hO hq
    simp only [List.map_nil, List.sum_nil] at hO
    unfold w_Scribe_putBegin_L34 w_Scribe_putBegin_J153
    rw [e4, e6]
    refine br_t (nI_le (by omega) (by omega)) ?_
    obtain ⟨_, _, _, _, _, _, h24, h25⟩ := tx_len
    by_cases hf : S.fs k = -1
    · rw [if_pos hf] at hq
      exact br_t hf (k_putText (by decide) hx (by omega) hq)
    · rw [if_neg hf] at hq
      exact br_f hf (k_putText (by decide) hx (by omega) hq)
  | succ m ih =>
    intro j x O hj hx hO hq
    have hlt : j < (S.as k).length := by omega
    have hB : (S.as k)[j]? = some (S.as k)[j] := List.getElem?_eq_getElem hlt
    have hd : (S.as k).drop j = (S.as k)[j] :: (S.as k).drop (j + 1) := List.drop_eq_getElem_cons hlt
    have hBm : (S.as k)[j] ∈ S.as k := List.getElem_mem hlt
    revert hB hd hBm
    generalize (S.as k)[j] = B
    intro hB hd hBm
    rw [hd] at hO hq
    rw [List.map_cons, List.sum_cons] at hO
    rw [List.flatMap_cons] at hq
    obtain ⟨r, f0, f, hr, eb, e3, e0, s0, hv⟩ := h.rowOf hk hB
    obtain ⟨p, hP⟩ := AtP_of h hk he hBm
    have hok := hP.nmok
    have en := encL_name hok
    have hec := escL_len B.cs
    unfold wat at hO
    have hsl : (nmB t n B).length = B.nl := seg_len _ _ _ _
    have eb : bAtt (sSh σ x) (nI k) (nI j) = nI r := eb
    have e3 : ∀ x, tGet 5 (pAt (sSh σ x)) (nI r) 3 = nI f0 := fun x => e3
    have e0 : ∀ x, tGet 5 (pAt (sSh σ x)) (nI r) 0 = nI (nmB t n B).length := fun x => e0
    have v4 : ∀ x, tGet 5 (pAt (sSh σ x)) (nI r) 4 = nI f := fun x => hv.e4
    have v1 : ∀ x, tGet 5 (pAt (sSh σ x)) (nI r) 1 = nI B.cs.length := fun x => hv.e1
    unfold w_Scribe_putBegin_L34
    rw [e4, eb, nI_1]
    refine br_f (nI_ge (by omega) (by omega)) (sh_add ?_)
    rw [e3, e0]
    have x1 := hx.ad (by omega) 32
    refine k_putLetters h.bk.le h.lsl s0 (fun c hc => Cp.gn (hok c hc)) x1 (by rw [List.length_append]; show _ + (encL (nmB t n B)).length ≤ _; rw [en, hsl]; simp only [List.length_cons, List.length_nil]; omega) (fun x2 h2 => ?_)
    have h2 : Str x2 ((O ++ [32]) ++ encL (nmB t n B)) := h2
    rw [en] at h2
    refine k_putText (by decide) h2 (by rw [List.length_append, List.length_append, hsl, tx_len.2.1]; simp only [List.length_cons, List.length_nil]; omega) (fun x3 h3 => ?_)
    rw [v4, v1]
    refine k_putTold h.bk.le h.lsl hv.sg (fun c hc => Cp.ok (Chars.ok hP.ch c hc)) h3 (by rw [List.length_append, List.length_append, List.length_append, hsl, tx_len.2.1]; simp only [List.length_cons, List.length_nil]; omega) (fun x4 h4 => sh_add ?_)
    have h5 := h4.ad (by rw [List.length_append, List.length_append, List.length_append, List.length_append, hsl, tx_len.2.1]; simp only [List.length_cons, List.length_nil]; omega) 34
    have h6 : Str (sAdd 24000 x4 34) (O ++ attT t n B) := by
      unfold attT
      rw [List.append_assoc, List.append_assoc, List.append_assoc, List.append_assoc] at h5
      exact h5
    refine ih (j + 1) _ _ (by omega) h6 (by
      rw [List.length_append]
      have := attT_len (t := t) (n := n) (B := B)
      unfold wat at this ⊢
      omega) (fun x' hx' => hq x' ?_)
    rw [List.append_assoc] at hx' ⊢
    exact hx'
theorem k_putBegin (h : KN σ τ t n S g a ls A) {k : Nat} (hk : k < S.K) (he : S.el k = true) {x : StS} (hx : Str x O) (hO : O.length + wk S k ≤ 24000) {post : PPS → Prop} (hq : ∀ x', Str x' (O ++ btag t n S k) → post (sSh σ x')) : w_Scribe_putBegin (sSh σ x) (nI k) post := by
  unfold wk at hO
  rw [if_pos he] at hO
  unfold w_Scribe_putBegin
  refine sh_add (k_putName h hk he (hx.ad (by omega) 60) (by rw [List.length_append]; simp only [List.length_cons, List.length_nil]; omega) (fun x1 h1 => ⟨_, k_L34 h hk he (S.as k).length 0 x1 _ (Nat.zero_add _) h1 (by rw [List.drop_zero, List.length_append, List.length_append, nam_len]; simp only [List.length_cons, List.length_nil]; omega) (fun x' hx' => hq x' ?_)⟩))
  rw [List.drop_zero, List.append_assoc, List.append_assoc] at hx'
  exact hx'
theorem k_etag (h : KN σ τ t n S g a ls A) {k : Nat} (hk : k < S.K) (he : S.el k = true) {x : StS} (hx : Str x O) (hO : O.length + (S.nl k + 3) ≤ 24000) {P : PPS → Prop} (hq : ∀ x', Str x' (O ++ etag t n S k) → P (sSh σ x')) : w_Scribe_putText (sSh σ x) 18 (fun σ37 => w_Scribe_putLetters σ37 (tGet 14 (pNd σ37) (nI k) 8) (tGet 14 (pNd σ37) (nI k) 3) (fun σ62 => (∀ σ71 : PPS, σ71 = sSh σ62 (sAdd 24000 (pSh σ62) 62) → P σ71))) := by
  refine k_putText (by decide) hx (by rw [tx_len.1]; omega) (fun x1 h1 => k_putName h hk he h1 (by rw [List.length_append, tx_len.1]; omega) (fun x2 h2 => sh_add (hq _ ?_)))
  have h3 := h2.ad (by rw [List.length_append, List.length_append, tx_len.1, nam_len]; omega) 62
  unfold etag
  rw [List.append_assoc, List.append_assoc] at h3
  exact h3
/-! the tree -/
theorem par_of (h : KN σ τ t n S g a ls A) {w e q' : Nat} (hw : w < e) (heq : e < q') (hqK : q' ≤ S.K) (hd : ∀ j, w < j → j < q' → S.dp w < S.dp j) (h1 : S.dp e ≤ S.dp w + 1) : S.up e = nI w ∧ S.dp e = S.dp w + 1 := by
  have hK := h.K
  have hde := hd e hw heq
  rcases h.gt.up e (by omega) with ⟨_, _, z⟩ | ⟨p, z1, z2, z3, _⟩
  · omega
  · have hp : p = w := by
      rcases Nat.lt_trichotomy p w with c | c | c
      · have := h.gx.un e p (by omega) (by omega) z2 w c (by omega)
        omega
      · exact c
      · have := hd p c (by omega)
        omega
    rw [hp] at z2
    exact ⟨z2, by omega⟩
/-- a node that holds nothing ends at once; one that holds something holds the next -/
theorem KN.leaf (h : KN σ τ t n S g a ls A) {j : Nat} (hj : j < S.K) (hf : S.fs j = -1) : S.pa j = nI (j + 1) := by
  obtain ⟨q', h1, h2, h3, h4, h5⟩ := h.past hj
  by_cases e : q' = j + 1
  · rw [h1, e]
  · have hlt : j + 1 < q' := by omega
    have hd := h4 (j + 1) (by omega) hlt
    rcases h.gt.up (j + 1) (by omega) with ⟨_, _, z⟩ | ⟨p, z1, z2, z3, _⟩
    · omega
    · have hp : p = j := by
        by_cases c : p = j
        · exact c
        · have := h.gx.un (j + 1) p (by omega) (by omega) z2 j (by omega) (by omega)
          omega
      rw [hp] at z2
      exact absurd z2 (h.gt.fs0 j hj hf (j + 1) (by omega))
theorem KN.fork (h : KN σ τ t n S g a ls A) {j q' : Nat} (hj : j < S.K) (hf : ¬ S.fs j = -1) (hq : S.pa j = nI q') (hqK : q' ≤ S.K) : j + 1 < q' ∧ S.up (j + 1) = nI j ∧ S.dp (j + 1) = S.dp j + 1 ∧ S.el j = true := by
  have hK := h.K
  obtain ⟨q, h1, h2, h3, h4, h5⟩ := h.past hj
  have : q = q' := by
    rw [h1] at hq
    exact (nI_eq (by omega) (by omega)).mp hq
  subst this
  obtain ⟨c, c1, c2, c3, c4⟩ := h.gt.fs1 j hj hf
  have hin := h.inside hj c1 c3 h2 h5
  have hel : S.el j = true := by
    rcases h.gt.up c c1 with ⟨z, _⟩ | ⟨p, z1, z2, _, z4⟩
    · rw [z] at c3; exact absurd c3.symm (nI_m1 (by omega))
    · rw [z2] at c3
      have := (nI_eq (by omega) (by omega)).mp c3
      rw [← this]; exact z4
  have hlt : j + 1 < q := by omega
  have hd := h4 (j + 1) (by omega) hlt
  rcases h.gt.up (j + 1) (by omega) with ⟨_, _, z⟩ | ⟨p, z1, z2, z3, _⟩
  · omega
  · have hp : p = j := by
      by_cases c : p = j
      · exact c
      · have := h.gx.un (j + 1) p (by omega) (by omega) z2 j (by omega) (by omega)
        omega
    subst hp
    exact ⟨hlt, z2, z3, hel⟩
/-- the elements that end at e, from a on upwards, within top -/
def Chn (S : GS) (top e : Nat) : Nat → List Nat → Nat → Prop
  | a, [], b => a = b ∧ (a = top ∨ ¬ a = top ∧ ¬ S.nx a = -1 ∧ ∃ w q', w < S.K ∧ S.up a = nI w ∧ S.el w = true ∧ S.dp a = S.dp w + 1 ∧ S.pa w = nI q' ∧ e < q' ∧ q' ≤ S.K)
  | a, w :: L, b => ¬ a = top ∧ S.nx a = -1 ∧ w < S.K ∧ S.up a = nI w ∧ S.el w = true ∧ S.dp a = S.dp w + 1 ∧ S.pa w = nI e ∧ Chn S top e w L b
def chF (S : GS) (top e : Nat) : Nat → Nat → List Nat
  | 0, _ => []
  | m + 1, a => if a = top then [] else if S.pa (S.up a).toNatClampNeg = nI e then (S.up a).toNatClampNeg :: chF S top e m (S.up a).toNatClampNeg else []
theorem chn_ex (h : KN σ τ t n S g a ls A) {top q e : Nat} (ht : top < S.K) (hq : S.pa top = nI q) (hqK : q ≤ S.K) (he : e ≤ q) (hlt : top < q) (hdq : ∀ j, top < j → j < q → S.dp top < S.dp j) : ∀ m a, a < m → top ≤ a → a < e → S.pa a = nI e → ∃ b, Chn S top e a (chF S top e m a) b ∧ top ≤ b ∧ b < e ∧ S.pa b = nI e := by
  have hK := h.K
  intro m
  induction m with
  | zero => intro a ha; omega
  | succ m ih =>
    intro a ha hta hae hpa
    unfold chF
    by_cases e1 : a = top
    · rw [if_pos e1]
      exact ⟨a, ⟨rfl, Or.inl e1⟩, hta, hae, hpa⟩
    · rw [if_neg e1]
      have haK : a < S.K := by omega
      rcases h.gt.up a haK with ⟨_, _, z⟩ | ⟨w, z1, z2, z3, z4⟩
      · omega
      · have hwK : w < S.K := by omega
        have htw : top ≤ w := by
          by_cases c : top ≤ w
          · exact c
          · have u1 := h.gx.un a w haK hwK z2 top (by omega) hta
            have u2 := hdq a (by omega) (by omega)
            omega
        obtain ⟨q', p1, p2, p3, p4, p5⟩ := h.past hwK
        obtain ⟨e', a1, a2, a3, a4, a5⟩ := h.past haK
        have : e' = e := by
          rw [hpa] at a1
          exact ((nI_eq (by omega) (by omega)).mp a1).symm
        subst this
        have hin := h.inside hwK haK z2 p2 p5
        have heq : e' ≤ q' := by
          by_cases c : e' ≤ q'
          · exact c
          · have := a4 q' hin.2 (by omega)
            have := p5 (by omega)
            omega
        rw [z2, nI_clamp (by omega), p1]
        by_cases ee : q' = e'
        · rw [if_pos (by rw [ee])]
          obtain ⟨b, c1, c2, c3, c4⟩ := ih w (by omega) htw (by omega) (by rw [p1, ee])
          refine ⟨b, ⟨e1, ?_, hwK, z2, z4, z3, by rw [p1, ee], c1⟩, c2, c3, c4⟩
          by_cases hn : S.nx a = -1
          · exact hn
          · exfalso
            obtain ⟨j, u, g1, g2, gu, g3, g4, g5, g6⟩ := h.gt.nx1 a haK hn
            rw [z2] at g4
            have huw : w = u := (nI_eq (by omega) (by omega)).mp g4
            subst huw
            have hj := h.inside hwK g2 g5 p2 p5
            have d1 := a4 j g1 (by omega)
            rcases h.gt.up j g2 with ⟨_, _, y⟩ | ⟨w', y1, y2, y3, _⟩
            · omega
            · rw [y2] at g5
              have : w' = w := (nI_eq (by omega) (by omega)).mp g5
              subst this
              omega
        · rw [if_neg (fun y => ee ((nI_eq (by omega) (by omega)).mp y))]
          refine ⟨a, ⟨rfl, Or.inr ⟨e1, fun hn => ?_, w, q', hwK, z2, z4, z3, p1, by omega, p3⟩⟩, hta, hae, hpa⟩
          have hdp := a5 (by omega)
          have := par_of h (w := w) (e := e') (q' := q') (by omega) (by omega) p3 p4 (by omega)
          exact h.gt.nx0 a w haK hwK z2 hn e' (by omega) (by omega) this.1
/-- what is open as node b ends -/
def opv (S : GS) (top b : Nat) : Int32 := if b = top then -1 else S.up b
/-- the end of the chain: the next node's own holder -/
theorem Chn.end_ {top e : Nat} : ∀ {L : List Nat} {a b : Nat}, Chn S top e a L b → (b = top ∨ ¬ b = top ∧ ∃ w q', w < S.K ∧ S.up b = nI w ∧ S.dp b = S.dp w + 1 ∧ S.pa w = nI q' ∧ e < q' ∧ q' ≤ S.K)
  | [], a, b, h => by
    obtain ⟨e1, e2⟩ := h
    subst e1
    rcases e2 with z | ⟨z, _, w, q', h1, h2, _, h3, h4, h5, h6⟩
    · exact Or.inl z
    · exact Or.inr ⟨z, w, q', h1, h2, h3, h4, h5, h6⟩
  | w :: L, a, b, h => Chn.end_ h.2.2.2.2.2.2.2
theorem chn_next (h : KN σ τ t n S g a ls A) {top q e b : Nat} {L : List Nat} {a0 : Nat} (hq : S.pa top = nI q) (hqK : q ≤ S.K) (he : e < q) (hc : Chn S top e a0 L b) (hbe : b < e) (hpb : S.pa b = nI e) : ¬ b = top ∧ S.up b = S.up e ∧ S.dp b = S.dp e := by
  have hK := h.K
  rcases Chn.end_ hc with z | ⟨z, w, q', h1, h2, h3, h4, h5, h6⟩
  · rw [z, hq] at hpb
    have := (nI_eq (by omega) (by omega)).mp hpb
    omega
  · obtain ⟨e', a1, a2, a3, a4, a5⟩ := h.past (show b < S.K by omega)
    have : e' = e := by
      rw [hpb] at a1
      exact ((nI_eq (by omega) (by omega)).mp a1).symm
    subst this
    obtain ⟨q2, p1, p2, p3, p4, p5⟩ := h.past h1
    have : q2 = q' := by
      rw [h4] at p1
      exact ((nI_eq (by omega) (by omega)).mp p1).symm
    subst this
    have hdp := a5 (by omega)
    have hwb : w < b := by
      rcases h.gt.up b (by omega) with ⟨y, _, _⟩ | ⟨w', y1, y2, _⟩
      · rw [y] at h2; exact absurd h2.symm (nI_m1 (by omega))
      · rw [y2] at h2
        have := (nI_eq (by omega) (by omega)).mp h2
        omega
    have := par_of h (w := w) (e := e') (q' := q2) (by omega) h5 p3 p4 (by omega)
    exact ⟨z, by rw [h2, this.1], by omega⟩
theorem chn_last (h : KN σ τ t n S g a ls A) {top q b : Nat} {L : List Nat} {a0 : Nat} (ht : top < S.K) (hq : S.pa top = nI q) (hqK : q ≤ S.K) (hdq : ∀ j, top < j → j < q → S.dp top < S.dp j) (hc : Chn S top q a0 L b) (htb : top ≤ b) (hbq : b < q) : b = top := by
  have hK := h.K
  rcases Chn.end_ hc with z | ⟨z, w, q', h1, h2, h3, h4, h5, h6⟩
  · exact z
  · exfalso
    have htw : top ≤ w := by
      by_cases c : top ≤ w
      · exact c
      · have u1 := h.gx.un b w (by omega) h1 h2 top (by omega) htb
        have u2 := hdq b (by omega) hbq
        omega
    obtain ⟨qt, t1, t2, t3, t4, t5⟩ := h.past ht
    have : qt = q := by
      rw [hq] at t1
      exact ((nI_eq (by omega) (by omega)).mp t1).symm
    subst this
    by_cases c : w = top
    · rw [c, hq] at h4
      have := (nI_eq (by omega) (by omega)).mp h4
      omega
    · obtain ⟨q2, p1, p2, p3, p4, p5⟩ := h.past h1
      have : q2 = q' := by
        rw [h4] at p1
        exact ((nI_eq (by omega) (by omega)).mp p1).symm
      subst this
      have hwb : w < b := by
        rcases h.gt.up b (by omega) with ⟨y, _, _⟩ | ⟨w', y1, y2, _⟩
        · rw [y] at h2; exact absurd h2.symm (nI_m1 (by omega))
        · rw [y2] at h2
          have := (nI_eq (by omega) (by omega)).mp h2
          omega
      have d1 := p4 qt (by omega) h5
      have d2 := t5 (by omega)
      have d3 := t4 w (by omega) (by omega)
      omega
/-- how long the ends are that are due -/
def Ep (S : GS) (top : Nat) : Nat → Nat → Nat
  | 0, _ => 0
  | m + 1, a => if a = top then 0 else (S.nl (S.up a).toNatClampNeg + 3) + Ep S top m (S.up a).toNatClampNeg
def EpA (S : GS) (top a : Nat) : Nat := Ep S top (S.dp a) a
theorem EpA_top {top : Nat} : EpA S top top = 0 := by
  unfold EpA
  cases S.dp top with
  | zero => rfl
  | succ m => show (if top = top then 0 else _) = 0; rw [if_pos rfl]
theorem EpA_up {top a w : Nat} (ha : ¬ a = top) (hu : S.up a = nI w) (hw : w < 2 ^ 31) (hd : S.dp a = S.dp w + 1) : EpA S top a = S.nl w + 3 + EpA S top w := by
  unfold EpA
  rw [hd]
  show (if a = top then 0 else _) = _
  rw [if_neg ha, hu, nI_clamp hw]
theorem chn_len {top e : Nat} (hK : S.K ≤ 900) : ∀ {L : List Nat} {a b : Nat}, Chn S top e a L b → (L.flatMap (etag t n S)).length + EpA S top b = EpA S top a
  | [], a, b, h => by
    rw [h.1]; simp
  | w :: L, a, b, h => by
    obtain ⟨h1, _, h3, h4, _, h5, _, h6⟩ := h
    rw [List.flatMap_cons, List.length_append, etag_len, EpA_up h1 h4 (by omega) h5]
    have := chn_len hK h6
    omega
theorem k_L6 (h : KN σ τ t n S g a ls A) {top e : Nat} (htK : top < S.K) (heK : e ≤ S.K) {post : Int32 → PPS → Prop} : ∀ {L : List Nat} {a b d : Nat} {x : StS} {O : List Int32}, Chn S top e a L b → a < S.K → d + S.dp a ≤ 41 → Str x O → O.length + EpA S top a ≤ 24000 → (∀ x', Str x' (O ++ L.flatMap (etag t n S)) → post (opv S top b) (sSh σ x')) → w_Scribe_putEnds_L6 (nI e) (nI top) post (L.length + 1) (opv S top a) (nI d) (sSh σ x)
  | [], a, b, d, x, O, hc, ha, hd, hx, hO, hq => by
    have hK := h.K
    obtain ⟨e1, e2⟩ := hc
    subst e1
    have fin : post (opv S top a) (sSh σ x) := hq x (by simpa using hx)
    show w_Scribe_putEnds_L6 (nI e) (nI top) post (0 + 1) (opv S top a) (nI d) (sSh σ x)
    unfold w_Scribe_putEnds_L6
    refine ⟨fun _ => fin, fun _ => ⟨fun _ => fin, fun hv => ?_⟩⟩
    rcases e2 with z | ⟨z, _, w, q', h1, h2, _, h3, h4, h5, h6⟩
    · exfalso; apply hv; unfold opv; rw [if_pos z]
    · have e10 : tGet 14 (pNd (sSh σ x)) (opv S top a) 10 = nI q' := by
        unfold opv
        rw [if_neg z, h2]
        exact (h.g10 h1).trans h4
      rw [e10]
      exact br_t (nI_lt h5 (by omega)) fin
  | w :: L, a, b, d, x, O, hc, ha, hd, hx, hO, hq => by
    have hK := h.K
    obtain ⟨h1, _, h3, h4, h5, h6, h7, h8⟩ := hc
    have ev : opv S top a = nI w := by unfold opv; rw [if_neg h1, h4]
    have hEp := EpA_up h1 h4 (by omega) h6
    have e10 : tGet 14 (pNd (sSh σ x)) (nI w) 10 = nI e := (h.g10 h3).trans h7
    show w_Scribe_putEnds_L6 (nI e) (nI top) post ((L.length + 1) + 1) (opv S top a) (nI d) (sSh σ x)
    have hdw : 1 ≤ S.dp w := by
      rcases h.gt.up w h3 with ⟨_, y, _⟩ | ⟨_, _, _, y, _⟩ <;> omega
    rw [ev]
    unfold w_Scribe_putEnds_L6
    rw [e10]
    refine br_f (nI_ge (b := 40) (by omega) (by decide)) (br_f (nI_m1 (by omega)) (br_f (nI_nlt (by omega) (by omega)) ?_))
    refine k_etag h h3 h5 hx (by omega) (fun x1 hx1 => ?_)
    have nxt := k_L6 (d := d + 1) h htK heK h8 h3 (by omega) hx1 (by rw [List.length_append, etag_len]; omega) (fun x' hx' => hq x' (by rw [List.flatMap_cons, ← List.append_assoc]; exact hx'))
    unfold w_Scribe_putEnds_J94
    rw [nI_1]
    refine pk_eq w top (fun z => ?_) (fun z => ?_) rfl rfl (by omega) (by omega)
    · have : opv S top w = -1 := by unfold opv; rw [if_pos z]
      rw [this] at nxt; exact nxt
    · have : opv S top w = tGet 14 (pNd (sSh σ x1)) (nI w) 1 := by unfold opv; rw [if_neg z]; exact (h.g1 h3).symm
      rw [this] at nxt; exact nxt
end TG
