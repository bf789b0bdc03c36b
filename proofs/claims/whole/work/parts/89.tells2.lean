/-! PURE: node, letter, attribute, sign of both. -/
section TL
variable {t : Nat → Int32} {n : Nat} {σ : PPS} {τ : MPS} {S : GS}
theorem RN.op : ∀ (m : Nat) (S S' : GS), RN t n m S (.inr S') → S'.op = []
  | 0, S, S', h => by
    rcases h with ⟨a, h⟩ | ⟨_, p, _, h⟩
    · cases h; exact a
    · cases h
  | m + 1, S, S', h => by
    obtain ⟨_, S1, _, hR⟩ := h
    exact RN.op m S1 S' hR
theorem RD.op (h : RD t n (.inr S)) : S.op = [] := by
  obtain ⟨a, _, S1, _, m, hR, _⟩ := h
  exact RN.op m _ _ hR
/-- a book that is known, as both hold it -/
def KN (σ : PPS) (τ : MPS) (t : Nat → Int32) (n : Nat) (S : GS) (g a : Nat → Nat → Int32) (ls : List Int32) (A : Nat) : Prop := (RD t n (.inr S)) ∧ (Inv t n S) ∧ (Gd t n S) ∧ (0 < S.K) ∧ (Bk t n S (pNd σ) (pAt σ) (pLe σ) g a ls A) ∧ (MB S τ) ∧ (MT τ t n) ∧ (mp_known τ = 1)
theorem KN.rd {σ : PPS} {τ : MPS} {t : Nat → Int32} {n : Nat} {S : GS} {g a : Nat → Nat → Int32} {ls : List Int32} {A : Nat} (h : KN σ τ t n S g a ls A) : RD t n (.inr S) := h.1
theorem KN.inv {σ : PPS} {τ : MPS} {t : Nat → Int32} {n : Nat} {S : GS} {g a : Nat → Nat → Int32} {ls : List Int32} {A : Nat} (h : KN σ τ t n S g a ls A) : Inv t n S := h.2.1
theorem KN.gd {σ : PPS} {τ : MPS} {t : Nat → Int32} {n : Nat} {S : GS} {g a : Nat → Nat → Int32} {ls : List Int32} {A : Nat} (h : KN σ τ t n S g a ls A) : Gd t n S := h.2.2.1
theorem KN.pos {σ : PPS} {τ : MPS} {t : Nat → Int32} {n : Nat} {S : GS} {g a : Nat → Nat → Int32} {ls : List Int32} {A : Nat} (h : KN σ τ t n S g a ls A) : 0 < S.K := h.2.2.2.1
theorem KN.bk {σ : PPS} {τ : MPS} {t : Nat → Int32} {n : Nat} {S : GS} {g a : Nat → Nat → Int32} {ls : List Int32} {A : Nat} (h : KN σ τ t n S g a ls A) : Bk t n S (pNd σ) (pAt σ) (pLe σ) g a ls A := h.2.2.2.2.1
theorem KN.mb {σ : PPS} {τ : MPS} {t : Nat → Int32} {n : Nat} {S : GS} {g a : Nat → Nat → Int32} {ls : List Int32} {A : Nat} (h : KN σ τ t n S g a ls A) : MB S τ := h.2.2.2.2.2.1
theorem KN.mt {σ : PPS} {τ : MPS} {t : Nat → Int32} {n : Nat} {S : GS} {g a : Nat → Nat → Int32} {ls : List Int32} {A : Nat} (h : KN σ τ t n S g a ls A) : MT τ t n := h.2.2.2.2.2.2.1
theorem KN.kn {σ : PPS} {τ : MPS} {t : Nat → Int32} {n : Nat} {S : GS} {g a : Nat → Nat → Int32} {ls : List Int32} {A : Nat} (h : KN σ τ t n S g a ls A) : mp_known τ = 1 := h.2.2.2.2.2.2.2
theorem RL.book (h : RL σ τ) : (mp_known τ = 0 ∧ Emp σ) ∨ ∃ t n S g a ls A, KN σ τ t n S g a ls A := by
  rcases h.bk with h | ⟨a, t, n, S, g1, g2, g3, g4, ⟨_, g, aa, ls, A, hb⟩, g6, g7⟩
  · exact Or.inl h
  · exact Or.inr ⟨t, n, S, g, aa, ls, A, g1, g2, g3, g4, hb, g6, g7, a⟩
theorem Emp.get (h : Emp σ) (x c : Int32) : tGet 14 (pNd σ) x c = -1 := by
  unfold tGet
  by_cases a : x < 0
  · rw [if_pos a]
  · rw [if_neg a, h.1, if_pos (i_nlt.mp a)]
section KK
variable {g a : Nat → Nat → Int32} {ls : List Int32} {A : Nat}
theorem KN.js {τ' : MPS} (h : KN σ τ t n S g a ls A) (d : Js τ τ') : KN σ τ' t n S g a ls A := ⟨h.rd, h.inv, h.gd, h.pos, h.bk, h.mb.js d, h.mt.js d, (d.1 11 (by decide)).trans h.kn⟩
theorem KN.K (h : KN σ τ t n S g a ls A) : S.K ≤ 900 := h.inv.k900
theorem KN.get (h : KN σ τ t n S g a ls A) {k c : Nat} {x : Int32} (hx : x = nI c) (hk : k < S.K) (hc : c < 14) : tGet 14 (pNd σ) (nI k) x = g k c := h.bk.nd.get (by have := h.K; omega) hx hk hc (by decide)
theorem KN.out (h : KN σ τ t n S g a ls A) {x : Int32} (hx : ∀ k, x = nI k → k < S.K → False) (c : Int32) : tGet 14 (pNd σ) x c = -1 := by
  have hK := h.K
  rcases pk_ix x (n := S.K) (by omega) with h1 | h1 | ⟨k, hk, e⟩
  · exact tGet_neg h1
  · obtain ⟨k, hk, e⟩ := nI_of (x := x) (fun z => by
      have := Int32.lt_of_le_of_lt h1 z
      exact nI_pos (n := S.K) (by omega) this)
    rw [e]
    exact h.bk.nd.out (by
      rw [e] at h1
      exact (nI_leI (by omega) hk).mp h1) hk
  · exact (hx k e hk).elim
theorem KN.al (h : KN σ τ t n S g a ls A) {k : Nat} (hk : k < S.K) (hel : S.el k = true) : ∃ q, AL t n (S.bg k + 1 + S.nl k) (S.as k) q ∧ NoA t n q n := h.gd.al k hk hel (fun z => by
  obtain ⟨_, os, e⟩ := z
  rw [h.rd.op] at e; cases e)
theorem r_isNode (h : KN σ τ t n S g a ls A) {x : Int32} {post : Int32 → Prop} (h0 : (∀ k, x = nI k → k < S.K → False) → post 0) (h1 : ∀ k, x = nI k → k < S.K → post 1) : w_M_isNode τ x post := by
  have hK := h.K
  unfold w_M_isNode
  refine br_f (by rw [h.kn]; decide) ⟨fun a => h0 (fun k e hk => nI_pos (n := k) (by omega) (e ▸ a)), fun a => ?_⟩
  obtain ⟨k, hk, rfl⟩ := nI_of a
  rw [h.mb.1]
  refine pk_le S.K k (fun b => h0 (fun k' e hk' => ?_)) (fun b => h1 k rfl b) rfl rfl (by omega) hk
  have := (nI_eq hk (by omega)).mp e
  omega
theorem r_characters {s : Int32} {e : Nat} : ∀ {L : List Int32} {k c : Nat} {τ1 : MPS}, MT τ1 t n → e ≤ n → Chars t n s k e L → ∀ {post : Int32 → MPS → Prop}, (∀ τ', Df [12] τ1 τ' → post (nI (c + L.length)) τ') → w_M_characters_L5 (nI e) post (L.length + 1) (nI c) (nI k) τ1
  | [], k, c, τ1, hT, he, h, post, hq => by
    have h : k = e := h
    have hn := hT.2.1
    subst h
    unfold w_M_characters_L5
    exact br_t (nI_le (Nat.le_refl _) (by omega)) (hq τ1 (Df.refl τ1))
  | x :: L, k, c, τ1, hT, he, h, post, hq => by
    have hn := hT.2.1
    obtain ⟨_, _, _, k', f, hr⟩ := h
    have hf := chf_some f
    have hle := Chars.le hr
    show w_M_characters_L5 (nI e) post ((L.length + 1) + 1) (nI c) (nI k) τ1
    unfold w_M_characters_L5
    refine br_f (nI_ge (by omega) (by omega)) (r_characterOf hT (by omega) (fun c' e' τ' hc d w => ?_) (fun hc => by rw [f] at hc; cases hc))
    rw [f] at hc
    cases hc
    rw [w, nI_1, nI_add, show k + (k' - k) = k' from by omega]
    exact r_characters (hT.df d (by decide)) he hr (fun τ'' d2 => by
      have := hq τ'' (d.trans d2)
      rw [show c + 1 + L.length = c + (x :: L).length from by simp only [List.length_cons]; omega]
      exact this)
theorem r_characterIn {s : Int32} {e i : Nat} (hi : i < 2 ^ 31) : ∀ {L : List Int32} {k c : Nat} {τ1 : MPS}, MT τ1 t n → e ≤ n → Chars t n s k e L → c ≤ i → ∀ {post : Int32 → MPS → Prop}, (∀ τ', Df [12] τ1 τ' → post ((L[i - c]?).getD (-1)) τ') → w_M_characterIn_L6 (nI e) (nI i) post (L.length + 1) (nI c) (nI k) τ1
  | [], k, c, τ1, hT, he, h, hc, post, hq => by
    have h : k = e := h
    have hn := hT.2.1
    subst h
    unfold w_M_characterIn_L6
    exact br_t (nI_le (Nat.le_refl _) (by omega)) (hq τ1 (Df.refl τ1))
  | x :: L, k, c, τ1, hT, he, h, hc, post, hq => by
    have hn := hT.2.1
    obtain ⟨_, _, _, k', f, hr⟩ := h
    have hf := chf_some f
    have hle := Chars.le hr
    show w_M_characterIn_L6 (nI e) (nI i) post ((L.length + 1) + 1) (nI c) (nI k) τ1
    unfold w_M_characterIn_L6
    refine br_f (nI_ge (by omega) (by omega)) (r_characterOf hT (by omega) (fun c' e' τ' hc' d w => ?_) (fun hc => by rw [f] at hc; cases hc))
    rw [f] at hc'
    cases hc'
    rw [w, nI_1, nI_add, show k + (k' - k) = k' from by omega]
    refine pk_eq c i (fun ec => ?_) (fun ec => ?_) rfl rfl (by omega) hi
    · subst ec
      have := hq τ' d
      rw [Nat.sub_self] at this
      exact this
    · exact r_characterIn hi (hT.df d (by decide)) he hr (by omega) (fun τ'' d2 => by
        have := hq τ'' (d.trans d2)
        rw [show i - c = (i - (c + 1)) + 1 from by omega] at this
        exact this)
theorem r_nameSize (h : KN σ τ t n S g a ls A) {k : Nat} (hk : k < S.K) (hel : S.el k = true) {post : Int32 → Prop} (hq : post (nI (S.nl k))) : w_M_nameSize τ (nI k) post := by
  have hK := h.K
  have hn := h.mt.2.1
  have hnm := h.gd.nm k hk hel
  have hl := hnm.len
  unfold w_M_nameSize
  refine ⟨vp_in_nI (by omega) (by decide), ?_⟩
  rw [nI_clamp (by omega), (h.mb.2.2 k hk).bg]
  refine r_behindName h.mt (by omega) hnm.2.1 ⟨vp_in_nI (by omega) (by decide), ?_⟩
  rw [pk_sub (by omega), show nI (S.bg k + 1 + S.nl k - S.bg k) - 1 = nI (S.nl k) from by rw [show S.bg k + 1 + S.nl k - S.bg k = S.nl k + 1 from by omega, nI_pred]]
  exact hq
theorem r_attributes_L {q : Nat} : ∀ {as : List Att} {p c : Nat} {τ1 : MPS}, MT τ1 t n → p ≤ n → AL t n p as q → NoA t n q n → ∀ {post : Int32 → MPS → Prop}, (∀ τ', Df [19, 20, 21, 22] τ1 τ' → post (nI (c + as.length)) τ') → w_M_attributes_L13 post (as.length + 1) (nI p) (nI c) τ1
  | [], p, c, τ1, hT, hp, hl, hno, post, hq => by
    have hl : p = q := hl
    subst hl
    have hn := hT.2.1
    unfold w_M_attributes_L13
    rw [hT.1]
    exact r_next0 hT hp (by omega) hno (br_t rfl (hq τ1 (Df.refl τ1)))
  | B :: as, p, c, τ1, hT, hp, hl, hno, post, hq => by
    have hn := hT.2.1
    have hB := hl.1
    have hle := hB.le
    show w_M_attributes_L13 post ((as.length + 1) + 1) (nI p) (nI c) τ1
    unfold w_M_attributes_L13
    rw [hT.1]
    refine r_next1 hT hp (by omega) hB (by omega) (Chars.no34 hB.ch) (fun τ2 d2 _ _ _ f4 => br_f (by decide) ?_)
    rw [f4, nI_1, nI_1]
    exact r_attributes_L (hT.df d2 (by decide)) (by omega) hl.2 hno (fun τ' d => by
      have := hq τ' (d2.trans d)
      rw [show c + 1 + as.length = c + (B :: as).length from by simp only [List.length_cons]; omega]
      exact this)
theorem r_attributes (h : KN σ τ t n S g a ls A) {k : Nat} (hk : k < S.K) (hel : S.el k = true) {post : Int32 → MPS → Prop} (hq : ∀ τ', Df [19, 20, 21, 22] τ τ' → post (nI (S.as k).length) τ') : w_M_attributes τ (nI k) post := by
  have hK := h.K
  have hn := h.mt.2.1
  have hnm := h.gd.nm k hk hel
  have hl := hnm.len
  obtain ⟨q, hal, hno⟩ := h.al hk hel
  unfold w_M_attributes
  refine ⟨vp_in_nI (by omega) (by decide), ?_⟩
  rw [nI_clamp (by omega), (h.mb.2.2 k hk).bg]
  refine r_behindName h.mt (by omega) hnm.2.1 ⟨_, r_attributes_L (c := 0) h.mt (by omega) hal hno (fun τ' d => ?_)⟩
  rw [Nat.zero_add]; exact hq τ' d
/-- the fields that tell the latest attribute -/
def Lat (τ : MPS) (B : Att) : Prop := mp_nameAt τ = nI B.na ∧ mp_nameMany τ = nI B.nl ∧ mp_valueAt τ = nI (B.na + B.nl + 2) ∧ mp_valueEnd τ = nI B.ve
theorem r_hasNumber_L {q j : Nat} (hj : j < 2 ^ 30) : ∀ {as : List Att} {p c : Nat} {τ1 : MPS}, MT τ1 t n → p ≤ n → AL t n p as q → NoA t n q n → c ≤ j → ∀ {post : Int32 → MPS → Prop}, (∀ B τ', as[j - c]? = some B → Df [19, 20, 21, 22] τ1 τ' → Lat τ' B → post 1 τ') → (as[j - c]? = none → ∀ τ', Df [19, 20, 21, 22] τ1 τ' → post 0 τ') → w_M_hasNumber_L37 (nI j) post (as.length + 2) (nI p) (nI c) τ1
  | [], p, c, τ1, hT, hp, hl, hno, hc, post, h1, h0 => by
    have hl : p = q := hl
    subst hl
    have hn := hT.2.1
    show w_M_hasNumber_L37 (nI j) post (1 + 1) (nI p) (nI c) τ1
    unfold w_M_hasNumber_L37
    rw [hT.1]
    exact br_f (nI_nlt hc (by omega)) (r_next0 hT hp (by omega) hno (br_t rfl (h0 rfl τ1 (Df.refl τ1))))
  | B :: as, p, c, τ1, hT, hp, hl, hno, hc, post, h1, h0 => by
    have hn := hT.2.1
    have hB := hl.1
    have hle := hB.le
    show w_M_hasNumber_L37 (nI j) post ((as.length + 2) + 1) (nI p) (nI c) τ1
    unfold w_M_hasNumber_L37
    rw [hT.1]
    refine br_f (nI_nlt hc (by omega)) (r_next1 hT hp (by omega) hB (by omega) (Chars.no34 hB.ch) (fun τ2 d2 f1 f2 f3 f4 => br_f (by decide) ?_))
    rw [f4, nI_1, nI_1]
    by_cases ec : c = j
    · subst ec
      unfold w_M_hasNumber_L37
      exact br_t (nI_lt (by omega) (by omega)) (h1 B τ2 (by rw [Nat.sub_self]; rfl) d2 ⟨f1, f2, f3, f4⟩)
    · exact r_hasNumber_L hj (hT.df d2 (by decide)) (by omega) hl.2 hno (by omega) (fun B' τ' hB' d lat => h1 B' τ' (by rw [show j - c = (j - (c + 1)) + 1 from by omega]; exact hB') (d2.trans d) lat) (fun hN τ' d => h0 (by rw [show j - c = (j - (c + 1)) + 1 from by omega]; exact hN) τ' (d2.trans d))
/-- as r_hasNumber_L, for a number beyond all -/
theorem r_hasNumber_big {q j : Nat} (hj : j < 2 ^ 31) : ∀ {as : List Att} {p c : Nat} {τ1 : MPS}, MT τ1 t n → p ≤ n → AL t n p as q → NoA t n q n → c + as.length ≤ j → ∀ {post : Int32 → MPS → Prop}, (∀ τ', Df [19, 20, 21, 22] τ1 τ' → post 0 τ') → w_M_hasNumber_L37 (nI j) post (as.length + 2) (nI p) (nI c) τ1
  | [], p, c, τ1, hT, hp, hl, hno, hc, post, h0 => by
    have hl : p = q := hl
    subst hl
    have hn := hT.2.1
    show w_M_hasNumber_L37 (nI j) post (1 + 1) (nI p) (nI c) τ1
    unfold w_M_hasNumber_L37
    rw [hT.1]
    exact br_f (nI_nlt (by simp only [List.length_nil] at hc; omega) (by omega)) (r_next0 hT hp (by omega) hno (br_t rfl (h0 τ1 (Df.refl τ1))))
  | B :: as, p, c, τ1, hT, hp, hl, hno, hc, post, h0 => by
    have hn := hT.2.1
    have hB := hl.1
    have hle := hB.le
    simp only [List.length_cons] at hc
    show w_M_hasNumber_L37 (nI j) post ((as.length + 2) + 1) (nI p) (nI c) τ1
    unfold w_M_hasNumber_L37
    rw [hT.1]
    refine br_f (nI_nlt (by omega) (by omega)) (r_next1 hT hp (by omega) hB (by omega) (Chars.no34 hB.ch) (fun τ2 d2 f1 f2 f3 f4 => br_f (by decide) ?_))
    rw [f4, nI_1, nI_1]
    exact r_hasNumber_big hj (hT.df d2 (by decide)) (by omega) hl.2 hno (by omega) (fun τ' d => h0 τ' (d2.trans d))
theorem as_len (h : KN σ τ t n S g a ls A) {k : Nat} (hk : k < S.K) : (S.as k).length ≤ 800 := by
  obtain ⟨q, hat⟩ := (h.bk.row k hk).att
  have := hat.le
  have := h.bk.ale
  have := h.inv.an
  have := h.inv.n4
  omega
end KK
end TL
