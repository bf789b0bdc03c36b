/-! PURE: node, letter, attribute, sign: both answer alike. -/
section T3
variable {t : Nat → Int32} {n : Nat} {σ : PPS} {τ : MPS} {S : GS} {g a : Nat → Nat → Int32} {ls : List Int32} {A : Nat}
theorem KN.gt (h : KN σ τ t n S g a ls A) : Gt t n S := h.rd.gt h.inv.n4
theorem KN.lsl (h : KN σ τ t n S g a ls A) : ls.length ≤ 4000 := by
  have := h.bk.lle; have := h.inv.an; have := h.inv.n4; omega
theorem bLet_seg (hs : Str (pLe σ) ls) (hl : ls.length ≤ 4000) {l : List Int32} {f i : Nat} (h : Seg ls f l) (hi : i < 2 ^ 31) : bLet σ (nI f) (nI l.length) (nI i) = (l[i]?).getD (-1) := by
  have hf := h.1
  unfold bLet
  rw [if_neg (nI_pos hi)]
  by_cases e : l.length ≤ i
  · rw [if_pos (nI_le e hi), List.getElem?_eq_none e]; rfl
  · rw [if_neg (nI_ge (by omega) (by omega)), nI_add, h.get hs (by omega) (by omega), List.getD_eq_getElem?_getD, List.getElem?_eq_getElem (by omega)]; rfl
theorem bLet_neg {f c x : Int32} (h : x < 0) : bLet σ f c x = -1 := if_pos h
theorem bLet_m1 {f x : Int32} : bLet σ f (-1) x = -1 := by
  unfold bLet
  by_cases h : x < 0
  · rw [if_pos h]
  · rw [if_neg h, if_pos (Int32.le_trans (by decide) (i_nlt.mp h))]
theorem KN.isEl (h : KN σ τ t n S g a ls A) {k : Nat} (hk : k < S.K) : mp_isElement τ (nI k).toNatClampNeg = b2i (S.el k) := by
  rw [nI_clamp (by have := h.K; omega)]; exact (h.mb.2.2 k hk).el
theorem KN.in_ (h : KN σ τ t n S g a ls A) {k : Nat} (hk : k < S.K) : vp_in (nI k) 1000 := vp_in_nI (by have := h.K; omega) (by decide)
/-- a known book, or none -/
theorem r_nodeOr (h : RL σ τ) {x : Int32} {post : Int32 → Prop} (h0 : (∀ c, tGet 14 (pNd σ) x c = -1) → post 0) (h1 : ∀ t n S g a ls A k, KN σ τ t n S g a ls A → x = nI k → k < S.K → post 1) : w_M_isNode τ x post := by
  rcases h.book with ⟨k0, hE⟩ | ⟨t, n, S, g, a, ls, A, hK⟩
  · unfold w_M_isNode
    exact br_t k0 (h0 (fun c => hE.get x c))
  · exact r_isNode hK (fun hno => h0 (fun c => hK.out hno c)) (fun k e hk => h1 t n S g a ls A k hK e hk)
def vnode (σ : PPS) (x0 x1 : Int32) : Int32 := if x1 ≤ 7 then tGet 14 (pNd σ) x0 x1 else -1
theorem r_node (h : RL σ τ) {x0 x1 : Int32} {post : Int32 → MPS → Prop} (hq : ∀ τ', RL σ τ' → post (vnode σ x0 x1) τ') : w_M_node τ x0 x1 post := by
  unfold w_M_node
  refine fa_eq ?_
  have h2 : RL σ (ms_thrown τ 0) := h.js (Js.set τ (by decide))
  have hq2 := hq _ h2
  generalize ms_thrown τ 0 = τ2 at h2 hq2 ⊢
  refine r_nodeOr h2 (fun hno => br_t rfl ?_) (fun t n S g a ls A k hK e hk => br_f (by decide) ?_)
  · have : vnode σ x0 x1 = -1 := by
      unfold vnode
      split
      · exact hno x1
      · rfl
    rw [this] at hq2; exact hq2
  · subst e
    have r := hK.bk.row k hk
    have m := hK.mb.2.2 k hk
    have hin := hK.in_ hk
    have hK9 := hK.K
    have hcl : (nI k).toNatClampNeg = k := nI_clamp (by omega)
    have vn : ∀ c, c ≤ 7 → vnode σ (nI k) (nI c) = g k c := fun c hc => by
      unfold vnode
      rw [if_pos (show nI c ≤ 7 from nI_le (b := 7) hc (by decide))]
      exact hK.get rfl hk (by omega)
    have js : ∀ {L : List Nat} {τ' : MPS}, Df L τ2 τ' → (∀ j, j ∈ L → j ∈ Lj) → RL σ τ' := fun d hL => h2.js (d.js hL)
    have hn := hK.mt.2.1
    refine ⟨fun e => ?_, fun n0 => ⟨fun e => ?_, fun n1 => ⟨fun e => ?_, fun n2 => ⟨fun e => ?_, fun n3 => ⟨fun e => ?_, fun n4 => ⟨fun e => ?_, fun n5 => ⟨fun e => ?_, fun n6 => ⟨fun e => ?_, fun n7 => ?_⟩⟩⟩⟩⟩⟩⟩⟩
    · subst e
      refine ⟨hin, ?_⟩
      rw [hK.isEl hk]
      have hv := vn 0 (by decide)
      rw [show (nI 0) = 0 from rfl, r.lnk.c0] at hv
      rw [hv] at hq2
      cases he : S.el k with
      | false => rw [he] at hq2; exact bl_f rfl hq2
      | true => rw [he] at hq2; exact bl_t rfl hq2
    · subst e
      refine ⟨hin, ?_⟩
      rw [hcl, m.up, ← r.lnk.c1, ← vn 1 (by decide)]; exact hq2
    · subst e
      refine ⟨hin, ?_⟩
      rw [hcl, m.bg, ← r.lnk.c2, ← vn 2 (by decide)]; exact hq2
    · subst e
      refine ⟨hin, ?_⟩
      rw [hK.isEl hk]
      obtain ⟨f, l8, l3, lS⟩ := r.let_
      have hv := vn 3 (by decide)
      rw [show (nI 3) = 3 from rfl, l3] at hv
      cases he : S.el k with
      | false =>
        refine bl_f rfl ⟨hin, hin, ?_⟩
        rw [hcl, m.bg, m.en he]
        obtain ⟨hC, hlt⟩ := hK.gd.tx k hk he
        have hbn : S.bg k ≤ n := by
          have := Chars.le hC
          cases hcs : S.cs k with
          | nil => rw [hcs] at hC; have hC : S.bg k = S.en k := hC; omega
          | cons c L => rw [hcs] at hC; obtain ⟨_, _, hm, _⟩ := hC; have := xx_lt hm; omega
        have hen : S.en k ≤ n := (Chars.le hC).2.2 hbn
        refine ⟨_, r_characters (c := 0) hK.mt hen hC (fun τ' d => ?_)⟩
        have := hq τ' (js d (by decide))
        rw [hv] at this
        rw [Nat.zero_add]
        have hl : lets t n S k = S.cs k := by unfold lets; rw [if_neg (by rw [he]; decide)]
        rw [hl] at this
        exact this
      | true =>
        refine bl_t rfl (r_nameSize hK hk he ?_)
        have hl : (lets t n S k).length = S.nl k := by unfold lets; rw [if_pos he, seg_len]
        rw [hv, hl] at hq2
        exact hq2
    · subst e
      refine ⟨hin, ?_⟩
      rw [hK.isEl hk]
      obtain ⟨q, hat⟩ := r.att
      have hv := vn 4 (by decide)
      rw [show (nI 4) = 4 from rfl, hat.c4] at hv
      cases he : S.el k with
      | false =>
        refine bl_f rfl ?_
        rw [hv, hK.gt.ta k hk he] at hq2
        exact hq2
      | true =>
        refine bl_t rfl (r_attributes hK hk he (fun τ' d => ?_))
        have := hq τ' (js d (by decide))
        rw [hv] at this
        exact this
    · subst e
      refine ⟨hin, ?_⟩
      rw [hcl, m.nx, ← r.lnk.c5, ← vn 5 (by decide)]; exact hq2
    · subst e
      refine ⟨hin, ?_⟩
      rw [hcl, m.fs, ← r.lnk.c6, ← vn 6 (by decide)]; exact hq2
    · subst e
      refine ⟨hin, ?_⟩
      rw [hcl, m.dp, ← r.lnk.c7, ← vn 7 (by decide)]; exact hq2
    · have : vnode σ (nI k) x1 = -1 := by
        unfold vnode
        by_cases h7 : x1 ≤ 7
        · rw [if_pos h7]
          by_cases hz : x1 < 0
          · unfold tGet
            rw [if_neg (nI_pos (by omega)), if_pos hz]
            split <;> rfl
          · exfalso
            obtain ⟨c, hc, rfl⟩ := nI_of hz
            have hc7 : c ≤ 7 := (nI_leI hc (by decide)).mp h7
            rcases (by omega : c = 0 ∨ c = 1 ∨ c = 2 ∨ c = 3 ∨ c = 4 ∨ c = 5 ∨ c = 6 ∨ c = 7) with z | z | z | z | z | z | z | z <;> subst z
            · exact n0 rfl
            · exact n1 rfl
            · exact n2 rfl
            · exact n3 rfl
            · exact n4 rfl
            · exact n5 rfl
            · exact n6 rfl
            · exact n7 rfl
        · rw [if_neg h7]
      rw [this] at hq2; exact hq2
theorem c7_node {x0 x1 : Int32} (h : RL σ τ) {post : Int32 → Int32 → MPS → Prop} (hq : ∀ r τ', RL σ τ' → post r r τ') : w_X_node σ x0 x1 (fun r => w_M_node τ x0 x1 (fun r' τ' => post r r' τ')) := by
  have hv : ∀ r, r = vnode σ x0 x1 → w_M_node τ x0 x1 (fun r' τ' => post r r' τ') := fun r e => r_node h (fun τ' hR => by rw [e]; exact hq _ _ hR)
  unfold w_X_node
  exact ⟨fun c => hv _ (by unfold vnode; rw [if_pos c]), fun c => hv _ (by unfold vnode; rw [if_neg c])⟩
theorem KN.txe (h : KN σ τ t n S g a ls A) {k : Nat} (hk : k < S.K) (he : S.el k = false) : Chars t n 60 (S.bg k) (S.en k) (S.cs k) ∧ S.en k ≤ n := by
  obtain ⟨hC, hlt⟩ := h.gd.tx k hk he
  refine ⟨hC, (Chars.le hC).2.2 ?_⟩
  cases hcs : S.cs k with
  | nil => rw [hcs] at hC; have hC : S.bg k = S.en k := hC; omega
  | cons c L => rw [hcs] at hC; obtain ⟨_, _, hm, _⟩ := hC; have := xx_lt hm; omega
theorem seg_getD {k m i : Nat} : ((seg t n k m)[i]?).getD (-1) = if i < m then xx t n (k + i) else -1 := by
  by_cases h : i < m
  · rw [seg_get t n m k i h, if_pos h]; rfl
  · rw [List.getElem?_eq_none (by rw [seg_len]; omega), if_neg h]; rfl
theorem r_letter (h : RL σ τ) {x0 x1 : Int32} {post : Int32 → MPS → Prop} (hq : ∀ τ', RL σ τ' → post (bLet σ (tGet 14 (pNd σ) x0 8) (tGet 14 (pNd σ) x0 3) x1) τ') : w_M_letter τ x0 x1 post := by
  unfold w_M_letter
  refine fa_eq ?_
  have h2 : RL σ (ms_thrown τ 0) := h.js (Js.set τ (by decide))
  have hq2 := hq _ h2
  generalize ms_thrown τ 0 = τ2 at h2 hq2 ⊢
  refine r_nodeOr h2 (fun hno => br_t rfl ?_) (fun t n S g a ls A k hK e hk => br_f (by decide) ?_)
  · rw [hno, hno, bLet_m1] at hq2; exact hq2
  · subst e
    have r := hK.bk.row k hk
    have m := hK.mb.2.2 k hk
    have hin := hK.in_ hk
    have hK9 := hK.K
    have hcl : (nI k).toNatClampNeg = k := nI_clamp (by omega)
    have hn := hK.mt.2.1
    obtain ⟨f, l8, l3, lS⟩ := r.let_
    have e8 : tGet 14 (pNd σ) (nI k) 8 = nI f := (hK.get (c := 8) rfl hk (by decide)).trans l8
    have e3 : tGet 14 (pNd σ) (nI k) 3 = nI (lets t n S k).length := (hK.get (c := 3) rfl hk (by decide)).trans l3
    rw [e8, e3] at hq hq2
    refine ⟨fun hp => ?_, fun hp => ?_⟩
    · obtain ⟨i, hi, rfl⟩ := nI_of (i_nlt.mpr hp)
      rw [bLet_seg hK.bk.le hK.lsl lS hi] at hq hq2
      refine ⟨hin, ?_⟩
      rw [hK.isEl hk]
      cases he : S.el k with
      | false =>
        refine bl_f rfl ⟨hin, hin, ?_⟩
        rw [hcl, m.bg, m.en he]
        obtain ⟨hC, hen⟩ := hK.txe hk he
        refine ⟨_, r_characterIn (c := 0) hi hK.mt hen hC (Nat.zero_le _) (fun τ' d => ?_)⟩
        have := hq τ' (h2.js (d.js (by decide)))
        have hl : lets t n S k = S.cs k := by unfold lets; rw [if_neg (by rw [he]; decide)]
        rw [hl] at this
        exact this
      | true =>
        refine bl_t rfl (r_nameSize hK hk he ?_)
        have hnm := (hK.gd.nm k hk he).len
        have hl : lets t n S k = seg t n (S.bg k + 1) (S.nl k) := by unfold lets; rw [if_pos he]
        rw [hl, seg_getD] at hq2
        refine pk_le (S.nl k) i (fun b => ?_) (fun b => ⟨hin, ?_⟩) rfl rfl (by omega) hi
        · rw [if_neg (by omega)] at hq2; exact hq2
        · rw [if_pos b] at hq2
          rw [hcl, m.bg, nI_1, nI_add]
          exact ⟨hK.mt.k (by omega), by rw [hK.mt.x (by omega)]; exact hq2⟩
    · rw [bLet_neg (i_nle.mp hp)] at hq2; exact hq2
theorem c8_letter {x0 x1 : Int32} (h : RL σ τ) {post : Int32 → Int32 → MPS → Prop} (hq : ∀ r τ', RL σ τ' → post r r τ') : w_X_letter σ x0 x1 (fun r => w_M_letter τ x0 x1 (fun r' τ' => post r r' τ')) := r_letter h (fun τ' hR => hq _ _ hR)
/-- an attribute by its number: as both find it -/
theorem r_hasNumber (h : RL σ τ) {x0 x1 : Int32} {post : Int32 → MPS → Prop} (h0 : bAtt σ x0 x1 = -1 → ∀ τ', RL σ τ' → post 0 τ')
    (h1 : ∀ t n S g a ls A k j q B τ', KN σ τ' t n S g a ls A → x0 = nI k → k < S.K → S.el k = true → x1 = nI j → (S.as k)[j]? = some B → bAtt σ x0 x1 = nI (q + j) → NAtt t n (S.as k) g a ls A k q → RL σ τ' → Lat τ' B → post 1 τ') : w_M_hasNumber τ x0 x1 post := by
  unfold w_M_hasNumber
  refine r_nodeOr h (fun hno => br_t rfl (h0 ?_ τ h)) (fun t n S g a ls A k hK e hk => br_f (by decide) ?_)
  · unfold bAtt
    rw [hno, hno]
    split
    · rfl
    · rename_i hz
      rw [if_pos (Int32.le_trans (by decide) (i_nlt.mp hz))]
  · subst e
    have r := hK.bk.row k hk
    have m := hK.mb.2.2 k hk
    have hin := hK.in_ hk
    have hK9 := hK.K
    have hcl : (nI k).toNatClampNeg = k := nI_clamp (by omega)
    have hn := hK.mt.2.1
    obtain ⟨q, hat⟩ := r.att
    have hal := as_len hK hk
    have e4 : tGet 14 (pNd σ) (nI k) 4 = nI (S.as k).length := (hK.get (c := 4) rfl hk (by decide)).trans hat.c4
    have e9 : tGet 14 (pNd σ) (nI k) 9 = nI q := (hK.get (c := 9) rfl hk (by decide)).trans hat.c9
    have bneg : x1 < 0 → bAtt σ (nI k) x1 = -1 := fun hz => if_pos hz
    have bge : ∀ j, j < 2 ^ 31 → (S.as k).length ≤ j → bAtt σ (nI k) (nI j) = -1 := fun j hj hl => by
      unfold bAtt
      rw [if_neg (nI_pos hj), e4, if_pos (nI_le hl hj)]
    refine ⟨hin, ?_⟩
    rw [hK.isEl hk]
    cases he : S.el k with
    | false =>
      refine bl_f rfl (h0 ?_ τ h)
      by_cases hz : x1 < 0
      · exact bneg hz
      · obtain ⟨j, hj, rfl⟩ := nI_of hz
        exact bge j hj (by rw [hK.gt.ta k hk he]; exact Nat.zero_le _)
    | true =>
      refine bl_t rfl ⟨fun hp => ⟨hin, ?_⟩, fun hp => h0 (bneg (i_nle.mp hp)) τ h⟩
      obtain ⟨j, hj, rfl⟩ := nI_of (i_nlt.mpr hp)
      have hnm := hK.gd.nm k hk he
      have hnl := hnm.len
      obtain ⟨q2, hAL, hno⟩ := hK.al hk he
      rw [hcl, m.bg]
      refine r_behindName hK.mt (by omega) hnm.2.1 ?_
      by_cases hjl : (S.as k).length ≤ j
      · exact ⟨_, r_hasNumber_big (c := 0) hj hK.mt (by omega) hAL hno (by omega) (fun τ' d => h0 (bge j hj hjl) τ' (h.js (d.js (by decide))))⟩
      · refine ⟨_, r_hasNumber_L (c := 0) (by omega) hK.mt (by omega) hAL hno (Nat.zero_le _) (fun B τ' hB d lat => ?_) (fun hN => ?_)⟩
        · have hj' := h.js (d.js (by decide))
          refine h1 t n S g a ls A k j q B τ' (hK.js (d.js (by decide))) rfl hk he rfl hB ?_ hat hj' lat
          unfold bAtt
          rw [if_neg (nI_pos hj), e4, if_neg (nI_ge (by omega) (by omega)), e9, nI_add]
        · rw [Nat.sub_zero] at hN
          have := List.getElem?_eq_none_iff.mp hN
          omega
theorem tGet5_m1 {c : Int32} : tGet 5 (pAt σ) (-1) c = -1 := tGet_m1
/-- an attribute's row, for one that is there -/
theorem KN.at_ (h : KN σ τ t n S g a ls A) {k j q c : Nat} {B : Att} {x : Int32} (hat : NAtt t n (S.as k) g a ls A k q) (hB : (S.as k)[j]? = some B) (hx : x = nI c) (hc : c < 5) : tGet 5 (pAt σ) (nI (q + j)) x = a (q + j) c := by
  have hj := (List.getElem?_eq_some_iff.mp hB).1
  have := hat.le
  have := h.bk.ale
  have := h.inv.an
  have := h.inv.n4
  exact h.bk.at_.get (by omega) hx (by omega) hc (by decide)
theorem AL.get : ∀ {as : List Att} {p q j : Nat} {B : Att}, AL t n p as q → as[j]? = some B → ∃ p', AtP t n p' B
  | [], p, q, j, B, _, h => by cases h
  | C :: as, p, q, 0, B, hl, h => by cases h; exact ⟨p, hl.1⟩
  | C :: as, p, q, j + 1, B, hl, h => AL.get hl.2 h
theorem r_attribute (h : RL σ τ) {x0 x1 x2 : Int32} {post : Int32 → MPS → Prop} (hq : ∀ τ', RL σ τ' → post (if x2 ≤ 2 then tGet 5 (pAt σ) (bAtt σ x0 x1) x2 else -1) τ') : w_M_attribute τ x0 x1 x2 post := by
  unfold w_M_attribute
  refine fa_eq ?_
  refine r_hasNumber (h.js (Js.set τ (by decide))) (fun hb τ' hR => br_t rfl ?_) (fun t n S g a ls A k j q B τ' hK e0 hk he e1 hB hb hat hR lat => br_f (by decide) ?_)
  · have := hq τ' hR
    rw [hb, tGet5_m1] at this
    split at this <;> exact this
  · have hq2 := hq τ' hR
    have hrow := hat.row j B hB
    rw [hb] at hq hq2
    have hget : ∀ c x, x = nI c → c < 5 → tGet 5 (pAt σ) (nI (q + j)) x = a (q + j) c := fun c x hx hc => hK.at_ hat hB hx hc
    obtain ⟨l1, l2, l3, l4⟩ := lat
    refine ⟨fun e => ?_, fun n0 => ⟨fun e => ?_, fun n1 => ⟨fun e => ?_, fun n2 => ?_⟩⟩⟩
    · subst e
      rw [if_pos (by decide), hget 0 0 rfl (by decide), hrow.c0] at hq2
      rw [l2]; exact hq2
    · subst e
      rw [if_pos (by decide), hget 1 1 rfl (by decide), hrow.c1] at hq
      obtain ⟨q2, hAL, _⟩ := hK.al hk he
      obtain ⟨p', hAP⟩ := AL.get hAL hB
      have hle := hAP.le
      rw [l3, l4]
      refine ⟨_, r_characters (c := 0) hK.mt (by omega) hAP.ch (fun τ'' d => ?_)⟩
      rw [Nat.zero_add]
      exact hq τ'' (hR.js (d.js (by decide)))
    · subst e
      rw [if_pos (by decide), hget 2 2 rfl (by decide), hrow.c2] at hq2
      rw [l1]; exact hq2
    · have : (if x2 ≤ 2 then tGet 5 (pAt σ) (nI (q + j)) x2 else -1) = -1 := by
        by_cases h2 : x2 ≤ 2
        · rw [if_pos h2]
          by_cases hz : x2 < 0
          · unfold tGet
            simp only [hz, if_true, ite_self]
          · exfalso
            obtain ⟨c, hc, rfl⟩ := nI_of hz
            have hc2 : c ≤ 2 := (nI_leI hc (by decide)).mp h2
            rcases (by omega : c = 0 ∨ c = 1 ∨ c = 2) with z | z | z <;> subst z
            · exact n0 rfl
            · exact n1 rfl
            · exact n2 rfl
        · rw [if_neg h2]
      rw [this] at hq2; exact hq2
theorem c9_attribute {x0 x1 x2 : Int32} (h : RL σ τ) {post : Int32 → Int32 → MPS → Prop} (hq : ∀ r τ', RL σ τ' → post r r τ') : w_X_attribute σ x0 x1 x2 (fun r => w_M_attribute τ x0 x1 x2 (fun r' τ' => post r r' τ')) := by
  have hv : ∀ r, r = (if x2 ≤ 2 then tGet 5 (pAt σ) (bAtt σ x0 x1) x2 else -1) → w_M_attribute τ x0 x1 x2 (fun r' τ' => post r r' τ') := fun r e => r_attribute h (fun τ' hR => by rw [e]; exact hq _ _ hR)
  unfold w_X_attribute
  exact ⟨fun c => hv _ (by rw [if_pos c]), fun c => hv _ (by rw [if_neg c])⟩
theorem r_sign (h : RL σ τ) {x0 x1 x2 x3 : Int32} {post : Int32 → MPS → Prop} (hq : ∀ τ', RL σ τ' → post (if x2 = 0 then bLet σ (tGet 5 (pAt σ) (bAtt σ x0 x1) 3) (tGet 5 (pAt σ) (bAtt σ x0 x1) 0) x3 else bLet σ (tGet 5 (pAt σ) (bAtt σ x0 x1) 4) (tGet 5 (pAt σ) (bAtt σ x0 x1) 1) x3) τ') : w_M_sign τ x0 x1 x2 x3 post := by
  unfold w_M_sign
  refine fa_eq ?_
  refine r_hasNumber (h.js (Js.set τ (by decide))) (fun hb τ' hR => br_t rfl ?_) (fun t n S g a ls A k j q B τ' hK e0 hk he e1 hB hb hat hR lat => br_f (by decide) ?_)
  · have := hq τ' hR
    rw [hb, tGet5_m1, tGet5_m1, tGet5_m1, tGet5_m1, bLet_m1] at this
    split at this <;> exact this
  · have hrow := hat.row j B hB
    rw [hb] at hq
    have hget : ∀ c x, x = nI c → c < 5 → tGet 5 (pAt σ) (nI (q + j)) x = a (q + j) c := fun c x hx hc => hK.at_ hat hB hx hc
    obtain ⟨l1, l2, l3, l4⟩ := lat
    obtain ⟨f3, r3, s3⟩ := hrow.c3
    obtain ⟨f4, r4, s4⟩ := hrow.c4
    obtain ⟨q2, hAL, _⟩ := hK.al hk he
    obtain ⟨p', hAP⟩ := AL.get hAL hB
    have hle := hAP.le
    have hn := hK.mt.2.1
    rw [hget 3 3 rfl (by decide), hget 0 0 rfl (by decide), hget 4 4 rfl (by decide), hget 1 1 rfl (by decide), r3, r4, hrow.c0, hrow.c1] at hq
    have hsl : (seg t n B.na B.nl).length = B.nl := seg_len _ _ _ _
    refine ⟨fun hp => ?_, fun hp => ?_⟩
    · obtain ⟨i, hi, rfl⟩ := nI_of (i_nlt.mpr hp)
      have b3 : bLet σ (nI f3) (nI B.nl) (nI i) = if i < B.nl then xx t n (B.na + i) else -1 := by
        rw [← seg_getD, ← bLet_seg hK.bk.le hK.lsl s3 hi, hsl]
      rw [b3, bLet_seg hK.bk.le hK.lsl s4 hi] at hq
      refine ⟨fun e => ?_, fun e => ?_⟩
      · have hq2 := hq τ' hR
        rw [if_pos e] at hq2
        rw [l2, l1]
        refine pk_le B.nl i (fun b => ?_) (fun b => ?_) rfl rfl (by omega) hi
        · rw [if_neg (by omega)] at hq2; exact hq2
        · rw [if_pos b] at hq2
          rw [nI_add]
          exact ⟨hK.mt.k (by omega), by rw [hK.mt.x (by omega)]; exact hq2⟩
      · rw [l3, l4]
        refine ⟨_, r_characterIn (c := 0) hi hK.mt (by omega) hAP.ch (Nat.zero_le _) (fun τ'' d => ?_)⟩
        have := hq τ'' (hR.js (d.js (by decide)))
        rw [if_neg e] at this
        exact this
    · have hq2 := hq τ' hR
      simp only [bLet_neg (i_nle.mp hp)] at hq2
      split at hq2 <;> exact hq2
theorem c10_sign {x0 x1 x2 x3 : Int32} (h : RL σ τ) {post : Int32 → Int32 → MPS → Prop} (hq : ∀ r τ', RL σ τ' → post r r τ') : w_X_sign σ x0 x1 x2 x3 (fun r => w_M_sign τ x0 x1 x2 x3 (fun r' τ' => post r r' τ')) := by
  unfold w_X_sign w_X_sign_J26 w_X_sign_J52
  refine ⟨fun e => br_t e ?_, fun e => br_f e ?_⟩
  · exact r_sign h (fun τ' hR => by rw [if_pos e]; exact hq _ _ hR)
  · exact r_sign h (fun τ' hR => by rw [if_neg e]; exact hq _ _ hR)
end T3
