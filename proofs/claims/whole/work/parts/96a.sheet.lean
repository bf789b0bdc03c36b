/-! PURE: what is put on the sheet; how the one puts it. -/
def encN (v : Nat) : List Nat := if v < 128 then [v] else if v < 2048 then [192 + v / 64, 128 + v % 64] else if v < 65536 then [224 + v / 4096, 128 + v / 64 % 64, 128 + v % 64] else [240 + v / 262144, 128 + v / 4096 % 64, 128 + v / 64 % 64, 128 + v % 64]
def enc (c : Int32) : List Int32 := (encN c.toNatClampNeg).map nI
def esc (c : Int32) : List Int32 := if c = 38 then tx 20 else if c = 60 then tx 21 else if c = 62 then tx 22 else if c = 34 then tx 23 else enc c
def encL (L : List Int32) : List Int32 := L.flatMap enc
def escL (L : List Int32) : List Int32 := L.flatMap esc
/-- a character's number -/
def Cp (c : Int32) : Prop := ∃ v : Nat, v ≤ 1114111 ∧ c = nI v
theorem Cp.ok {c : Int32} (h : cOk c = true) : Cp c := by
  obtain ⟨v, hv, e⟩ := nI_of (cOk_pos h).1
  refine ⟨v, ?_, e⟩
  unfold cOk cCh at h
  simp only [Bool.and_eq_true, decide_eq_true_eq] at h
  have h2 := h.1.1.2
  rw [e] at h2
  exact (nI_leI (b := 1114111) hv (by decide)).mp h2
theorem enc_nI {v : Nat} (h : v < 2 ^ 31) : enc (nI v) = (encN v).map nI := by unfold enc; rw [nI_clamp h]
theorem encN_len (v : Nat) : (encN v).length ≤ 4 := by
  unfold encN
  split
  · simp only [List.length_cons, List.length_nil]; omega
  split
  · simp only [List.length_cons, List.length_nil]; omega
  split
  · simp only [List.length_cons, List.length_nil]; omega
  · simp only [List.length_cons, List.length_nil]; omega
theorem enc_len (c : Int32) : (enc c).length ≤ 4 := by unfold enc; rw [List.length_map]; exact encN_len _
theorem tx_len : (tx 18).length = 2 ∧ (tx 19).length = 2 ∧ (tx 20).length = 5 ∧ (tx 21).length = 4 ∧ (tx 22).length = 4 ∧ (tx 23).length = 6 ∧ (tx 24).length = 2 ∧ (tx 25).length = 1 := by decide +kernel
theorem esc_len (c : Int32) : (esc c).length ≤ 6 := by
  obtain ⟨_, _, h20, h21, h22, h23, _⟩ := tx_len
  have := enc_len c
  unfold esc
  split
  · omega
  split
  · omega
  split
  · omega
  split
  · omega
  · omega
theorem encL_cons (c : Int32) (L : List Int32) : encL (c :: L) = enc c ++ encL L := by unfold encL; rw [List.flatMap_cons]
theorem escL_cons (c : Int32) (L : List Int32) : escL (c :: L) = esc c ++ escL L := by unfold escL; rw [List.flatMap_cons]
theorem encL_len : ∀ L : List Int32, (encL L).length ≤ 4 * L.length
  | [] => Nat.le_refl _
  | c :: L => by
    rw [encL_cons, List.length_append]
    have := encL_len L
    have := enc_len c
    simp only [List.length_cons]; omega
theorem escL_len : ∀ L : List Int32, (escL L).length ≤ 6 * L.length
  | [] => Nat.le_refl _
  | c :: L => by
    rw [escL_cons, List.length_append]
    have := escL_len L
    have := esc_len c
    simp only [List.length_cons]; omega
theorem or_192 : ∀ y, y < 32 → ((65280 >>> ((2 : Int32) &&& 31)) &&& 255) ||| nI y = nI (192 + y) := by decide +kernel
theorem or_224 : ∀ y, y < 16 → ((65280 >>> ((3 : Int32) &&& 31)) &&& 255) ||| nI y = nI (224 + y) := by decide +kernel
theorem or_240 : ∀ y, y < 8 → ((65280 >>> ((4 : Int32) &&& 31)) &&& 255) ||| nI y = nI (240 + y) := by decide +kernel
theorem or_128 : ∀ y, y < 64 → (128 : Int32) ||| nI y = nI (128 + y) := by decide +kernel
theorem sh_6 {v : Nat} (hv : v < 2 ^ 31) (k : Nat) (hk : k < 5) : nI v >>> ((6 * nI k) &&& 31) = nI (v / 2 ^ (6 * k)) :=
  pk_shrN hv _ (6 * k) ((by decide +kernel : ∀ k, k < 5 → (((6 * nI k) &&& 31).toBitVec.smod 32).toNat = 6 * k) k hk)
theorem an_63 {v : Nat} (hv : v < 2 ^ 31) : nI v &&& 63 = nI (v % 64) := pk_andN (n := v) (by omega) 6 (by decide)
theorem cnt_k {v : Nat} (hv : v < 2 ^ 31) (k : Nat) (hk : k < 5) : (128 : Int32) ||| ((nI v >>> ((6 * nI k) &&& 31)) &&& 63) = nI (128 + v / 2 ^ (6 * k) % 64) := by
  rw [sh_6 hv k hk, an_63 (Nat.lt_of_le_of_lt (Nat.div_le_self _ _) hv), or_128 _ (Nat.mod_lt _ (by decide))]
section SH
variable {t : Nat → Int32} {n : Nat} {σ : PPS} {τ : MPS} {S : GS} {g a : Nat → Nat → Int32} {ls : List Int32} {A : Nat}
theorem sh_add {x : StS} {c : Int32} {P : PPS → Prop} (h : P (sSh σ (sAdd 24000 x c))) : ∀ σ', σ' = sSh (sSh σ x) (sAdd 24000 (pSh (sSh σ x)) c) → P σ' := fun σ' e => by rw [e]; exact h
theorem Str.ad {x : StS} {O : List Int32} (h : Str x O) (hl : O.length < 24000) (c : Int32) : Str (sAdd 24000 x c) (O ++ [c]) := h.add (by decide) hl c
theorem k_addN {x : StS} {O : List Int32} {v : Nat} (hv : v ≤ 1114111) (hx : Str x O) (hO : O.length + (encN v).length ≤ 24000) {post : PPS → Prop} (hq : ∀ x', Str x' (O ++ (encN v).map nI) → post (sSh σ x')) : w_Signs_addCharacter (sSh σ x) (nI v) post := by
  have hv31 : v < 2 ^ 31 := by omega
  have eb : cBy (nI v) = nI (if v < 128 then 1 else if v < 2048 then 2 else if v < 65536 then 3 else 4) := by rw [cBy_N, cByN_nI hv31]
  have L4 : ∀ (x : StS) (O : List Int32) (k : Nat), Str x O → O.length < 24000 → k < 5 → Str (sAdd 24000 x ((128 : Int32) ||| ((nI v >>> ((6 * nI k) &&& 31)) &&& 63))) (O ++ [nI (128 + v / 2 ^ (6 * k) % 64)]) := fun x O k h hl hk => by
    rw [cnt_k hv31 k hk]; exact h.ad hl _
  have last : ∀ (x' : StS) (m : Nat), post (sSh σ x') → w_Signs_addCharacter_L41 (nI v) post (m + 1) (nI 0 + (-1)) (sSh σ x') := fun x' m h => by
    unfold w_Signs_addCharacter_L41
    exact br_t (by decide) h
  unfold w_Signs_addCharacter
  rw [eb]
  unfold encN at hO hq
  by_cases h1 : v < 128
  · rw [if_pos h1] at hO hq ⊢
    exact br_t rfl (sh_add (hq _ (hx.ad (by simp only [List.length_cons, List.length_nil] at hO; omega) _)))
  rw [if_neg h1] at hO hq ⊢
  by_cases h2 : v < 2048
  · rw [if_pos h2] at hO hq ⊢
    simp only [List.length_cons, List.length_nil] at hO
    refine br_f (by decide) (sh_add ⟨2, ?_⟩)
    rw [show (6 : Int32) * (nI 2 - 1) = 6 * nI 1 from by decide, sh_6 hv31 1 (by decide), show nI 2 = (2 : Int32) from rfl, or_192 _ (by omega)]
    have s1 := hx.ad (by omega) (nI (192 + v / 2 ^ (6 * 1)))
    show w_Signs_addCharacter_L41 (nI v) post 2 (nI 0) _
    unfold w_Signs_addCharacter_L41
    refine br_f (by decide) (sh_add (last _ 0 (hq _ ?_)))
    have s2 := L4 _ _ 0 s1 (by rw [List.length_append]; simp only [List.length_cons, List.length_nil]; omega) (by decide)
    rw [List.append_assoc] at s2
    rw [show v / 2 ^ (6 * 0) = v from Nat.div_one v] at s2
    exact s2
  rw [if_neg h2] at hO hq ⊢
  by_cases h3 : v < 65536
  · rw [if_pos h3] at hO hq ⊢
    simp only [List.length_cons, List.length_nil] at hO
    refine br_f (by decide) (sh_add ⟨3, ?_⟩)
    rw [show (6 : Int32) * (nI 3 - 1) = 6 * nI 2 from by decide, sh_6 hv31 2 (by decide), show nI 3 = (3 : Int32) from rfl, or_224 _ (by omega)]
    have s1 := hx.ad (by omega) (nI (224 + v / 2 ^ (6 * 2)))
    show w_Signs_addCharacter_L41 (nI v) post 3 (nI 1) _
    unfold w_Signs_addCharacter_L41
    refine br_f (by decide) (sh_add ?_)
    have s2 := L4 _ _ 1 s1 (by rw [List.length_append]; simp only [List.length_cons, List.length_nil]; omega) (by decide)
    show w_Signs_addCharacter_L41 (nI v) post 2 (nI 0) _
    unfold w_Signs_addCharacter_L41
    refine br_f (by decide) (sh_add (last _ 0 (hq _ ?_)))
    have s3 := L4 _ _ 0 s2 (by rw [List.length_append, List.length_append]; simp only [List.length_cons, List.length_nil]; omega) (by decide)
    rw [List.append_assoc, List.append_assoc] at s3
    rw [show v / 2 ^ (6 * 0) = v from Nat.div_one v] at s3
    exact s3
  · rw [if_neg h3] at hO hq ⊢
    simp only [List.length_cons, List.length_nil] at hO
    refine br_f (by decide) (sh_add ⟨4, ?_⟩)
    rw [show (6 : Int32) * (nI 4 - 1) = 6 * nI 3 from by decide, sh_6 hv31 3 (by decide), show nI 4 = (4 : Int32) from rfl, or_240 _ (by omega)]
    have s1 := hx.ad (by omega) (nI (240 + v / 2 ^ (6 * 3)))
    show w_Signs_addCharacter_L41 (nI v) post 4 (nI 2) _
    unfold w_Signs_addCharacter_L41
    refine br_f (by decide) (sh_add ?_)
    have s2 := L4 _ _ 2 s1 (by rw [List.length_append]; simp only [List.length_cons, List.length_nil]; omega) (by decide)
    show w_Signs_addCharacter_L41 (nI v) post 3 (nI 1) _
    unfold w_Signs_addCharacter_L41
    refine br_f (by decide) (sh_add ?_)
    have s3 := L4 _ _ 1 s2 (by rw [List.length_append, List.length_append]; simp only [List.length_cons, List.length_nil]; omega) (by decide)
    show w_Signs_addCharacter_L41 (nI v) post 2 (nI 0) _
    unfold w_Signs_addCharacter_L41
    refine br_f (by decide) (sh_add (last _ 0 (hq _ ?_)))
    have s4 := L4 _ _ 0 s3 (by rw [List.length_append, List.length_append, List.length_append]; simp only [List.length_cons, List.length_nil]; omega) (by decide)
    rw [List.append_assoc, List.append_assoc, List.append_assoc] at s4
    rw [show v / 2 ^ (6 * 0) = v from Nat.div_one v] at s4
    exact s4
theorem k_addCharacter {x : StS} {O : List Int32} {c : Int32} (hc : Cp c) (hx : Str x O) (hO : O.length + (enc c).length ≤ 24000) {post : PPS → Prop} (hq : ∀ x', Str x' (O ++ enc c) → post (sSh σ x')) : w_Signs_addCharacter (sSh σ x) c post := by
  obtain ⟨v, hv, e⟩ := hc
  subst e
  rw [enc_nI (by omega)] at hO hq
  rw [List.length_map] at hO
  exact k_addN hv hx hO hq
theorem k_putText {x0 : Nat} (h49 : x0 < 49) {x : StS} {O : List Int32} (hx : Str x O) (hO : O.length + (tx x0).length ≤ 24000) {post : PPS → Prop} (hq : ∀ x', Str x' (O ++ tx x0) → post (sSh σ x')) : w_Scribe_putText (sSh σ x) x0 post := by
  obtain ⟨t1, t2, t3⟩ := tx_ok x0 h49
  have key : ∀ m i x, i + m = (tx x0).length → Str x (O ++ (tx x0).take i) → w_Scribe_putText_L2 x0 post (m + 1) (nI i) (sSh σ x) := by
    intro m
    induction m with
    | zero =>
      intro i x hi hs
      unfold w_Scribe_putText_L2
      rw [List.take_of_length_le (by omega)] at hs
      exact ⟨h49, br_t (by rw [← t1]; exact nI_le (by omega) (by omega)) (hq x hs)⟩
    | succ m ih =>
      intro i x hi hs
      unfold w_Scribe_putText_L2
      refine ⟨h49, br_f (by rw [← t1]; exact nI_ge (by omega) (by omega)) ⟨h49, by rw [← t1]; exact vp_in_nI (by omega) (by omega), sh_add ?_⟩⟩
      rw [nI_1, t3 i (by omega)]
      refine ih (i + 1) _ (by omega) ?_
      have := hs.ad (by rw [List.length_append, List.length_take]; omega) ((tx x0).getD i 0)
      rw [List.append_assoc] at this
      rw [List.take_add_one, List.getElem?_eq_getElem (by omega)]
      rw [List.getD_eq_getElem?_getD, List.getElem?_eq_getElem (by omega)] at this ⊢
      exact this
  exact ⟨_, key (tx x0).length 0 x (Nat.zero_add _) (by rw [List.take_zero, List.append_nil]; exact hx)⟩
theorem k_putLetters (hs : Str (pLe σ) ls) (hl : ls.length ≤ 4000) {f : Nat} {L : List Int32} (hS : Seg ls f L) (hc : ∀ c ∈ L, Cp c) {x : StS} {O : List Int32} (hx : Str x O) (hO : O.length + (encL L).length ≤ 24000) {post : PPS → Prop} (hq : ∀ x', Str x' (O ++ encL L) → post (sSh σ x')) : w_Scribe_putLetters (sSh σ x) (nI f) (nI L.length) post := by
  have hSl := hS.1
  have key : ∀ (R M : List Int32) x O, L = M ++ R → Str x O → O.length + (encL R).length ≤ 24000 → (∀ x', Str x' (O ++ encL R) → post (sSh σ x')) → w_Scribe_putLetters_L2 (nI f) (nI L.length) post (R.length + 1) (nI M.length) (sSh σ x) := by
    intro R
    induction R with
    | nil =>
      intro M x O hM hx hO hq
      show w_Scribe_putLetters_L2 (nI f) (nI L.length) post (0 + 1) (nI M.length) (sSh σ x)
      unfold w_Scribe_putLetters_L2
      have eM : M = L := by rw [hM, List.append_nil]
      rw [eM]
      refine br_t (nI_le (Nat.le_refl _) (by omega)) (hq x ?_)
      show Str x (O ++ [])
      rw [List.append_nil]; exact hx
    | cons c R ih =>
      intro M x O hM hx hO hq
      have hML : M.length < L.length := by rw [hM, List.length_append]; simp only [List.length_cons]; omega
      have ec : bLet (sSh σ x) (nI f) (nI L.length) (nI M.length) = c := by
        have : L[M.length]? = some c := by rw [hM, List.getElem?_append_right (Nat.le_refl _), Nat.sub_self]; rfl
        show bLet σ _ _ _ = c
        rw [bLet_seg hs hl hS (by omega), this]; rfl
      rw [encL_cons, List.length_append] at hO
      show w_Scribe_putLetters_L2 (nI f) (nI L.length) post ((R.length + 1) + 1) (nI M.length) (sSh σ x)
      unfold w_Scribe_putLetters_L2
      rw [ec, nI_1]
      refine br_f (nI_ge hML (by omega)) (k_addCharacter (hc c (by rw [hM]; simp)) hx (by omega) (fun x' hx' => ?_))
      have := ih (M ++ [c]) x' (O ++ enc c) (by rw [hM, List.append_assoc]; rfl) hx' (by rw [List.length_append]; omega) (fun x'' hx'' => hq x'' (by rw [encL_cons, ← List.append_assoc]; exact hx''))
      rw [List.length_append] at this
      exact this
  exact ⟨_, key L [] x O rfl hx hO hq⟩
theorem k_putTold (hs : Str (pLe σ) ls) (hl : ls.length ≤ 4000) {f : Nat} {L : List Int32} (hS : Seg ls f L) (hc : ∀ c ∈ L, Cp c) {x : StS} {O : List Int32} (hx : Str x O) (hO : O.length + (escL L).length ≤ 24000) {post : PPS → Prop} (hq : ∀ x', Str x' (O ++ escL L) → post (sSh σ x')) : w_Scribe_putTold (sSh σ x) (nI f) (nI L.length) post := by
  have hSl := hS.1
  have key : ∀ (R M : List Int32) x O, L = M ++ R → Str x O → O.length + (escL R).length ≤ 24000 → (∀ x', Str x' (O ++ escL R) → post (sSh σ x')) → w_Scribe_putTold_L2 (nI f) (nI L.length) post (R.length + 1) (nI M.length) (sSh σ x) := by
    intro R
    induction R with
    | nil =>
      intro M x O hM hx hO hq
      show w_Scribe_putTold_L2 (nI f) (nI L.length) post (0 + 1) (nI M.length) (sSh σ x)
      unfold w_Scribe_putTold_L2
      have eM : M = L := by rw [hM, List.append_nil]
      rw [eM]
      refine br_t (nI_le (Nat.le_refl _) (by omega)) (hq x ?_)
      show Str x (O ++ [])
      rw [List.append_nil]; exact hx
    | cons c R ih =>
      intro M x O hM hx hO hq
      have hML : M.length < L.length := by rw [hM, List.length_append]; simp only [List.length_cons]; omega
      have ec : bLet (sSh σ x) (nI f) (nI L.length) (nI M.length) = c := by
        have : L[M.length]? = some c := by rw [hM, List.getElem?_append_right (Nat.le_refl _), Nat.sub_self]; rfl
        show bLet σ _ _ _ = c
        rw [bLet_seg hs hl hS (by omega), this]; rfl
      rw [escL_cons, List.length_append] at hO
      have cont : ∀ x', Str x' (O ++ esc c) → w_Scribe_putTold_J92 (nI f) (nI L.length) (w_Scribe_putTold_L2 (nI f) (nI L.length) post (R.length + 1)) post (nI M.length) (sSh σ x') := fun x' hx' => by
        unfold w_Scribe_putTold_J92
        rw [nI_1]
        have := ih (M ++ [c]) x' (O ++ esc c) (by rw [hM, List.append_assoc]; rfl) hx' (by rw [List.length_append]; omega) (fun x'' hx'' => hq x'' (by rw [escL_cons, ← List.append_assoc]; exact hx''))
        rw [List.length_append] at this
        exact this
      show w_Scribe_putTold_L2 (nI f) (nI L.length) post ((R.length + 1) + 1) (nI M.length) (sSh σ x)
      unfold w_Scribe_putTold_L2
      rw [ec]
      refine br_f (nI_ge hML (by omega)) ?_
      unfold esc at cont hO
      by_cases h1 : c = 38
      · rw [if_pos h1] at cont hO
        exact br_t h1 (k_putText (by decide) hx (by omega) cont)
      rw [if_neg h1] at cont hO
      by_cases h2 : c = 60
      · rw [if_pos h2] at cont hO
        exact br_f h1 (br_t h2 (k_putText (by decide) hx (by omega) cont))
      rw [if_neg h2] at cont hO
      by_cases h3 : c = 62
      · rw [if_pos h3] at cont hO
        exact br_f h1 (br_f h2 (br_t h3 (k_putText (by decide) hx (by omega) cont)))
      rw [if_neg h3] at cont hO
      by_cases h4 : c = 34
      · rw [if_pos h4] at cont hO
        exact br_f h1 (br_f h2 (br_f h3 (br_t h4 (k_putText (by decide) hx (by omega) cont))))
      rw [if_neg h4] at cont hO
      exact br_f h1 (br_f h2 (br_f h3 (br_f h4 (k_addCharacter (hc c (by rw [hM]; simp)) hx (by omega) cont))))
  exact ⟨_, key L [] x O rfl hx hO hq⟩
end SH
