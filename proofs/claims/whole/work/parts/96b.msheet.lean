/-! PURE: how the reference puts on its sheet. -/
def escB (b : Bool) (c : Int32) : List Int32 := if b = true then esc c else enc c
def escBL (b : Bool) (L : List Int32) : List Int32 := L.flatMap (escB b)
theorem escBL_cons (b : Bool) (c : Int32) (L : List Int32) : escBL b (c :: L) = escB b c ++ escBL b L := by unfold escBL; rw [List.flatMap_cons]
theorem escBL_t (L : List Int32) : escBL true L = escL L := rfl
theorem escBL_f (L : List Int32) : escBL false L = encL L := rfl
/-- what putting may change, beside the fields of L -/
def Jz (L : List Nat) (τ τ' : MPS) : Prop := (∀ j, ¬ j ∈ L → τ'.1 j = τ.1 j) ∧ ∀ j, ¬ j = 4 → τ'.2 j = τ.2 j
theorem Jz.refl (L : List Nat) (τ : MPS) : Jz L τ τ := ⟨fun _ _ => rfl, fun _ _ => rfl⟩
theorem Jz.trans {L : List Nat} {a b c : MPS} (h : Jz L a b) (h2 : Jz L b c) : Jz L a c := ⟨fun j hj => (h2.1 j hj).trans (h.1 j hj), fun j hj => (h2.2 j hj).trans (h.2 j hj)⟩
theorem Jz.mono {L M : List Nat} {a b : MPS} (h : Jz L a b) (hL : ∀ j, j ∈ L → j ∈ M) : Jz M a b := ⟨fun j hj => h.1 j (fun z => hj (hL j z)), h.2⟩
theorem Df.jz {L : List Nat} {τ τ' : MPS} (h : Df L τ τ') : Jz L τ τ' := ⟨h.2, fun j _ => congrFun h.1 j⟩
/-- the reference's sheet holds O -/
def Ot (τ : MPS) (O : List Int32) : Prop := mp_outs τ = nI O.length ∧ ∀ i, i < O.length → O[i]? = some (mp_output τ i &&& 255)
theorem Ot.df {L : List Nat} {τ τ' : MPS} {O : List Int32} (h : Ot τ O) (d : Df L τ τ') (h8 : ¬ 8 ∈ L) : Ot τ' O := by
  refine ⟨(d.2 8 h8).trans h.1, fun i hi => ?_⟩
  rw [show mp_output τ' = mp_output τ from congrFun d.1 4]; exact h.2 i hi
theorem MT.jz {L : List Nat} {τ τ' : MPS} {t : Nat → Int32} {n : Nat} (h : MT τ t n) (d : Jz L τ τ') (h7 : ¬ 7 ∈ L) : MT τ' t n := by
  refine ⟨(d.1 7 h7).trans h.1, h.2.1, fun k hk => ?_⟩
  obtain ⟨b, h1, h2, h3⟩ := h.2.2 k hk
  refine ⟨b, h1, h2, ?_⟩
  rw [show mp_text τ' = mp_text τ from d.2 2 (by decide)]; exact h3
theorem MB.jz {L : List Nat} {S : GS} {τ τ' : MPS} (h : MB S τ) (d : Jz L τ τ') (h1 : ¬ 32 ∈ L) (h2 : ¬ 14 ∈ L) : MB S τ' :=
  ⟨(d.1 32 h1).trans h.1, (d.1 14 h2).trans h.2.1, fun k hk => (h.2.2 k hk).mv (fun j a b => d.2 j (by omega)) rfl rfl rfl rfl rfl rfl rfl rfl⟩
def Lz : List Nat := [8, 12, 19, 20, 21, 22]
section MS
variable {t : Nat → Int32} {n : Nat} {σ : PPS} {τ : MPS} {S : GS} {g a : Nat → Nat → Int32} {ls : List Int32} {A : Nat} {O : List Int32}
theorem KN.jz {τ' : MPS} (h : KN σ τ t n S g a ls A) (d : Jz Lz τ τ') : KN σ τ' t n S g a ls A := ⟨h.rd, h.inv, h.gd, h.pos, h.bk, h.mb.jz d (by decide) (by decide), h.mt.jz d (by decide), (d.1 11 (by decide)).trans h.kn⟩
theorem r_put {x : Int32} (hx : Ot τ O) (hO : O.length < 24000) {post : MPS → Prop} (hq : ∀ τ', Jz [8] τ τ' → Ot τ' (O ++ [x &&& 255]) → post τ') : w_M_put τ x post := by
  unfold w_M_put
  refine ⟨by rw [hx.1]; exact vp_in_nI hO (by decide), fa_eq (fa_eq ?_)⟩
  refine hq _ ⟨fun j hj => ?_, fun j hj => ?_⟩ ⟨?_, fun i hi => ?_⟩
  · show va_up τ.1 8 _ j = _
    exact va_n (fun z => hj (by rw [z]; decide))
  · show va_up τ.2 4 _ j = _
    exact va_n hj
  · show mp_outs τ + 1 = _
    rw [hx.1, nI_1, List.length_append]; rfl
  · show _ = some ((upd (mp_output τ) (mp_outs τ).toNatClampNeg (vp_nar .byte x.toInt8.toInt32)) i &&& 255)
    rw [hx.1, nI_clamp (by omega), vp_nar_byte]
    simp only [List.length_append, List.length_cons, List.length_nil] at hi
    by_cases e : i = O.length
    · subst e
      rw [upd_s, List.getElem?_append_right (Nat.le_refl _), Nat.sub_self]
      exact congrArg some ((bp_b x).symm.trans (bp_b x.toInt8.toInt32).symm)
    · rw [List.getElem?_append_left (by omega), upd_n e]; exact hx.2 i (by omega)
theorem a255 {b : Nat} (hb : b < 256) : nI b &&& 255 = nI b := by
  rw [pk_andN (n := b) (by omega) 8 (m := 255) (by decide), Nat.mod_eq_of_lt hb]
theorem r_putN {b : Nat} {x : Int32} (ex : x = nI b) (hb : b < 256) (hx : Ot τ O) (hO : O.length < 24000) {post : MPS → Prop} (hq : ∀ τ', Jz [8] τ τ' → Ot τ' (O ++ [nI b]) → post τ') : w_M_put τ x post := by
  subst ex
  refine r_put hx hO ?_
  rw [a255 hb]; exact hq
theorem r_putWord {word : Int64} {m x : Nat} (h49 : x < 49) (hw : wEq word m x) (hm : m ≤ 8) (hx : Ot τ O) (hO : O.length + (tx x).length ≤ 24000) {post : MPS → Prop} (hq : ∀ τ', Jz [8] τ τ' → Ot τ' (O ++ tx x) → post τ') : w_M_putWord τ word (nI m) post := by
  obtain ⟨t1, t2, t3⟩ := tx_ok x h49
  have hlen : (tx x).length = m := t1.trans hw.1
  have key : ∀ r i τ1, i + r = m → Jz [8] τ τ1 → Ot τ1 (O ++ (tx x).take i) → w_M_putWord_L5 word post (r + 1) (nI r + (-1)) τ1 := by
    intro r
    induction r with
    | zero =>
      intro i τ1 hi j1 ho
      unfold w_M_putWord_L5
      rw [List.take_of_length_le (by omega)] at ho
      exact br_t (by decide) (hq τ1 j1 ho)
    | succ r ih =>
      intro i τ1 hi j1 ho
      unfold w_M_putWord_L5
      rw [pk_m1]
      have eb : ((word >>> ((8 * nI r).toInt64 &&& 63)) &&& 255).toInt32 = (tx x).getD i 0 := by
        have h1 := hw.2 i (by omega)
        rw [t3 i (by omega)] at h1
        rw [h1]
        unfold wb
        have : (nI m - 1) - nI i = nI r := by
          rw [show m = (m - 1) + 1 from by omega, nI_pred, pk_sub (by omega)]
          congr 1; omega
        rw [this]
      have e255 : (tx x).getD i 0 &&& 255 = (tx x).getD i 0 := by
        have h3 := t3 i (by omega)
        unfold tCh at h3
        rw [nI_clamp (by omega)] at h3
        exact h3
      refine br_f (nI_pos (by omega)) (r_put ho (by rw [List.length_append, List.length_take]; omega) (fun τ2 j2 ho2 => ih (i + 1) τ2 (by omega) (j1.trans j2) ?_))
      rw [eb, e255, List.append_assoc, List.getD_eq_getElem?_getD, List.getElem?_eq_getElem (by omega)] at ho2
      rw [List.take_add_one, List.getElem?_eq_getElem (by omega)]
      exact ho2
  unfold w_M_putWord
  rw [show nI m - 1 = nI m + (-1) from Int32.sub_eq_add_neg _ _]
  exact ⟨_, key m 0 τ (Nat.zero_add _) (Jz.refl _ τ) (by rw [List.take_zero, List.append_nil]; exact hx)⟩
theorem we20 : wEq 164843319355 5 20 := by unfold wEq; decide +kernel
theorem we21 : wEq 644641851 4 21 := by unfold wEq; decide +kernel
theorem we22 : wEq 644314171 4 22 := by unfold wEq; decide +kernel
theorem we23 : wEq 42268743398459 6 23 := by unfold wEq; decide +kernel
theorem shN {v : Nat} (hv : v < 2 ^ 31) {s : Int32} (k : Nat) (hs : (s.toBitVec.smod 32).toNat = k) : nI v >>> s = nI (v / 2 ^ k) := pk_shrN hv s k hs
theorem r_J85 {v : Nat} (hv : v ≤ 1114111) (hx : Ot τ O) (hO : O.length + (encN v).length ≤ 24000) {post : MPS → Prop} (hq : ∀ τ', Jz [8] τ τ' → Ot τ' (O ++ (encN v).map nI) → post τ') : w_M_putCharacter_J85 post (nI v) τ := by
  have hv31 : v < 2 ^ 31 := by omega
  have e6 : nI v >>> ((6 : Int32) &&& 31) = nI (v / 64) := shN hv31 6 (by decide)
  have e12 : nI v >>> ((12 : Int32) &&& 31) = nI (v / 4096) := shN hv31 12 (by decide)
  have e18 : nI v >>> ((18 : Int32) &&& 31) = nI (v / 262144) := shN hv31 18 (by decide)
  have m0 : (128 : Int32) + (nI v &&& 63) = nI (128 + v % 64) := by rw [an_63 hv31]; exact nI_add 128 _
  have m1 : (128 : Int32) + (nI (v / 64) &&& 63) = nI (128 + v / 64 % 64) := by rw [an_63 (by omega)]; exact nI_add 128 _
  have m2 : (128 : Int32) + (nI (v / 4096) &&& 63) = nI (128 + v / 4096 % 64) := by rw [an_63 (by omega)]; exact nI_add 128 _
  unfold encN at hO hq
  unfold w_M_putCharacter_J85
  rw [e6, e12, e18, m0, m1, m2]
  refine pk_le 128 v (fun h1 => ?_) (fun h1 => ?_) rfl rfl (by decide) hv31
  · rw [if_neg (by omega : ¬ v < 128)] at hO hq
    refine pk_le 2048 v (fun h2 => ?_) (fun h2 => ?_) rfl rfl (by decide) hv31
    · rw [if_neg (by omega : ¬ v < 2048)] at hO hq
      refine pk_le 65536 v (fun h3 => ?_) (fun h3 => ?_) rfl rfl (by decide) hv31
      · rw [if_neg (by omega : ¬ v < 65536)] at hO hq
        simp only [List.length_cons, List.length_nil] at hO
        refine r_putN (nI_add 240 _) (by omega) hx (by omega) (fun τ1 j1 o1 => ?_)
        refine r_putN rfl (by omega) o1 (by rw [List.length_append]; simp only [List.length_cons, List.length_nil]; omega) (fun τ2 j2 o2 => ?_)
        refine r_putN rfl (by omega) o2 (by rw [List.length_append, List.length_append]; simp only [List.length_cons, List.length_nil]; omega) (fun τ3 j3 o3 => ?_)
        refine r_putN rfl (by omega) o3 (by rw [List.length_append, List.length_append, List.length_append]; simp only [List.length_cons, List.length_nil]; omega) (fun τ4 j4 o4 => ?_)
        rw [List.append_assoc, List.append_assoc, List.append_assoc] at o4
        exact hq τ4 (((j1.trans j2).trans j3).trans j4) o4
      · rw [if_pos h3] at hO hq
        simp only [List.length_cons, List.length_nil] at hO
        refine r_putN (nI_add 224 _) (by omega) hx (by omega) (fun τ1 j1 o1 => ?_)
        refine r_putN rfl (by omega) o1 (by rw [List.length_append]; simp only [List.length_cons, List.length_nil]; omega) (fun τ2 j2 o2 => ?_)
        refine r_putN rfl (by omega) o2 (by rw [List.length_append, List.length_append]; simp only [List.length_cons, List.length_nil]; omega) (fun τ3 j3 o3 => ?_)
        rw [List.append_assoc, List.append_assoc] at o3
        exact hq τ3 ((j1.trans j2).trans j3) o3
    · rw [if_pos h2] at hO hq
      simp only [List.length_cons, List.length_nil] at hO
      refine r_putN (nI_add 192 _) (by omega) hx (by omega) (fun τ1 j1 o1 => ?_)
      refine r_putN rfl (by omega) o1 (by rw [List.length_append]; simp only [List.length_cons, List.length_nil]; omega) (fun τ2 j2 o2 => ?_)
      rw [List.append_assoc] at o2
      exact hq τ2 (j1.trans j2) o2
  · rw [if_pos h1] at hO hq
    simp only [List.length_cons, List.length_nil] at hO
    exact r_putN rfl (by omega) hx (by omega) hq
theorem r_putCharacter {b : Bool} {c : Int32} (hc : Cp c) (hx : Ot τ O) (hO : O.length + (escB b c).length ≤ 24000) {post : MPS → Prop} (hq : ∀ τ', Jz [8] τ τ' → Ot τ' (O ++ escB b c) → post τ') : w_M_putCharacter τ c (b2i b) post := by
  have plain : O.length + (enc c).length ≤ 24000 → (∀ τ', Jz [8] τ τ' → Ot τ' (O ++ enc c) → post τ') → w_M_putCharacter_J85 post c τ := fun hO hq => by
    obtain ⟨v, hv, e⟩ := hc
    subst e
    rw [enc_nI (by omega)] at hO hq
    rw [List.length_map] at hO
    exact r_J85 hv hx hO hq
  unfold escB at hO hq
  unfold w_M_putCharacter w_M_putCharacter_J21 w_M_putCharacter_J42 w_M_putCharacter_J63
  cases b with
  | false =>
    rw [if_neg (by decide)] at hO hq
    exact br_t rfl (br_t rfl (br_t rfl (br_t rfl (plain hO hq))))
  | true =>
    rw [if_pos rfl] at hO hq
    unfold esc at hO hq
    refine br_f (by decide) ?_
    by_cases h1 : c = 38
    · rw [if_pos h1] at hO hq
      exact br_t h1 (r_putWord (m := 5) (by decide) we20 (by decide) hx hO hq)
    rw [if_neg h1] at hO hq
    refine br_f h1 (br_f (by decide) ?_)
    by_cases h2 : c = 60
    · rw [if_pos h2] at hO hq
      exact br_t h2 (r_putWord (m := 4) (by decide) we21 (by decide) hx hO hq)
    rw [if_neg h2] at hO hq
    refine br_f h2 (br_f (by decide) ?_)
    by_cases h3 : c = 62
    · rw [if_pos h3] at hO hq
      exact br_t h3 (r_putWord (m := 4) (by decide) we22 (by decide) hx hO hq)
    rw [if_neg h3] at hO hq
    refine br_f h3 (br_f (by decide) ?_)
    by_cases h4 : c = 34
    · rw [if_pos h4] at hO hq
      exact br_t h4 (r_putWord (m := 6) (by decide) we23 (by decide) hx hO hq)
    rw [if_neg h4] at hO hq
    exact br_f h4 (plain hO hq)
theorem r_putRow_L {s : Int32} {e : Nat} {b : Bool} : ∀ {L : List Int32} {k : Nat} {τ1 : MPS} {O : List Int32}, MT τ1 t n → e ≤ n → Chars t n s k e L → Ot τ1 O → O.length + (escBL b L).length ≤ 24000 → ∀ {post : MPS → Prop}, (∀ τ', Jz [8, 12] τ1 τ' → Ot τ' (O ++ escBL b L) → post τ') → w_M_putRow_L3 (nI e) (b2i b) post (L.length + 1) (nI k) τ1
  | [], k, τ1, O, hT, he, h, hx, hO, post, hq => by
    have h : k = e := h
    have hn := hT.2.1
    subst h
    unfold w_M_putRow_L3
    refine br_t (nI_le (Nat.le_refl _) (by omega)) (hq τ1 (Jz.refl _ τ1) ?_)
    show Ot τ1 (O ++ [])
    rw [List.append_nil]; exact hx
  | c :: L, k, τ1, O, hT, he, h, hx, hO, post, hq => by
    have hn := hT.2.1
    have hcp : Cp c := Cp.ok (Chars.ok h c List.mem_cons_self)
    obtain ⟨_, _, _, k', f, hr⟩ := h
    have hf := chf_some f
    have hle := Chars.le hr
    rw [escBL_cons, List.length_append] at hO
    show w_M_putRow_L3 (nI e) (b2i b) post ((L.length + 1) + 1) (nI k) τ1
    unfold w_M_putRow_L3
    refine br_f (nI_ge (by omega) (by omega)) (r_characterOf hT (by omega) (fun c' e' τ2 hc d w => ?_) (fun hc => by rw [f] at hc; cases hc))
    rw [f] at hc
    cases hc
    refine r_putCharacter hcp (hx.df d (by decide)) (by omega) (fun τ3 j3 o3 => ?_)
    rw [show mp_width τ3 = nI (k' - k) from (j3.1 12 (by decide)).trans w, nI_add, show k + (k' - k) = k' from by omega]
    have j13 : Jz [8, 12] τ1 τ3 := (d.jz.mono (by decide)).trans (j3.mono (by decide))
    exact r_putRow_L (hT.jz j13 (by decide)) he hr o3 (by rw [List.length_append]; omega) (fun τ' j' o' => hq τ' (j13.trans j') (by rw [escBL_cons, ← List.append_assoc]; exact o'))
theorem r_putRow {s : Int32} {k e : Nat} {b : Bool} {L : List Int32} (hT : MT τ t n) (he : e ≤ n) (hC : Chars t n s k e L) (hx : Ot τ O) (hO : O.length + (escBL b L).length ≤ 24000) {post : MPS → Prop} (hq : ∀ τ', Jz [8, 12] τ τ' → Ot τ' (O ++ escBL b L) → post τ') : w_M_putRow τ (nI k) (nI e) (b2i b) post := ⟨_, r_putRow_L hT he hC hx hO hq⟩
theorem seg_take {k l i : Nat} (hi : i < l) : (seg t n k l).take (i + 1) = (seg t n k l).take i ++ [xx t n (k + i)] := by
  rw [List.take_add_one, seg_get t n l k i hi]; rfl
/-- a name, as the element has it -/
def nam (t : Nat → Int32) (n : Nat) (S : GS) (k : Nat) : List Int32 := seg t n (S.bg k + 1) (S.nl k)
theorem nam_len {k : Nat} : (nam t n S k).length = S.nl k := seg_len _ _ _ _
theorem r_putName (h : KN σ τ t n S g a ls A) {k : Nat} (hk : k < S.K) (he : S.el k = true) (hx : Ot τ O) (hO : O.length + S.nl k ≤ 24000) {post : MPS → Prop} (hq : ∀ τ', Jz [8] τ τ' → Ot τ' (O ++ nam t n S k) → post τ') : w_M_putName τ (nI k) post := by
  have hK := h.K
  have hn := h.mt.2.1
  have hl := (h.gd.nm k hk he).len
  have key : ∀ m i τ1, i + m = S.nl k → Jz [8] τ τ1 → Ot τ1 (O ++ (nam t n S k).take i) → w_M_putName_L2 (nI k) post (m + 1) (nI i) τ1 := by
    intro m
    induction m with
    | zero =>
      intro i τ1 hi j1 ho
      have h1 := h.jz (j1.mono (by decide))
      unfold w_M_putName_L2
      rw [List.take_of_length_le (by rw [nam_len]; omega)] at ho
      exact r_nameSize h1 hk he (br_t (nI_le (by omega) (by omega)) (hq τ1 j1 ho))
    | succ m ih =>
      intro i τ1 hi j1 ho
      have h1 := h.jz (j1.mono (by decide))
      unfold w_M_putName_L2
      refine r_nameSize h1 hk he (br_f (nI_ge (by omega) (by omega)) ⟨h1.in_ hk, ?_⟩)
      rw [nI_clamp (by omega), (h1.mb.2.2 k hk).bg, nI_1, nI_1, nI_add]
      obtain ⟨b, hb, eb⟩ := h1.mt.byt.xx (k := S.bg k + 1 + i) (by omega)
      refine ⟨h1.mt.k (by omega), ?_⟩
      rw [h1.mt.x (by omega)]
      refine r_putN eb hb ho (by rw [List.length_append, List.length_take, nam_len]; omega) (fun τ2 j2 o2 => ih (i + 1) τ2 (by omega) (j1.trans j2) ?_)
      rw [← eb, List.append_assoc] at o2
      unfold nam
      rw [seg_take (by omega)]
      exact o2
  exact ⟨_, key (S.nl k) 0 τ (Nat.zero_add _) (Jz.refl _ τ) (by rw [List.take_zero, List.append_nil]; exact hx)⟩
def etag (t : Nat → Int32) (n : Nat) (S : GS) (k : Nat) : List Int32 := tx 18 ++ (nam t n S k ++ [62])
def attT (t : Nat → Int32) (n : Nat) (B : Att) : List Int32 := [32] ++ (nmB t n B ++ (tx 19 ++ (escL B.cs ++ [34])))
def btag (t : Nat → Int32) (n : Nat) (S : GS) (k : Nat) : List Int32 := [60] ++ (nam t n S k ++ ((S.as k).flatMap (attT t n) ++ (if S.fs k = -1 then tx 24 else tx 25)))
theorem tx_pieces : tx 18 = [60, 47] ∧ tx 19 = [61, 34] ∧ tx 24 = [47, 62] ∧ tx 25 = [62] := by decide +kernel
theorem etag_len {k : Nat} : (etag t n S k).length = S.nl k + 3 := by
  unfold etag
  rw [List.length_append, List.length_append, nam_len, tx_len.1]; simp only [List.length_cons, List.length_nil]; omega
theorem attT_len {B : Att} : (attT t n B).length ≤ wat B := by
  unfold attT wat nmB
  rw [List.length_append, List.length_append, List.length_append, List.length_append, tx_len.2.1, seg_len]
  have := escL_len B.cs
  simp only [List.length_cons, List.length_nil]; omega
theorem atts_len : ∀ L : List Att, (L.flatMap (attT t n)).length ≤ (L.map wat).sum
  | [] => Nat.le_refl _
  | B :: L => by
    rw [List.flatMap_cons, List.length_append, List.map_cons, List.sum_cons]
    have := atts_len L
    have := attT_len (t := t) (n := n) (B := B)
    omega
theorem btag_len {k : Nat} (he : S.el k = true) : (btag t n S k).length + (if S.fs k = -1 then 0 else S.nl k + 3) ≤ wk S k := by
  unfold btag wk
  rw [if_pos he, List.length_append, List.length_append, List.length_append, nam_len]
  have := atts_len (t := t) (n := n) (S.as k)
  obtain ⟨_, _, _, _, _, _, h24, h25⟩ := tx_len
  by_cases hf : S.fs k = -1
  · rw [if_pos hf, if_pos hf, h24]; simp only [List.length_cons, List.length_nil]; omega
  · rw [if_neg hf, if_neg hf, h25]; simp only [List.length_cons, List.length_nil]; omega
theorem r_putEnding (h : KN σ τ t n S g a ls A) {k : Nat} (hk : k < S.K) (he : S.el k = true) (hx : Ot τ O) (hO : O.length + (S.nl k + 3) ≤ 24000) {post : MPS → Prop} (hq : ∀ τ', Jz [8] τ τ' → Ot τ' (O ++ etag t n S k) → post τ') : w_M_putEnding τ (nI k) post := by
  unfold w_M_putEnding
  refine r_putN (b := 60) rfl (by decide) hx (by omega) (fun τ1 j1 o1 => ?_)
  refine r_putN (b := 47) rfl (by decide) o1 (by rw [List.length_append]; simp only [List.length_cons, List.length_nil]; omega) (fun τ2 j2 o2 => ?_)
  refine r_putName (h.jz ((j1.trans j2).mono (by decide))) hk he o2 (by rw [List.length_append, List.length_append]; simp only [List.length_cons, List.length_nil]; omega) (fun τ3 j3 o3 => ?_)
  refine r_putN (b := 62) rfl (by decide) o3 (by rw [List.length_append, List.length_append, List.length_append, nam_len]; simp only [List.length_cons, List.length_nil]; omega) (fun τ4 j4 o4 => ?_)
  refine hq τ4 (((j1.trans j2).trans j3).trans j4) ?_
  unfold etag
  rw [tx_pieces.1]
  rw [List.append_assoc, List.append_assoc, List.append_assoc] at o4
  exact o4
/-- the inner loop: an attribute's name, then its value -/
theorem r_L42 {v1 : Int32} {B : Att} {p : Nat} (hn : n ≤ 4000) (hA : AtP t n p B) {K22 : Int32 → MPS → Prop} {post : MPS → Prop} : ∀ m i τ1 O, i + m = B.nl → MT τ1 t n → Lat τ1 B → Ot τ1 O → O.length + (m + 3 + (escL B.cs).length) ≤ 24000 → (∀ τ', Jz [8, 12] τ1 τ' → Ot τ' (O ++ ((nmB t n B).drop i ++ (tx 19 ++ (escL B.cs ++ [34])))) → K22 (nI (B.ve + 1)) τ') → w_M_putBeginning_L42 v1 K22 post (m + 1) (nI i) τ1 := by
  have hle := hA.le
  intro m
  induction m with
  | zero =>
    intro i τ1 O hi hT hL hx hO hq
    unfold w_M_putBeginning_L42
    rw [hL.2.1]
    refine br_t (nI_le (by omega) (by omega)) ?_
    refine r_putN (b := 61) rfl (by decide) hx (by omega) (fun τ2 j2 o2 => ?_)
    refine r_putN (b := 34) rfl (by decide) o2 (by rw [List.length_append]; simp only [List.length_cons, List.length_nil]; omega) (fun τ3 j3 o3 => ?_)
    have j13 := j2.trans j3
    rw [show mp_valueAt τ3 = nI (B.na + B.nl + 2) from (j13.1 21 (by decide)).trans hL.2.2.1, show mp_valueEnd τ3 = nI B.ve from (j13.1 22 (by decide)).trans hL.2.2.2]
    refine r_putRow (b := true) (hT.jz j13 (by decide)) (by omega) hA.ch o3 (by rw [List.length_append, List.length_append, escBL_t]; simp only [List.length_cons, List.length_nil]; omega) (fun τ4 j4 o4 => ?_)
    refine r_putN (b := 34) rfl (by decide) o4 (by rw [List.length_append, List.length_append, List.length_append, escBL_t]; simp only [List.length_cons, List.length_nil]; omega) (fun τ5 j5 o5 => ?_)
    have j15 : Jz [8, 12] τ1 τ5 := ((j13.mono (by decide)).trans j4).trans (j5.mono (by decide))
    rw [show mp_valueEnd τ5 = nI B.ve from (j15.1 22 (by decide)).trans hL.2.2.2, nI_1]
    refine hq τ5 j15 ?_
    rw [List.drop_of_length_le (by unfold nmB; rw [seg_len]; omega), tx_pieces.2.1]
    rw [List.append_assoc, List.append_assoc, List.append_assoc, escBL_t] at o5
    exact o5
  | succ m ih =>
    intro i τ1 O hi hT hL hx hO hq
    unfold w_M_putBeginning_L42
    rw [hL.2.1, hL.1, nI_add, nI_1]
    obtain ⟨b, hb, eb⟩ := hT.byt.xx (k := B.na + i) (by omega)
    refine br_f (nI_ge (by omega) (by omega)) ⟨hT.k (by omega), ?_⟩
    rw [hT.x (by omega)]
    refine r_putN eb hb hx (by omega) (fun τ2 j2 o2 => ?_)
    refine ih (i + 1) τ2 _ (by omega) (hT.jz j2 (by decide)) ⟨(j2.1 19 (by decide)).trans hL.1, (j2.1 20 (by decide)).trans hL.2.1, (j2.1 21 (by decide)).trans hL.2.2.1, (j2.1 22 (by decide)).trans hL.2.2.2⟩ o2 (by rw [List.length_append]; simp only [List.length_cons, List.length_nil]; omega) (fun τ' j' o' => hq τ' ((j2.mono (by decide)).trans j') ?_)
    have hd : (nmB t n B).drop i = nI b :: (nmB t n B).drop (i + 1) := by
      have hlt : i < (nmB t n B).length := by unfold nmB; rw [seg_len]; omega
      rw [List.drop_eq_getElem_cons hlt]
      congr 1
      have := seg_get t n B.nl B.na i (by omega)
      have e2 : (nmB t n B)[i]? = some (xx t n (B.na + i)) := this
      rw [List.getElem?_eq_getElem hlt] at e2
      rw [Option.some.inj e2, eb]
    rw [hd]
    rw [List.append_assoc] at o'
    exact o'
theorem r_L22 {k : Nat} (h0 : KN σ τ t n S g a ls A) (hk : k < S.K) {q : Nat} {post : MPS → Prop} : ∀ {as : List Att} {p : Nat} {τ1 : MPS} {O : List Int32}, Jz Lz τ τ1 → p ≤ n → AL t n p as q → NoA t n q n → Ot τ1 O → O.length + ((as.map wat).sum + 2) ≤ 24000 → (∀ τ', Jz Lz τ τ' → Ot τ' (O ++ (as.flatMap (attT t n) ++ (if S.fs k = -1 then tx 24 else tx 25))) → post τ') → w_M_putBeginning_L22 (nI k) post (as.length + 1) (nI p) τ1
  | [], p, τ1, O, j1, hp, hl, hno, hx, hO, hq => by
    have h1 := h0.jz j1
    have hK := h1.K
    have hn := h1.mt.2.1
    have hl : p = q := hl
    subst hl
    unfold w_M_putBeginning_L22 w_M_putBeginning_J127
    rw [h1.mt.1]
    refine r_next0 h1.mt hp (by omega) hno (br_t rfl ⟨h1.in_ hk, ?_⟩)
    rw [nI_clamp (by omega), (h1.mb.2.2 k hk).fs]
    simp only [List.map_nil, List.sum_nil] at hO
    by_cases hf : S.fs k = -1
    · refine br_t hf (r_putN (b := 47) rfl (by decide) hx (by omega) (fun τ2 j2 o2 => r_putN (b := 62) rfl (by decide) o2 (by rw [List.length_append]; simp only [List.length_cons, List.length_nil]; omega) (fun τ3 j3 o3 => hq τ3 (j1.trans ((j2.trans j3).mono (by decide))) ?_)))
      rw [if_pos hf, tx_pieces.2.2.1]
      rw [List.append_assoc] at o3
      exact o3
    · refine br_f hf (r_putN (b := 62) rfl (by decide) hx (by omega) (fun τ2 j2 o2 => hq τ2 (j1.trans (j2.mono (by decide))) ?_))
      rw [if_neg hf, tx_pieces.2.2.2]
      exact o2
  | B :: as, p, τ1, O, j1, hp, hl, hno, hx, hO, hq => by
    have h1 := h0.jz j1
    have hn := h1.mt.2.1
    have hB := hl.1
    have hle := hB.le
    have hec := escL_len B.cs
    rw [List.map_cons, List.sum_cons] at hO
    unfold wat at hO
    show w_M_putBeginning_L22 (nI k) post ((as.length + 1) + 1) (nI p) τ1
    unfold w_M_putBeginning_L22
    rw [h1.mt.1]
    refine r_next1 h1.mt hp (by omega) hB (by omega) (Chars.no34 hB.ch) (fun τ2 d2 f1 f2 f3 f4 => br_f (by decide) ?_)
    refine r_putN (b := 32) rfl (by decide) (hx.df d2 (by decide)) (by omega) (fun τ3 j3 o3 => ⟨B.nl + 1, ?_⟩)
    have j13 : Jz Lz τ τ3 := (j1.trans (d2.jz.mono (by decide))).trans (j3.mono (by decide))
    have hL3 : Lat τ3 B := ⟨(j3.1 19 (by decide)).trans f1, (j3.1 20 (by decide)).trans f2, (j3.1 21 (by decide)).trans f3, (j3.1 22 (by decide)).trans f4⟩
    refine r_L42 hn hB B.nl 0 τ3 _ (Nat.zero_add _) (h0.jz j13).mt hL3 o3 (by rw [List.length_append]; simp only [List.length_cons, List.length_nil]; omega) (fun τ4 j4 o4 => ?_)
    rw [List.drop_zero, List.append_assoc] at o4
    have hwat := attT_len (t := t) (n := n) (B := B)
    unfold wat at hwat
    have o4 : Ot τ4 (O ++ attT t n B) := o4
    refine r_L22 h0 hk (j13.trans (j4.mono (by decide))) (by omega) hl.2 hno o4 (by
      rw [List.length_append]
      have : (as.map wat).sum = (as.map (fun A => A.nl + 4 + 6 * A.cs.length)).sum := rfl
      omega) (fun τ' j' o' => hq τ' j' ?_)
    rw [List.flatMap_cons, List.append_assoc]
    rw [List.append_assoc] at o'
    exact o'
theorem r_putBeginning (h : KN σ τ t n S g a ls A) {k : Nat} (hk : k < S.K) (he : S.el k = true) (hx : Ot τ O) (hO : O.length + wk S k ≤ 24000) {post : MPS → Prop} (hq : ∀ τ', Jz Lz τ τ' → Ot τ' (O ++ btag t n S k) → post τ') : w_M_putBeginning τ (nI k) post := by
  have hK := h.K
  have hn := h.mt.2.1
  have hnm := h.gd.nm k hk he
  have hl := hnm.len
  obtain ⟨q, hal, hno⟩ := h.al hk he
  unfold wk at hO
  rw [if_pos he] at hO
  unfold w_M_putBeginning
  refine r_putN (b := 60) rfl (by decide) hx (by omega) (fun τ1 j1 o1 => ?_)
  refine r_putName (h.jz (j1.mono (by decide))) hk he o1 (by rw [List.length_append]; simp only [List.length_cons, List.length_nil]; omega) (fun τ2 j2 o2 => ?_)
  have j12 : Jz Lz τ τ2 := (j1.trans j2).mono (by decide)
  have h2 := h.jz j12
  refine ⟨h2.in_ hk, ?_⟩
  rw [nI_clamp (by omega), (h2.mb.2.2 k hk).bg]
  refine r_behindName h2.mt (by omega) hnm.2.1 ⟨_, r_L22 h hk j12 (by omega) hal hno o2 (by rw [List.length_append, List.length_append, nam_len]; simp only [List.length_cons, List.length_nil]; omega) (fun τ' j' o' => hq τ' j' ?_)⟩
  unfold btag
  rw [List.append_assoc, List.append_assoc] at o'
  exact o'
end MS
