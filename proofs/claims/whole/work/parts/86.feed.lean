/-! PURE: bytes (rows of the kit's bits, pasted as they may be), the relation of both states, feeding. -/
def bt (x : Int32) (i : Nat) : Bool := x.toBitVec.getLsbD i
theorem b_ext {x y : Int32} (h : ∀ i, i < 32 → bt x i = bt y i) : x = y := Int32.toBitVec_inj.mp (BitVec.eq_of_getLsbD_eq (fun i hi => h i hi))
theorem b_and (x y : Int32) (i : Nat) : bt (x &&& y) i = (bt x i && bt y i) := by unfold bt; rw [Int32.toBitVec_and, BitVec.getLsbD_and]
theorem b_big {x : Int32} {i : Nat} (h : 32 ≤ i) : bt x i = false := BitVec.getLsbD_of_ge _ _ h
theorem b_255 (i : Nat) : bt 255 i = decide (i < 8) := by
  rcases Nat.lt_or_ge i 32 with h | h
  · exact (by decide +kernel : ∀ i, i < 32 → bt 255 i = decide (i < 8)) i h
  · rw [b_big h, decide_eq_false (by omega)]
theorem s_l : ∀ n, n < 32 → ((nI n &&& 31).toBitVec.smod 32).toNat = n := by decide +kernel
theorem s_u : ∀ n, n < 32 → (((nI n).toUInt32 &&& Int32.toUInt32 31).toBitVec % 32).toNat = n := by decide +kernel
theorem b_ushr (n : Nat) (hn : n < 32) (x : Int32) (i : Nat) : bt ((x.toUInt32 >>> ((nI n).toUInt32 &&& Int32.toUInt32 31)).toInt32) i = bt x (n + i) := by
  show (x.toUInt32 >>> ((nI n).toUInt32 &&& Int32.toUInt32 31)).toBitVec.getLsbD i = x.toUInt32.toBitVec.getLsbD (n + i)
  rw [UInt32.toBitVec_shiftRight]
  show (x.toUInt32.toBitVec >>> (((nI n).toUInt32 &&& Int32.toUInt32 31).toBitVec % 32).toNat).getLsbD i = _
  rw [s_u n hn, BitVec.getLsbD_ushiftRight]
theorem b_sshr (n : Nat) (hn : n < 32) (x : Int32) {i : Nat} (hi : i < 32) : bt (x >>> (nI n &&& 31)) i = if n + i < 32 then bt x (n + i) else bt x 31 := by
  unfold bt
  rw [Int32.toBitVec_shiftRight]
  show (x.toBitVec.sshiftRight ((nI n &&& 31).toBitVec.smod 32).toNat).getLsbD i = _
  rw [s_l n hn, BitVec.getLsbD_sshiftRight, BitVec.msb_eq_getLsbD_last]
  simp [hi]
theorem bp_b (x : Int32) : x.toInt8.toInt32 &&& 255 = x &&& 255 := by
  apply Int32.toBitVec_inj.mp
  rw [Int32.toBitVec_and, Int32.toBitVec_and, Int8.toBitVec_toInt32, Int32.toBitVec_toInt8]
  apply BitVec.eq_of_getLsbD_eq
  intro i hi
  rw [BitVec.getLsbD_and, BitVec.getLsbD_and]
  have hm : ∀ i < 32, 8 ≤ i → (255 : Int32).toBitVec.getLsbD i = false := by decide
  rcases Nat.lt_or_ge i 8 with z | z
  · rw [BitVec.getLsbD_signExtend, BitVec.getLsbD_signExtend, if_pos z, if_pos hi]
    simp only [z, hi, decide_true, Bool.true_and]
  · rw [hm i hi z]; simp
theorem low8 {u v : Int32} (h : u &&& 255 = v &&& 255) : u.toInt8 = v.toInt8 := by
  apply Int8.toBitVec_inj.mp
  rw [Int32.toBitVec_toInt8, Int32.toBitVec_toInt8]
  apply BitVec.eq_of_getLsbD_eq
  intro i hi
  have hb : bt u i = bt v i := by
    have := congrArg (fun z => bt z i) h
    simp only [b_and, b_255, hi, decide_true, Bool.and_true] at this
    exact this
  rw [BitVec.getLsbD_signExtend, BitVec.getLsbD_signExtend, if_pos (by omega), if_pos (by omega)]
  show (decide (i < 8) && bt u i) = (decide (i < 8) && bt v i)
  rw [hb]
/-- a byte, as both hold it -/
def Bt (c m : Int32) : Prop := ∃ b : Nat, b < 256 ∧ c = nI b ∧ m = (nI b).toInt8.toInt32
theorem bt_0 : Bt 0 0 := ⟨0, by decide, rfl, by decide⟩
/-- a byte of an int, as the one takes it and as the other does -/
def brd (x : Int32) (j : Nat) : Int32 := ((x.toUInt32 >>> ((nI (24 - 8 * j)).toUInt32 &&& Int32.toUInt32 31)).toInt32) &&& 255
def mrd (x : Int32) (j : Nat) : Int32 := vp_nar .byte ((x >>> (nI (24 - 8 * j) &&& 31)).toInt8.toInt32)
theorem brd_mrd (x : Int32) (j : Nat) : Bt (brd x j) (mrd x j) := by
  have hs : 24 - 8 * j < 32 := by omega
  obtain ⟨b, hb, e⟩ := pk_andE ((x.toUInt32 >>> ((nI (24 - 8 * j)).toUInt32 &&& Int32.toUInt32 31)).toInt32) (m := 255) 8 (by decide)
  have hb : b < 256 := hb
  refine ⟨b, hb, e, ?_⟩
  unfold mrd
  rw [vp_nar_byte]
  congr 1
  apply low8
  rw [bp_b, pk_andN (n := b) (by omega) 8 (m := 255) (by decide), Nat.mod_eq_of_lt hb, ← e]
  apply b_ext
  intro i hi
  rw [b_and, b_and, b_255]
  by_cases h8 : i < 8
  · rw [b_sshr _ hs x hi, b_ushr _ hs, if_pos (by omega)]
  · simp [h8]
/-- the book of both -/
def BkR (σ : PPS) (τ : MPS) : Prop := (mp_known τ = 0 ∧ Emp σ) ∨ (mp_known τ = 1 ∧ ∃ t n S, RD t n (.inr S) ∧ Inv t n S ∧ Gd t n S ∧ 0 < S.K ∧ Hld t n S σ ∧ MB S τ ∧ MT τ t n)
/-- both states -/
def RL (σ : PPS) (τ : MPS) : Prop := (∀ k, k < 20 → Bt (pRd σ k) (mp_ready τ k)) ∧ (∃ n, n ≤ 4000 ∧ (pTp σ).1 = nI n ∧ mp_taped τ = nI n ∧ ∀ k, k < n → Bt ((pTp σ).2 k) (mp_tape τ k)) ∧ (∃ m, m ≤ 24000 ∧ (pSh σ).1 = nI m ∧ mp_outs τ = nI m ∧ ∀ i, i < m → (pSh σ).2 i = mp_output τ i &&& 255) ∧ (pFs σ = mp_fault τ) ∧ (pFp σ = mp_faultAt τ) ∧ (Dcl τ) ∧ (BkR σ τ)
theorem RL.rd {σ : PPS} {τ : MPS} (h : RL σ τ) : ∀ k, k < 20 → Bt (pRd σ k) (mp_ready τ k) := h.1
theorem RL.tp {σ : PPS} {τ : MPS} (h : RL σ τ) : ∃ n, n ≤ 4000 ∧ (pTp σ).1 = nI n ∧ mp_taped τ = nI n ∧ ∀ k, k < n → Bt ((pTp σ).2 k) (mp_tape τ k) := h.2.1
theorem RL.sh {σ : PPS} {τ : MPS} (h : RL σ τ) : ∃ m, m ≤ 24000 ∧ (pSh σ).1 = nI m ∧ mp_outs τ = nI m ∧ ∀ i, i < m → (pSh σ).2 i = mp_output τ i &&& 255 := h.2.2.1
theorem RL.fs {σ : PPS} {τ : MPS} (h : RL σ τ) : pFs σ = mp_fault τ := h.2.2.2.1
theorem RL.fp {σ : PPS} {τ : MPS} (h : RL σ τ) : pFp σ = mp_faultAt τ := h.2.2.2.2.1
theorem RL.dc {σ : PPS} {τ : MPS} (h : RL σ τ) : Dcl τ := h.2.2.2.2.2.1
theorem RL.bk {σ : PPS} {τ : MPS} (h : RL σ τ) : BkR σ τ := h.2.2.2.2.2.2
def Lj : List Nat := [0, 12, 13, 16, 19, 20, 21, 22, 35, 36]
/-- what no answer shows may differ -/
def Js (τ τ' : MPS) : Prop := (∀ j, ¬ j ∈ Lj → τ'.1 j = τ.1 j) ∧ ∀ j, ¬ j = 17 → ¬ j = 18 → τ'.2 j = τ.2 j
theorem Js.refl (τ : MPS) : Js τ τ := ⟨fun _ _ => rfl, fun _ _ _ => rfl⟩
theorem Js.trans {a b c : MPS} (h : Js a b) (h2 : Js b c) : Js a c := ⟨fun j hj => (h2.1 j hj).trans (h.1 j hj), fun j a b => (h2.2 j a b).trans (h.2 j a b)⟩
theorem Js.set (τ : MPS) {k : Nat} {v : Int32} (hk : k ∈ Lj) : Js τ (va_up τ.1 k v, τ.2) := ⟨fun j hj => va_up_ne τ.1 v (fun z => hj (z ▸ hk)), fun _ _ _ => rfl⟩
theorem Js.arr (τ : MPS) {k : Nat} {v : Nat → Int32} (hk : k = 17 ∨ k = 18) : Js τ (τ.1, va_up τ.2 k v) := ⟨fun _ _ => rfl, fun j a b => va_up_ne τ.2 v (by omega)⟩
theorem Df.js {L : List Nat} {τ τ' : MPS} (h : Df L τ τ') (hL : ∀ j, j ∈ L → j ∈ Lj) : Js τ τ' := ⟨fun j hj => h.2 j (fun z => hj (hL j z)), fun j _ _ => by rw [h.1]⟩
theorem MT.js {τ τ' : MPS} {t : Nat → Int32} {n : Nat} (h : MT τ t n) (d : Js τ τ') : MT τ' t n := by
  refine ⟨(d.1 7 (by decide)).trans h.1, h.2.1, fun k hk => ?_⟩
  obtain ⟨b, h1, h2, h3⟩ := h.2.2 k hk
  refine ⟨b, h1, h2, ?_⟩
  rw [show mp_text τ' = mp_text τ from d.2 2 (by decide) (by decide)]; exact h3
theorem MB.js {S : GS} {τ τ' : MPS} (h : MB S τ) (d : Js τ τ') : MB S τ' :=
  ⟨(d.1 32 (by decide)).trans h.1, (d.1 14 (by decide)).trans h.2.1, fun k hk => (h.2.2 k hk).mv (fun j a b => d.2 j (by omega) (by omega)) rfl rfl rfl rfl rfl rfl rfl rfl⟩
theorem BkR.js {σ : PPS} {τ τ' : MPS} (h : BkR σ τ) (d : Js τ τ') : BkR σ τ' := by
  have hk : mp_known τ' = mp_known τ := d.1 11 (by decide)
  rcases h with ⟨a, b⟩ | ⟨a, t, n, S, h1, h2, h3, h4, h5, h6, h7⟩
  · exact Or.inl ⟨hk.trans a, b⟩
  · exact Or.inr ⟨hk.trans a, t, n, S, h1, h2, h3, h4, h5, h6.js d, h7.js d⟩
theorem RL.js {σ : PPS} {τ τ' : MPS} (h : RL σ τ) (d : Js τ τ') : RL σ τ' := by
  refine ⟨?_, ?_, ?_, ?_, ?_, ?_, h.bk.js d⟩
  · rw [show mp_ready τ' = mp_ready τ from d.2 3 (by decide) (by decide)]; exact h.rd
  · rw [show mp_taped τ' = mp_taped τ from d.1 6 (by decide), show mp_tape τ' = mp_tape τ from d.2 1 (by decide) (by decide)]; exact h.tp
  · rw [show mp_outs τ' = mp_outs τ from d.1 8 (by decide), show mp_output τ' = mp_output τ from d.2 4 (by decide) (by decide)]; exact h.sh
  · rw [show mp_fault τ' = mp_fault τ from d.1 9 (by decide)]; exact h.fs
  · rw [show mp_faultAt τ' = mp_faultAt τ from d.1 10 (by decide)]; exact h.fp
  · unfold Dcl; rw [show mp_declaration τ' = mp_declaration τ from d.2 5 (by decide) (by decide)]; exact h.dc
/-- the book of the one is the same -/
theorem BkR.sig {σ σ' : PPS} {τ : MPS} (h : BkR σ τ) (h1 : pNd σ' = pNd σ) (h2 : pAt σ' = pAt σ) (h3 : pLe σ' = pLe σ) (h4 : pEl σ' = pEl σ) : BkR σ' τ := by
  rcases h with ⟨a, b⟩ | ⟨a, t, n, S, g1, g2, g3, g4, g5, g6, g7⟩
  · exact Or.inl ⟨a, by unfold Emp; rw [h1, h2, h3, h4]; exact b⟩
  · exact Or.inr ⟨a, t, n, S, g1, g2, g3, g4, by unfold Hld; rw [h1, h2, h3, h4]; exact g5, g6, g7⟩
/-- the book of the other is the same -/
theorem BkR.tau {σ : PPS} {τ τ' : MPS} (h : BkR σ τ) (h1 : mp_known τ' = mp_known τ) (h2 : ∀ j, (j = 7 ∨ j = 14 ∨ j = 32) → τ'.1 j = τ.1 j) (h3 : ∀ j, (j = 2 ∨ 8 ≤ j ∧ j ≤ 15) → τ'.2 j = τ.2 j) : BkR σ τ' := by
  rcases h with ⟨a, b⟩ | ⟨a, t, n, S, g1, g2, g3, g4, g5, g6, g7⟩
  · exact Or.inl ⟨h1.trans a, b⟩
  · refine Or.inr ⟨h1.trans a, t, n, S, g1, g2, g3, g4, g5, ⟨(h2 32 (by omega)).trans g6.1, (h2 14 (by omega)).trans g6.2.1, fun k hk => (g6.2.2 k hk).mv (fun j a b => h3 j (by omega)) rfl rfl rfl rfl rfl rfl rfl rfl⟩, (h2 7 (by omega)).trans g7.1, g7.2.1, fun k hk => ?_⟩
    obtain ⟨b, h1, h2, h4⟩ := g7.2.2 k hk
    refine ⟨b, h1, h2, ?_⟩
    rw [show mp_text τ' = mp_text τ from h3 2 (Or.inl rfl)]; exact h4
section FE
variable {σ : PPS} {τ : MPS}
theorem sh24 {i : Nat} (hi : i < 4) : (24 : Int32) - 8 * nI i = nI (24 - 8 * i) := by
  rw [show (8 : Int32) * nI i = nI (8 * i) from pk_mul 8 i, show (24 : Int32) - nI (8 * i) = nI (24 - 8 * i) from pk_sub (a := 24) (by omega)]
theorem k_makeReady {f : Nat} {x : Int32} (hf : f + 4 ≤ 20) {post : PPS → Prop} (hq : ∀ rd', (∀ j, j < 4 → rd' (f + j) = brd x j) → (∀ j, ¬ (f ≤ j ∧ j < f + 4) → rd' j = pRd σ j) → post (sRd σ rd')) : w_X_makeReady σ (nI f) x post := by
  have key : ∀ m i, i + m = 4 → ∀ rd, (∀ j, j < i → rd (f + j) = brd x j) → (∀ j, ¬ (f ≤ j ∧ j < f + i) → rd j = pRd σ j) → ∃ g, w_X_makeReady_L2 (nI f) x post g (nI i) (sRd σ rd) := by
    intro m
    induction m with
    | zero =>
      intro i hi rd h1 h2
      have : i = 4 := by omega
      subst this
      refine ⟨1, ?_⟩
      unfold w_X_makeReady_L2
      exact br_t (by decide) (hq rd h1 h2)
    | succ m ih =>
      intro i hi rd h1 h2
      obtain ⟨g, hg⟩ := ih (i + 1) (by omega) (upd rd (f + i) (brd x i)) (fun j hj => by
        by_cases e : j = i
        · rw [e, upd_s]
        · rw [upd_n (by omega)]; exact h1 j (by omega)) (fun j hj => by rw [upd_n (by omega)]; exact h2 j (by omega))
      refine ⟨g + 1, ?_⟩
      unfold w_X_makeReady_L2 w_X_makeReady_J47
      rw [nI_add, sh24 (by omega), nI_1]
      refine br_f (nI_ge (b := 4) (by omega) (by decide)) (br_f (nI_pos (by omega)) (br_f (nI_ge (by omega) (by decide)) ⟨vp_in_nI (by omega) (by decide), fa_eq ?_⟩))
      rw [nI_clamp (by omega)]
      exact hg
  exact key 4 0 rfl (pRd σ) (fun j hj => absurd hj (Nat.not_lt_zero j)) (fun j _ => rfl)
theorem k_feed {a b c d e : Int32} {post : PPS → Prop} (hq : ∀ rd', (∀ j, j < 4 → rd' j = brd a j ∧ rd' (4 + j) = brd b j ∧ rd' (8 + j) = brd c j ∧ rd' (12 + j) = brd d j ∧ rd' (16 + j) = brd e j) → post (sRd σ rd')) : w_X_feed σ a b c d e post := by
  unfold w_X_feed
  refine k_makeReady (f := 0) (by decide) (fun r0 p0 q0 => ?_)
  refine k_makeReady (f := 4) (by decide) (fun r1 p1 q1 => ?_)
  refine k_makeReady (f := 8) (by decide) (fun r2 p2 q2 => ?_)
  refine k_makeReady (f := 12) (by decide) (fun r3 p3 q3 => ?_)
  refine k_makeReady (f := 16) (by decide) (fun r4 p4 q4 => ?_)
  have Q1 : ∀ j, ¬ (4 ≤ j ∧ j < 4 + 4) → r1 j = r0 j := q1
  have Q2 : ∀ j, ¬ (8 ≤ j ∧ j < 8 + 4) → r2 j = r1 j := q2
  have Q3 : ∀ j, ¬ (12 ≤ j ∧ j < 12 + 4) → r3 j = r2 j := q3
  have Q4 : ∀ j, ¬ (16 ≤ j ∧ j < 16 + 4) → r4 j = r3 j := q4
  refine hq r4 (fun j hj => ⟨?_, ?_, ?_, ?_, p4 j hj⟩)
  · rw [Q4 j (by omega), Q3 j (by omega), Q2 j (by omega), Q1 j (by omega)]
    have := p0 j hj
    rw [Nat.zero_add] at this; exact this
  · rw [Q4 _ (by omega), Q3 _ (by omega), Q2 _ (by omega)]; exact p1 j hj
  · rw [Q4 _ (by omega), Q3 _ (by omega)]; exact p2 j hj
  · rw [Q4 _ (by omega)]; exact p3 j hj
theorem r_feed {a b c d e : Int32} {post : MPS → Prop} (hq : ∀ τ', (∀ j, ¬ j = 0 → τ'.1 j = τ.1 j) → (∀ j, ¬ j = 3 → τ'.2 j = τ.2 j) → (∀ j, j < 4 → mp_ready τ' j = mrd a j ∧ mp_ready τ' (4 + j) = mrd b j ∧ mp_ready τ' (8 + j) = mrd c j ∧ mp_ready τ' (12 + j) = mrd d j ∧ mp_ready τ' (16 + j) = mrd e j) → post τ') : w_M_feed τ a b c d e post := by
  unfold w_M_feed
  refine fa_eq ?_
  have key : ∀ m i, i + m = 4 → ∀ τ1 : MPS, (∀ j, ¬ j = 0 → τ1.1 j = τ.1 j) → (∀ j, ¬ j = 3 → τ1.2 j = τ.2 j) → (∀ j, j < i → mp_ready τ1 j = mrd a j ∧ mp_ready τ1 (4 + j) = mrd b j ∧ mp_ready τ1 (8 + j) = mrd c j ∧ mp_ready τ1 (12 + j) = mrd d j ∧ mp_ready τ1 (16 + j) = mrd e j) → ∃ g, w_M_feed_L8 a b c d e post g (nI i) τ1 := by
    intro m
    induction m with
    | zero =>
      intro i hi τ1 h1 h2 h3
      have : i = 4 := by omega
      subst this
      refine ⟨1, ?_⟩
      unfold w_M_feed_L8
      exact br_t (by decide) (hq τ1 h1 h2 h3)
    | succ m ih =>
      intro i hi τ1 h1 h2 h3
      obtain ⟨g, hg⟩ := ih (i + 1) (by omega) (ms_ready (ms_ready (ms_ready (ms_ready (ms_ready τ1 (upd (mp_ready τ1) i (mrd a i))) (upd (upd (mp_ready τ1) i (mrd a i)) (4 + i) (mrd b i))) (upd (upd (upd (mp_ready τ1) i (mrd a i)) (4 + i) (mrd b i)) (8 + i) (mrd c i))) (upd (upd (upd (upd (mp_ready τ1) i (mrd a i)) (4 + i) (mrd b i)) (8 + i) (mrd c i)) (12 + i) (mrd d i))) (upd (upd (upd (upd (upd (mp_ready τ1) i (mrd a i)) (4 + i) (mrd b i)) (8 + i) (mrd c i)) (12 + i) (mrd d i)) (16 + i) (mrd e i))) h1 (fun j hj => by
          show va_up (va_up (va_up (va_up (va_up τ1.2 3 _) 3 _) 3 _) 3 _) 3 _ j = _
          rw [va_n hj, va_n hj, va_n hj, va_n hj, va_n hj]; exact h2 j hj) (fun j hj => by
          show upd (upd (upd (upd (upd (mp_ready τ1) i (mrd a i)) (4 + i) (mrd b i)) (8 + i) (mrd c i)) (12 + i) (mrd d i)) (16 + i) (mrd e i) j = mrd a j ∧ upd (upd (upd (upd (upd (mp_ready τ1) i (mrd a i)) (4 + i) (mrd b i)) (8 + i) (mrd c i)) (12 + i) (mrd d i)) (16 + i) (mrd e i) (4 + j) = mrd b j ∧ upd (upd (upd (upd (upd (mp_ready τ1) i (mrd a i)) (4 + i) (mrd b i)) (8 + i) (mrd c i)) (12 + i) (mrd d i)) (16 + i) (mrd e i) (8 + j) = mrd c j ∧ upd (upd (upd (upd (upd (mp_ready τ1) i (mrd a i)) (4 + i) (mrd b i)) (8 + i) (mrd c i)) (12 + i) (mrd d i)) (16 + i) (mrd e i) (12 + j) = mrd d j ∧ upd (upd (upd (upd (upd (mp_ready τ1) i (mrd a i)) (4 + i) (mrd b i)) (8 + i) (mrd c i)) (12 + i) (mrd d i)) (16 + i) (mrd e i) (16 + j) = mrd e j
          by_cases ej : j = i
          · subst ej
            refine ⟨?_, ?_, ?_, ?_, ?_⟩
            · rw [upd_n (by omega), upd_n (by omega), upd_n (by omega), upd_n (by omega), upd_s]
            · rw [upd_n (by omega), upd_n (by omega), upd_n (by omega), upd_s]
            · rw [upd_n (by omega), upd_n (by omega), upd_s]
            · rw [upd_n (by omega), upd_s]
            · rw [upd_s]
          · obtain ⟨x1, x2, x3, x4, x5⟩ := h3 j (by omega)
            refine ⟨?_, ?_, ?_, ?_, ?_⟩
            · rw [upd_n (by omega), upd_n (by omega), upd_n (by omega), upd_n (by omega), upd_n (by omega)]; exact x1
            · rw [upd_n (by omega), upd_n (by omega), upd_n (by omega), upd_n (by omega), upd_n (by omega)]; exact x2
            · rw [upd_n (by omega), upd_n (by omega), upd_n (by omega), upd_n (by omega), upd_n (by omega)]; exact x3
            · rw [upd_n (by omega), upd_n (by omega), upd_n (by omega), upd_n (by omega), upd_n (by omega)]; exact x4
            · rw [upd_n (by omega), upd_n (by omega), upd_n (by omega), upd_n (by omega), upd_n (by omega)]; exact x5)
      refine ⟨g + 1, ?_⟩
      unfold w_M_feed_L8
      rw [show (4 : Int32) + nI i = nI (4 + i) from nI_add 4 i, show (8 : Int32) + nI i = nI (8 + i) from nI_add 8 i, show (12 : Int32) + nI i = nI (12 + i) from nI_add 12 i, show (16 : Int32) + nI i = nI (16 + i) from nI_add 16 i, sh24 (by omega), nI_1]
      refine br_f (nI_ge (b := 4) (by omega) (by decide)) ⟨vp_in_nI (by omega) (by decide), fa_eq ⟨vp_in_nI (by omega) (by decide), fa_eq ⟨vp_in_nI (by omega) (by decide), fa_eq ⟨vp_in_nI (by omega) (by decide), fa_eq ⟨vp_in_nI (by omega) (by decide), fa_eq ?_⟩⟩⟩⟩⟩
      rw [nI_clamp (by omega), nI_clamp (by omega), nI_clamp (by omega), nI_clamp (by omega), nI_clamp (by omega)]
      exact hg
  exact key 4 0 rfl _ (fun j hj => va_up_ne τ.1 _ hj) (fun j _ => rfl) (fun j hj => absurd hj (Nat.not_lt_zero j))
theorem c0_feed {a b c d e : Int32} (h : RL σ τ) {post : PPS → MPS → Prop} (hq : ∀ σ' τ', RL σ' τ' → post σ' τ') : w_X_feed σ a b c d e (fun σ' => w_M_feed τ a b c d e (fun τ' => post σ' τ')) := by
  refine k_feed (fun rd' hr => r_feed (fun τ' h1 h2 h3 => hq _ _ ⟨fun k hk => ?_, ?_, ?_, ?_, ?_, ?_, ?_⟩))
  · show Bt (rd' k) _
    obtain ⟨x1, x2, x3, x4, x5⟩ := hr (k % 4) (by omega)
    obtain ⟨y1, y2, y3, y4, y5⟩ := h3 (k % 4) (by omega)
    have : k = k % 4 ∨ k = 4 + k % 4 ∨ k = 8 + k % 4 ∨ k = 12 + k % 4 ∨ k = 16 + k % 4 := by omega
    rcases this with e1 | e1 | e1 | e1 | e1 <;> rw [e1]
    · rw [← e1, e1, x1, y1]; exact brd_mrd _ _
    · rw [x2, y2]; exact brd_mrd _ _
    · rw [x3, y3]; exact brd_mrd _ _
    · rw [x4, y4]; exact brd_mrd _ _
    · rw [x5, y5]; exact brd_mrd _ _
  · rw [show mp_taped τ' = mp_taped τ from h1 6 (by decide), show mp_tape τ' = mp_tape τ from h2 1 (by decide)]; exact h.tp
  · rw [show mp_outs τ' = mp_outs τ from h1 8 (by decide), show mp_output τ' = mp_output τ from h2 4 (by decide)]; exact h.sh
  · rw [show mp_fault τ' = mp_fault τ from h1 9 (by decide)]; exact h.fs
  · rw [show mp_faultAt τ' = mp_faultAt τ from h1 10 (by decide)]; exact h.fp
  · unfold Dcl; rw [show mp_declaration τ' = mp_declaration τ from h2 5 (by decide)]; exact h.dc
  · exact (h.bk.sig (σ' := sRd σ rd') rfl rfl rfl rfl).tau (h1 11 (by decide)) (fun j hj => h1 j (by omega)) (fun j hj => h2 j (by omega))
end FE
