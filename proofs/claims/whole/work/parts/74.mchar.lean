/-! PURE: the reference reads a character as u8 says. -/
section M8
variable {t : Nat → Int32} {n k : Nat} {τ : MPS}
def minW (w : Nat) : Nat := if w = 2 then 128 else if w = 3 then 2048 else 65536
/-- a good value of so many bytes -/
def goodV (w v : Nat) : Prop := minW w ≤ v ∧ v ≤ 1114111 ∧ (v < 55296 ∨ 57343 < v)
theorem cCh_nI {v : Nat} (hv : v < 2 ^ 31) : cCh (nI v) = true ↔ v ≤ 1114111 ∧ (v < 55296 ∨ 57343 < v) := by
  unfold cCh
  simp only [Bool.and_eq_true, Bool.or_eq_true, decide_eq_true_eq]
  rw [show (1114111 : Int32) = nI 1114111 from rfl, show (55296 : Int32) = nI 55296 from rfl, show (57343 : Int32) = nI 57343 from rfl, nI_leI hv (by decide), nI_ltI hv (by decide), nI_ltI (by decide) hv]
  exact ⟨fun h => ⟨h.1.2, h.2⟩, fun h => ⟨⟨nI_pos' hv, h.1⟩, h.2⟩⟩
theorem cByN_nI {v : Nat} (hv : v < 2 ^ 31) : cByN (nI v) = if v < 128 then 1 else if v < 2048 then 2 else if v < 65536 then 3 else 4 := by
  unfold cByN
  rw [show (128 : Int32) = nI 128 from rfl, show (2048 : Int32) = nI 2048 from rfl, show (65536 : Int32) = nI 65536 from rfl]
  simp only [nI_ltI hv (show 128 < 2 ^ 31 by decide), nI_ltI hv (show 2048 < 2 ^ 31 by decide), nI_ltI hv (show 65536 < 2 ^ 31 by decide)]
theorem u8f_yes {w v : Nat} (hw : (w = 2 ∧ v < 2048) ∨ (w = 3 ∧ v < 65536) ∨ (w = 4 ∧ v < 2097152)) (h : goodV w v) : u8f w (some (nI v)) = nI v ∧ cByN (nI v) = w := by
  obtain ⟨h1, h2, h3⟩ := h
  have hv : v < 2 ^ 31 := by omega
  have hb : cByN (nI v) = w := by
    rw [cByN_nI hv]
    unfold minW at h1
    rcases hw with ⟨rfl, h⟩ | ⟨rfl, h⟩ | ⟨rfl, h⟩
    · simp at h1; rw [if_neg (by omega), if_pos h]
    · simp at h1; rw [if_neg (by omega), if_neg (by omega), if_pos h]
    · simp at h1; rw [if_neg (by omega), if_neg (by omega), if_neg (by omega)]
  refine ⟨?_, hb⟩
  unfold u8f
  exact if_pos ⟨(cCh_nI hv).mpr ⟨h2, h3⟩, by rw [cBy_N, hb]⟩
theorem u8f_no {w v : Nat} (hw : (w = 2 ∧ v < 2048) ∨ (w = 3 ∧ v < 65536) ∨ (w = 4 ∧ v < 2097152)) (h : ¬ goodV w v) : u8f w (some (nI v)) = -1 := by
  have hv : v < 2 ^ 31 := by omega
  unfold u8f
  refine if_neg (fun z => h ?_)
  obtain ⟨z1, z2⟩ := z
  have hc := (cCh_nI hv).mp z1
  have hb := cByN_le (nI v)
  rw [cBy_N] at z2
  have z2 := (nI_eq (by omega) (by omega)).mp z2
  rw [cByN_nI hv] at z2
  refine ⟨?_, hc⟩
  unfold minW
  rcases hw with ⟨rfl, h⟩ | ⟨rfl, h⟩ | ⟨rfl, h⟩
  · show 128 ≤ v
    by_cases a : v < 128
    · rw [if_pos a] at z2; cases z2
    · omega
  · show 2048 ≤ v
    by_cases a : v < 128
    · rw [if_pos a] at z2; cases z2
    by_cases b : v < 2048
    · rw [if_neg a, if_pos b] at z2; cases z2
    · omega
  · show 65536 ≤ v
    by_cases a : v < 128
    · rw [if_pos a] at z2; cases z2
    by_cases b : v < 2048
    · rw [if_neg a, if_pos b] at z2; cases z2
    by_cases c : v < 65536
    · rw [if_neg a, if_neg b, if_pos c] at z2; cases z2
    · omega
theorem lead2 : ∀ b, b < 256 → nI b &&& (127 >>> (nI 2 &&& 31)) = nI (b % 32) ∧ nI b &&& (255 >>> ((nI 2 + 1) &&& 31)) = nI (b % 32) := by decide +kernel
theorem lead3 : ∀ b, b < 256 → nI b &&& (127 >>> (nI 3 &&& 31)) = nI (b % 16) ∧ nI b &&& (255 >>> ((nI 3 + 1) &&& 31)) = nI (b % 16) := by decide +kernel
theorem lead4 : ∀ b, b < 256 → nI b &&& (127 >>> (nI 4 &&& 31)) = nI (b % 8) ∧ nI b &&& (255 >>> ((nI 4 + 1) &&& 31)) = nI (b % 8) := by decide +kernel
theorem cont6 : ∀ d, d < 256 → ((nI d >>> ((6 : Int32) &&& 31)) = 2 ↔ (nI d &&& 192) = 128) := by decide +kernel
/-- a first byte of more: how many bytes, and its value -/
theorem u8_multi {b w v0 : Nat} (hx : xx t n k = nI b) (hb : b < 256) (hw : (w = 2 ∧ 192 ≤ b ∧ b < 224 ∧ v0 = b - 192) ∨ (w = 3 ∧ 224 ≤ b ∧ b < 240 ∧ v0 = b - 224) ∨ (w = 4 ∧ 240 ≤ b ∧ b < 248 ∧ v0 = b - 240)) : u8 t n k = u8f w (u8r t n (w - 1) (k + 1) (nI v0)) := by
  unfold u8
  rw [hx]
  have h1 : (128 : Int32) ≤ nI b := nI_le (a := 128) (by omega) (by omega)
  have h2 : ¬ nI b < 192 := nI_nlt (b := 192) (by omega) (by omega)
  have h3 : nI b < 248 := nI_lt (b := 248) (by omega) (by omega)
  rw [if_pos h1, if_neg h2, if_pos h3]
  have e : u8w (nI b) = w ∧ nI b &&& (127 >>> (nI w &&& 31)) = nI v0 := by
    unfold u8w
    rcases hw with ⟨rfl, a, c, ev⟩ | ⟨rfl, a, c, ev⟩ | ⟨rfl, a, c, ev⟩
    · refine ⟨if_neg (nI_ge (b := 224) c (by decide)), ?_⟩
      rw [(lead2 b hb).1]; congr 1; omega
    · refine ⟨by rw [if_pos (show (224 : Int32) ≤ nI b from nI_le (a := 224) a (by omega)), if_neg (show ¬ (240 : Int32) ≤ nI b from nI_ge (b := 240) c (by decide))], ?_⟩
      rw [(lead3 b hb).1]; congr 1; omega
    · refine ⟨by rw [if_pos (show (224 : Int32) ≤ nI b from nI_le (a := 224) (by omega) (by omega)), if_pos (show (240 : Int32) ≤ nI b from nI_le (a := 240) a (by omega))], ?_⟩
      rw [(lead4 b hb).1]; congr 1; omega
  rw [e.1, e.2]
/-- the value of a whole character of more bytes -/
theorem u8r_w {w v0 : Nat} {c : Int32} (hw : (w = 2 ∧ v0 < 32) ∨ (w = 3 ∧ v0 < 16) ∨ (w = 4 ∧ v0 < 8)) (h : u8r t n (w - 1) (k + 1) (nI v0) = some c) : ∃ v, c = nI v ∧ v0 * 64 ^ (w - 1) ≤ v ∧ ((w = 2 ∧ v < 2048) ∨ (w = 3 ∧ v < 65536) ∨ (w = 4 ∧ v < 2097152)) := by
  rcases hw with ⟨rfl, a⟩ | ⟨rfl, a⟩ | ⟨rfl, a⟩
  · obtain ⟨v, e, l, r⟩ := u8r_val 1 (k + 1) v0 c (by omega) h
    exact ⟨v, e, l, Or.inl ⟨rfl, by omega⟩⟩
  · obtain ⟨v, e, l, r⟩ := u8r_val 2 (k + 1) v0 c (by omega) h
    exact ⟨v, e, l, Or.inr (Or.inl ⟨rfl, by omega⟩)⟩
  · obtain ⟨v, e, l, r⟩ := u8r_val 3 (k + 1) v0 c (by omega) h
    exact ⟨v, e, l, Or.inr (Or.inr ⟨rfl, by omega⟩)⟩
theorem r_J223 {v : Nat} (hv : v < 2 ^ 31) {post : Int32 → MPS → Prop} (h1 : v ≤ 1114111 ∧ (v < 55296 ∨ 57343 < v) → post (nI v) τ) (h0 : ¬ (v ≤ 1114111 ∧ (v < 55296 ∨ 57343 < v)) → post (-1) τ) : w_M_characterAt_J218 post (nI v) τ := by
  unfold w_M_characterAt_J218 w_M_characterAt_J223 w_M_characterAt_J251
  refine br_f (by decide) (pk_lt 1114111 v (fun a => h0 (fun z => by omega)) (fun a => ?_) rfl rfl (by decide) hv)
  refine pk_lt v 55296 (fun b => h1 ⟨a, Or.inl b⟩) (fun b => ?_) rfl rfl hv (by decide)
  exact pk_le v 57343 (fun c => h0 (fun z => by omega)) (fun c => h1 ⟨a, Or.inr c⟩) rfl rfl hv (by decide)
/-- the loop's end: the value is judged -/
theorem r_end {w v : Nat} (hw : (w = 2 ∧ v < 2048) ∨ (w = 3 ∧ v < 65536) ∨ (w = 4 ∧ v < 2097152)) (hwd : mp_width τ = nI w) {post : Int32 → MPS → Prop} (h1 : goodV w v → post (nI v) τ) (h0 : ¬ goodV w v → post (-1) τ) :
    (((mp_width τ) = 1 → w_M_characterAt_J218 post (nI v) τ) ∧ (¬ (mp_width τ) = 1 → (((mp_width τ) = 2 → w_M_characterAt_J215 post (nI v) 128 (nI v) τ) ∧ (¬ (mp_width τ) = 2 → (((mp_width τ) = 3 → w_M_characterAt_J215 post (nI v) 2048 (nI v) τ) ∧ (¬ (mp_width τ) = 3 → w_M_characterAt_J215 post (nI v) 65536 (nI v) τ)))))) := by
  have hv : v < 2 ^ 31 := by omega
  have J : ∀ m : Nat, m < 2 ^ 31 → minW w = m → w_M_characterAt_J215 post (nI v) (nI m) (nI v) τ := fun m hm e => by
    unfold w_M_characterAt_J215
    refine pk_lt v m (fun a => ?_) (fun a => ?_) rfl rfl hv hm
    · unfold w_M_characterAt_J223
      exact br_t rfl (h0 (fun z => by have := z.1; omega))
    · exact r_J223 hv (fun z => h1 ⟨by omega, z⟩) (fun z => h0 (fun y => z y.2))
  rw [hwd]
  rcases hw with ⟨rfl, h⟩ | ⟨rfl, h⟩ | ⟨rfl, h⟩
  · exact br_f (by decide) (br_t (by decide) (J 128 (by decide) rfl))
  · exact br_f (by decide) (br_f (by decide) (br_t (by decide) (J 2048 (by decide) rfl)))
  · exact br_f (by decide) (br_f (by decide) (br_f (by decide) (J 65536 (by decide) rfl)))
theorem r_loop {w : Nat} (hw : w ≤ 4) (hT : MT τ t n) (hkw : k + w ≤ n) (hwd : mp_width τ = nI w) {post : Int32 → MPS → Prop} : ∀ m i c, i + m = w →
    (∀ c', u8r t n m (k + i) c = some c' → (((mp_width τ) = 1 → w_M_characterAt_J218 post c' τ) ∧ (¬ (mp_width τ) = 1 → (((mp_width τ) = 2 → w_M_characterAt_J215 post c' 128 c' τ) ∧ (¬ (mp_width τ) = 2 → (((mp_width τ) = 3 → w_M_characterAt_J215 post c' 2048 c' τ) ∧ (¬ (mp_width τ) = 3 → w_M_characterAt_J215 post c' 65536 c' τ))))))) →
    (u8r t n m (k + i) c = none → post (-1) τ) → ∃ f, w_M_characterAt_L124 (nI k) post f c (nI i) τ := by
  have hn := hT.2.1
  intro m
  induction m with
  | zero =>
    intro i c h h1 h0
    refine ⟨1, ?_⟩
    unfold w_M_characterAt_L124
    refine br_t (by rw [hwd]; exact nI_le (by omega) (by omega)) ?_
    exact h1 c rfl
  | succ m ih =>
    intro i c h h1 h0
    obtain ⟨d, hd, e1, e2⟩ := hT.2.2 (k + i) (by omega)
    have eg : (mp_text τ) (nI k + nI i).toNatClampNeg &&& 255 = nI d := by
      rw [nI_add, nI_clamp (by omega), e2]; exact sc_k8 d hd
    have ex : xx t n (k + i) = nI d := by rw [xx_in (by omega)]; exact e1
    unfold u8r at h1 h0
    rw [ex] at h1 h0
    by_cases hc : (nI d &&& 192) = 128
    · rw [if_pos hc] at h1 h0
      obtain ⟨f, hf⟩ := ih (i + 1) ((c <<< (6 &&& 31)) ||| (nI d &&& 63)) (by omega) (by rw [show k + (i + 1) = k + i + 1 from by omega]; exact h1) (by rw [show k + (i + 1) = k + i + 1 from by omega]; exact h0)
      refine ⟨f + 1, ?_⟩
      unfold w_M_characterAt_L124
      refine br_f (by rw [hwd]; exact nI_ge (by omega) (by omega)) ⟨by rw [nI_add]; exact vp_in_nI (by omega) (by decide), ?_⟩
      rw [eg, nI_1]
      exact br_t ((cont6 d hd).mpr hc) hf
    · rw [if_neg hc] at h0
      refine ⟨1, ?_⟩
      unfold w_M_characterAt_L124
      refine br_f (by rw [hwd]; exact nI_ge (by omega) (by omega)) ⟨by rw [nI_add]; exact vp_in_nI (by omega) (by decide), ?_⟩
      rw [eg]
      exact br_f (fun z => hc ((cont6 d hd).mp z)) (h0 rfl)
theorem r_characterAt (hT : MT τ t n) (hk : k < n) {post : Int32 → MPS → Prop} (h1 : ∀ τ', Df [12] τ τ' → ¬ u8 t n k = -1 → mp_width τ' = nI (cByN (u8 t n k)) → post (u8 t n k) τ') (h0 : u8 t n k = -1 → ∀ τ', Df [12] τ τ' → post (-1) τ') : w_M_characterAt τ (nI k) (nI n) post := by
  have hn := hT.2.1
  obtain ⟨b, hb, e1, e2⟩ := hT.2.2 k hk
  have eg : (mp_text τ) (nI k).toNatClampNeg &&& 255 = nI b := by rw [nI_clamp (by omega), e2]; exact sc_k8 b hb
  have ex : xx t n k = nI b := by rw [xx_in hk]; exact e1
  have D : ∀ v, Df [12] τ (ms_width τ v) := fun v => Df.set τ (by decide)
  have bad : u8 t n k = -1 → w_M_characterAt_J71 post (nI k) (nI n) (nI b) 0 τ := fun e => fa_eq (br_t rfl (h0 e _ (D 0)))
  have multi : ∀ w v0, (w = 2 ∧ 192 ≤ b ∧ b < 224 ∧ v0 = b - 192) ∨ (w = 3 ∧ 224 ≤ b ∧ b < 240 ∧ v0 = b - 224) ∨ (w = 4 ∧ 240 ≤ b ∧ b < 248 ∧ v0 = b - 240) → w_M_characterAt_J71 post (nI k) (nI n) (nI b) (nI w) τ := fun w v0 hw => by
    have hu := u8_multi ex hb hw
    have hw4 : 2 ≤ w ∧ w ≤ 4 := by omega
    refine fa_eq ?_
    have ew : mp_width (ms_width τ (nI w)) = nI w := rfl
    rw [ew]
    refine br_f (nI_ne0 (by omega) (by omega)) ?_
    rw [nI_add]
    refine pk_le (k + w) n (fun hkw => ?_) (fun hkw => ?_) rfl rfl (by omega) (by omega)
    · refine br_f (fun z => by have := (nI_eq (a := w) (b := 1) (by omega) (by decide)).mp z; omega) ?_
      have el : nI b &&& (255 >>> ((nI w + 1) &&& 31)) = nI v0 := by
        rcases hw with ⟨rfl, a, c, ev⟩ | ⟨rfl, a, c, ev⟩ | ⟨rfl, a, c, ev⟩
        · rw [(lead2 b hb).2]; congr 1; omega
        · rw [(lead3 b hb).2]; congr 1; omega
        · rw [(lead4 b hb).2]; congr 1; omega
      rw [el]
      refine r_loop (w := w) hw4.2 (hT.df (D (nI w)) (by decide)) hkw rfl (w - 1) 1 (nI v0) (by omega) (fun c hc => ?_) (fun hc => ?_)
      · obtain ⟨v, rfl, _, hv⟩ := u8r_w (by omega) hc
        rw [hc] at hu
        refine r_end hv rfl (fun hg => ?_) (fun hg => ?_)
        · obtain ⟨y1, y2⟩ := u8f_yes hv hg
          rw [y1] at hu
          have := h1 (ms_width τ (nI w)) (D _) (by rw [hu]; exact nI_m1 (by omega)) (by rw [hu, y2]; rfl)
          rw [hu] at this
          exact this
        · rw [u8f_no hv hg] at hu
          exact h0 hu _ (D _)
      · rw [hc] at hu
        exact h0 hu _ (D _)
    · refine h0 ?_ _ (D _)
      rw [hu]
      cases hc : u8r t n (w - 1) (k + 1) (nI v0) with
      | none => rfl
      | some c => rcases u8r_some _ _ _ _ hc with a | a <;> omega
  unfold w_M_characterAt
  refine ⟨vp_in_nI (by omega) (by decide), ?_⟩
  rw [eg]
  refine pk_le 128 b (fun b1 => ?_) (fun b1 => ?_) rfl rfl (by decide) (by omega)
  · refine pk_le 194 b (fun b2 => ?_) (fun b2 => bad ?_) rfl rfl (by decide) (by omega)
    · refine pk_le 224 b (fun b3 => ?_) (fun b3 => multi 2 (b - 192) (by omega)) rfl rfl (by decide) (by omega)
      refine pk_le 240 b (fun b4 => ?_) (fun b4 => multi 3 (b - 224) (by omega)) rfl rfl (by decide) (by omega)
      refine pk_le 245 b (fun b5 => bad ?_) (fun b5 => multi 4 (b - 240) (by omega)) rfl rfl (by decide) (by omega)
      by_cases b6 : b < 248
      · rw [u8_multi (w := 4) (v0 := b - 240) ex hb (by omega)]
        cases hc : u8r t n (4 - 1) (k + 1) (nI (b - 240)) with
        | none => rfl
        | some c =>
          obtain ⟨v, rfl, hl, hv⟩ := u8r_w (w := 4) (by omega) hc
          exact u8f_no hv (fun z => by have := z.2.1; omega)
      · unfold u8
        rw [ex, if_pos (show (128 : Int32) ≤ nI b from nI_le (a := 128) (by omega) (by omega)), if_neg (show ¬ nI b < 192 from nI_nlt (b := 192) (by omega) (by omega)), if_neg (show ¬ nI b < 248 from nI_nlt (b := 248) (by omega) (by omega))]
    · by_cases b6 : b < 192
      · unfold u8
        rw [ex, if_pos (show (128 : Int32) ≤ nI b from nI_le (a := 128) (by omega) (by omega)), if_pos (show nI b < 192 from nI_lt (b := 192) b6 (by decide))]
      · rw [u8_multi (w := 2) (v0 := b - 192) ex hb (by omega)]
        cases hc : u8r t n (2 - 1) (k + 1) (nI (b - 192)) with
        | none => rfl
        | some c =>
          obtain ⟨v, rfl, hl, hr⟩ := u8r_val 1 (k + 1) (b - 192) c (by omega) hc
          refine u8f_no (Or.inl ⟨rfl, by omega⟩) (fun z => ?_)
          have z1 : 128 ≤ v := z.1
          omega
  · have hu : u8 t n k = nI b := by unfold u8; rw [ex, if_neg (show ¬ (128 : Int32) ≤ nI b from nI_ge (b := 128) b1 (by decide))]
    unfold w_M_characterAt_J71
    refine fa_eq ?_
    rw [show mp_width (ms_width τ 1) = 1 from rfl]
    refine br_f (by decide) (br_t (by rw [nI_1]; exact nI_le (by omega) (by omega)) (br_t rfl ?_))
    unfold w_M_characterAt_J119
    refine ⟨1, ?_⟩
    unfold w_M_characterAt_L124
    rw [show mp_width (ms_width τ 1) = 1 from rfl]
    refine br_t (by decide) (br_t rfl ?_)
    refine r_J223 (by omega) (fun _ => ?_) (fun z => absurd ⟨by omega, Or.inl (by omega)⟩ z)
    have := h1 (ms_width τ 1) (D _) (by rw [hu]; exact nI_m1 (by omega)) (by rw [hu, cByN_nI (by omega), if_pos b1]; rfl)
    rw [hu] at this
    exact this
theorem u8_pos (hb : Byt t n) (h : ¬ u8 t n k = -1) : ¬ u8 t n k < 0 := by
  by_cases hk : k < n
  · obtain ⟨b, hb, ex⟩ := hb.xx hk
    by_cases h1 : b < 128
    · have hu : u8 t n k = nI b := by unfold u8; rw [ex, if_neg (show ¬ (128 : Int32) ≤ nI b from nI_ge (b := 128) h1 (by decide))]
      rw [hu]; exact nI_pos (by omega)
    · unfold u8 at h ⊢
      rw [ex] at h ⊢
      rw [if_pos (show (128 : Int32) ≤ nI b from nI_le (a := 128) (by omega) (by omega))] at h ⊢
      by_cases h2 : nI b < 192
      · rw [if_pos h2] at h; exact absurd rfl h
      rw [if_neg h2] at h ⊢
      by_cases h3 : nI b < 248
      · rw [if_pos h3] at h ⊢
        unfold u8f at h ⊢
        split at h
        · exact absurd rfl h
        · rename_i c hc
          by_cases h4 : cCh c = true ∧ cBy c = nI (u8w (nI b))
          · rw [if_pos h4]
            have h5 := h4.1
            unfold cCh at h5
            simp only [Bool.and_eq_true, decide_eq_true_eq] at h5
            exact i_nlt.mpr h5.1.1
          · rw [if_neg h4] at h; exact absurd rfl h
      · rw [if_neg h3] at h; exact absurd rfl h
  · exfalso
    apply h
    unfold u8
    rw [xx_out (by omega)]
    rfl
theorem u8_cCh (hb : Byt t n) (hk : k < n) (h : ¬ u8 t n k = -1) : cCh (u8 t n k) = true := by
  obtain ⟨b, hb, ex⟩ := hb.xx hk
  by_cases h1 : b < 128
  · have hu : u8 t n k = nI b := by unfold u8; rw [ex, if_neg (show ¬ (128 : Int32) ≤ nI b from nI_ge (b := 128) h1 (by decide))]
    rw [hu]; exact (cCh_nI (by omega)).mpr ⟨by omega, by omega⟩
  · unfold u8 at h ⊢
    rw [ex] at h ⊢
    rw [if_pos (show (128 : Int32) ≤ nI b from nI_le (a := 128) (by omega) (by omega))] at h ⊢
    by_cases h2 : nI b < 192
    · rw [if_pos h2] at h; exact absurd rfl h
    rw [if_neg h2] at h ⊢
    by_cases h3 : nI b < 248
    · rw [if_pos h3] at h ⊢
      unfold u8f at h ⊢
      split at h
      · exact absurd rfl h
      · rename_i c hc
        by_cases h4 : cCh c = true ∧ cBy c = nI (u8w (nI b))
        · rw [if_pos h4]; exact h4.1
        · rw [if_neg h4] at h; exact absurd rfl h
    · rw [if_neg h3] at h; exact absurd rfl h
end M8
