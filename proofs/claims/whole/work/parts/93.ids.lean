/-! PURE: the reference decodes its tape, finds attributes by name, takes values, looks for ids. -/
/-- the reference's tape is t -/
def MTt (τ : MPS) (t : Nat → Int32) (n : Nat) : Prop := mp_taped τ = nI n ∧ n ≤ 4000 ∧ ∀ k, k < n → ∃ b : Nat, b < 256 ∧ t k = nI b ∧ mp_tape τ k = (nI b).toInt8.toInt32
theorem MTt.df {L : List Nat} {τ τ' : MPS} {t : Nat → Int32} {n : Nat} (h : MTt τ t n) (d : Df L τ τ') (h6 : ¬ 6 ∈ L) : MTt τ' t n := by
  refine ⟨(d.i 6 h6).trans h.1, h.2.1, fun k hk => ?_⟩
  obtain ⟨b, h1, h2, h3⟩ := h.2.2 k hk
  refine ⟨b, h1, h2, ?_⟩
  rw [show mp_tape τ' = mp_tape τ from congrFun d.1 1]; exact h3
theorem MTt.byt {τ : MPS} {t : Nat → Int32} {n : Nat} (h : MTt τ t n) : Byt t n := fun k hk => by
  obtain ⟨b, h1, h2, _⟩ := h.2.2 k hk
  exact ⟨b, h1, h2⟩
section MT8
variable {t : Nat → Int32} {n k : Nat} {τ : MPS}
theorem rt_J223 {v : Nat} (hv : v < 2 ^ 31) {post : Int32 → MPS → Prop} (h1 : v ≤ 1114111 ∧ (v < 55296 ∨ 57343 < v) → post (nI v) τ) (h0 : ¬ (v ≤ 1114111 ∧ (v < 55296 ∨ 57343 < v)) → post (-1) τ) : w_M_characterAt_t_J218 post (nI v) τ := by
  unfold w_M_characterAt_t_J218 w_M_characterAt_t_J223 w_M_characterAt_t_J251
  refine br_f (by decide) (pk_lt 1114111 v (fun a => h0 (fun z => by omega)) (fun a => ?_) rfl rfl (by decide) hv)
  refine pk_lt v 55296 (fun b => h1 ⟨a, Or.inl b⟩) (fun b => ?_) rfl rfl hv (by decide)
  exact pk_le v 57343 (fun c => h0 (fun z => by omega)) (fun c => h1 ⟨a, Or.inr c⟩) rfl rfl hv (by decide)
theorem rt_end {w v : Nat} (hw : (w = 2 ∧ v < 2048) ∨ (w = 3 ∧ v < 65536) ∨ (w = 4 ∧ v < 2097152)) (hwd : mp_width τ = nI w) {post : Int32 → MPS → Prop} (h1 : goodV w v → post (nI v) τ) (h0 : ¬ goodV w v → post (-1) τ) :
    (((mp_width τ) = 1 → w_M_characterAt_t_J218 post (nI v) τ) ∧ (¬ (mp_width τ) = 1 → (((mp_width τ) = 2 → w_M_characterAt_t_J215 post (nI v) 128 (nI v) τ) ∧ (¬ (mp_width τ) = 2 → (((mp_width τ) = 3 → w_M_characterAt_t_J215 post (nI v) 2048 (nI v) τ) ∧ (¬ (mp_width τ) = 3 → w_M_characterAt_t_J215 post (nI v) 65536 (nI v) τ)))))) := by
  have hv : v < 2 ^ 31 := by omega
  have J : ∀ m : Nat, m < 2 ^ 31 → minW w = m → w_M_characterAt_t_J215 post (nI v) (nI m) (nI v) τ := fun m hm e => by
    unfold w_M_characterAt_t_J215
    refine pk_lt v m (fun a => ?_) (fun a => ?_) rfl rfl hv hm
    · unfold w_M_characterAt_t_J223
      exact br_t rfl (h0 (fun z => by have := z.1; omega))
    · exact rt_J223 hv (fun z => h1 ⟨by omega, z⟩) (fun z => h0 (fun y => z y.2))
  rw [hwd]
  rcases hw with ⟨rfl, h⟩ | ⟨rfl, h⟩ | ⟨rfl, h⟩
  · exact br_f (by decide) (br_t (by decide) (J 128 (by decide) rfl))
  · exact br_f (by decide) (br_f (by decide) (br_t (by decide) (J 2048 (by decide) rfl)))
  · exact br_f (by decide) (br_f (by decide) (br_f (by decide) (J 65536 (by decide) rfl)))
theorem rt_loop {w : Nat} (hw : w ≤ 4) (hT : MTt τ t n) (hkw : k + w ≤ n) (hwd : mp_width τ = nI w) {post : Int32 → MPS → Prop} : ∀ m i c, i + m = w →
    (∀ c', u8r t n m (k + i) c = some c' → (((mp_width τ) = 1 → w_M_characterAt_t_J218 post c' τ) ∧ (¬ (mp_width τ) = 1 → (((mp_width τ) = 2 → w_M_characterAt_t_J215 post c' 128 c' τ) ∧ (¬ (mp_width τ) = 2 → (((mp_width τ) = 3 → w_M_characterAt_t_J215 post c' 2048 c' τ) ∧ (¬ (mp_width τ) = 3 → w_M_characterAt_t_J215 post c' 65536 c' τ))))))) →
    (u8r t n m (k + i) c = none → post (-1) τ) → ∃ f, w_M_characterAt_t_L124 (nI k) post f c (nI i) τ := by
  have hn := hT.2.1
  intro m
  induction m with
  | zero =>
    intro i c h h1 h0
    refine ⟨1, ?_⟩
    unfold w_M_characterAt_t_L124
    refine br_t (by rw [hwd]; exact nI_le (by omega) (by omega)) ?_
    exact h1 c rfl
  | succ m ih =>
    intro i c h h1 h0
    obtain ⟨d, hd, e1, e2⟩ := hT.2.2 (k + i) (by omega)
    have eg : (mp_tape τ) (nI k + nI i).toNatClampNeg &&& 255 = nI d := by
      rw [nI_add, nI_clamp (by omega), e2]; exact sc_k8 d hd
    have ex : xx t n (k + i) = nI d := by rw [xx_in (by omega)]; exact e1
    unfold u8r at h1 h0
    rw [ex] at h1 h0
    by_cases hc : (nI d &&& 192) = 128
    · rw [if_pos hc] at h1 h0
      obtain ⟨f, hf⟩ := ih (i + 1) ((c <<< (6 &&& 31)) ||| (nI d &&& 63)) (by omega) (by rw [show k + (i + 1) = k + i + 1 from by omega]; exact h1) (by rw [show k + (i + 1) = k + i + 1 from by omega]; exact h0)
      refine ⟨f + 1, ?_⟩
      unfold w_M_characterAt_t_L124
      refine br_f (by rw [hwd]; exact nI_ge (by omega) (by omega)) ⟨by rw [nI_add]; exact vp_in_nI (by omega) (by decide), ?_⟩
      rw [eg, nI_1]
      exact br_t ((cont6 d hd).mpr hc) hf
    · rw [if_neg hc] at h0
      refine ⟨1, ?_⟩
      unfold w_M_characterAt_t_L124
      refine br_f (by rw [hwd]; exact nI_ge (by omega) (by omega)) ⟨by rw [nI_add]; exact vp_in_nI (by omega) (by decide), ?_⟩
      rw [eg]
      exact br_f (fun z => hc ((cont6 d hd).mp z)) (h0 rfl)
theorem rt_characterAt (hT : MTt τ t n) (hk : k < n) {post : Int32 → MPS → Prop} (h1 : ∀ τ', Df [12] τ τ' → ¬ u8 t n k = -1 → mp_width τ' = nI (cByN (u8 t n k)) → post (u8 t n k) τ') (h0 : u8 t n k = -1 → ∀ τ', Df [12] τ τ' → post (-1) τ') : w_M_characterAt_t τ (nI k) (nI n) post := by
  have hn := hT.2.1
  obtain ⟨b, hb, e1, e2⟩ := hT.2.2 k hk
  have eg : (mp_tape τ) (nI k).toNatClampNeg &&& 255 = nI b := by rw [nI_clamp (by omega), e2]; exact sc_k8 b hb
  have ex : xx t n k = nI b := by rw [xx_in hk]; exact e1
  have D : ∀ v, Df [12] τ (ms_width τ v) := fun v => Df.set τ (by decide)
  have bad : u8 t n k = -1 → w_M_characterAt_t_J71 post (nI k) (nI n) (nI b) 0 τ := fun e => fa_eq (br_t rfl (h0 e _ (D 0)))
  have multi : ∀ w v0, (w = 2 ∧ 192 ≤ b ∧ b < 224 ∧ v0 = b - 192) ∨ (w = 3 ∧ 224 ≤ b ∧ b < 240 ∧ v0 = b - 224) ∨ (w = 4 ∧ 240 ≤ b ∧ b < 248 ∧ v0 = b - 240) → w_M_characterAt_t_J71 post (nI k) (nI n) (nI b) (nI w) τ := fun w v0 hw => by
    have hu := u8_multi ex hb hw
    have hw4 : 2 ≤ w ∧ w ≤ 4 := by omega
    refine fa_eq ?_
    have ew : mp_width (ms_width τ (nI w)) = nI w := rfl
    rw [ew]
    refine br_f (nI_ne0 (by omega) (by omega)) ?_
    rw [nI_add]
    refine pk_le (k + w) n (fun hkw => ?_) (fun hkw => ?_) rfl rfl (by omega) (by omega)
    · refine br_f (fun z => by have := (nI_eq (a := w) (b := 1) (by omega) (by decide)).mp z; omega) ?_
      have el : nI b &&& (255 >>> ((nI w + 1) &&& 31)) = nI v0 := by
        rcases hw with ⟨rfl, a, c, ev⟩ | ⟨rfl, a, c, ev⟩ | ⟨rfl, a, c, ev⟩
        · rw [(lead2 b hb).2]; congr 1; omega
        · rw [(lead3 b hb).2]; congr 1; omega
        · rw [(lead4 b hb).2]; congr 1; omega
      rw [el]
      refine rt_loop (w := w) hw4.2 (hT.df (D (nI w)) (by decide)) hkw rfl (w - 1) 1 (nI v0) (by omega) (fun c hc => ?_) (fun hc => ?_)
      · obtain ⟨v, rfl, _, hv⟩ := u8r_w (by omega) hc
        rw [hc] at hu
        refine rt_end hv rfl (fun hg => ?_) (fun hg => ?_)
        · obtain ⟨y1, y2⟩ := u8f_yes hv hg
          rw [y1] at hu
          have := h1 (ms_width τ (nI w)) (D _) (by rw [hu]; exact nI_m1 (by omega)) (by rw [hu, y2]; rfl)
          rw [hu] at this
          exact this
        · rw [u8f_no hv hg] at hu
          exact h0 hu _ (D _)
      · rw [hc] at hu
        exact h0 hu _ (D _)
    · refine h0 ?_ _ (D _)
      rw [hu]
      cases hc : u8r t n (w - 1) (k + 1) (nI v0) with
      | none => rfl
      | some c => rcases u8r_some _ _ _ _ hc with a | a <;> omega
  unfold w_M_characterAt_t
  refine ⟨vp_in_nI (by omega) (by decide), ?_⟩
  rw [eg]
  refine pk_le 128 b (fun b1 => ?_) (fun b1 => ?_) rfl rfl (by decide) (by omega)
  · refine pk_le 194 b (fun b2 => ?_) (fun b2 => bad ?_) rfl rfl (by decide) (by omega)
    · refine pk_le 224 b (fun b3 => ?_) (fun b3 => multi 2 (b - 192) (by omega)) rfl rfl (by decide) (by omega)
      refine pk_le 240 b (fun b4 => ?_) (fun b4 => multi 3 (b - 224) (by omega)) rfl rfl (by decide) (by omega)
      refine pk_le 245 b (fun b5 => bad ?_) (fun b5 => multi 4 (b - 240) (by omega)) rfl rfl (by decide) (by omega)
      by_cases b6 : b < 248
      · rw [u8_multi (w := 4) (v0 := b - 240) ex hb (by omega)]
        cases hc : u8r t n (4 - 1) (k + 1) (nI (b - 240)) with
        | none => rfl
        | some c =>
          obtain ⟨v, rfl, hl, hv⟩ := u8r_w (w := 4) (by omega) hc
          exact u8f_no hv (fun z => by have := z.2.1; omega)
      · unfold u8
        rw [ex, if_pos (show (128 : Int32) ≤ nI b from nI_le (a := 128) (by omega) (by omega)), if_neg (show ¬ nI b < 192 from nI_nlt (b := 192) (by omega) (by omega)), if_neg (show ¬ nI b < 248 from nI_nlt (b := 248) (by omega) (by omega))]
    · by_cases b6 : b < 192
      · unfold u8
        rw [ex, if_pos (show (128 : Int32) ≤ nI b from nI_le (a := 128) (by omega) (by omega)), if_pos (show nI b < 192 from nI_lt (b := 192) b6 (by decide))]
      · rw [u8_multi (w := 2) (v0 := b - 192) ex hb (by omega)]
        cases hc : u8r t n (2 - 1) (k + 1) (nI (b - 192)) with
        | none => rfl
        | some c =>
          obtain ⟨v, rfl, hl, hr⟩ := u8r_val 1 (k + 1) (b - 192) c (by omega) hc
          refine u8f_no (Or.inl ⟨rfl, by omega⟩) (fun z => ?_)
          have z1 : 128 ≤ v := z.1
          omega
  · have hu : u8 t n k = nI b := by unfold u8; rw [ex, if_neg (show ¬ (128 : Int32) ≤ nI b from nI_ge (b := 128) b1 (by decide))]
    unfold w_M_characterAt_t_J71
    refine fa_eq ?_
    rw [show mp_width (ms_width τ 1) = 1 from rfl]
    refine br_f (by decide) (br_t (by rw [nI_1]; exact nI_le (by omega) (by omega)) (br_t rfl ?_))
    unfold w_M_characterAt_t_J119
    refine ⟨1, ?_⟩
    unfold w_M_characterAt_t_L124
    rw [show mp_width (ms_width τ 1) = 1 from rfl]
    refine br_t (by decide) (br_t rfl ?_)
    refine rt_J223 (by omega) (fun _ => ?_) (fun z => absurd ⟨by omega, Or.inl (by omega)⟩ z)
    have := h1 (ms_width τ 1) (D _) (by rw [hu]; exact nI_m1 (by omega)) (by rw [hu, cByN_nI (by omega), if_pos b1]; rfl)
    rw [hu] at this
    exact this
end MT8
section WI
variable {t : Nat → Int32} {n : Nat} {σ : PPS} {τ : MPS} {S : GS} {g a : Nat → Nat → Int32} {ls : List Int32} {A : Nat}
theorem seg_tx {word : Int64} {m x k l : Nat} (hx : x < 49) (hw : wEq word m x) : (l = m ∧ stAt t n k x = true) ↔ seg t n k l = tx x := by
  obtain ⟨t1, t2, t3⟩ := tx_ok x hx
  have hm : (tx x).length = m := t1.trans hw.1
  constructor
  · intro ⟨h1, h2⟩
    subst h1
    have h2 := of_decide_eq_true h2
    refine list_ext_getD (by rw [seg_len, hm]) (fun i hi => ?_)
    rw [seg_len] at hi
    rw [List.getD_eq_getElem?_getD, seg_get t n l k i hi, ← t3 i (by omega)]
    exact h2 i (by rw [hw.1]; exact hi)
  · intro h
    have hl : l = m := by rw [← hm, ← h, seg_len]
    refine ⟨hl, decide_eq_true (fun i hi => ?_)⟩
    rw [hw.1] at hi
    rw [t3 i (by omega), ← h, List.getD_eq_getElem?_getD, seg_get t n l k i (by omega)]; rfl
theorem r_hasAttribute_L {word : Int64} {m x q : Nat} (hx : x < 49) (hm8 : m ≤ 8) (hw : wEq word m x) : ∀ {as : List Att} {p : Nat} {τ1 : MPS}, MT τ1 t n → p ≤ n → AL t n p as q → NoA t n q n → ∀ {post : Int32 → MPS → Prop}, (∀ B τ', B ∈ as → seg t n B.na B.nl = tx x → Df [19, 20, 21, 22] τ1 τ' → Lat τ' B → post 1 τ') → ((∀ B ∈ as, ¬ seg t n B.na B.nl = tx x) → ∀ τ', Df [19, 20, 21, 22] τ1 τ' → post 0 τ') → w_M_hasAttribute_L15 word (nI m) post (as.length + 2) (nI p) 0 τ1
  | [], p, τ1, hT, hp, hl, hno, post, h1, h0 => by
    have hl : p = q := hl
    subst hl
    have hn := hT.2.1
    show w_M_hasAttribute_L15 word (nI m) post (1 + 1) (nI p) 0 τ1
    unfold w_M_hasAttribute_L15
    rw [hT.1]
    exact br_t rfl (r_next0 hT hp (by omega) hno (br_t rfl ⟨nar_0, h0 (fun B hB => by cases hB) τ1 (Df.refl τ1)⟩))
  | B :: as, p, τ1, hT, hp, hl, hno, post, h1, h0 => by
    have hn := hT.2.1
    have hB := hl.1
    have hle := hB.le
    show w_M_hasAttribute_L15 word (nI m) post ((as.length + 2) + 1) (nI p) 0 τ1
    unfold w_M_hasAttribute_L15
    rw [hT.1]
    refine br_t rfl (r_next1 hT hp (by omega) hB (by omega) (Chars.no34 hB.ch) (fun τ2 d2 f1 f2 f3 f4 => br_f (by decide) ?_))
    have hT2 := hT.df d2 (by decide)
    have cont : ¬ seg t n B.na B.nl = tx x → w_M_hasAttribute_J60 word (nI m) (w_M_hasAttribute_L15 word (nI m) post (as.length + 2)) post τ2 := fun hne => by
      unfold w_M_hasAttribute_J60 w_M_hasAttribute_J61
      rw [f4, nI_1]
      refine r_hasAttribute_L hx hm8 hw hT2 (by omega) hl.2 hno (fun C τ' hC hs d lat => h1 C τ' (List.mem_cons_of_mem _ hC) hs (d2.trans d) lat) (fun hall τ' d => h0 (fun C hC => ?_) τ' (d2.trans d))
      rcases List.mem_cons.mp hC with e | e
      · rw [e]; exact hne
      · exact hall C e
    rw [f1, f2]
    by_cases hlen : B.nl = m
    · refine br_t (by rw [hlen]) (r_says' hT2 (by omega) hm8 hw ?_)
      by_cases hs : stAt t n B.na x = true
      · refine bl_t hs ?_
        unfold w_M_hasAttribute_J61 w_M_hasAttribute_L15
        exact br_f (by decide) ⟨nar_1, h1 B τ2 List.mem_cons_self ((seg_tx hx hw).mp ⟨hlen, hs⟩) d2 ⟨f1, f2, f3, f4⟩⟩
      · exact bl_f (Bool.eq_false_iff.mpr hs) (cont (fun z => hs ((seg_tx hx hw).mpr z).2))
    · exact br_f (fun z => hlen ((nI_eq (by omega) (by omega)).mp z)) (cont (fun z => hlen ((seg_tx hx hw).mpr z).1))
theorem r_hasAttribute {word : Int64} {m x k : Nat} (hx : x < 49) (hm8 : m ≤ 8) (hw : wEq word m x) (h : KN σ τ t n S g a ls A) (hk : k < S.K) (he : S.el k = true) {post : Int32 → MPS → Prop}
    (h1 : ∀ B τ', B ∈ S.as k → seg t n B.na B.nl = tx x → Df [19, 20, 21, 22] τ τ' → Lat τ' B → post 1 τ') (h0 : (∀ B ∈ S.as k, ¬ seg t n B.na B.nl = tx x) → ∀ τ', Df [19, 20, 21, 22] τ τ' → post 0 τ') : w_M_hasAttribute τ (nI k) word (nI m) post := by
  have hK := h.K
  have hn := h.mt.2.1
  have hnm := h.gd.nm k hk he
  have hl := hnm.len
  obtain ⟨q, hal, hno⟩ := h.al hk he
  unfold w_M_hasAttribute
  refine ⟨h.in_ hk, ?_⟩
  rw [nI_clamp (by omega), (h.mb.2.2 k hk).bg]
  exact r_behindName h.mt (by omega) hnm.2.1 ⟨_, r_hasAttribute_L hx hm8 hw h.mt (by omega) hal hno h1 h0⟩
/-- a row of the reference's -/
def Row (c : Int32) (f : Nat → Int32) (L : List Int32) : Prop := c = nI L.length ∧ ∀ i, i < L.length → L[i]? = some (f i)
theorem Row.snoc {f : Nat → Int32} {L : List Int32} (h : ∀ i, i < L.length → L[i]? = some (f i)) (x : Int32) : ∀ i, i < (L ++ [x]).length → (L ++ [x])[i]? = some (upd f L.length x i) := by
  intro i hi
  simp only [List.length_append, List.length_cons, List.length_nil] at hi
  by_cases e : i = L.length
  · subst e; rw [upd_s]; simp
  · rw [List.getElem?_append_left (by omega), upd_n e]; exact h i (by omega)
/-- what taking a value, or looking for ids, may change -/
def Jw (τ τ' : MPS) : Prop := (∀ j, ¬ j ∈ [12, 19, 20, 21, 22, 35] → τ'.1 j = τ.1 j) ∧ ∀ j, ¬ j = 17 → τ'.2 j = τ.2 j
def Jv (τ τ' : MPS) : Prop := (∀ j, ¬ j ∈ [12, 35] → τ'.1 j = τ.1 j) ∧ ∀ j, ¬ j = 17 → τ'.2 j = τ.2 j
theorem Jw.refl (τ : MPS) : Jw τ τ := ⟨fun _ _ => rfl, fun _ _ => rfl⟩
theorem Jw.trans {a b c : MPS} (h : Jw a b) (h2 : Jw b c) : Jw a c := ⟨fun j hj => (h2.1 j hj).trans (h.1 j hj), fun j hj => (h2.2 j hj).trans (h.2 j hj)⟩
theorem Jw.js {τ τ' : MPS} (h : Jw τ τ') : Js τ τ' := ⟨fun j hj => h.1 j (fun z => hj (by
  unfold Lj
  simp only [List.mem_cons, List.not_mem_nil, or_false] at z ⊢
  omega)), fun j a _ => h.2 j a⟩
theorem Jv.jw {τ τ' : MPS} (h : Jv τ τ') : Jw τ τ' := ⟨fun j hj => h.1 j (fun z => hj (by
  rcases List.mem_cons.mp z with e | z
  · subst e; decide
  · rcases List.mem_cons.mp z with e | z
    · subst e; decide
    · cases z)), h.2⟩
theorem Df.jw {τ τ' : MPS} (h : Df [19, 20, 21, 22] τ τ') : Jw τ τ' := ⟨fun j hj => h.2 j (fun z => hj (by
  simp only [List.mem_cons, List.not_mem_nil, or_false] at z ⊢
  omega)), fun j _ => by rw [h.1]⟩
theorem r_takeValue {B : Att} {p : Nat} (hT : MT τ t n) (hA : AtP t n p B) (lat : Lat τ B) {post : MPS → Prop} (hq : ∀ τ', Jv τ τ' → Row (mp_valueMany τ') (mp_value τ') B.cs → post τ') : w_M_takeValue τ post := by
  have hn := hT.2.1
  have hle := hA.le
  obtain ⟨l1, l2, l3, l4⟩ := lat
  unfold w_M_takeValue
  refine fa_eq ?_
  have key : ∀ (L M : List Int32) (k : Nat) (τ1 : MPS), B.cs = M ++ L → Chars t n 34 k B.ve L → Jv τ τ1 → mp_valueMany τ1 = nI M.length → (∀ i, i < M.length → M[i]? = some (mp_value τ1 i)) → M.length + L.length ≤ 3999 → w_M_takeValue_L10 post (L.length + 1) (nI k) τ1 := by
    intro L
    induction L with
    | nil =>
      intro M k τ1 hM hC j1 hv hr hb
      have hC : k = B.ve := hC
      rw [List.append_nil] at hM
      have e22 : mp_valueEnd τ1 = nI B.ve := (j1.1 22 (by decide)).trans l4
      show w_M_takeValue_L10 post (0 + 1) (nI k) τ1
      unfold w_M_takeValue_L10
      rw [e22, hC]
      exact br_t (nI_le (Nat.le_refl _) (by omega)) (hq τ1 j1 (by rw [hM]; exact ⟨hv, hr⟩))
    | cons c L ih =>
      intro M k τ1 hM hC j1 hv hr hb
      obtain ⟨_, _, _, k', f, hC2⟩ := hC
      have hf := chf_some f
      have hcl := Chars.le hC2
      simp only [List.length_cons] at hb
      have e22 : mp_valueEnd τ1 = nI B.ve := (j1.1 22 (by decide)).trans l4
      have hT1 := hT.js j1.jw.js
      show w_M_takeValue_L10 post ((L.length + 1) + 1) (nI k) τ1
      unfold w_M_takeValue_L10
      rw [e22, hv]
      refine br_f (nI_ge (by omega) (by omega)) (r_characterOf hT1 (by omega) (fun c' e' τ2 hc d w => ⟨vp_in_nI (by omega) (by decide), fa_eq (fa_eq ?_)⟩) (fun hc => by rw [f] at hc; cases hc))
      rw [f] at hc
      cases hc
      have e35 : mp_valueMany τ2 = nI M.length := (d.i 35 (by decide)).trans hv
      rw [nI_clamp (by omega)]
      show w_M_takeValue_L10 post (L.length + 1) (nI k + mp_width τ2) (ms_valueMany (ms_value τ2 (upd (mp_value τ2) M.length c)) (mp_valueMany τ2 + 1))
      rw [w, e35, nI_1, nI_add, show k + (k' - k) = k' from by omega]
      have ev : mp_value τ2 = mp_value τ1 := congrFun d.1 17
      refine ih (M ++ [c]) k' _ (by rw [hM, List.append_assoc]; rfl) hC2 ⟨fun j hj => ?_, fun j hj => ?_⟩ (by rw [List.length_append]; rfl) ?_ (by rw [List.length_append]; simp only [List.length_cons, List.length_nil]; omega)
      · show va_up τ2.1 35 _ j = _
        have h35 : ¬ j = 35 := fun z => hj (by rw [z]; decide)
        have h12 : ¬ j ∈ [12] := fun z => hj (by rw [List.mem_singleton.mp z]; decide)
        rw [va_n h35]; exact (d.2 j h12).trans (j1.1 j hj)
      · show va_up τ2.2 17 _ j = _
        rw [va_n hj]; exact (congrFun d.1 j).trans (j1.2 j hj)
      · show ∀ i, i < (M ++ [c]).length → (M ++ [c])[i]? = some (upd (mp_value τ2) M.length c i)
        rw [ev]; exact Row.snoc hr c
  have hcl := Chars.le hA.ch
  rw [show mp_valueAt (ms_valueMany τ 0) = nI (B.na + B.nl + 2) from l3]
  exact ⟨_, key B.cs [] _ _ rfl hA.ch ⟨fun j hj => va_up_ne τ.1 _ (fun z => hj (by rw [z]; decide)), fun j _ => rfl⟩ rfl (fun i hi => absurd hi (Nat.not_lt_zero i)) (by simp only [List.length_nil]; omega)⟩
end WI
