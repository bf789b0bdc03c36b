/-! PURE: depths are bounded; all between a node and what it holds is deeper. -/
def Gx (S : GS) : Prop := (∀ k, k < S.K → S.el k = true → S.dp k ≤ 40) ∧ (∀ j u, j < S.K → u < S.K → S.up j = nI u → ∀ i, u < i → i ≤ j → S.dp u < S.dp i)
theorem Gx.d4 {S : GS} (h : Gx S) : ∀ k, k < S.K → S.el k = true → S.dp k ≤ 40 := h.1
theorem Gx.un {S : GS} (h : Gx S) : ∀ j u, j < S.K → u < S.K → S.up j = nI u → ∀ i, u < i → i ≤ j → S.dp u < S.dp i := h.2
section GX
variable {t : Nat → Int32} {n : Nat} {S S' : GS}
theorem gx0 {a : Nat} : Gx (G0 a) := by
  have hK : (G0 a).K = 0 := rfl
  exact ⟨fun k hk => by rw [hK] at hk; omega, fun j u hj => by rw [hK] at hj; omega⟩
theorem Gx.add (hI : Inv t n S) (hT : Gt t n S) (hX : Gx S) (e : Bool) (hK : S.K < 900) (h40 : e = true → S.op.length < 40) (hz : S.op = [] → S.K = 0) :
    (∀ k, k < S.K + 1 → va_up S.el S.K e k = true → va_up S.dp S.K (S.op.length + 1) k ≤ 40) ∧ (∀ j u, j < S.K + 1 → u < S.K + 1 → va_up S.up S.K (hd S.op) j = nI u → ∀ i, u < i → i ≤ j → va_up S.dp S.K (S.op.length + 1) u < va_up S.dp S.K (S.op.length + 1) i) := by
  refine ⟨fun k hk hel => ?_, fun j u hj hu hup i hi hij => ?_⟩
  · by_cases e1 : k = S.K
    · rw [e1, va_s]
      rw [e1, va_s] at hel
      have := h40 hel
      omega
    · rw [va_n e1] at hel ⊢
      exact hX.d4 k (by omega) hel
  · by_cases e1 : j = S.K
    · rw [e1, va_s] at hup
      cases hop : S.op with
      | nil => rw [hop] at hup; exact absurd hup.symm (nI_m1 (by omega))
      | cons v os =>
        rw [hop] at hup
        have hvK := hI.opn.lt v (by rw [hop]; exact List.mem_cons_self)
        have huv : v = u := (nI_eq (by omega) (by omega)).mp hup
        subst huv
        have hvd : S.dp v ≤ S.op.length := hI.opn.dp v (by rw [hop]; exact List.mem_cons_self)
        rw [va_n (show ¬ v = S.K by omega)]
        by_cases e2 : i = S.K
        · rw [e2, va_s, ← hop]; omega
        · rw [va_n e2]; exact hT.po v (by rw [hop]; exact List.mem_cons_self) i hi (by omega)
    · rw [va_n e1] at hup
      have huj : u < S.K := by
        rcases hT.up j (by omega) with q | ⟨w, q1, q2, _⟩
        · rw [q.1] at hup; exact absurd hup.symm (nI_m1 (by omega))
        · rw [q2] at hup
          have := (nI_eq (by omega) (by omega)).mp hup
          omega
      rw [va_n (show ¬ u = S.K by omega), va_n (show ¬ i = S.K by omega)]
      exact hX.un j u (by omega) huj hup i hi hij
theorem Gx.pcs (hI : Inv t n S) (hT : Gt t n S) (hX : Gx S) (hne : ¬ S.op = []) (hb : PC t n S (.inr S')) : Gx S' := by
  rcases hb with ⟨hit, h⟩ | ⟨hit, hx, hx1, h⟩ | ⟨_, _, _, _, h⟩ | ⟨hit, hx, hx1, hE, h40, h⟩ | ⟨hit, hx, h⟩
  · rcases h with ⟨k0, p, os0, hop, hw, hlt, hB, hA⟩ | ⟨p, hw, hx, rfl⟩ | ⟨k0, os0, p, hop, hw, hx, hx2, rfl⟩
    · obtain ⟨e, q, cs, hnm, hno, hx, hx2, hCh, hx3, rfl⟩ := hA
      simp only [Gx, addAt_K, addAt_el, addAt_bg, addAt_nl, addAt_en, addAt_cs, addAt_as, addAt_up, addAt_fs, addAt_nx, addAt_ls, addAt_pa, addAt_dp, addAt_op, addAt_at_, addAt_it, addAt_E, addAt_X, addAt_F]; exact ⟨hX.d4, hX.un⟩
    · simp only [Gx, tagEnd_K, tagEnd_el, tagEnd_bg, tagEnd_nl, tagEnd_en, tagEnd_cs, tagEnd_as, tagEnd_up, tagEnd_fs, tagEnd_nx, tagEnd_ls, tagEnd_pa, tagEnd_dp, tagEnd_op, tagEnd_at_, tagEnd_it, tagEnd_E, tagEnd_X, tagEnd_F]; exact ⟨hX.d4, hX.un⟩
    · simp only [Gx, shut_K, shut_el, shut_bg, shut_nl, shut_en, shut_cs, shut_as, shut_up, shut_fs, shut_nx, shut_ls, shut_pa, shut_dp, shut_op, shut_at_, shut_it, shut_E, shut_X, shut_F]; exact ⟨hX.d4, hX.un⟩
  · obtain ⟨k, os, e, p, hop, hnm, hs, hw, hx3, rfl⟩ := h
    simp only [Gx, shut_K, shut_el, shut_bg, shut_nl, shut_en, shut_cs, shut_as, shut_up, shut_fs, shut_nx, shut_ls, shut_pa, shut_dp, shut_op, shut_at_, shut_it, shut_E, shut_X, shut_F]; exact ⟨hX.d4, hX.un⟩
  · cases h
  · obtain ⟨e, hx, hnm, rfl⟩ := h
    have hK : S.K < 900 := by have := hI.k; have := hI.f; have := hI.x; omega
    simp only [Gx, addEl_K, addEl_el, addEl_bg, addEl_nl, addEl_en, addEl_cs, addEl_as, addEl_up, addEl_fs, addEl_nx, addEl_ls, addEl_pa, addEl_dp, addEl_op, addEl_at_, addEl_it, addEl_E, addEl_X, addEl_F]
    exact hX.add hI hT true hK (fun _ => h40) (fun z => absurd z hne)
  · obtain ⟨e, cs, hm, hCh, hst, rfl⟩ := h
    have hx1 := hI.x1 hne (Or.inr ⟨hx, hm⟩)
    have hK : S.K < 900 := by have := hI.k; have := hI.e; have := hI.f; omega
    simp only [Gx, addTx_K, addTx_el, addTx_bg, addTx_nl, addTx_en, addTx_cs, addTx_as, addTx_up, addTx_fs, addTx_nx, addTx_ls, addTx_pa, addTx_dp, addTx_op, addTx_at_, addTx_it, addTx_E, addTx_X, addTx_F]
    exact hX.add hI hT false hK (fun z => by cases z) (fun z => absurd z hne)
theorem RN.gx : ∀ (m : Nat) (S S' : GS), Inv t n S → Gd t n S → Gt t n S → Gx S → RN t n m S (.inr S') → Gx S'
  | 0, S, S', hI, hG, hT, hX, h => by
    rcases h with ⟨a, h⟩ | ⟨_, p, _, h⟩
    · cases h; exact hX
    · cases h
  | m + 1, S, S', hI, hG, hT, hX, h => by
    obtain ⟨hne, S1, hP, hR⟩ := h
    exact RN.gx m S1 S' (hI.pc hne hP).1 (hG.pc hI hP) (hT.pcs hI hG hne hP) (hX.pcs hI hT hne hP) hR
theorem RD.gx {S : GS} (hn : n ≤ 4000) (h : RD t n (.inr S)) : Gx S := by
  obtain ⟨a, hBg, S1, hB, m, hR, _⟩ := h
  have han : a ≤ n := by
    have hx : xx t n a = 60 := by
      obtain ⟨e, hx, _⟩ := hB
      exact hx
    have := xx_lt' hx (by decide)
    omega
  have hI := inv0 (t := t) han hn
  have hB' := hB
  obtain ⟨e, hx, hnm, rfl⟩ := hB'
  refine RN.gx m _ S (hI.be (by show 0 < 300; decide) (by show 0 < 40; decide) hB).1 (Gd.be hI gd0 rfl hB) (Gt.be hI gt0 (fun _ => rfl) (by show 0 < 300; decide) hB) ?_ hR
  simp only [Gx, addEl_K, addEl_el, addEl_bg, addEl_nl, addEl_en, addEl_cs, addEl_as, addEl_up, addEl_fs, addEl_nx, addEl_ls, addEl_pa, addEl_dp, addEl_op, addEl_at_, addEl_it, addEl_E, addEl_X, addEl_F]
  exact gx0.add hI gt0 true (by show 0 < 900; decide) (fun _ => by show 0 < 40; decide) (fun _ => rfl)
end GX
section RG
variable {t : Nat → Int32} {n : Nat} {σ : PPS} {τ : MPS} {S : GS} {g a : Nat → Nat → Int32} {ls : List Int32} {A : Nat}
theorem KN.gx (h : KN σ τ t n S g a ls A) : Gx S := h.rd.gx h.inv.n4
/-- where a node ends -/
theorem KN.past (h : KN σ τ t n S g a ls A) {k : Nat} (hk : k < S.K) : ∃ q, S.pa k = nI q ∧ k < q ∧ q ≤ S.K ∧ (∀ j, k < j → j < q → S.dp k < S.dp j) ∧ (q < S.K → S.dp q ≤ S.dp k) := by
  obtain ⟨q, h1, h2, h3, h4, h5, _⟩ := h.gt.pc k hk (by rw [h.rd.op]; exact List.not_mem_nil)
  exact ⟨q, h1, h2, h3, h4, h5⟩
/-- what a node holds lies ahead of its end -/
theorem KN.inside (h : KN σ τ t n S g a ls A) {k j q : Nat} (hk : k < S.K) (hj : j < S.K) (hup : S.up j = nI k) (h2 : k < q) (h5 : q < S.K → S.dp q ≤ S.dp k) : k < j ∧ j < q := by
  have hK := h.K
  have hkj : k < j := by
    rcases h.gt.up j hj with z | ⟨u, z1, z2, _⟩
    · rw [z.1] at hup; exact absurd hup.symm (nI_m1 (by omega))
    · rw [z2] at hup
      have := (nI_eq (by omega) (by omega)).mp hup
      omega
  refine ⟨hkj, ?_⟩
  by_cases hjq : j < q
  · exact hjq
  · have := h.gx.un j k hj hk hup q h2 (by omega)
    have := h5 (by omega)
    omega
end RG
