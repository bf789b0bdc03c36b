/-! The start: the machine's tables, the two objects, the array; then the loop. -/
theorem tb_in {w : Cond} {i : Nat} (h : tables_1[i]? = some w) : w ∈ lw_tbl := by
  show w ∈ k2_sels lw_privs ++ tables_1
  exact List.mem_append_right _ (List.mem_of_getElem? h)
/-- texts, as the Statement gives them -/
theorem tS_of {args : Array Value} {s : State} {A : Nat → Prop} (hg : ∀ w ∈ NL, w.before args s = true) (hA : ∀ a : Nat, a < s.heap.size → ¬ A a) : ∃ adK adV : Nat → Nat, tS adK adV A s s.heap ∧ ∀ i : Nat, i < 49 → (tmS i).eval args s none [] s = some (.ref (adK i)) := by
  have hN : ∀ i, i < 49 → tLn.getD i 0 < 2 ^ 31 := by decide +kernel
  have h0 : ∀ i : Nat, ∃ q : Nat × Nat, i < 49 → (tmS i).eval args s none [] s = some (.ref q.1) ∧ va_O "java/lang/String" q.1 A s s.heap ∧ va_OF "java/lang/String" "coder" "B" (.int 0) q.1 A s s.heap ∧ va_OF "java/lang/String" "value" "[B" (.ref q.2) q.1 A s s.heap ∧ va_T .byte q.2 (tLn.getD i 0) (fun j => .int ((tBy.getD i []).getD j 0)) A s s.heap := by
    intro i
    by_cases hi : i < 49
    · obtain ⟨a, c, cA, kA, q1, q2, q3, q4, q5, q6, -⟩ := Cond.exactly_spec (args := args) (first := s) (o := none) (s := s) (idx := []) (t := tmS i) (cls := "java/lang/String") (hg _ (List.mem_of_getElem? (q_ex i hi)))
      obtain ⟨t, ht, hT⟩ := va_Tof (f := fun j => .int ((tBy.getD i []).getD j 0)) (A := A) (hN i hi) (hg _ (List.mem_of_getElem? (q_ar i hi))) (va_eqt (hg _ (List.mem_of_getElem? (q_ln i hi)))) (fun j hj => va_eqt (hg _ (List.mem_of_getElem? (q_el i hi j hj)))) hA
      exact ⟨(a, t), fun _ => ⟨q1, ⟨cA, q3, q5, by rw [q6]; exact q2, hA a (Array.getElem?_eq_some_iff.mp q3).1⟩, vk_OFof q1 (va_eqt (hg _ (List.mem_of_getElem? (q_co i hi)))) hA, vk_OFof q1 ht hA, hT⟩⟩
    · exact ⟨(0, 0), fun h => absurd h hi⟩
  obtain ⟨ad, had⟩ := Classical.axiomOfChoice h0
  exact ⟨fun i => (ad i).1, fun i => (ad i).2, fun i hi => (had i hi).2, fun i hi => (had i hi).1⟩
set_option maxRecDepth 100000 in
theorem st_CST {args : Array Value} {s : State} (hts : ∀ w ∈ lw_tbl, w.before args s = true) (hg : ∀ w ∈ NL, w.before args s = true) : ∃ (aE aK aV : Nat → Nat) (aT : Nat), ∀ (D : va_G) (u : Nat → Nat) (cI : ClassId), CST (D, u, cI, aE, aK, aV, aT) (fun q => s.heap.size ≤ q) s s.heap := by
  have hA : ∀ a : Nat, a < s.heap.size → ¬ (s.heap.size ≤ a) := fun a h => Nat.not_le.mpr h
  obtain ⟨aK, aV, hS, hev⟩ := tS_of (A := fun q => s.heap.size ≤ q) hg hA
  have hlen : kNm.length = 23 := rfl
  obtain ⟨aE, hEn, hevK⟩ := va_Enof2 (args := args) (s := s) (E := "PlainPages$Kind") (d := "LPlainPages$Kind;") (nm := kNm) (F := kF) (A := fun q => s.heap.size ≤ q)
    (fun i hi => hts _ (tb_in (q_ks i (hlen ▸ hi)))) (hts _ (tb_in w_ik)) (fun i hi => hg _ (List.mem_of_getElem? (q_kx i (hlen ▸ hi))))
    (fun q hq i hi => by
      obtain ⟨f, hf, e⟩ := List.getElem_of_mem hq
      have hf4 : f < 4 := hf
      have h := hg _ (List.mem_of_getElem? (q_kf f hf4 i (hlen ▸ hi)))
      have e2 : kF.getD f ("", "", "", []) = q := by rw [List.getD_eq_getElem?_getD, List.getElem?_eq_getElem hf, e]; rfl
      rw [e2] at h
      exact h)
    (fun i j hi hj hne => by
      rcases q_kd i (hlen ▸ hi) j (hlen ▸ hj) with h | h | h
      · exact absurd h hne
      · exact Or.inl (hg _ (List.mem_of_getElem? h))
      · exact Or.inr (hg _ (List.mem_of_getElem? h))) hA
  have hevK : ∀ i, i < 23 → (tmK i).eval args s none [] s = some (.ref (aE i)) := fun i hi => hevK i (hlen ▸ hi)
  have hla : ∀ i, i < 23 → kLa.getD i 0 < 49 := by decide +kernel
  have hEf : va_Ef 23 "PlainPages$Kind" "label" "Ljava/lang/String;" (fun i => .ref (aK (kLa.getD i 0))) aE (fun q => s.heap.size ≤ q) s s.heap :=
    va_Efof (tm := fun i => tmS (kLa.getD i 0)) (E := "PlainPages$Kind") (d0 := "LPlainPages$Kind;") (nm := kNm) hevK (fun i hi => hg _ (List.mem_of_getElem? (q_kl i hi))) (fun i hi => hev _ (hla i hi)) hA
  obtain ⟨aT, hT1, hT2⟩ := va_Tof (args := args) (s := s) (tm := .static "PlainPages" "KINDS" "[LPlainPages$Kind;") (ty := .object "PlainPages$Kind") (N := 23) (f := fun j => .ref (aE j)) (A := fun q => s.heap.size ≤ q) (by decide) (hg _ (List.mem_of_getElem? q_ka)) (va_eqt (hg _ (List.mem_of_getElem? q_kn))) (fun j hj => va_eqv (hg _ (List.mem_of_getElem? (q_ke j hj))) (hevK j hj)) hA
  have hfm : ∃ r : Option Nat, va_Z "jdk/internal/util/Preconditions" "SIOOBE_FORMATTER" "Ljava/util/function/BiFunction;" (va_rf r) (fun q => s.heap.size ≤ q) s s.heap := by
    rcases va_Zqof (A := fun q => s.heap.size ≤ q) (hts _ (tb_in w_ls)) (hts _ (tb_in w_ip)) (hg _ (List.mem_of_getElem? q_si)) hA with h | ⟨t, h⟩
    · exact ⟨none, h⟩
    · exact ⟨some t, h⟩
  refine ⟨aE, aK, aV, aT, fun D u cI => ⟨hEn, hEf, va_Zref (hts _ (tb_in w_lk)) (hts _ (tb_in w_ix)) hT1 hA, hT2, hS, va_Zof (hts _ (tb_in w_lc)) (hts _ (tb_in w_is)) (va_eqt (hg _ (List.mem_of_getElem? q_cs))) hA, fun i hi => vk_R.of (hts _ (tb_in (q_sr i hi))) (hev i hi), va_Nw.of rfl (hts _ (tb_in w_n1)), va_Nw.of rfl (hts _ (tb_in w_n2)), va_Nw.of rfl (hts _ (tb_in w_n3)), va_Nw.of rfl (hts _ (tb_in w_n4)), hfm⟩⟩
theorem va_Yof {args : Array Value} {s : State} {C n d : String} {A : Nat → Prop} (hl : (Cond.laysStatic C n d).before args s = true) (h : (Cond.isRef (.static C n d)).before args s = true) (hA : ∀ a : Nat, a < s.heap.size → ¬ A a) : ∃ r : Option Nat, va_Y C n d (va_rf r) A s s.heap := by
  have key : ∀ v, (Term.static C n d).eval args s none [] s = some v → va_Y C n d v A s s.heap := fun v hv => by
    obtain ⟨c, k, i, f, a, cell, hc, hi, hst, ha, hcell, hs, hcls, hlt, hty⟩ := Cond.laysStatic_spec hl
    obtain ⟨hst', a', cell', ha', hcell', -, hslot⟩ := Term.static_spec hi hv
    cases ha.symm.trans ha'
    cases hcell.symm.trans hcell'
    exact ⟨c, k, i, f, a, cell, hc, hi, hst, ha, hty, hcell, hs, hcls, hslot, hA a (Array.getElem?_eq_some_iff.mp hcell).1⟩
  cases hv : (Term.static C n d).eval args s none [] s with
  | none => simp [Cond.before, Cond.holds, Cond.value, hv] at h
  | some w =>
    simp only [Cond.before, Cond.holds, Cond.value, hv] at h
    cases w with
    | null => exact ⟨none, key _ hv⟩
    | ref t => exact ⟨some t, key _ hv⟩
    | _ => simp at h
theorem st_EX {args : Array Value} {s : State} (hts : ∀ w ∈ lw_tbl, w.before args s = true) (hg : ∀ w ∈ NL, w.before args s = true) : EX (fun q => s.heap.size ≤ q) s s.heap := by
  have hA : ∀ a : Nat, a < s.heap.size → ¬ (s.heap.size ≤ a) := fun a h => Nat.not_le.mpr h
  refine ⟨fun a ha => ?_, va_Yof (hts _ (tb_in w_lu)) (hg _ (List.mem_of_getElem? q_us)) hA, va_Yof (hts _ (tb_in w_lp)) (hg _ (List.mem_of_getElem? q_ss)) hA⟩
  simp only [exL, List.mem_cons, List.not_mem_nil, or_false] at ha
  rcases ha with rfl | rfl | rfl | rfl | rfl | rfl
  · exact va_Nw.of rfl (hts _ (tb_in w_d1))
  · exact va_Nw.of rfl (hts _ (tb_in w_d2))
  · exact va_Nw.of rfl (hts _ (tb_in w_d3))
  · exact va_Nw.of rfl (hts _ (tb_in w_c1))
  · exact va_Nw.of rfl (hts _ (tb_in w_c2))
  · exact va_Nw.of rfl (hts _ (tb_in w_c3))
theorem arr_of {args : Array Value} {s : State} {ty : FieldType} (h : (Cond.arrayClass ty).before args s = true) : ∃ cA : ClassId, ArrOfT s cA ty ∧ s.vm.findClass ("[" ++ ty.toString) = some cA := by
  obtain ⟨cA, kA, comp, h1, h2, h3⟩ := Cond.arrayClass_spec h
  exact ⟨cA, fun n z => ⟨fun k h => (by cases h), kA, h2, comp, h3⟩, h1⟩
theorem st_K {args : Array Value} {s : State} (hts : ∀ w ∈ lw_tbl, w.before args s = true) : ∃ (D : va_G) (cI cB cZ cL : ClassId), va_K D classes [(cI, .int), (cB, .byte), (cZ, .boolean), (cL, .long)] s := by
  have hta : ∀ w ∈ aW, w.before args s = true := fun w h => hts w (aW_tbl h)
  obtain ⟨c0, i0, k0⟩ := u_known (C := R_X) (T := F_X) (N := 9) hta i_X (hts _ (tb_in w_jx))
  obtain ⟨c1, i1, k1⟩ := u_known (C := R_Strip) (T := F_Strip) (N := 2) hta i_Strip (hta _ is_Strip)
  obtain ⟨c2, i2, k2⟩ := u_known (C := R_Table) (T := F_Table) (N := 4) hta i_Table (hta _ is_Table)
  obtain ⟨c3, i3, k3⟩ := u_known (C := R_Book) (T := F_Book) (N := 4) hta i_Book (hta _ is_Book)
  obtain ⟨c4, i4, k4⟩ := u_known (C := R_Reader) (T := F_Reader) (N := 6) hta i_Reader (hta _ is_Reader)
  obtain ⟨c5, i5, k5⟩ := u_known (C := R_Insp) (T := F_Insp) (N := 1) hta i_Insp (hta _ is_Insp)
  obtain ⟨c6, i6, k6⟩ := u_known (C := R_Scribe) (T := F_Scribe) (N := 2) hta i_Scribe (hta _ is_Scribe)
  obtain ⟨c7, i7, k7⟩ := u_known (C := R_M) (T := F_M) (N := 37) hta i_M (hts _ (tb_in w_jm))
  obtain ⟨cI, aI, fI⟩ := arr_of (hta _ ac_int)
  obtain ⟨cB, aB, fB⟩ := arr_of (hta _ ac_byte)
  obtain ⟨cZ, aZ, fZ⟩ := arr_of (hta _ ac_boolean)
  obtain ⟨cL, aL, fL⟩ := arr_of (hta _ ac_long)
  refine ⟨(fun c => ([c0, c1, c2, c3, c4, c5, c6, c7] : List ClassId).getD c c0, fun c => ([i0, i1, i2, i3, i4, i5, i6, i7] : List (Nat → Nat)).getD c i0), cI, cB, cZ, cL, fun c q hq => ?_, fun k q hq => ?_⟩
  · match c with
    | 0 => cases hq; exact k0
    | 1 => cases hq; exact k1
    | 2 => cases hq; exact k2
    | 3 => cases hq; exact k3
    | 4 => cases hq; exact k4
    | 5 => cases hq; exact k5
    | 6 => cases hq; exact k6
    | 7 => cases hq; exact k7
    | c + 8 => rw [List.getElem?_eq_none (show classes.length ≤ c + 8 from Nat.le_add_left 8 c)] at hq; cases hq
  · match k with
    | 0 => cases hq; exact ⟨aI, fI⟩
    | 1 => cases hq; exact ⟨aB, fB⟩
    | 2 => cases hq; exact ⟨aZ, fZ⟩
    | 3 => cases hq; exact ⟨aL, fL⟩
    | k + 4 => cases hq
theorem va_D.parts {A : Nat → Prop} {X Y : va_W} (h : va_D A (X ++ Y)) : ∀ x ∈ X.map (·.1), ∀ y ∈ Y.map (·.1), x ≠ y := by
  intro x hx y hy e
  obtain ⟨p, hp, ep⟩ := List.mem_map.mp hx
  obtain ⟨q, hq, eq⟩ := List.mem_map.mp hy
  obtain ⟨i, hi, ei⟩ := List.getElem_of_mem hp
  obtain ⟨j, hj, ej⟩ := List.getElem_of_mem hq
  have h1 : (X ++ Y)[i]? = some p := by rw [List.getElem?_append_left hi, List.getElem?_eq_getElem hi, ei]
  have h2 : (X ++ Y)[X.length + j]? = some q := by rw [List.getElem?_append_right (by omega), show X.length + j - X.length = j from by omega, List.getElem?_eq_getElem hj, ej]
  have := h.1 i (X.length + j) p q h1 h2 (by rw [ep, eq]; exact e)
  omega
section NE
variable {p : Program} {l : Launch} {e : Env} {R : Room} {s : State} {m : MethodId} {args : Array Value} {below : List Frame} {meth : Method} {c : Code} {H : Heap} {locs : List Loc} {cells slots : Nat} {Q : State → Prop}
variable {cc : ByteArray} {pc nL : Nat} {ls : Array Slot} {rest st0 As : List Value} {A : Nat → Prop}
/-- a constructor that needs one word more -/
theorem sn_vE {St : Type} {D : va_G} {tys : List (ClassId × FieldType)} {wt : St → va_W} {w0 ws wr : va_W} {own : String} {index ml n fr lo mc ms b0 : Nat} {y : MethodName} {b : ByteArray} {post : St → Prop} {w9 : Cond} (S : CallFix p m c cc nL s args aW own)
    (hM : Met l y (Cond.code y b ml none :: aW) { frames := fr, cells := mc, slots := ms, locals := lo } (va_Pc (.ref b0 :: As) (fun U => nW D w0 tys H.size U ∧ va_Nw w9 U)) (va_Qv post (nB D wt tys (va_A w0 H.size)) (va_A w0 H.size)) mc ms (va_A w0 H.size))
    (hw9 : w9.onTables = true) (hwm : ∀ U : State, s.WarmedH U.vm → va_Nw w9 U) (ok : okI own index y b ml n) (hR : roomy fr lo ml R)
    (hP : va_P D classes ws H) (hK : va_K D classes tys s) (hD : va_D A ws) (hS : va_S A s.heap H locs) (hA : ∀ q, s.heap.size ≤ q → A q)
    (isC isR : List Nat) (hC1 : isC.filterMap (fun i => ws[i]?) = w0) (hC2 : isC.map (fun i => ws[i]?) = w0.map some) (hnC : va_nd isC = true) (hR1 : isR.map (fun i => ws[i]?) = wr.map some) (hnR : va_nd isR = true) (hdis : ∀ i ∈ isR, i ∉ isC)
    (hn : As.length = n) (hsize : ls.size = nL) (hst : st0 = As.reverse ++ .ref b0 :: rest) (hroom : (rest.map fun v => v.category).sum ≤ 8) (hdg : decode cc pc = .ok (.invokespecial index, 3)) (hc : cells + mc ≤ R.cells ∧ slots + ms ≤ R.slots)
    (kk : ∀ (u : St) (H1 : Heap) (locs1 : List Loc), post u → va_P D classes (wr ++ wt u) H1 → va_D A (wr ++ wt u) → va_S A s.heap H1 locs1 → W p l e R s m args below meth c H1 locs1 (cells + mc) (slots + ms) Q (F0 m (pc + 3) ls rest)) : W p l e R s m args below meth c H locs cells slots Q (F0 m pc ls st0) := by
  have hF := va_free (wc := w0) hD hS hA isC hC2
  have hPc := hP.sub isC hC1
  have hDc := hD.sub isC hnC hC2
  have bl : Blind (fun U => nW D w0 tys H.size U ∧ va_Nw w9 U) := fun a U g mk q => ⟨blind_nW a U g mk q.1, va_Nw.same (u := U) hw9 rfl q.2⟩
  refine va_callv (va_runI S hM (cw_I S.2.2.2.2 ok hR) ⟨blind_pc bl, fun U h1 h2 => ⟨rfl, ⟨by rw [h1], by rw [h1]; exact hPc, va_K.moved h2.alike hK, hDc.weaken (fun _ _ _ _ => trivial)⟩, hwm U h2⟩⟩ rfl hn hsize hst (lv_room hroom) hdg hc) hS (fun q _ h => hF q h) hF (fun u t H1 locs1 ht hvm hw hB hz1 hk1 hS1 => ?_)
  obtain ⟨hP1, hK1, hD1⟩ := hB
  rw [ht] at hP1
  obtain ⟨hP2, hD2⟩ := va_join (wr := wr) (w1 := wt u) hP hD isC isR hC2 hR1 hnR hdis hk1 hF hP1 hD1
  exact kk u H1 locs1 hw hP2 hD2 hS1
end NE
def X00 : List Value := [.null, .null, .null, .null, .null, .null, .null, .int 0, .int 0]
def M00 : List Value := [.int 0, .null, .null, .null, .null, .null, .int 0, .int 0, .int 0, .int 0, .int 0, .int 0, .int 0, .int 0, .int 0, .int 0, .int 0, .null, .null, .int 0, .int 0, .int 0, .int 0, .null, .null, .null, .null, .null, .null, .null, .null, .null, .int 0, .null, .null, .int 0, .int 0]
theorem x00_ok : ∀ j, j < 9 → defaultValue (t_X j) = vp_V X00 j := by decide +kernel
theorem m00_ok : ∀ j, j < 37 → defaultValue (t_M j) = vp_V M00 j := by decide +kernel
theorem invP0 : inv PP0 := ⟨⟨0, Nat.zero_le _, rfl⟩, ⟨0, Nat.zero_le _, rfl⟩, ⟨0, Nat.zero_le _, rfl⟩, ⟨0, Nat.zero_le _, rfl⟩, ⟨0, Nat.zero_le _, rfl⟩⟩
set_option maxHeartbeats 4000000 in
set_option maxRecDepth 100000 in
/-- from the entry, for every script of at most 3072 ints, the law comes to its end with true -/
theorem whole_start {p : Program} {e : Env} {s : State} {m : MethodId} {below : List Frame} {meth : Method} {c : Code} (l : Launch) (hls : l.stackTraces = false) {b L : Nat} {xs : Nat → Int32} (hL : L ≤ 3072) (C0 : lw_At p s m meth c b L xs) : W p l e room_1 s m #[Value.ref b] below meth c s.heap [] 0 0 (lw_Z below #[Value.ref b] s) (entryFrame m ([Value.ref b] : List Value).toArray 7) := by
  have C0' := C0
  obtain ⟨hx, hb, hr, hml, hown, hts, hXs, hbl, hlocks, hgv⟩ := C0'
  have hown : s.vm.findClass "PlainPagesLaw" = some m.cls := hown
  have hta : ∀ w ∈ aW, w.before #[Value.ref b] s = true := fun w h => hts w (aW_tbl h)
  have hg : ∀ w ∈ NL, w.before #[Value.ref b] s = true := flat_of_before _ hgv
  obtain ⟨aE, aK, aV, aT, hCST⟩ := st_CST hts hg
  have hEX := st_EX hts hg
  obtain ⟨D, cI, cB, cZ, cL, hK⟩ := st_K hts
  have hKi : va_K D classes [(cI, .int)] s := hK.sub [0] rfl
  have hKm : va_K D classes [(cI, .int), (cB, .byte), (cZ, .boolean)] s := hK.sub [0, 1, 2] rfl
  have hA : ∀ q : Nat, s.heap.size ≤ q → (fun q => s.heap.size ≤ q) q := fun q h => h
  generalize hAe : (fun q : Nat => s.heap.size ≤ q) = A at hCST hEX hA
  have hS : va_S A s.heap s.heap [] := va_S.rf
  have hP : va_P D classes [] s.heap := fun k q hq => by cases hq
  have hD : va_D A [] := ⟨fun i j p q hp => (by cases hp), fun k q hq => by cases hq⟩
  have hl := lv_entry ([.ref b]) (n := 7) (Nat.le_of_ble_eq_true rfl)
  rw [lg_entry_eq]
  generalize (lg_sl ([.ref b]) ++ List.replicate (7 - (lg_sl ([.ref b])).length) Slot.unset).toArray = ls at hl ⊢
  have hl : lv_has ls 7 [(0, .ref b)] := hl
  refine va_new (D := D) (ci := 0) (fs := X00) (C := R_X) (T := F_X) (N := 9) hx hb hta i_X t_X t_X_ok hown (hts _ (tb_in w_qx)) (hts _ (tb_in w_jx)) (hts _ (tb_in w_ix)) hK hP hD hS hA rfl x00_ok (by decide) (by decide) d_law_0 (fun q0 H hP hD hS => ?_)
  have hP : va_P D classes [(q0, .inr (0, X00))] H := hP
  have hD : va_D A [(q0, .inr (0, X00))] := hD
  refine W.widen (k := 1) (n := 9) (by decide) (by decide) ?_
  refine lv_dup hx hb d_law_3 rfl ?_
  refine sn_vE (D := D) (w0 := [(q0, .inr (0, X00))]) (ws := [(q0, .inr (0, X00))]) (wr := []) (b0 := q0) (As := []) (rest := [.ref q0]) ⟨hx, hb, hml, hown, hta⟩ (n_X_init l D q0 _ cI aE aK aV aT) rfl (fun U hW => va_Nw.warmM hW (va_Nw.of rfl (hts _ (tb_in w_n5)))) oi_L_33 ⟨Nat.le_of_ble_eq_true rfl, Nat.le_of_ble_eq_true rfl⟩ hP hKi hD hS hA [0] [] rfl rfl rfl rfl rfl (by decide) rfl hl.1 rfl (Nat.le_of_ble_eq_true rfl) d_law_4 ⟨by decide, by decide⟩ (fun u H locs hu hP hD hS => ?_)
  have hP : va_P D classes (WW (D, u, cI, aE, aK, aV, aT) PP0) H := hP
  have hD : va_D A (WW (D, u, cI, aE, aK, aV, aT) PP0) := hD
  refine W.widen (k := 16) (n := 48656) (by decide) (by decide) ?_
  refine lv_astore_n (lv' := [(1, .ref q0), (0, .ref b)]) hx hb d_law_7 rfl hl (by decide) rfl (fun ls hl => ?_)
  refine va_new (D := D) (ci := 7) (fs := M00) (C := R_M) (T := F_M) (N := 37) hx hb hta i_M t_M t_M_ok hown (hts _ (tb_in w_qm)) (hts _ (tb_in w_jm)) (hts _ (tb_in w_im)) hK hP hD hS hA rfl m00_ok (by decide) (by decide) d_law_8 (fun q1 H hP hD hS => ?_)
  refine W.widen (k := 17) (n := 48693) (by decide) (by decide) ?_
  refine lv_dup hx hb d_law_11 rfl ?_
  refine sn_v (D := D) (w0 := [(q1, .inr (7, M00))]) (ws := WW (D, u, cI, aE, aK, aV, aT) PP0 ++ [(q1, .inr (7, M00))]) (wr := WW (D, u, cI, aE, aK, aV, aT) PP0) (b0 := q1) (As := []) (rest := [.ref q1]) ⟨hx, hb, hml, hown, hta⟩ (n_M_init l D q1 _ cI cB cZ) oi_L_36 ⟨Nat.le_of_ble_eq_true rfl, Nat.le_of_ble_eq_true rfl⟩ hP hKm hD hS hA [16] [0, 1, 2, 3, 4, 5, 6, 7, 8, 9, 10, 11, 12, 13, 14, 15] rfl rfl rfl rfl rfl (by decide) rfl hl.1 rfl (Nat.le_of_ble_eq_true rfl) d_law_12 ⟨by decide, by decide⟩ (fun um H locs hum hP hD hS => ?_)
  have hP : va_P D classes (WW (D, u, cI, aE, aK, aV, aT) PP0 ++ MW (D, um, cI, cB, cZ) MP0) H := hP
  have hD : va_D A (WW (D, u, cI, aE, aK, aV, aT) PP0 ++ MW (D, um, cI, cB, cZ) MP0) := hD
  refine W.widen (k := 35) (n := 96875) (by decide) (by decide) ?_
  refine lv_astore_n (lv' := [(2, .ref q1), (1, .ref q0), (0, .ref b)]) hx hb d_law_15 rfl hl (by decide) rfl (fun ls hl => ?_)
  refine lv_iconst (v := 1) hx hb d_law_16 (by decide) ?_
  refine va_newa (atype := .long) (ty := .long) (a0 := (1, .inr (.inl (fun _ => 0)))) (N' := 1) hx hb (hta _ ac_long) rfl hK hP hD hS hA (fun _ => rfl) (by decide) (by decide) (by decide) (by decide) (by decide) d_law_17 (fun q2 cA H hK1 hP hD hS => ?_)
  have ec : cA = cL := Option.some.inj ((hK1.2 4 (cA, .long) rfl).2.symm.trans (hK.2 3 (cL, .long) rfl).2)
  subst ec
  refine W.widen (k := 36) (n := 96876) (by decide) (by decide) ?_
  refine lv_astore_n (lv' := [(3, .ref q2), (2, .ref q1), (1, .ref q0), (0, .ref b)]) hx hb d_law_19 rfl hl (by decide) rfl (fun ls hl => ?_)
  refine lv_iconst (v := 0) hx hb d_law_20 (by decide) ?_
  refine lv_istore (lv' := [(4, .int 0), (3, .ref q2), (2, .ref q1), (1, .ref q0), (0, .ref b)]) hx hb d_law_21 hl (by decide) rfl (fun ls hl => ?_)
  have hPL := hP.sub (ws' := LW (D, u, cI, aE, aK, aV, aT) q2 cA (fun _ => 0) PP0) [35, 0, 1, 2, 3, 4, 5, 6, 7, 8, 9, 10, 11, 12, 13, 14, 15] rfl
  have hPM := hP.sub (ws' := MW (D, um, cI, cB, cZ) MP0) [16, 17, 18, 19, 20, 21, 22, 23, 24, 25, 26, 27, 28, 29, 30, 31, 32, 33, 34] rfl
  have hDa := hD.sub (ws' := LW (D, u, cI, aE, aK, aV, aT) q2 cA (fun _ => 0) PP0 ++ MW (D, um, cI, cB, cZ) MP0) [35, 0, 1, 2, 3, 4, 5, 6, 7, 8, 9, 10, 11, 12, 13, 14, 15, 16, 17, 18, 19, 20, 21, 22, 23, 24, 25, 26, 27, 28, 29, 30, 31, 32, 33, 34] (by decide) rfl
  have hDL := hD.sub (ws' := LW (D, u, cI, aE, aK, aV, aT) q2 cA (fun _ => 0) PP0) [35, 0, 1, 2, 3, 4, 5, 6, 7, 8, 9, 10, 11, 12, 13, 14, 15] (by decide) rfl
  have hDM := hD.sub (ws' := MW (D, um, cI, cB, cZ) MP0) [16, 17, 18, 19, 20, 21, 22, 23, 24, 25, 26, 27, 28, 29, 30, 31, 32, 33, 34] (by decide) rfl
  let d : LD := ((D, u, cI, aE, aK, aV, aT), um, cB, cZ, q2, cA)
  have hap : apart d := fun x hx y hy => va_D.parts hDa x (by rw [LW_ad]; exact hx) y (by rw [MW_ad]; exact hy)
  subst hAe
  have hC : LCT d (fun q => s.heap.size ≤ q) s := ⟨hK, hCST D u cI, hEX, hap, hA⟩
  have hLS : LST d (fun q => s.heap.size ≤ q) PP0 MP0 (fun _ => 0) H := ⟨hPL, hPM, hDL, hDM⟩
  have e1 : wA (dW d) 0 = q0 := hu
  have e2 : mA (dM d) 0 = q1 := hum
  have hl : lv_has ls 7 [(4, .int (nI 0)), (3, .ref (dL d)), (2, .ref (mA (dM d) 0)), (1, .ref (wA (dW d) 0)), (0, .ref b)] := by rw [e1, e2]; exact hl
  exact law_loop l hls C0 hC 513 (nI 0) PP0 MP0 (fun _ => 0) H _ 36 96876 hLS invP0 hS ⟨by decide, by decide⟩ ls hl (a_law hL 513 0 PP0 MP0 (fun _ => 0) (Nat.zero_le _) (by omega) RL0)
