/-! Constructors: a fresh cell goes in, a world comes out. -/
def okI (own : String) (index : Nat) (y : MethodName) (b : ByteArray) (ml : Nat) (n : Nat) : Prop :=
  Cond.methodLink own index y ∈ aW ∧ Cond.instanceMethod y ∈ aW ∧ Cond.initialized y.cls ∈ aW ∧ Cond.code y b ml none ∈ aW ∧ y.name = "<init>" ∧
  y.cls ≠ "java/lang/invoke/MethodHandle" ∧ y.cls ≠ "java/lang/invoke/VarHandle" ∧ (parseMethodDescriptor y.desc).map (fun d => d.parameters.length) = some n
def nW (D : va_G) (ws : va_W) (tys : List (ClassId × FieldType)) (sz : Nat) (U : State) : Prop := U.heap.size = sz ∧ va_P D classes ws U.heap ∧ va_K D classes tys U ∧ va_D (fun _ => True) ws
theorem blind_nW {D : va_G} {ws : va_W} {tys : List (ClassId × FieldType)} {sz : Nat} : Blind (nW D ws tys sz) := fun a U g mk q => ⟨q.1, q.2.1, va_K.moved (u := U) (U := U.calling g mk a) (Vm.Alike.refl U.vm) q.2.2.1, q.2.2.2⟩
def nB {S : Type} (D : va_G) (wt : S → va_W) (tys : List (ClassId × FieldType)) (A : Nat → Prop) (u : S) (t : State) : Prop := va_P D classes (wt u) t.heap ∧ va_K D classes tys t ∧ va_D A (wt u)
theorem ra_one {s : State} {c c' : ClassId} (h : va_RA s c .int) (h' : va_RA s c' .int) : c = c' := Option.some.inj (h.symm.trans h')
section NC
variable {p : Program} {l : Launch} {e : Env} {R : Room} {s : State} {m : MethodId} {args : Array Value} {below : List Frame} {meth : Method} {c : Code} {H : Heap} {locs : List Loc} {cells slots : Nat} {Q : State → Prop}
variable {cc : ByteArray} {pc nL : Nat} {ls : Array Slot} {rest st0 As : List Value} {A : Nat → Prop}
theorem cw_I {own : String} {index ml n fr lo mc ms : Nat} {y : MethodName} {b : ByteArray} (hta : ∀ w ∈ aW, w.before args s = true) (ok : okI own index y b ml n) (hR : roomy fr lo ml R) :
    CallB R s args own index y b ml none (Cond.code y b ml none :: aW) { frames := fr, cells := mc, slots := ms, locals := lo } mc ms n ∧ y.name = "<init>" ∧ (Cond.instanceMethod y).before args s = true := by
  obtain ⟨h1, h2, h3, h4, h5, h7, h8, h9⟩ := ok
  refine ⟨⟨rfl, rfl, hR.1, hR.2, aW_pay hta h4, List.mem_cons_self, hta _ h4, hta _ h3, ⟨h7, h8⟩, fun sig h => ?_, hta _ h1⟩, h5, hta _ h2⟩
  rw [h] at h9
  exact (Option.some.inj h9).symm
theorem sn_v {St : Type} {D : va_G} {tys : List (ClassId × FieldType)} {wt : St → va_W} {w0 ws wr : va_W} {own : String} {index ml n fr lo mc ms b0 : Nat} {y : MethodName} {b : ByteArray} {post : St → Prop} (S : CallFix p m c cc nL s args aW own)
    (hM : Met l y (Cond.code y b ml none :: aW) { frames := fr, cells := mc, slots := ms, locals := lo } (va_Pc (.ref b0 :: As) (nW D w0 tys H.size)) (va_Qv post (nB D wt tys (va_A w0 H.size)) (va_A w0 H.size)) mc ms (va_A w0 H.size))
    (ok : okI own index y b ml n) (hR : roomy fr lo ml R)
    (hP : va_P D classes ws H) (hK : va_K D classes tys s) (hD : va_D A ws) (hS : va_S A s.heap H locs) (hA : ∀ q, s.heap.size ≤ q → A q)
    (isC isR : List Nat) (hC1 : isC.filterMap (fun i => ws[i]?) = w0) (hC2 : isC.map (fun i => ws[i]?) = w0.map some) (hnC : va_nd isC = true) (hR1 : isR.map (fun i => ws[i]?) = wr.map some) (hnR : va_nd isR = true) (hdis : ∀ i ∈ isR, i ∉ isC)
    (hn : As.length = n) (hsize : ls.size = nL) (hst : st0 = As.reverse ++ .ref b0 :: rest) (hroom : (rest.map fun v => v.category).sum ≤ 8) (hdg : decode cc pc = .ok (.invokespecial index, 3)) (hc : cells + mc ≤ R.cells ∧ slots + ms ≤ R.slots)
    (kk : ∀ (u : St) (H1 : Heap) (locs1 : List Loc), post u → va_P D classes (wr ++ wt u) H1 → va_D A (wr ++ wt u) → va_S A s.heap H1 locs1 → W p l e R s m args below meth c H1 locs1 (cells + mc) (slots + ms) Q (F0 m (pc + 3) ls rest)) : W p l e R s m args below meth c H locs cells slots Q (F0 m pc ls st0) := by
  have hF := va_free (wc := w0) hD hS hA isC hC2
  have hPc := hP.sub isC hC1
  have hDc := hD.sub isC hnC hC2
  refine va_callv (va_runI S hM (cw_I S.2.2.2.2 ok hR) ⟨blind_pc blind_nW, fun U h1 h2 => ⟨rfl, by rw [h1], by rw [h1]; exact hPc, va_K.moved h2.alike hK, hDc.weaken (fun _ _ _ _ => trivial)⟩⟩ rfl hn hsize hst (lv_room hroom) hdg hc) hS (fun q _ h => hF q h) hF (fun u t H1 locs1 ht hvm hw hB hz1 hk1 hS1 => ?_)
  obtain ⟨hP1, hK1, hD1⟩ := hB
  rw [ht] at hP1
  obtain ⟨hP2, hD2⟩ := va_join (wr := wr) (w1 := wt u) hP hD isC isR hC2 hR1 hnR hdis hk1 hF hP1 hD1
  exact kk u H1 locs1 hw hP2 hD2 hS1
/-- the same by a nest mate's private constructor -/
theorem sn_vN {St : Type} {D : va_G} {tys : List (ClassId × FieldType)} {wt : St → va_W} {w0 ws wr : va_W} {own host : String} {index ml n fr lo mc ms b0 : Nat} {y : MethodName} {b : ByteArray} {post : St → Prop} (S : CallFix p m c cc nL s args aW own)
    (hM : Met l y (Cond.code y b ml none :: aW) { frames := fr, cells := mc, slots := ms, locals := lo } (va_Pc (.ref b0 :: As) (nW D w0 tys H.size)) (va_Qv post (nB D wt tys (va_A w0 H.size)) (va_A w0 H.size)) mc ms (va_A w0 H.size))
    (hl : va_Nw (.methodLinkNest own index y host) s) (h2 : Cond.instanceMethod y ∈ aW) (h3 : Cond.initialized y.cls ∈ aW) (h4 : Cond.code y b ml none ∈ aW) (h5 : y.name = "<init>") (h6 : y.cls ≠ "java/lang/invoke/MethodHandle" ∧ y.cls ≠ "java/lang/invoke/VarHandle") (h9 : (parseMethodDescriptor y.desc).map (fun d => d.parameters.length) = some n) (hR : roomy fr lo ml R)
    (hP : va_P D classes ws H) (hK : va_K D classes tys s) (hD : va_D A ws) (hS : va_S A s.heap H locs) (hA : ∀ q, s.heap.size ≤ q → A q)
    (isC isR : List Nat) (hC1 : isC.filterMap (fun i => ws[i]?) = w0) (hC2 : isC.map (fun i => ws[i]?) = w0.map some) (hnC : va_nd isC = true) (hR1 : isR.map (fun i => ws[i]?) = wr.map some) (hnR : va_nd isR = true) (hdis : ∀ i ∈ isR, i ∉ isC)
    (hn : As.length = n) (hsize : ls.size = nL) (hst : st0 = As.reverse ++ .ref b0 :: rest) (hroom : (rest.map fun v => v.category).sum ≤ 8) (hdg : decode cc pc = .ok (.invokespecial index, 3)) (hc : cells + mc ≤ R.cells ∧ slots + ms ≤ R.slots)
    (kk : ∀ (u : St) (H1 : Heap) (locs1 : List Loc), post u → va_P D classes (wr ++ wt u) H1 → va_D A (wr ++ wt u) → va_S A s.heap H1 locs1 → W p l e R s m args below meth c H1 locs1 (cells + mc) (slots + ms) Q (F0 m (pc + 3) ls rest)) : W p l e R s m args below meth c H locs cells slots Q (F0 m pc ls st0) := by
  have hF := va_free (wc := w0) hD hS hA isC hC2
  have hPc := hP.sub isC hC1
  have hDc := hD.sub isC hnC hC2
  have hta := S.2.2.2.2
  have cn : va_CN R s args own index y host b ml none (Cond.code y b ml none :: aW) { frames := fr, cells := mc, slots := ms, locals := lo } mc ms n ∧ y.name = "<init>" ∧ (Cond.instanceMethod y).before args s = true := by
    refine ⟨⟨⟨rfl, rfl, hR.1, hR.2, aW_pay hta h4, List.mem_cons_self⟩, hta _ h4, hta _ h3, h6, fun sig h => ?_, va_Nw.use rfl hl⟩, h5, hta _ h2⟩
    rw [h] at h9
    exact (Option.some.inj h9).symm
  refine va_callv (va_runIN S hM cn ⟨blind_pc blind_nW, fun U h1 h2 => ⟨rfl, by rw [h1], by rw [h1]; exact hPc, va_K.moved h2.alike hK, hDc.weaken (fun _ _ _ _ => trivial)⟩⟩ rfl hn hsize hst (lv_room hroom) hdg hc) hS (fun q _ h => hF q h) hF (fun u t H1 locs1 ht hvm hw hB hz1 hk1 hS1 => ?_)
  obtain ⟨hP1, hK1, hD1⟩ := hB
  rw [ht] at hP1
  obtain ⟨hP2, hD2⟩ := va_join (wr := wr) (w1 := wt u) hP hD isC isR hC2 hR1 hnR hdis hk1 hF hP1 hD1
  exact kk u H1 locs1 hw hP2 hD2 hS1
/-- a new int array, whose class is the known one -/
theorem sn_ia {D : va_G} {tys : List (ClassId × FieldType)} {ws : va_W} {cI : ClassId} {t0 : Nat} (hexec : p.tables.exec = Jvm.exec) (hb : c.code = cc) (hta : ∀ w ∈ aW, w.before args s = true) (hac : Cond.arrayClass .int ∈ aW) (hK : va_K D classes tys s) (ht0 : tys[t0]? = some (cI, .int)) (hP : va_P D classes ws H) (hD : va_D A ws) (hS : va_S A s.heap H locs) (hA : ∀ q, s.heap.size ≤ q → A q)
    {n : Int32} {N : Nat} (hn : n = nI N) (hN : N < 100000000) (hcells : cells + 1 ≤ R.cells) (hslots : slots + N ≤ R.slots) (hdg : decode cc pc = .ok (.newarray .int, 2))
    (kk : ∀ (q : Nat) (H1 : Heap), va_P D classes (ws ++ [(q, .inl (cI, N, .inl (fun _ => 0)))]) H1 → va_D A (ws ++ [(q, .inl (cI, N, .inl (fun _ => 0)))]) → va_S A s.heap H1 locs → W p l e R s m args below meth c H1 locs (cells + 1) (slots + N) Q (F0 m (pc + 2) ls (.ref q :: rest))) : W p l e R s m args below meth c H locs cells slots Q (F0 m pc ls (.int n :: rest)) := by
  subst hn
  refine va_newa (atype := .int) (ty := .int) (a0 := (N, .inl (fun _ => 0))) hexec hb (hta _ hac) rfl hK hP hD hS hA (fun _ => rfl) (nI_pos (by omega)) (nI_clamp (by omega)) (by show N * 4 ≤ 536870912; omega) hcells hslots hdg (fun q cA H1 hK1 hP1 hD1 hS1 => ?_)
  have e : cA = cI := ra_one (hK1.2 tys.length (cA, .int) (by simp)).2 (hK.2 t0 _ ht0).2
  subst e
  exact kk q H1 hP1 hD1 hS1
end NC
theorem im_obj : Cond.instanceMethod Lib.objectInit ∈ aW := aW_in 112 (by decide +kernel) rfl
theorem cd_obj : Cond.code Lib.objectInit ⟨#[0xb1]⟩ 1 none ∈ aW := aW_in 113 (by decide +kernel) rfl
theorem ac_int : Cond.arrayClass .int ∈ aW := aW_in 130 (by decide +kernel) rfl
theorem ac_byte : Cond.arrayClass .byte ∈ aW := aW_in 683 (by decide +kernel) rfl
theorem ac_boolean : Cond.arrayClass .boolean ∈ aW := aW_in 1016 (by decide +kernel) rfl
theorem ac_long : Cond.arrayClass .long ∈ aW := aW_in 1323 (by decide +kernel) rfl
theorem mx_Strip : Cond.methodLink "PlainPages$Strip" 9 Lib.Math.max.name ∈ aW := aW_in 120 (by decide +kernel) rfl
theorem mx_Table : Cond.methodLink "PlainPages$Table" 18 Lib.Math.max.name ∈ aW := aW_in 143 (by decide +kernel) rfl
theorem mx_st : Cond.static Lib.Math.max.name ∈ aW := aW_in 121 (by decide +kernel) rfl
theorem mx_in : Cond.initialized "java/lang/Math" ∈ aW := aW_in 86 (by decide +kernel) rfl
theorem mx_cd : Cond.code Lib.Math.max.name Lib.Math.max.code 2 (some .int) ∈ aW := aW_in 122 (by decide +kernel) rfl
theorem ml_Strip_3 : Cond.methodLink R_Strip 3 Lib.objectInit ∈ aW := aW_in 119 (by decide +kernel) rfl
theorem zfl_Strip_15 : Cond.fieldLink "PlainPages$Strip" 15 "PlainPages$Strip" "items" "[I" ∈ aW := aW_in 123 (by decide +kernel) rfl
theorem zfl_Strip_21 : Cond.fieldLink "PlainPages$Strip" 21 "PlainPages$Strip" "count" "I" ∈ aW := aW_in 124 (by decide +kernel) rfl
theorem ml_Table_3 : Cond.methodLink R_Table 3 Lib.objectInit ∈ aW := aW_in 142 (by decide +kernel) rfl
theorem zfl_Table_9 : Cond.fieldLink "PlainPages$Table" 9 "PlainPages$Table" "most" "I" ∈ aW := aW_in 144 (by decide +kernel) rfl
theorem zfl_Table_15 : Cond.fieldLink "PlainPages$Table" 15 "PlainPages$Table" "width" "I" ∈ aW := aW_in 145 (by decide +kernel) rfl
theorem zfl_Table_24 : Cond.fieldLink "PlainPages$Table" 24 "PlainPages$Table" "cells" "[I" ∈ aW := aW_in 146 (by decide +kernel) rfl
theorem zfl_Table_28 : Cond.fieldLink "PlainPages$Table" 28 "PlainPages$Table" "rows" "I" ∈ aW := aW_in 147 (by decide +kernel) rfl
theorem ml_Book_3 : Cond.methodLink "PlainPages$Book" 3 Lib.objectInit ∈ aW := aW_in 136 (by decide +kernel) rfl
theorem cl_Book_9 : Cond.classLink "PlainPages$Book" 9 R_Table ∈ aW := aW_in 137 (by decide +kernel) rfl
theorem is_Table : Cond.instantiable R_Table 4 ∈ aW := aW_in 138 (by decide +kernel) rfl
theorem in_Table : Cond.initialized R_Table ∈ aW := aW_in 88 (by decide +kernel) rfl
theorem oi_Book_11 : okI "PlainPages$Book" 11 y_Table_init b_Table_init 3 2 := ⟨aW_in 139 (by decide +kernel) rfl, aW_in 140 (by decide +kernel) rfl, aW_in 88 (by decide +kernel) rfl, cd_Table_init, rfl, by decide +kernel, by decide +kernel, by decide +kernel⟩
theorem zfl_Book_14 : Cond.fieldLink "PlainPages$Book" 14 "PlainPages$Book" "nodes" "LPlainPages$Table;" ∈ aW := aW_in 159 (by decide +kernel) rfl
theorem zfl_Book_20 : Cond.fieldLink "PlainPages$Book" 20 "PlainPages$Book" "attributes" "LPlainPages$Table;" ∈ aW := aW_in 160 (by decide +kernel) rfl
theorem cl_Book_23 : Cond.classLink "PlainPages$Book" 23 R_Strip ∈ aW := aW_in 157 (by decide +kernel) rfl
theorem is_Strip : Cond.instantiable R_Strip 2 ∈ aW := aW_in 115 (by decide +kernel) rfl
theorem in_Strip : Cond.initialized R_Strip ∈ aW := aW_in 85 (by decide +kernel) rfl
theorem oi_Book_25 : okI "PlainPages$Book" 25 y_Strip_init b_Strip_init 2 1 := ⟨aW_in 158 (by decide +kernel) rfl, aW_in 117 (by decide +kernel) rfl, aW_in 85 (by decide +kernel) rfl, cd_Strip_init, rfl, by decide +kernel, by decide +kernel, by decide +kernel⟩
theorem zfl_Book_28 : Cond.fieldLink "PlainPages$Book" 28 "PlainPages$Book" "letters" "LPlainPages$Strip;" ∈ aW := aW_in 161 (by decide +kernel) rfl
theorem zfl_Book_32 : Cond.fieldLink "PlainPages$Book" 32 "PlainPages$Book" "elements" "I" ∈ aW := aW_in 162 (by decide +kernel) rfl
theorem ml_Reader_3 : Cond.methodLink "PlainPages$Reader" 3 Lib.objectInit ∈ aW := aW_in 177 (by decide +kernel) rfl
theorem zfl_Reader_9 : Cond.fieldLink "PlainPages$Reader" 9 "PlainPages$Reader" "tape" "LPlainPages$Strip;" ∈ aW := aW_in 178 (by decide +kernel) rfl
theorem zfl_Reader_15 : Cond.fieldLink "PlainPages$Reader" 15 "PlainPages$Reader" "book" "LPlainPages$Book;" ∈ aW := aW_in 179 (by decide +kernel) rfl
theorem zfl_Reader_19 : Cond.fieldLink "PlainPages$Reader" 19 "PlainPages$Reader" "at" "I" ∈ aW := aW_in 180 (by decide +kernel) rfl
theorem zfl_Reader_23 : Cond.fieldLink "PlainPages$Reader" 23 "PlainPages$Reader" "open" "I" ∈ aW := aW_in 181 (by decide +kernel) rfl
theorem zfl_Reader_26 : Cond.fieldLink "PlainPages$Reader" 26 "PlainPages$Reader" "inTag" "Z" ∈ aW := aW_in 182 (by decide +kernel) rfl
theorem zfl_Reader_30 : Cond.fieldLink "PlainPages$Reader" 30 "PlainPages$Reader" "wrong" "I" ∈ aW := aW_in 183 (by decide +kernel) rfl
theorem ml_Insp_3 : Cond.methodLink "PlainPages$Inspector" 3 Lib.objectInit ∈ aW := aW_in 202 (by decide +kernel) rfl
theorem zfl_Insp_9 : Cond.fieldLink "PlainPages$Inspector" 9 "PlainPages$Inspector" "book" "LPlainPages$Book;" ∈ aW := aW_in 203 (by decide +kernel) rfl
theorem ml_Scribe_3 : Cond.methodLink "PlainPages$Scribe" 3 Lib.objectInit ∈ aW := aW_in 212 (by decide +kernel) rfl
theorem zfl_Scribe_9 : Cond.fieldLink "PlainPages$Scribe" 9 "PlainPages$Scribe" "book" "LPlainPages$Book;" ∈ aW := aW_in 213 (by decide +kernel) rfl
theorem zfl_Scribe_15 : Cond.fieldLink "PlainPages$Scribe" 15 "PlainPages$Scribe" "sheet" "LPlainPages$Strip;" ∈ aW := aW_in 214 (by decide +kernel) rfl
theorem ml_X_1 : Cond.methodLink "PlainPages" 1 Lib.objectInit ∈ aW := aW_in 111 (by decide +kernel) rfl
theorem zfl_X_9 : Cond.fieldLink "PlainPages" 9 "PlainPages" "ready" "[I" ∈ aW := aW_in 220 (by decide +kernel) rfl
theorem cl_X_13 : Cond.classLink "PlainPages" 13 R_Strip ∈ aW := aW_in 114 (by decide +kernel) rfl
theorem oi_X_15 : okI "PlainPages" 15 y_Strip_init b_Strip_init 2 1 := ⟨aW_in 116 (by decide +kernel) rfl, aW_in 117 (by decide +kernel) rfl, aW_in 85 (by decide +kernel) rfl, cd_Strip_init, rfl, by decide +kernel, by decide +kernel, by decide +kernel⟩
theorem zfl_X_18 : Cond.fieldLink "PlainPages" 18 "PlainPages" "tape" "LPlainPages$Strip;" ∈ aW := aW_in 221 (by decide +kernel) rfl
theorem zfl_X_22 : Cond.fieldLink "PlainPages" 22 "PlainPages" "sheet" "LPlainPages$Strip;" ∈ aW := aW_in 222 (by decide +kernel) rfl
theorem cl_X_25 : Cond.classLink "PlainPages" 25 R_Book ∈ aW := aW_in 131 (by decide +kernel) rfl
theorem is_Book : Cond.instantiable R_Book 4 ∈ aW := aW_in 132 (by decide +kernel) rfl
theorem in_Book : Cond.initialized R_Book ∈ aW := aW_in 87 (by decide +kernel) rfl
theorem im_Book_init : Cond.instanceMethod y_Book_init ∈ aW := aW_in 134 (by decide +kernel) rfl
theorem zfl_X_28 : Cond.fieldLink "PlainPages" 28 "PlainPages" "book" "LPlainPages$Book;" ∈ aW := aW_in 223 (by decide +kernel) rfl
theorem cl_X_32 : Cond.classLink "PlainPages" 32 R_Reader ∈ aW := aW_in 172 (by decide +kernel) rfl
theorem is_Reader : Cond.instantiable R_Reader 6 ∈ aW := aW_in 173 (by decide +kernel) rfl
theorem in_Reader : Cond.initialized R_Reader ∈ aW := aW_in 89 (by decide +kernel) rfl
theorem oi_X_34 : okI "PlainPages" 34 y_Reader_init b_Reader_init 3 2 := ⟨aW_in 174 (by decide +kernel) rfl, aW_in 175 (by decide +kernel) rfl, aW_in 89 (by decide +kernel) rfl, cd_Reader_init, rfl, by decide +kernel, by decide +kernel, by decide +kernel⟩
theorem zfl_X_37 : Cond.fieldLink "PlainPages" 37 "PlainPages" "reader" "LPlainPages$Reader;" ∈ aW := aW_in 224 (by decide +kernel) rfl
theorem cl_X_41 : Cond.classLink "PlainPages" 41 R_Insp ∈ aW := aW_in 197 (by decide +kernel) rfl
theorem is_Insp : Cond.instantiable R_Insp 1 ∈ aW := aW_in 198 (by decide +kernel) rfl
theorem in_Insp : Cond.initialized R_Insp ∈ aW := aW_in 90 (by decide +kernel) rfl
theorem oi_X_43 : okI "PlainPages" 43 y_Insp_init b_Insp_init 2 1 := ⟨aW_in 199 (by decide +kernel) rfl, aW_in 200 (by decide +kernel) rfl, aW_in 90 (by decide +kernel) rfl, cd_Insp_init, rfl, by decide +kernel, by decide +kernel, by decide +kernel⟩
theorem zfl_X_46 : Cond.fieldLink "PlainPages" 46 "PlainPages" "inspector" "LPlainPages$Inspector;" ∈ aW := aW_in 225 (by decide +kernel) rfl
theorem cl_X_50 : Cond.classLink "PlainPages" 50 R_Scribe ∈ aW := aW_in 207 (by decide +kernel) rfl
theorem is_Scribe : Cond.instantiable R_Scribe 2 ∈ aW := aW_in 208 (by decide +kernel) rfl
theorem in_Scribe : Cond.initialized R_Scribe ∈ aW := aW_in 91 (by decide +kernel) rfl
theorem oi_X_52 : okI "PlainPages" 52 y_Scribe_init b_Scribe_init 3 2 := ⟨aW_in 209 (by decide +kernel) rfl, aW_in 210 (by decide +kernel) rfl, aW_in 91 (by decide +kernel) rfl, cd_Scribe_init, rfl, by decide +kernel, by decide +kernel, by decide +kernel⟩
theorem zfl_X_55 : Cond.fieldLink "PlainPages" 55 "PlainPages" "scribe" "LPlainPages$Scribe;" ∈ aW := aW_in 226 (by decide +kernel) rfl
theorem zfl_X_59 : Cond.fieldLink "PlainPages" 59 "PlainPages" "faultSort" "I" ∈ aW := aW_in 227 (by decide +kernel) rfl
theorem zfl_X_63 : Cond.fieldLink "PlainPages" 63 "PlainPages" "faultPlace" "I" ∈ aW := aW_in 228 (by decide +kernel) rfl
theorem d_Strip_init_0 : decode b_Strip_init 0 = .ok (.aload_n 0, 1) := by decide +kernel
theorem d_Strip_init_1 : decode b_Strip_init 1 = .ok (.invokespecial 3, 3) := by decide +kernel
theorem d_Strip_init_4 : decode b_Strip_init 4 = .ok (.aload_n 0, 1) := by decide +kernel
theorem d_Strip_init_5 : decode b_Strip_init 5 = .ok (.iload_n 1, 1) := by decide +kernel
theorem d_Strip_init_6 : decode b_Strip_init 6 = .ok (.iconst 0, 1) := by decide +kernel
theorem d_Strip_init_7 : decode b_Strip_init 7 = .ok (.invokestatic 9, 3) := by decide +kernel
theorem d_Strip_init_10 : decode b_Strip_init 10 = .ok (.newarray .int, 2) := by decide +kernel
theorem d_Strip_init_12 : decode b_Strip_init 12 = .ok (.putfield 15, 3) := by decide +kernel
theorem d_Strip_init_15 : decode b_Strip_init 15 = .ok (.aload_n 0, 1) := by decide +kernel
theorem d_Strip_init_16 : decode b_Strip_init 16 = .ok (.iconst 0, 1) := by decide +kernel
theorem d_Strip_init_17 : decode b_Strip_init 17 = .ok (.putfield 21, 3) := by decide +kernel
theorem d_Strip_init_20 : decode b_Strip_init 20 = .ok (.return_, 1) := by decide +kernel
theorem d_Table_init_0 : decode b_Table_init 0 = .ok (.aload_n 0, 1) := by decide +kernel
theorem d_Table_init_1 : decode b_Table_init 1 = .ok (.invokespecial 3, 3) := by decide +kernel
theorem d_Table_init_4 : decode b_Table_init 4 = .ok (.aload_n 0, 1) := by decide +kernel
theorem d_Table_init_5 : decode b_Table_init 5 = .ok (.iload_n 1, 1) := by decide +kernel
theorem d_Table_init_6 : decode b_Table_init 6 = .ok (.putfield 9, 3) := by decide +kernel
theorem d_Table_init_9 : decode b_Table_init 9 = .ok (.aload_n 0, 1) := by decide +kernel
theorem d_Table_init_10 : decode b_Table_init 10 = .ok (.iload_n 2, 1) := by decide +kernel
theorem d_Table_init_11 : decode b_Table_init 11 = .ok (.putfield 15, 3) := by decide +kernel
theorem d_Table_init_14 : decode b_Table_init 14 = .ok (.aload_n 0, 1) := by decide +kernel
theorem d_Table_init_15 : decode b_Table_init 15 = .ok (.iload_n 1, 1) := by decide +kernel
theorem d_Table_init_16 : decode b_Table_init 16 = .ok (.iload_n 2, 1) := by decide +kernel
theorem d_Table_init_17 : decode b_Table_init 17 = .ok (.imul, 1) := by decide +kernel
theorem d_Table_init_18 : decode b_Table_init 18 = .ok (.iconst 0, 1) := by decide +kernel
theorem d_Table_init_19 : decode b_Table_init 19 = .ok (.invokestatic 18, 3) := by decide +kernel
theorem d_Table_init_22 : decode b_Table_init 22 = .ok (.newarray .int, 2) := by decide +kernel
theorem d_Table_init_24 : decode b_Table_init 24 = .ok (.putfield 24, 3) := by decide +kernel
theorem d_Table_init_27 : decode b_Table_init 27 = .ok (.aload_n 0, 1) := by decide +kernel
theorem d_Table_init_28 : decode b_Table_init 28 = .ok (.iconst 0, 1) := by decide +kernel
theorem d_Table_init_29 : decode b_Table_init 29 = .ok (.putfield 28, 3) := by decide +kernel
theorem d_Table_init_32 : decode b_Table_init 32 = .ok (.return_, 1) := by decide +kernel
set_option maxHeartbeats 4000000 in
set_option maxRecDepth 100000 in
theorem n_Strip_init (l : Launch) (D : va_G) (a sz : Nat) (cI : ClassId) (N : Nat) (hN : N < 100000000) : Met l y_Strip_init ws_Strip_init { frames := 1, cells := 1, slots := N, locals := 14 } (va_Pc [.ref a, .int (nI N)] (nW D [(a, .inr (1, [.null, .int 0]))] [(cI, .int)] sz)) (va_Qv (fun _ : Nat → Nat => True) (nB D (fun u => SW a (u 0) cI N (0, fun _ => 0)) [(cI, .int)] (va_A [(a, .inr (1, [.null, .int 0]))] sz)) (va_A [(a, .inr (1, [.null, .int 0]))] sz)) 1 N (va_A [(a, .inr (1, [.null, .int 0]))] sz) := by
  refine Met.ofW (cc := b_Strip_init) (maxL := 2) (ret := none) (by decide) rfl ?_
  intro p e s m args below meth c s₁ B hml hv
  obtain ⟨rfl, hsz, hP, hK, hD0⟩ := hv
  have hx := B.exec
  have hb := B.bytes
  have hr := B.returns
  have hta : ∀ w ∈ aW, w.before _ s = true := fun w h => atoms_spec (ws := ws_Strip_init) B.pre w (List.mem_cons_of_mem _ h)
  have hown : s.vm.findClass R_Strip = some m.cls := findClass_of_methodNamed B.named
  have hlocks := B.notSynchronized
  have hin : meth.name = "<init>" := (name_of_methodNamed B.named B.method).1
  subst hsz
  have hD := hD0.self (sz := s.heap.size)
  generalize hAe : va_A [(a, .inr (1, [.null, .int 0]))] s.heap.size = A at hD ⊢
  have hA : ∀ q : Nat, s.heap.size ≤ q → A q := fun q h => by rw [← hAe]; exact Or.inr h
  have hS : va_S A s.heap s.heap [] := va_S.rf
  have hP : va_P D classes [(a, .inr (1, [.null, .int 0]))] s.heap := hP
  have hl := lv_entry ([.ref a, .int (nI N)]) (n := 2) (Nat.le_of_ble_eq_true rfl)
  rw [lg_entry_eq]
  generalize (lg_sl ([.ref a, .int (nI N)]) ++ List.replicate (2 - (lg_sl ([.ref a, .int (nI N)])).length) Slot.unset).toArray = ls at hl ⊢
  have hl : lv_has ls 2 [(0, .ref a), (1, .int (nI N))] := hl
  refine lv_aload_n hx hb d_Strip_init_0 rfl (lv_at hl 0 rfl) ?_
  refine W.objInit hx hb hown (hta _ ml_Strip_3) (hta _ im_obj) (hta _ cd_obj) rfl (by rw [hml]; exact hl.1) rfl d_Strip_init_1 (Nat.le_of_ble_eq_true rfl) (Nat.le_of_ble_eq_true rfl) ?_
  refine W.eq (g2 := F0 m 4 ls []) rfl ?_
  refine lv_aload_n hx hb d_Strip_init_4 rfl (lv_at hl 0 rfl) ?_
  refine lv_iload_n hx hb d_Strip_init_5 rfl (lv_at hl 1 rfl) ?_
  refine lv_iconst (v := 0) hx hb d_Strip_init_6 (by decide) ?_
  refine va_mmax hx hb (by rw [hml]; exact hl.1.symm) hown (hta _ mx_Strip) (hta _ mx_st) (hta _ mx_in) (hta _ mx_cd) (Nat.le_of_ble_eq_true rfl) (Nat.le_of_ble_eq_true rfl) (Nat.zero_le _) (Nat.zero_le _) d_Strip_init_7 ?_
  refine sn_ia (D := D) (N := N) (t0 := 0) hx hb hta ac_int hK rfl hP hD hS hA (if_neg (nI_pos (by omega))) hN (by show 0 + 1 ≤ 1; omega) (by show 0 + N ≤ N; omega) d_Strip_init_10 (fun q H hP hD hS => ?_)
  have hP : va_P D classes [(a, .inr (1, [.null, .int 0])), (q, .inl (cI, N, .inl (fun _ => 0)))] H := hP
  have hD : va_D A [(a, .inr (1, [.null, .int 0])), (q, .inl (cI, N, .inl (fun _ => 0)))] := hD
  refine va_putF (D := D) (ci := 1) (v := .ref q) (ty := .array .int) (C := R_Strip) (T := F_Strip) (N := 2) hx hb hta i_Strip t_Strip t_Strip_ok n_Strip hown hK hP hD hS 0 rfl rfl 0 (by decide) (hta _ zfl_Strip_15) (fun _ h9 => h9) rfl hin rfl (by decide +kernel) rfl rfl (Nat.le_of_ble_eq_true rfl) d_Strip_init_12 (fun H locs hP hD hS => ?_)
  have hP : va_P D classes [(a, .inr (1, [.ref q, .int 0])), (q, .inl (cI, N, .inl (fun _ => 0)))] H := hP
  have hD : va_D A [(a, .inr (1, [.ref q, .int 0])), (q, .inl (cI, N, .inl (fun _ => 0)))] := hD
  refine lv_aload_n hx hb d_Strip_init_15 rfl (lv_at hl 0 rfl) ?_
  refine lv_iconst (v := 0) hx hb d_Strip_init_16 (by decide) ?_
  refine va_put (D := D) (ci := 1) (v := .int 0) (ty := .int) (C := R_Strip) (T := F_Strip) (N := 2) hx hb hta i_Strip t_Strip t_Strip_ok n_Strip hown hK hP hD hS 0 rfl rfl 1 (by decide) (hta _ zfl_Strip_21) (fun _ h9 => h9) rfl (by decide +kernel) rfl rfl (Nat.le_of_ble_eq_true rfl) d_Strip_init_17 (fun H locs hP hD hS => ?_)
  have hP : va_P D classes [(a, .inr (1, [.ref q, .int 0])), (q, .inl (cI, N, .inl (fun _ => 0)))] H := hP
  have hD : va_D A [(a, .inr (1, [.ref q, .int 0])), (q, .inl (cI, N, .inl (fun _ => 0)))] := hD
  refine W.widen (k := 1) (n := N) (by omega) (by omega) ?_
  exact W.vret hx hb hr (fun t ht hW => ⟨⟨fun _ => q, rfl, trivial, by rw [ht]; exact hP, va_K.moved hW.alike hK, hD⟩, hS.F ht⟩) hS.2.2 d_Strip_init_20
set_option maxHeartbeats 4000000 in
set_option maxRecDepth 100000 in
theorem n_Table_init (l : Launch) (D : va_G) (a sz : Nat) (cI : ClassId) (mo wi : Int32) (N : Nat) (hmw : mo * wi = nI N) (hN : N < 100000000) : Met l y_Table_init ws_Table_init { frames := 1, cells := 1, slots := N, locals := 14 } (va_Pc [.ref a, .int mo, .int wi] (nW D [(a, .inr (2, [.int 0, .int 0, .null, .int 0]))] [(cI, .int)] sz)) (va_Qv (fun _ : Nat → Nat => True) (nB D (fun u => TW a (u 0) cI mo wi N (0, fun _ => 0)) [(cI, .int)] (va_A [(a, .inr (2, [.int 0, .int 0, .null, .int 0]))] sz)) (va_A [(a, .inr (2, [.int 0, .int 0, .null, .int 0]))] sz)) 1 N (va_A [(a, .inr (2, [.int 0, .int 0, .null, .int 0]))] sz) := by
  refine Met.ofW (cc := b_Table_init) (maxL := 3) (ret := none) (by decide) rfl ?_
  intro p e s m args below meth c s₁ B hml hv
  obtain ⟨rfl, hsz, hP, hK, hD0⟩ := hv
  have hx := B.exec
  have hb := B.bytes
  have hr := B.returns
  have hta : ∀ w ∈ aW, w.before _ s = true := fun w h => atoms_spec (ws := ws_Table_init) B.pre w (List.mem_cons_of_mem _ h)
  have hown : s.vm.findClass R_Table = some m.cls := findClass_of_methodNamed B.named
  have hlocks := B.notSynchronized
  have hin : meth.name = "<init>" := (name_of_methodNamed B.named B.method).1
  subst hsz
  have hD := hD0.self (sz := s.heap.size)
  generalize hAe : va_A [(a, .inr (2, [.int 0, .int 0, .null, .int 0]))] s.heap.size = A at hD ⊢
  have hA : ∀ q : Nat, s.heap.size ≤ q → A q := fun q h => by rw [← hAe]; exact Or.inr h
  have hS : va_S A s.heap s.heap [] := va_S.rf
  have hP : va_P D classes [(a, .inr (2, [.int 0, .int 0, .null, .int 0]))] s.heap := hP
  have hl := lv_entry ([.ref a, .int mo, .int wi]) (n := 3) (Nat.le_of_ble_eq_true rfl)
  rw [lg_entry_eq]
  generalize (lg_sl ([.ref a, .int mo, .int wi]) ++ List.replicate (3 - (lg_sl ([.ref a, .int mo, .int wi])).length) Slot.unset).toArray = ls at hl ⊢
  have hl : lv_has ls 3 [(0, .ref a), (1, .int mo), (2, .int wi)] := hl
  refine lv_aload_n hx hb d_Table_init_0 rfl (lv_at hl 0 rfl) ?_
  refine W.objInit hx hb hown (hta _ ml_Table_3) (hta _ im_obj) (hta _ cd_obj) rfl (by rw [hml]; exact hl.1) rfl d_Table_init_1 (Nat.le_of_ble_eq_true rfl) (Nat.le_of_ble_eq_true rfl) ?_
  refine W.eq (g2 := F0 m 4 ls []) rfl ?_
  refine lv_aload_n hx hb d_Table_init_4 rfl (lv_at hl 0 rfl) ?_
  refine lv_iload_n hx hb d_Table_init_5 rfl (lv_at hl 1 rfl) ?_
  refine va_putF (D := D) (ci := 2) (v := .int mo) (ty := .int) (C := R_Table) (T := F_Table) (N := 4) hx hb hta i_Table t_Table t_Table_ok n_Table hown hK hP hD hS 0 rfl rfl 0 (by decide) (hta _ zfl_Table_9) (fun _ h9 => h9) rfl hin rfl (by decide +kernel) rfl rfl (Nat.le_of_ble_eq_true rfl) d_Table_init_6 (fun H locs hP hD hS => ?_)
  have hP : va_P D classes [(a, .inr (2, [.int mo, .int 0, .null, .int 0]))] H := hP
  have hD : va_D A [(a, .inr (2, [.int mo, .int 0, .null, .int 0]))] := hD
  refine lv_aload_n hx hb d_Table_init_9 rfl (lv_at hl 0 rfl) ?_
  refine lv_iload_n hx hb d_Table_init_10 rfl (lv_at hl 2 rfl) ?_
  refine va_putF (D := D) (ci := 2) (v := .int wi) (ty := .int) (C := R_Table) (T := F_Table) (N := 4) hx hb hta i_Table t_Table t_Table_ok n_Table hown hK hP hD hS 0 rfl rfl 1 (by decide) (hta _ zfl_Table_15) (fun _ h9 => h9) rfl hin rfl (by decide +kernel) rfl rfl (Nat.le_of_ble_eq_true rfl) d_Table_init_11 (fun H locs hP hD hS => ?_)
  have hP : va_P D classes [(a, .inr (2, [.int mo, .int wi, .null, .int 0]))] H := hP
  have hD : va_D A [(a, .inr (2, [.int mo, .int wi, .null, .int 0]))] := hD
  refine lv_aload_n hx hb d_Table_init_14 rfl (lv_at hl 0 rfl) ?_
  refine lv_iload_n hx hb d_Table_init_15 rfl (lv_at hl 1 rfl) ?_
  refine lv_iload_n hx hb d_Table_init_16 rfl (lv_at hl 2 rfl) ?_
  refine lv_imul hx hb d_Table_init_17 ?_
  refine lv_iconst (v := 0) hx hb d_Table_init_18 (by decide) ?_
  refine va_mmax hx hb (by rw [hml]; exact hl.1.symm) hown (hta _ mx_Table) (hta _ mx_st) (hta _ mx_in) (hta _ mx_cd) (Nat.le_of_ble_eq_true rfl) (Nat.le_of_ble_eq_true rfl) (Nat.zero_le _) (Nat.zero_le _) d_Table_init_19 ?_
  refine sn_ia (D := D) (N := N) (t0 := 0) hx hb hta ac_int hK rfl hP hD hS hA (by rw [hmw]; exact if_neg (nI_pos (by omega))) hN (by show 0 + 1 ≤ 1; omega) (by show 0 + N ≤ N; omega) d_Table_init_22 (fun q H hP hD hS => ?_)
  have hP : va_P D classes [(a, .inr (2, [.int mo, .int wi, .null, .int 0])), (q, .inl (cI, N, .inl (fun _ => 0)))] H := hP
  have hD : va_D A [(a, .inr (2, [.int mo, .int wi, .null, .int 0])), (q, .inl (cI, N, .inl (fun _ => 0)))] := hD
  refine va_putF (D := D) (ci := 2) (v := .ref q) (ty := .array .int) (C := R_Table) (T := F_Table) (N := 4) hx hb hta i_Table t_Table t_Table_ok n_Table hown hK hP hD hS 0 rfl rfl 2 (by decide) (hta _ zfl_Table_24) (fun _ h9 => h9) rfl hin rfl (by decide +kernel) rfl rfl (Nat.le_of_ble_eq_true rfl) d_Table_init_24 (fun H locs hP hD hS => ?_)
  have hP : va_P D classes [(a, .inr (2, [.int mo, .int wi, .ref q, .int 0])), (q, .inl (cI, N, .inl (fun _ => 0)))] H := hP
  have hD : va_D A [(a, .inr (2, [.int mo, .int wi, .ref q, .int 0])), (q, .inl (cI, N, .inl (fun _ => 0)))] := hD
  refine lv_aload_n hx hb d_Table_init_27 rfl (lv_at hl 0 rfl) ?_
  refine lv_iconst (v := 0) hx hb d_Table_init_28 (by decide) ?_
  refine va_put (D := D) (ci := 2) (v := .int 0) (ty := .int) (C := R_Table) (T := F_Table) (N := 4) hx hb hta i_Table t_Table t_Table_ok n_Table hown hK hP hD hS 0 rfl rfl 3 (by decide) (hta _ zfl_Table_28) (fun _ h9 => h9) rfl (by decide +kernel) rfl rfl (Nat.le_of_ble_eq_true rfl) d_Table_init_29 (fun H locs hP hD hS => ?_)
  have hP : va_P D classes [(a, .inr (2, [.int mo, .int wi, .ref q, .int 0])), (q, .inl (cI, N, .inl (fun _ => 0)))] H := hP
  have hD : va_D A [(a, .inr (2, [.int mo, .int wi, .ref q, .int 0])), (q, .inl (cI, N, .inl (fun _ => 0)))] := hD
  refine W.widen (k := 1) (n := N) (by omega) (by omega) ?_
  exact W.vret hx hb hr (fun t ht hW => ⟨⟨fun _ => q, rfl, trivial, by rw [ht]; exact hP, va_K.moved hW.alike hK, hD⟩, hS.F ht⟩) hS.2.2 d_Table_init_32

theorem d_Book_init_0 : decode b_Book_init 0 = .ok (.aload_n 0, 1) := by decide +kernel
theorem d_Book_init_1 : decode b_Book_init 1 = .ok (.invokespecial 3, 3) := by decide +kernel
theorem d_Book_init_4 : decode b_Book_init 4 = .ok (.aload_n 0, 1) := by decide +kernel
theorem d_Book_init_5 : decode b_Book_init 5 = .ok (.new 9, 3) := by decide +kernel
theorem d_Book_init_8 : decode b_Book_init 8 = .ok (.dup, 1) := by decide +kernel
theorem d_Book_init_9 : decode b_Book_init 9 = .ok (.sipush 900, 3) := by decide +kernel
theorem d_Book_init_12 : decode b_Book_init 12 = .ok (.bipush 14, 2) := by decide +kernel
theorem d_Book_init_14 : decode b_Book_init 14 = .ok (.invokespecial 11, 3) := by decide +kernel
theorem d_Book_init_17 : decode b_Book_init 17 = .ok (.putfield 14, 3) := by decide +kernel
theorem d_Book_init_20 : decode b_Book_init 20 = .ok (.aload_n 0, 1) := by decide +kernel
theorem d_Book_init_21 : decode b_Book_init 21 = .ok (.new 9, 3) := by decide +kernel
theorem d_Book_init_24 : decode b_Book_init 24 = .ok (.dup, 1) := by decide +kernel
theorem d_Book_init_25 : decode b_Book_init 25 = .ok (.sipush 800, 3) := by decide +kernel
theorem d_Book_init_28 : decode b_Book_init 28 = .ok (.iconst 5, 1) := by decide +kernel
theorem d_Book_init_29 : decode b_Book_init 29 = .ok (.invokespecial 11, 3) := by decide +kernel
theorem d_Book_init_32 : decode b_Book_init 32 = .ok (.putfield 20, 3) := by decide +kernel
theorem d_Book_init_35 : decode b_Book_init 35 = .ok (.aload_n 0, 1) := by decide +kernel
theorem d_Book_init_36 : decode b_Book_init 36 = .ok (.new 23, 3) := by decide +kernel
theorem d_Book_init_39 : decode b_Book_init 39 = .ok (.dup, 1) := by decide +kernel
theorem d_Book_init_40 : decode b_Book_init 40 = .ok (.sipush 4000, 3) := by decide +kernel
theorem d_Book_init_43 : decode b_Book_init 43 = .ok (.invokespecial 25, 3) := by decide +kernel
theorem d_Book_init_46 : decode b_Book_init 46 = .ok (.putfield 28, 3) := by decide +kernel
theorem d_Book_init_49 : decode b_Book_init 49 = .ok (.aload_n 0, 1) := by decide +kernel
theorem d_Book_init_50 : decode b_Book_init 50 = .ok (.iconst 0, 1) := by decide +kernel
theorem d_Book_init_51 : decode b_Book_init 51 = .ok (.putfield 32, 3) := by decide +kernel
theorem d_Book_init_54 : decode b_Book_init 54 = .ok (.return_, 1) := by decide +kernel
set_option maxHeartbeats 4000000 in
set_option maxRecDepth 100000 in
theorem n_Book_init (l : Launch) (D : va_G) (a sz : Nat) (cI : ClassId)  : Met l y_Book_init ws_Book_init { frames := 2, cells := 6, slots := 20610, locals := 36 } (va_Pc [.ref a] (nW D [(a, .inr (3, [.null, .null, .null, .int 0]))] [(cI, .int)] sz)) (va_Qv (fun _ : Nat → Nat => True) (nB D (fun u => [(a, .inr (3, [.ref (u 0), .ref (u 2), .ref (u 4), .int 0])), (u 0, .inr (2, [.int 900, .int 14, .ref (u 1), .int 0])), (u 1, .inl (cI, 12600, .inl (fun _ => 0))), (u 2, .inr (2, [.int 800, .int 5, .ref (u 3), .int 0])), (u 3, .inl (cI, 4000, .inl (fun _ => 0))), (u 4, .inr (1, [.ref (u 5), .int 0])), (u 5, .inl (cI, 4000, .inl (fun _ => 0)))]) [(cI, .int)] (va_A [(a, .inr (3, [.null, .null, .null, .int 0]))] sz)) (va_A [(a, .inr (3, [.null, .null, .null, .int 0]))] sz)) 6 20610 (va_A [(a, .inr (3, [.null, .null, .null, .int 0]))] sz) := by
  refine Met.ofW (cc := b_Book_init) (maxL := 1) (ret := none) (by decide) rfl ?_
  intro p e s m args below meth c s₁ B hml hv
  obtain ⟨rfl, hsz, hP, hK, hD0⟩ := hv
  have hx := B.exec
  have hb := B.bytes
  have hr := B.returns
  have hta : ∀ w ∈ aW, w.before _ s = true := fun w h => atoms_spec (ws := ws_Book_init) B.pre w (List.mem_cons_of_mem _ h)
  have hown : s.vm.findClass R_Book = some m.cls := findClass_of_methodNamed B.named
  have hlocks := B.notSynchronized
  have hin : meth.name = "<init>" := (name_of_methodNamed B.named B.method).1
  subst hsz
  have hD := hD0.self (sz := s.heap.size)
  generalize hAe : va_A [(a, .inr (3, [.null, .null, .null, .int 0]))] s.heap.size = A at hD ⊢
  have hA : ∀ q : Nat, s.heap.size ≤ q → A q := fun q h => by rw [← hAe]; exact Or.inr h
  have hS : va_S A s.heap s.heap [] := va_S.rf
  have hP : va_P D classes [(a, .inr (3, [.null, .null, .null, .int 0]))] s.heap := hP
  have hl := lv_entry ([.ref a]) (n := 1) (Nat.le_of_ble_eq_true rfl)
  rw [lg_entry_eq]
  generalize (lg_sl ([.ref a]) ++ List.replicate (1 - (lg_sl ([.ref a])).length) Slot.unset).toArray = ls at hl ⊢
  have hl : lv_has ls 1 [(0, .ref a)] := hl
  refine lv_aload_n hx hb d_Book_init_0 rfl (lv_at hl 0 rfl) ?_
  refine W.objInit hx hb hown (hta _ ml_Book_3) (hta _ im_obj) (hta _ cd_obj) rfl (by rw [hml]; exact hl.1) rfl d_Book_init_1 (Nat.le_of_ble_eq_true rfl) (Nat.le_of_ble_eq_true rfl) ?_
  refine W.eq (g2 := F0 m 4 ls []) rfl ?_
  refine lv_aload_n hx hb d_Book_init_4 rfl (lv_at hl 0 rfl) ?_
  refine va_new (D := D) (ci := 2) (fs := [.int 0, .int 0, .null, .int 0]) (C := R_Table) (T := F_Table) (N := 4) hx hb hta i_Table t_Table t_Table_ok hown (hta _ cl_Book_9) (hta _ is_Table) (hta _ in_Table) hK hP hD hS hA rfl (fun j hj => by rcases (show j = 0 ∨ j = 1 ∨ j = 2 ∨ j = 3 by omega) with rfl | rfl | rfl | rfl <;> rfl) (by decide) (by decide) d_Book_init_5 (fun q5 H hP hD hS => ?_)
  have hP : va_P D classes [(a, .inr (3, [.null, .null, .null, .int 0])), (q5, .inr (2, [.int 0, .int 0, .null, .int 0]))] H := hP
  have hD : va_D A [(a, .inr (3, [.null, .null, .null, .int 0])), (q5, .inr (2, [.int 0, .int 0, .null, .int 0]))] := hD
  refine W.widen (k := 1) (n := 4) (by decide) (by decide) ?_
  refine lv_dup hx hb d_Book_init_8 rfl ?_
  refine lv_sipush (v := 900) hx hb d_Book_init_9 (by decide) ?_
  refine lv_bipush (v := 14) hx hb d_Book_init_12 (by decide) ?_
  refine sn_v (D := D) (w0 := [(q5, .inr (2, [.int 0, .int 0, .null, .int 0]))]) (ws := [(a, .inr (3, [.null, .null, .null, .int 0])), (q5, .inr (2, [.int 0, .int 0, .null, .int 0]))]) (wr := [(a, .inr (3, [.null, .null, .null, .int 0]))]) (b0 := q5) (As := [.int 900, .int 14]) (rest := [.ref q5, .ref a]) ⟨hx, hb, hml, hown, hta⟩ (n_Table_init l D q5 _ cI 900 14 12600 (by decide) (by decide)) oi_Book_11 ⟨Nat.le_of_ble_eq_true rfl, Nat.le_of_ble_eq_true rfl⟩ hP hK hD hS hA [1] [0] rfl rfl rfl rfl rfl (by decide) rfl hl.1 rfl (Nat.le_of_ble_eq_true rfl) d_Book_init_14 ⟨by decide, by decide⟩ (fun u14 H locs hw hP hD hS => ?_)
  have hP : va_P D classes [(a, .inr (3, [.null, .null, .null, .int 0])), (q5, .inr (2, [.int 900, .int 14, .ref (u14 0), .int 0])), ((u14 0), .inl (cI, 12600, .inl (fun _ => 0)))] H := hP
  have hD : va_D A [(a, .inr (3, [.null, .null, .null, .int 0])), (q5, .inr (2, [.int 900, .int 14, .ref (u14 0), .int 0])), ((u14 0), .inl (cI, 12600, .inl (fun _ => 0)))] := hD
  refine W.widen (k := 2) (n := 12604) (by decide) (by decide) ?_
  refine va_putF (D := D) (ci := 3) (v := .ref q5) (ty := .object "PlainPages$Table") (C := R_Book) (T := F_Book) (N := 4) hx hb hta i_Book t_Book t_Book_ok n_Book hown hK hP hD hS 0 rfl rfl 0 (by decide) (hta _ zfl_Book_14) (fun _ h9 => h9) rfl hin rfl (by decide +kernel) rfl rfl (Nat.le_of_ble_eq_true rfl) d_Book_init_17 (fun H locs hP hD hS => ?_)
  have hP : va_P D classes [(a, .inr (3, [.ref q5, .null, .null, .int 0])), (q5, .inr (2, [.int 900, .int 14, .ref (u14 0), .int 0])), ((u14 0), .inl (cI, 12600, .inl (fun _ => 0)))] H := hP
  have hD : va_D A [(a, .inr (3, [.ref q5, .null, .null, .int 0])), (q5, .inr (2, [.int 900, .int 14, .ref (u14 0), .int 0])), ((u14 0), .inl (cI, 12600, .inl (fun _ => 0)))] := hD
  refine lv_aload_n hx hb d_Book_init_20 rfl (lv_at hl 0 rfl) ?_
  refine va_new (D := D) (ci := 2) (fs := [.int 0, .int 0, .null, .int 0]) (C := R_Table) (T := F_Table) (N := 4) hx hb hta i_Table t_Table t_Table_ok hown (hta _ cl_Book_9) (hta _ is_Table) (hta _ in_Table) hK hP hD hS hA rfl (fun j hj => by rcases (show j = 0 ∨ j = 1 ∨ j = 2 ∨ j = 3 by omega) with rfl | rfl | rfl | rfl <;> rfl) (by decide) (by decide) d_Book_init_21 (fun q21 H hP hD hS => ?_)
  have hP : va_P D classes [(a, .inr (3, [.ref q5, .null, .null, .int 0])), (q5, .inr (2, [.int 900, .int 14, .ref (u14 0), .int 0])), ((u14 0), .inl (cI, 12600, .inl (fun _ => 0))), (q21, .inr (2, [.int 0, .int 0, .null, .int 0]))] H := hP
  have hD : va_D A [(a, .inr (3, [.ref q5, .null, .null, .int 0])), (q5, .inr (2, [.int 900, .int 14, .ref (u14 0), .int 0])), ((u14 0), .inl (cI, 12600, .inl (fun _ => 0))), (q21, .inr (2, [.int 0, .int 0, .null, .int 0]))] := hD
  refine W.widen (k := 3) (n := 12608) (by decide) (by decide) ?_
  refine lv_dup hx hb d_Book_init_24 rfl ?_
  refine lv_sipush (v := 800) hx hb d_Book_init_25 (by decide) ?_
  refine lv_iconst (v := 5) hx hb d_Book_init_28 (by decide) ?_
  refine sn_v (D := D) (w0 := [(q21, .inr (2, [.int 0, .int 0, .null, .int 0]))]) (ws := [(a, .inr (3, [.ref q5, .null, .null, .int 0])), (q5, .inr (2, [.int 900, .int 14, .ref (u14 0), .int 0])), ((u14 0), .inl (cI, 12600, .inl (fun _ => 0))), (q21, .inr (2, [.int 0, .int 0, .null, .int 0]))]) (wr := [(a, .inr (3, [.ref q5, .null, .null, .int 0])), (q5, .inr (2, [.int 900, .int 14, .ref (u14 0), .int 0])), ((u14 0), .inl (cI, 12600, .inl (fun _ => 0)))]) (b0 := q21) (As := [.int 800, .int 5]) (rest := [.ref q21, .ref a]) ⟨hx, hb, hml, hown, hta⟩ (n_Table_init l D q21 _ cI 800 5 4000 (by decide) (by decide)) oi_Book_11 ⟨Nat.le_of_ble_eq_true rfl, Nat.le_of_ble_eq_true rfl⟩ hP hK hD hS hA [3] [0, 1, 2] rfl rfl rfl rfl rfl (by decide) rfl hl.1 rfl (Nat.le_of_ble_eq_true rfl) d_Book_init_29 ⟨by decide, by decide⟩ (fun u29 H locs hw hP hD hS => ?_)
  have hP : va_P D classes [(a, .inr (3, [.ref q5, .null, .null, .int 0])), (q5, .inr (2, [.int 900, .int 14, .ref (u14 0), .int 0])), ((u14 0), .inl (cI, 12600, .inl (fun _ => 0))), (q21, .inr (2, [.int 800, .int 5, .ref (u29 0), .int 0])), ((u29 0), .inl (cI, 4000, .inl (fun _ => 0)))] H := hP
  have hD : va_D A [(a, .inr (3, [.ref q5, .null, .null, .int 0])), (q5, .inr (2, [.int 900, .int 14, .ref (u14 0), .int 0])), ((u14 0), .inl (cI, 12600, .inl (fun _ => 0))), (q21, .inr (2, [.int 800, .int 5, .ref (u29 0), .int 0])), ((u29 0), .inl (cI, 4000, .inl (fun _ => 0)))] := hD
  refine W.widen (k := 4) (n := 16608) (by decide) (by decide) ?_
  refine va_putF (D := D) (ci := 3) (v := .ref q21) (ty := .object "PlainPages$Table") (C := R_Book) (T := F_Book) (N := 4) hx hb hta i_Book t_Book t_Book_ok n_Book hown hK hP hD hS 0 rfl rfl 1 (by decide) (hta _ zfl_Book_20) (fun _ h9 => h9) rfl hin rfl (by decide +kernel) rfl rfl (Nat.le_of_ble_eq_true rfl) d_Book_init_32 (fun H locs hP hD hS => ?_)
  have hP : va_P D classes [(a, .inr (3, [.ref q5, .ref q21, .null, .int 0])), (q5, .inr (2, [.int 900, .int 14, .ref (u14 0), .int 0])), ((u14 0), .inl (cI, 12600, .inl (fun _ => 0))), (q21, .inr (2, [.int 800, .int 5, .ref (u29 0), .int 0])), ((u29 0), .inl (cI, 4000, .inl (fun _ => 0)))] H := hP
  have hD : va_D A [(a, .inr (3, [.ref q5, .ref q21, .null, .int 0])), (q5, .inr (2, [.int 900, .int 14, .ref (u14 0), .int 0])), ((u14 0), .inl (cI, 12600, .inl (fun _ => 0))), (q21, .inr (2, [.int 800, .int 5, .ref (u29 0), .int 0])), ((u29 0), .inl (cI, 4000, .inl (fun _ => 0)))] := hD
  refine lv_aload_n hx hb d_Book_init_35 rfl (lv_at hl 0 rfl) ?_
  refine va_new (D := D) (ci := 1) (fs := [.null, .int 0]) (C := R_Strip) (T := F_Strip) (N := 2) hx hb hta i_Strip t_Strip t_Strip_ok hown (hta _ cl_Book_23) (hta _ is_Strip) (hta _ in_Strip) hK hP hD hS hA rfl (fun j hj => by rcases (show j = 0 ∨ j = 1 by omega) with rfl | rfl <;> rfl) (by decide) (by decide) d_Book_init_36 (fun q36 H hP hD hS => ?_)
  have hP : va_P D classes [(a, .inr (3, [.ref q5, .ref q21, .null, .int 0])), (q5, .inr (2, [.int 900, .int 14, .ref (u14 0), .int 0])), ((u14 0), .inl (cI, 12600, .inl (fun _ => 0))), (q21, .inr (2, [.int 800, .int 5, .ref (u29 0), .int 0])), ((u29 0), .inl (cI, 4000, .inl (fun _ => 0))), (q36, .inr (1, [.null, .int 0]))] H := hP
  have hD : va_D A [(a, .inr (3, [.ref q5, .ref q21, .null, .int 0])), (q5, .inr (2, [.int 900, .int 14, .ref (u14 0), .int 0])), ((u14 0), .inl (cI, 12600, .inl (fun _ => 0))), (q21, .inr (2, [.int 800, .int 5, .ref (u29 0), .int 0])), ((u29 0), .inl (cI, 4000, .inl (fun _ => 0))), (q36, .inr (1, [.null, .int 0]))] := hD
  refine W.widen (k := 5) (n := 16610) (by decide) (by decide) ?_
  refine lv_dup hx hb d_Book_init_39 rfl ?_
  refine lv_sipush (v := 4000) hx hb d_Book_init_40 (by decide) ?_
  refine sn_v (D := D) (w0 := [(q36, .inr (1, [.null, .int 0]))]) (ws := [(a, .inr (3, [.ref q5, .ref q21, .null, .int 0])), (q5, .inr (2, [.int 900, .int 14, .ref (u14 0), .int 0])), ((u14 0), .inl (cI, 12600, .inl (fun _ => 0))), (q21, .inr (2, [.int 800, .int 5, .ref (u29 0), .int 0])), ((u29 0), .inl (cI, 4000, .inl (fun _ => 0))), (q36, .inr (1, [.null, .int 0]))]) (wr := [(a, .inr (3, [.ref q5, .ref q21, .null, .int 0])), (q5, .inr (2, [.int 900, .int 14, .ref (u14 0), .int 0])), ((u14 0), .inl (cI, 12600, .inl (fun _ => 0))), (q21, .inr (2, [.int 800, .int 5, .ref (u29 0), .int 0])), ((u29 0), .inl (cI, 4000, .inl (fun _ => 0)))]) (b0 := q36) (As := [.int 4000]) (rest := [.ref q36, .ref a]) ⟨hx, hb, hml, hown, hta⟩ (n_Strip_init l D q36 _ cI 4000 (by decide)) oi_Book_25 ⟨Nat.le_of_ble_eq_true rfl, Nat.le_of_ble_eq_true rfl⟩ hP hK hD hS hA [5] [0, 1, 2, 3, 4] rfl rfl rfl rfl rfl (by decide) rfl hl.1 rfl (Nat.le_of_ble_eq_true rfl) d_Book_init_43 ⟨by decide, by decide⟩ (fun u43 H locs hw hP hD hS => ?_)
  have hP : va_P D classes [(a, .inr (3, [.ref q5, .ref q21, .null, .int 0])), (q5, .inr (2, [.int 900, .int 14, .ref (u14 0), .int 0])), ((u14 0), .inl (cI, 12600, .inl (fun _ => 0))), (q21, .inr (2, [.int 800, .int 5, .ref (u29 0), .int 0])), ((u29 0), .inl (cI, 4000, .inl (fun _ => 0))), (q36, .inr (1, [.ref (u43 0), .int 0])), ((u43 0), .inl (cI, 4000, .inl (fun _ => 0)))] H := hP
  have hD : va_D A [(a, .inr (3, [.ref q5, .ref q21, .null, .int 0])), (q5, .inr (2, [.int 900, .int 14, .ref (u14 0), .int 0])), ((u14 0), .inl (cI, 12600, .inl (fun _ => 0))), (q21, .inr (2, [.int 800, .int 5, .ref (u29 0), .int 0])), ((u29 0), .inl (cI, 4000, .inl (fun _ => 0))), (q36, .inr (1, [.ref (u43 0), .int 0])), ((u43 0), .inl (cI, 4000, .inl (fun _ => 0)))] := hD
  refine W.widen (k := 6) (n := 20610) (by decide) (by decide) ?_
  refine va_putF (D := D) (ci := 3) (v := .ref q36) (ty := .object "PlainPages$Strip") (C := R_Book) (T := F_Book) (N := 4) hx hb hta i_Book t_Book t_Book_ok n_Book hown hK hP hD hS 0 rfl rfl 2 (by decide) (hta _ zfl_Book_28) (fun _ h9 => h9) rfl hin rfl (by decide +kernel) rfl rfl (Nat.le_of_ble_eq_true rfl) d_Book_init_46 (fun H locs hP hD hS => ?_)
  have hP : va_P D classes [(a, .inr (3, [.ref q5, .ref q21, .ref q36, .int 0])), (q5, .inr (2, [.int 900, .int 14, .ref (u14 0), .int 0])), ((u14 0), .inl (cI, 12600, .inl (fun _ => 0))), (q21, .inr (2, [.int 800, .int 5, .ref (u29 0), .int 0])), ((u29 0), .inl (cI, 4000, .inl (fun _ => 0))), (q36, .inr (1, [.ref (u43 0), .int 0])), ((u43 0), .inl (cI, 4000, .inl (fun _ => 0)))] H := hP
  have hD : va_D A [(a, .inr (3, [.ref q5, .ref q21, .ref q36, .int 0])), (q5, .inr (2, [.int 900, .int 14, .ref (u14 0), .int 0])), ((u14 0), .inl (cI, 12600, .inl (fun _ => 0))), (q21, .inr (2, [.int 800, .int 5, .ref (u29 0), .int 0])), ((u29 0), .inl (cI, 4000, .inl (fun _ => 0))), (q36, .inr (1, [.ref (u43 0), .int 0])), ((u43 0), .inl (cI, 4000, .inl (fun _ => 0)))] := hD
  refine lv_aload_n hx hb d_Book_init_49 rfl (lv_at hl 0 rfl) ?_
  refine lv_iconst (v := 0) hx hb d_Book_init_50 (by decide) ?_
  refine va_put (D := D) (ci := 3) (v := .int 0) (ty := .int) (C := R_Book) (T := F_Book) (N := 4) hx hb hta i_Book t_Book t_Book_ok n_Book hown hK hP hD hS 0 rfl rfl 3 (by decide) (hta _ zfl_Book_32) (fun _ h9 => h9) rfl (by decide +kernel) rfl rfl (Nat.le_of_ble_eq_true rfl) d_Book_init_51 (fun H locs hP hD hS => ?_)
  have hP : va_P D classes [(a, .inr (3, [.ref q5, .ref q21, .ref q36, .int 0])), (q5, .inr (2, [.int 900, .int 14, .ref (u14 0), .int 0])), ((u14 0), .inl (cI, 12600, .inl (fun _ => 0))), (q21, .inr (2, [.int 800, .int 5, .ref (u29 0), .int 0])), ((u29 0), .inl (cI, 4000, .inl (fun _ => 0))), (q36, .inr (1, [.ref (u43 0), .int 0])), ((u43 0), .inl (cI, 4000, .inl (fun _ => 0)))] H := hP
  have hD : va_D A [(a, .inr (3, [.ref q5, .ref q21, .ref q36, .int 0])), (q5, .inr (2, [.int 900, .int 14, .ref (u14 0), .int 0])), ((u14 0), .inl (cI, 12600, .inl (fun _ => 0))), (q21, .inr (2, [.int 800, .int 5, .ref (u29 0), .int 0])), ((u29 0), .inl (cI, 4000, .inl (fun _ => 0))), (q36, .inr (1, [.ref (u43 0), .int 0])), ((u43 0), .inl (cI, 4000, .inl (fun _ => 0)))] := hD
  have hP := hP.sub (ws' := [(a, .inr (3, [.ref ((fun k => ([q5, (u14 0), q21, (u29 0), q36, (u43 0)] : List Nat).getD k 0) 0), .ref ((fun k => ([q5, (u14 0), q21, (u29 0), q36, (u43 0)] : List Nat).getD k 0) 2), .ref ((fun k => ([q5, (u14 0), q21, (u29 0), q36, (u43 0)] : List Nat).getD k 0) 4), .int 0])), ((fun k => ([q5, (u14 0), q21, (u29 0), q36, (u43 0)] : List Nat).getD k 0) 0, .inr (2, [.int 900, .int 14, .ref ((fun k => ([q5, (u14 0), q21, (u29 0), q36, (u43 0)] : List Nat).getD k 0) 1), .int 0])), ((fun k => ([q5, (u14 0), q21, (u29 0), q36, (u43 0)] : List Nat).getD k 0) 1, .inl (cI, 12600, .inl (fun _ => 0))), ((fun k => ([q5, (u14 0), q21, (u29 0), q36, (u43 0)] : List Nat).getD k 0) 2, .inr (2, [.int 800, .int 5, .ref ((fun k => ([q5, (u14 0), q21, (u29 0), q36, (u43 0)] : List Nat).getD k 0) 3), .int 0])), ((fun k => ([q5, (u14 0), q21, (u29 0), q36, (u43 0)] : List Nat).getD k 0) 3, .inl (cI, 4000, .inl (fun _ => 0))), ((fun k => ([q5, (u14 0), q21, (u29 0), q36, (u43 0)] : List Nat).getD k 0) 4, .inr (1, [.ref ((fun k => ([q5, (u14 0), q21, (u29 0), q36, (u43 0)] : List Nat).getD k 0) 5), .int 0])), ((fun k => ([q5, (u14 0), q21, (u29 0), q36, (u43 0)] : List Nat).getD k 0) 5, .inl (cI, 4000, .inl (fun _ => 0)))]) [0, 1, 2, 3, 4, 5, 6] rfl
  have hD := hD.sub (ws' := [(a, .inr (3, [.ref ((fun k => ([q5, (u14 0), q21, (u29 0), q36, (u43 0)] : List Nat).getD k 0) 0), .ref ((fun k => ([q5, (u14 0), q21, (u29 0), q36, (u43 0)] : List Nat).getD k 0) 2), .ref ((fun k => ([q5, (u14 0), q21, (u29 0), q36, (u43 0)] : List Nat).getD k 0) 4), .int 0])), ((fun k => ([q5, (u14 0), q21, (u29 0), q36, (u43 0)] : List Nat).getD k 0) 0, .inr (2, [.int 900, .int 14, .ref ((fun k => ([q5, (u14 0), q21, (u29 0), q36, (u43 0)] : List Nat).getD k 0) 1), .int 0])), ((fun k => ([q5, (u14 0), q21, (u29 0), q36, (u43 0)] : List Nat).getD k 0) 1, .inl (cI, 12600, .inl (fun _ => 0))), ((fun k => ([q5, (u14 0), q21, (u29 0), q36, (u43 0)] : List Nat).getD k 0) 2, .inr (2, [.int 800, .int 5, .ref ((fun k => ([q5, (u14 0), q21, (u29 0), q36, (u43 0)] : List Nat).getD k 0) 3), .int 0])), ((fun k => ([q5, (u14 0), q21, (u29 0), q36, (u43 0)] : List Nat).getD k 0) 3, .inl (cI, 4000, .inl (fun _ => 0))), ((fun k => ([q5, (u14 0), q21, (u29 0), q36, (u43 0)] : List Nat).getD k 0) 4, .inr (1, [.ref ((fun k => ([q5, (u14 0), q21, (u29 0), q36, (u43 0)] : List Nat).getD k 0) 5), .int 0])), ((fun k => ([q5, (u14 0), q21, (u29 0), q36, (u43 0)] : List Nat).getD k 0) 5, .inl (cI, 4000, .inl (fun _ => 0)))]) [0, 1, 2, 3, 4, 5, 6] (by decide) rfl
  exact W.vret hx hb hr (fun t ht hW => ⟨⟨(fun k => ([q5, (u14 0), q21, (u29 0), q36, (u43 0)] : List Nat).getD k 0), rfl, trivial, by rw [ht]; exact hP, va_K.moved hW.alike hK, hD⟩, hS.F ht⟩) hS.2.2 d_Book_init_54

theorem d_Reader_init_0 : decode b_Reader_init 0 = .ok (.aload_n 0, 1) := by decide +kernel
theorem d_Reader_init_1 : decode b_Reader_init 1 = .ok (.invokespecial 3, 3) := by decide +kernel
theorem d_Reader_init_4 : decode b_Reader_init 4 = .ok (.aload_n 0, 1) := by decide +kernel
theorem d_Reader_init_5 : decode b_Reader_init 5 = .ok (.aload_n 1, 1) := by decide +kernel
theorem d_Reader_init_6 : decode b_Reader_init 6 = .ok (.putfield 9, 3) := by decide +kernel
theorem d_Reader_init_9 : decode b_Reader_init 9 = .ok (.aload_n 0, 1) := by decide +kernel
theorem d_Reader_init_10 : decode b_Reader_init 10 = .ok (.aload_n 2, 1) := by decide +kernel
theorem d_Reader_init_11 : decode b_Reader_init 11 = .ok (.putfield 15, 3) := by decide +kernel
theorem d_Reader_init_14 : decode b_Reader_init 14 = .ok (.aload_n 0, 1) := by decide +kernel
theorem d_Reader_init_15 : decode b_Reader_init 15 = .ok (.iconst 0, 1) := by decide +kernel
theorem d_Reader_init_16 : decode b_Reader_init 16 = .ok (.putfield 19, 3) := by decide +kernel
theorem d_Reader_init_19 : decode b_Reader_init 19 = .ok (.aload_n 0, 1) := by decide +kernel
theorem d_Reader_init_20 : decode b_Reader_init 20 = .ok (.iconst (-1), 1) := by decide +kernel
theorem d_Reader_init_21 : decode b_Reader_init 21 = .ok (.putfield 23, 3) := by decide +kernel
theorem d_Reader_init_24 : decode b_Reader_init 24 = .ok (.aload_n 0, 1) := by decide +kernel
theorem d_Reader_init_25 : decode b_Reader_init 25 = .ok (.iconst 0, 1) := by decide +kernel
theorem d_Reader_init_26 : decode b_Reader_init 26 = .ok (.putfield 26, 3) := by decide +kernel
theorem d_Reader_init_29 : decode b_Reader_init 29 = .ok (.aload_n 0, 1) := by decide +kernel
theorem d_Reader_init_30 : decode b_Reader_init 30 = .ok (.iconst (-1), 1) := by decide +kernel
theorem d_Reader_init_31 : decode b_Reader_init 31 = .ok (.putfield 30, 3) := by decide +kernel
theorem d_Reader_init_34 : decode b_Reader_init 34 = .ok (.return_, 1) := by decide +kernel
set_option maxHeartbeats 4000000 in
set_option maxRecDepth 100000 in
theorem n_Reader_init (l : Launch) (D : va_G) (a sz : Nat) (cI : ClassId) (t b : Nat) : Met l y_Reader_init ws_Reader_init { frames := 1, cells := 0, slots := 0, locals := 12 } (va_Pc [.ref a, .ref t, .ref b] (nW D [(a, .inr (4, [.null, .null, .int 0, .int 0, .int 0, .int 0]))] [(cI, .int)] sz)) (va_Qv (fun _ : Nat → Nat => True) (nB D (fun u => [(a, .inr (4, [.ref t, .ref b, .int 0, .int (-1), .int 0, .int (-1)]))]) [(cI, .int)] (va_A [(a, .inr (4, [.null, .null, .int 0, .int 0, .int 0, .int 0]))] sz)) (va_A [(a, .inr (4, [.null, .null, .int 0, .int 0, .int 0, .int 0]))] sz)) 0 0 (va_A [(a, .inr (4, [.null, .null, .int 0, .int 0, .int 0, .int 0]))] sz) := by
  refine Met.ofW (cc := b_Reader_init) (maxL := 3) (ret := none) (by decide) rfl ?_
  intro p e s m args below meth c s₁ B hml hv
  obtain ⟨rfl, hsz, hP, hK, hD0⟩ := hv
  have hx := B.exec
  have hb := B.bytes
  have hr := B.returns
  have hta : ∀ w ∈ aW, w.before _ s = true := fun w h => atoms_spec (ws := ws_Reader_init) B.pre w (List.mem_cons_of_mem _ h)
  have hown : s.vm.findClass R_Reader = some m.cls := findClass_of_methodNamed B.named
  have hlocks := B.notSynchronized
  have hin : meth.name = "<init>" := (name_of_methodNamed B.named B.method).1
  subst hsz
  have hD := hD0.self (sz := s.heap.size)
  generalize hAe : va_A [(a, .inr (4, [.null, .null, .int 0, .int 0, .int 0, .int 0]))] s.heap.size = A at hD ⊢
  have hA : ∀ q : Nat, s.heap.size ≤ q → A q := fun q h => by rw [← hAe]; exact Or.inr h
  have hS : va_S A s.heap s.heap [] := va_S.rf
  have hP : va_P D classes [(a, .inr (4, [.null, .null, .int 0, .int 0, .int 0, .int 0]))] s.heap := hP
  have hl := lv_entry ([.ref a, .ref t, .ref b]) (n := 3) (Nat.le_of_ble_eq_true rfl)
  rw [lg_entry_eq]
  generalize (lg_sl ([.ref a, .ref t, .ref b]) ++ List.replicate (3 - (lg_sl ([.ref a, .ref t, .ref b])).length) Slot.unset).toArray = ls at hl ⊢
  have hl : lv_has ls 3 [(0, .ref a), (1, .ref t), (2, .ref b)] := hl
  refine lv_aload_n hx hb d_Reader_init_0 rfl (lv_at hl 0 rfl) ?_
  refine W.objInit hx hb hown (hta _ ml_Reader_3) (hta _ im_obj) (hta _ cd_obj) rfl (by rw [hml]; exact hl.1) rfl d_Reader_init_1 (Nat.le_of_ble_eq_true rfl) (Nat.le_of_ble_eq_true rfl) ?_
  refine W.eq (g2 := F0 m 4 ls []) rfl ?_
  refine lv_aload_n hx hb d_Reader_init_4 rfl (lv_at hl 0 rfl) ?_
  refine lv_aload_n hx hb d_Reader_init_5 rfl (lv_at hl 1 rfl) ?_
  refine va_putF (D := D) (ci := 4) (v := .ref t) (ty := .object "PlainPages$Strip") (C := R_Reader) (T := F_Reader) (N := 6) hx hb hta i_Reader t_Reader t_Reader_ok n_Reader hown hK hP hD hS 0 rfl rfl 0 (by decide) (hta _ zfl_Reader_9) (fun _ h9 => h9) rfl hin rfl (by decide +kernel) rfl rfl (Nat.le_of_ble_eq_true rfl) d_Reader_init_6 (fun H locs hP hD hS => ?_)
  have hP : va_P D classes [(a, .inr (4, [.ref t, .null, .int 0, .int 0, .int 0, .int 0]))] H := hP
  have hD : va_D A [(a, .inr (4, [.ref t, .null, .int 0, .int 0, .int 0, .int 0]))] := hD
  refine lv_aload_n hx hb d_Reader_init_9 rfl (lv_at hl 0 rfl) ?_
  refine lv_aload_n hx hb d_Reader_init_10 rfl (lv_at hl 2 rfl) ?_
  refine va_putF (D := D) (ci := 4) (v := .ref b) (ty := .object "PlainPages$Book") (C := R_Reader) (T := F_Reader) (N := 6) hx hb hta i_Reader t_Reader t_Reader_ok n_Reader hown hK hP hD hS 0 rfl rfl 1 (by decide) (hta _ zfl_Reader_15) (fun _ h9 => h9) rfl hin rfl (by decide +kernel) rfl rfl (Nat.le_of_ble_eq_true rfl) d_Reader_init_11 (fun H locs hP hD hS => ?_)
  have hP : va_P D classes [(a, .inr (4, [.ref t, .ref b, .int 0, .int 0, .int 0, .int 0]))] H := hP
  have hD : va_D A [(a, .inr (4, [.ref t, .ref b, .int 0, .int 0, .int 0, .int 0]))] := hD
  refine lv_aload_n hx hb d_Reader_init_14 rfl (lv_at hl 0 rfl) ?_
  refine lv_iconst (v := 0) hx hb d_Reader_init_15 (by decide) ?_
  refine va_put (D := D) (ci := 4) (v := .int 0) (ty := .int) (C := R_Reader) (T := F_Reader) (N := 6) hx hb hta i_Reader t_Reader t_Reader_ok n_Reader hown hK hP hD hS 0 rfl rfl 2 (by decide) (hta _ zfl_Reader_19) (fun _ h9 => h9) rfl (by decide +kernel) rfl rfl (Nat.le_of_ble_eq_true rfl) d_Reader_init_16 (fun H locs hP hD hS => ?_)
  have hP : va_P D classes [(a, .inr (4, [.ref t, .ref b, .int 0, .int 0, .int 0, .int 0]))] H := hP
  have hD : va_D A [(a, .inr (4, [.ref t, .ref b, .int 0, .int 0, .int 0, .int 0]))] := hD
  refine lv_aload_n hx hb d_Reader_init_19 rfl (lv_at hl 0 rfl) ?_
  refine lv_iconst (v := -1) hx hb d_Reader_init_20 (by decide) ?_
  refine va_put (D := D) (ci := 4) (v := .int (-1)) (ty := .int) (C := R_Reader) (T := F_Reader) (N := 6) hx hb hta i_Reader t_Reader t_Reader_ok n_Reader hown hK hP hD hS 0 rfl rfl 3 (by decide) (hta _ zfl_Reader_23) (fun _ h9 => h9) rfl (by decide +kernel) rfl rfl (Nat.le_of_ble_eq_true rfl) d_Reader_init_21 (fun H locs hP hD hS => ?_)
  have hP : va_P D classes [(a, .inr (4, [.ref t, .ref b, .int 0, .int (-1), .int 0, .int 0]))] H := hP
  have hD : va_D A [(a, .inr (4, [.ref t, .ref b, .int 0, .int (-1), .int 0, .int 0]))] := hD
  refine lv_aload_n hx hb d_Reader_init_24 rfl (lv_at hl 0 rfl) ?_
  refine lv_iconst (v := 0) hx hb d_Reader_init_25 (by decide) ?_
  refine va_put (D := D) (ci := 4) (v := .int 0) (ty := .boolean) (C := R_Reader) (T := F_Reader) (N := 6) hx hb hta i_Reader t_Reader t_Reader_ok n_Reader hown hK hP hD hS 0 rfl rfl 4 (by decide) (hta _ zfl_Reader_26) (fun _ h9 => h9) rfl (by decide +kernel) rfl rfl (Nat.le_of_ble_eq_true rfl) d_Reader_init_26 (fun H locs hP hD hS => ?_)
  have hP : va_P D classes [(a, .inr (4, [.ref t, .ref b, .int 0, .int (-1), .int 0, .int 0]))] H := hP
  have hD : va_D A [(a, .inr (4, [.ref t, .ref b, .int 0, .int (-1), .int 0, .int 0]))] := hD
  refine lv_aload_n hx hb d_Reader_init_29 rfl (lv_at hl 0 rfl) ?_
  refine lv_iconst (v := -1) hx hb d_Reader_init_30 (by decide) ?_
  refine va_put (D := D) (ci := 4) (v := .int (-1)) (ty := .int) (C := R_Reader) (T := F_Reader) (N := 6) hx hb hta i_Reader t_Reader t_Reader_ok n_Reader hown hK hP hD hS 0 rfl rfl 5 (by decide) (hta _ zfl_Reader_30) (fun _ h9 => h9) rfl (by decide +kernel) rfl rfl (Nat.le_of_ble_eq_true rfl) d_Reader_init_31 (fun H locs hP hD hS => ?_)
  have hP : va_P D classes [(a, .inr (4, [.ref t, .ref b, .int 0, .int (-1), .int 0, .int (-1)]))] H := hP
  have hD : va_D A [(a, .inr (4, [.ref t, .ref b, .int 0, .int (-1), .int 0, .int (-1)]))] := hD
  have hP := hP.sub (ws' := [(a, .inr (4, [.ref t, .ref b, .int 0, .int (-1), .int 0, .int (-1)]))]) [0] rfl
  have hD := hD.sub (ws' := [(a, .inr (4, [.ref t, .ref b, .int 0, .int (-1), .int 0, .int (-1)]))]) [0] (by decide) rfl
  exact W.vret hx hb hr (fun t ht hW => ⟨⟨(fun _ => 0), rfl, trivial, by rw [ht]; exact hP, va_K.moved hW.alike hK, hD⟩, hS.F ht⟩) hS.2.2 d_Reader_init_34

theorem d_Insp_init_0 : decode b_Insp_init 0 = .ok (.aload_n 0, 1) := by decide +kernel
theorem d_Insp_init_1 : decode b_Insp_init 1 = .ok (.invokespecial 3, 3) := by decide +kernel
theorem d_Insp_init_4 : decode b_Insp_init 4 = .ok (.aload_n 0, 1) := by decide +kernel
theorem d_Insp_init_5 : decode b_Insp_init 5 = .ok (.aload_n 1, 1) := by decide +kernel
theorem d_Insp_init_6 : decode b_Insp_init 6 = .ok (.putfield 9, 3) := by decide +kernel
theorem d_Insp_init_9 : decode b_Insp_init 9 = .ok (.return_, 1) := by decide +kernel
set_option maxHeartbeats 4000000 in
set_option maxRecDepth 100000 in
theorem n_Insp_init (l : Launch) (D : va_G) (a sz : Nat) (cI : ClassId) (t : Nat) : Met l y_Insp_init ws_Insp_init { frames := 1, cells := 0, slots := 0, locals := 12 } (va_Pc [.ref a, .ref t] (nW D [(a, .inr (5, [.null]))] [(cI, .int)] sz)) (va_Qv (fun _ : Nat → Nat => True) (nB D (fun u => [(a, .inr (5, [.ref t]))]) [(cI, .int)] (va_A [(a, .inr (5, [.null]))] sz)) (va_A [(a, .inr (5, [.null]))] sz)) 0 0 (va_A [(a, .inr (5, [.null]))] sz) := by
  refine Met.ofW (cc := b_Insp_init) (maxL := 2) (ret := none) (by decide) rfl ?_
  intro p e s m args below meth c s₁ B hml hv
  obtain ⟨rfl, hsz, hP, hK, hD0⟩ := hv
  have hx := B.exec
  have hb := B.bytes
  have hr := B.returns
  have hta : ∀ w ∈ aW, w.before _ s = true := fun w h => atoms_spec (ws := ws_Insp_init) B.pre w (List.mem_cons_of_mem _ h)
  have hown : s.vm.findClass R_Insp = some m.cls := findClass_of_methodNamed B.named
  have hlocks := B.notSynchronized
  have hin : meth.name = "<init>" := (name_of_methodNamed B.named B.method).1
  subst hsz
  have hD := hD0.self (sz := s.heap.size)
  generalize hAe : va_A [(a, .inr (5, [.null]))] s.heap.size = A at hD ⊢
  have hA : ∀ q : Nat, s.heap.size ≤ q → A q := fun q h => by rw [← hAe]; exact Or.inr h
  have hS : va_S A s.heap s.heap [] := va_S.rf
  have hP : va_P D classes [(a, .inr (5, [.null]))] s.heap := hP
  have hl := lv_entry ([.ref a, .ref t]) (n := 2) (Nat.le_of_ble_eq_true rfl)
  rw [lg_entry_eq]
  generalize (lg_sl ([.ref a, .ref t]) ++ List.replicate (2 - (lg_sl ([.ref a, .ref t])).length) Slot.unset).toArray = ls at hl ⊢
  have hl : lv_has ls 2 [(0, .ref a), (1, .ref t)] := hl
  refine lv_aload_n hx hb d_Insp_init_0 rfl (lv_at hl 0 rfl) ?_
  refine W.objInit hx hb hown (hta _ ml_Insp_3) (hta _ im_obj) (hta _ cd_obj) rfl (by rw [hml]; exact hl.1) rfl d_Insp_init_1 (Nat.le_of_ble_eq_true rfl) (Nat.le_of_ble_eq_true rfl) ?_
  refine W.eq (g2 := F0 m 4 ls []) rfl ?_
  refine lv_aload_n hx hb d_Insp_init_4 rfl (lv_at hl 0 rfl) ?_
  refine lv_aload_n hx hb d_Insp_init_5 rfl (lv_at hl 1 rfl) ?_
  refine va_putF (D := D) (ci := 5) (v := .ref t) (ty := .object "PlainPages$Book") (C := R_Insp) (T := F_Insp) (N := 1) hx hb hta i_Insp t_Insp t_Insp_ok n_Insp hown hK hP hD hS 0 rfl rfl 0 (by decide) (hta _ zfl_Insp_9) (fun _ h9 => h9) rfl hin rfl (by decide +kernel) rfl rfl (Nat.le_of_ble_eq_true rfl) d_Insp_init_6 (fun H locs hP hD hS => ?_)
  have hP : va_P D classes [(a, .inr (5, [.ref t]))] H := hP
  have hD : va_D A [(a, .inr (5, [.ref t]))] := hD
  have hP := hP.sub (ws' := [(a, .inr (5, [.ref t]))]) [0] rfl
  have hD := hD.sub (ws' := [(a, .inr (5, [.ref t]))]) [0] (by decide) rfl
  exact W.vret hx hb hr (fun t ht hW => ⟨⟨(fun _ => 0), rfl, trivial, by rw [ht]; exact hP, va_K.moved hW.alike hK, hD⟩, hS.F ht⟩) hS.2.2 d_Insp_init_9

theorem d_Scribe_init_0 : decode b_Scribe_init 0 = .ok (.aload_n 0, 1) := by decide +kernel
theorem d_Scribe_init_1 : decode b_Scribe_init 1 = .ok (.invokespecial 3, 3) := by decide +kernel
theorem d_Scribe_init_4 : decode b_Scribe_init 4 = .ok (.aload_n 0, 1) := by decide +kernel
theorem d_Scribe_init_5 : decode b_Scribe_init 5 = .ok (.aload_n 1, 1) := by decide +kernel
theorem d_Scribe_init_6 : decode b_Scribe_init 6 = .ok (.putfield 9, 3) := by decide +kernel
theorem d_Scribe_init_9 : decode b_Scribe_init 9 = .ok (.aload_n 0, 1) := by decide +kernel
theorem d_Scribe_init_10 : decode b_Scribe_init 10 = .ok (.aload_n 2, 1) := by decide +kernel
theorem d_Scribe_init_11 : decode b_Scribe_init 11 = .ok (.putfield 15, 3) := by decide +kernel
theorem d_Scribe_init_14 : decode b_Scribe_init 14 = .ok (.return_, 1) := by decide +kernel
set_option maxHeartbeats 4000000 in
set_option maxRecDepth 100000 in
theorem n_Scribe_init (l : Launch) (D : va_G) (a sz : Nat) (cI : ClassId) (t b : Nat) : Met l y_Scribe_init ws_Scribe_init { frames := 1, cells := 0, slots := 0, locals := 12 } (va_Pc [.ref a, .ref t, .ref b] (nW D [(a, .inr (6, [.null, .null]))] [(cI, .int)] sz)) (va_Qv (fun _ : Nat → Nat => True) (nB D (fun u => [(a, .inr (6, [.ref t, .ref b]))]) [(cI, .int)] (va_A [(a, .inr (6, [.null, .null]))] sz)) (va_A [(a, .inr (6, [.null, .null]))] sz)) 0 0 (va_A [(a, .inr (6, [.null, .null]))] sz) := by
  refine Met.ofW (cc := b_Scribe_init) (maxL := 3) (ret := none) (by decide) rfl ?_
  intro p e s m args below meth c s₁ B hml hv
  obtain ⟨rfl, hsz, hP, hK, hD0⟩ := hv
  have hx := B.exec
  have hb := B.bytes
  have hr := B.returns
  have hta : ∀ w ∈ aW, w.before _ s = true := fun w h => atoms_spec (ws := ws_Scribe_init) B.pre w (List.mem_cons_of_mem _ h)
  have hown : s.vm.findClass R_Scribe = some m.cls := findClass_of_methodNamed B.named
  have hlocks := B.notSynchronized
  have hin : meth.name = "<init>" := (name_of_methodNamed B.named B.method).1
  subst hsz
  have hD := hD0.self (sz := s.heap.size)
  generalize hAe : va_A [(a, .inr (6, [.null, .null]))] s.heap.size = A at hD ⊢
  have hA : ∀ q : Nat, s.heap.size ≤ q → A q := fun q h => by rw [← hAe]; exact Or.inr h
  have hS : va_S A s.heap s.heap [] := va_S.rf
  have hP : va_P D classes [(a, .inr (6, [.null, .null]))] s.heap := hP
  have hl := lv_entry ([.ref a, .ref t, .ref b]) (n := 3) (Nat.le_of_ble_eq_true rfl)
  rw [lg_entry_eq]
  generalize (lg_sl ([.ref a, .ref t, .ref b]) ++ List.replicate (3 - (lg_sl ([.ref a, .ref t, .ref b])).length) Slot.unset).toArray = ls at hl ⊢
  have hl : lv_has ls 3 [(0, .ref a), (1, .ref t), (2, .ref b)] := hl
  refine lv_aload_n hx hb d_Scribe_init_0 rfl (lv_at hl 0 rfl) ?_
  refine W.objInit hx hb hown (hta _ ml_Scribe_3) (hta _ im_obj) (hta _ cd_obj) rfl (by rw [hml]; exact hl.1) rfl d_Scribe_init_1 (Nat.le_of_ble_eq_true rfl) (Nat.le_of_ble_eq_true rfl) ?_
  refine W.eq (g2 := F0 m 4 ls []) rfl ?_
  refine lv_aload_n hx hb d_Scribe_init_4 rfl (lv_at hl 0 rfl) ?_
  refine lv_aload_n hx hb d_Scribe_init_5 rfl (lv_at hl 1 rfl) ?_
  refine va_putF (D := D) (ci := 6) (v := .ref t) (ty := .object "PlainPages$Book") (C := R_Scribe) (T := F_Scribe) (N := 2) hx hb hta i_Scribe t_Scribe t_Scribe_ok n_Scribe hown hK hP hD hS 0 rfl rfl 0 (by decide) (hta _ zfl_Scribe_9) (fun _ h9 => h9) rfl hin rfl (by decide +kernel) rfl rfl (Nat.le_of_ble_eq_true rfl) d_Scribe_init_6 (fun H locs hP hD hS => ?_)
  have hP : va_P D classes [(a, .inr (6, [.ref t, .null]))] H := hP
  have hD : va_D A [(a, .inr (6, [.ref t, .null]))] := hD
  refine lv_aload_n hx hb d_Scribe_init_9 rfl (lv_at hl 0 rfl) ?_
  refine lv_aload_n hx hb d_Scribe_init_10 rfl (lv_at hl 2 rfl) ?_
  refine va_putF (D := D) (ci := 6) (v := .ref b) (ty := .object "PlainPages$Strip") (C := R_Scribe) (T := F_Scribe) (N := 2) hx hb hta i_Scribe t_Scribe t_Scribe_ok n_Scribe hown hK hP hD hS 0 rfl rfl 1 (by decide) (hta _ zfl_Scribe_15) (fun _ h9 => h9) rfl hin rfl (by decide +kernel) rfl rfl (Nat.le_of_ble_eq_true rfl) d_Scribe_init_11 (fun H locs hP hD hS => ?_)
  have hP : va_P D classes [(a, .inr (6, [.ref t, .ref b]))] H := hP
  have hD : va_D A [(a, .inr (6, [.ref t, .ref b]))] := hD
  have hP := hP.sub (ws' := [(a, .inr (6, [.ref t, .ref b]))]) [0] rfl
  have hD := hD.sub (ws' := [(a, .inr (6, [.ref t, .ref b]))]) [0] (by decide) rfl
  exact W.vret hx hb hr (fun t ht hW => ⟨⟨(fun _ => 0), rfl, trivial, by rw [ht]; exact hP, va_K.moved hW.alike hK, hD⟩, hS.F ht⟩) hS.2.2 d_Scribe_init_14

/-- the state of a new object -/
def PP0 : PPS := (fun _ => 0, (0, fun _ => 0), (0, fun _ => 0), (0, fun _ => 0), (0, fun _ => 0), (0, fun _ => 0), 0, 0, -1, 0, -1, 0, -1)

theorem d_X_init_0 : decode b_X_init 0 = .ok (.aload_n 0, 1) := by decide +kernel
theorem d_X_init_1 : decode b_X_init 1 = .ok (.invokespecial 1, 3) := by decide +kernel
theorem d_X_init_4 : decode b_X_init 4 = .ok (.aload_n 0, 1) := by decide +kernel
theorem d_X_init_5 : decode b_X_init 5 = .ok (.bipush 20, 2) := by decide +kernel
theorem d_X_init_7 : decode b_X_init 7 = .ok (.newarray .int, 2) := by decide +kernel
theorem d_X_init_9 : decode b_X_init 9 = .ok (.putfield 9, 3) := by decide +kernel
theorem d_X_init_12 : decode b_X_init 12 = .ok (.aload_n 0, 1) := by decide +kernel
theorem d_X_init_13 : decode b_X_init 13 = .ok (.new 13, 3) := by decide +kernel
theorem d_X_init_16 : decode b_X_init 16 = .ok (.dup, 1) := by decide +kernel
theorem d_X_init_17 : decode b_X_init 17 = .ok (.sipush 4000, 3) := by decide +kernel
theorem d_X_init_20 : decode b_X_init 20 = .ok (.invokespecial 15, 3) := by decide +kernel
theorem d_X_init_23 : decode b_X_init 23 = .ok (.putfield 18, 3) := by decide +kernel
theorem d_X_init_26 : decode b_X_init 26 = .ok (.aload_n 0, 1) := by decide +kernel
theorem d_X_init_27 : decode b_X_init 27 = .ok (.new 13, 3) := by decide +kernel
theorem d_X_init_30 : decode b_X_init 30 = .ok (.dup, 1) := by decide +kernel
theorem d_X_init_31 : decode b_X_init 31 = .ok (.sipush 24000, 3) := by decide +kernel
theorem d_X_init_34 : decode b_X_init 34 = .ok (.invokespecial 15, 3) := by decide +kernel
theorem d_X_init_37 : decode b_X_init 37 = .ok (.putfield 22, 3) := by decide +kernel
theorem d_X_init_40 : decode b_X_init 40 = .ok (.aload_n 0, 1) := by decide +kernel
theorem d_X_init_41 : decode b_X_init 41 = .ok (.new 25, 3) := by decide +kernel
theorem d_X_init_44 : decode b_X_init 44 = .ok (.dup, 1) := by decide +kernel
theorem d_X_init_45 : decode b_X_init 45 = .ok (.invokespecial 27, 3) := by decide +kernel
theorem d_X_init_48 : decode b_X_init 48 = .ok (.putfield 28, 3) := by decide +kernel
theorem d_X_init_51 : decode b_X_init 51 = .ok (.aload_n 0, 1) := by decide +kernel
theorem d_X_init_52 : decode b_X_init 52 = .ok (.new 32, 3) := by decide +kernel
theorem d_X_init_55 : decode b_X_init 55 = .ok (.dup, 1) := by decide +kernel
theorem d_X_init_56 : decode b_X_init 56 = .ok (.aload_n 0, 1) := by decide +kernel
theorem d_X_init_57 : decode b_X_init 57 = .ok (.getfield 18, 3) := by decide +kernel
theorem d_X_init_60 : decode b_X_init 60 = .ok (.aload_n 0, 1) := by decide +kernel
theorem d_X_init_61 : decode b_X_init 61 = .ok (.getfield 28, 3) := by decide +kernel
theorem d_X_init_64 : decode b_X_init 64 = .ok (.invokespecial 34, 3) := by decide +kernel
theorem d_X_init_67 : decode b_X_init 67 = .ok (.putfield 37, 3) := by decide +kernel
theorem d_X_init_70 : decode b_X_init 70 = .ok (.aload_n 0, 1) := by decide +kernel
theorem d_X_init_71 : decode b_X_init 71 = .ok (.new 41, 3) := by decide +kernel
theorem d_X_init_74 : decode b_X_init 74 = .ok (.dup, 1) := by decide +kernel
theorem d_X_init_75 : decode b_X_init 75 = .ok (.aload_n 0, 1) := by decide +kernel
theorem d_X_init_76 : decode b_X_init 76 = .ok (.getfield 28, 3) := by decide +kernel
theorem d_X_init_79 : decode b_X_init 79 = .ok (.invokespecial 43, 3) := by decide +kernel
theorem d_X_init_82 : decode b_X_init 82 = .ok (.putfield 46, 3) := by decide +kernel
theorem d_X_init_85 : decode b_X_init 85 = .ok (.aload_n 0, 1) := by decide +kernel
theorem d_X_init_86 : decode b_X_init 86 = .ok (.new 50, 3) := by decide +kernel
theorem d_X_init_89 : decode b_X_init 89 = .ok (.dup, 1) := by decide +kernel
theorem d_X_init_90 : decode b_X_init 90 = .ok (.aload_n 0, 1) := by decide +kernel
theorem d_X_init_91 : decode b_X_init 91 = .ok (.getfield 28, 3) := by decide +kernel
theorem d_X_init_94 : decode b_X_init 94 = .ok (.aload_n 0, 1) := by decide +kernel
theorem d_X_init_95 : decode b_X_init 95 = .ok (.getfield 22, 3) := by decide +kernel
theorem d_X_init_98 : decode b_X_init 98 = .ok (.invokespecial 52, 3) := by decide +kernel
theorem d_X_init_101 : decode b_X_init 101 = .ok (.putfield 55, 3) := by decide +kernel
theorem d_X_init_104 : decode b_X_init 104 = .ok (.aload_n 0, 1) := by decide +kernel
theorem d_X_init_105 : decode b_X_init 105 = .ok (.iconst 0, 1) := by decide +kernel
theorem d_X_init_106 : decode b_X_init 106 = .ok (.putfield 59, 3) := by decide +kernel
theorem d_X_init_109 : decode b_X_init 109 = .ok (.aload_n 0, 1) := by decide +kernel
theorem d_X_init_110 : decode b_X_init 110 = .ok (.iconst (-1), 1) := by decide +kernel
theorem d_X_init_111 : decode b_X_init 111 = .ok (.putfield 63, 3) := by decide +kernel
theorem d_X_init_114 : decode b_X_init 114 = .ok (.return_, 1) := by decide +kernel
set_option maxHeartbeats 4000000 in
set_option maxRecDepth 100000 in
theorem n_X_init (l : Launch) (D : va_G) (a sz : Nat) (cI : ClassId) (aE aK aV : Nat → Nat) (aT : Nat) : Met l y_X_init ws_X_init { frames := 3, cells := 15, slots := 48647, locals := 56 } (va_Pc [.ref a] (fun U => nW D [(a, .inr (0, [.null, .null, .null, .null, .null, .null, .null, .int 0, .int 0]))] [(cI, .int)] sz U ∧ va_Nw (.methodLinkNest "PlainPages" 27 y_Book_init "PlainPages") U)) (va_Qv (fun u : Nat → Nat => u 0 = a) (nB D (fun u => (WW (D, u, cI, aE, aK, aV, aT) PP0)) [(cI, .int)] (va_A [(a, .inr (0, [.null, .null, .null, .null, .null, .null, .null, .int 0, .int 0]))] sz)) (va_A [(a, .inr (0, [.null, .null, .null, .null, .null, .null, .null, .int 0, .int 0]))] sz)) 15 48647 (va_A [(a, .inr (0, [.null, .null, .null, .null, .null, .null, .null, .int 0, .int 0]))] sz) := by
  refine Met.ofW (cc := b_X_init) (maxL := 1) (ret := none) (by decide) rfl ?_
  intro p e s m args below meth c s₁ B hml hv
  obtain ⟨rfl, ⟨hsz, hP, hK, hD0⟩, hNest⟩ := hv
  have hx := B.exec
  have hb := B.bytes
  have hr := B.returns
  have hta : ∀ w ∈ aW, w.before _ s = true := fun w h => atoms_spec (ws := ws_X_init) B.pre w (List.mem_cons_of_mem _ h)
  have hown : s.vm.findClass R_X = some m.cls := findClass_of_methodNamed B.named
  have hlocks := B.notSynchronized
  have hin : meth.name = "<init>" := (name_of_methodNamed B.named B.method).1
  subst hsz
  have hD := hD0.self (sz := s.heap.size)
  generalize hAe : va_A [(a, .inr (0, [.null, .null, .null, .null, .null, .null, .null, .int 0, .int 0]))] s.heap.size = A at hD ⊢
  have hA : ∀ q : Nat, s.heap.size ≤ q → A q := fun q h => by rw [← hAe]; exact Or.inr h
  have hS : va_S A s.heap s.heap [] := va_S.rf
  have hP : va_P D classes [(a, .inr (0, [.null, .null, .null, .null, .null, .null, .null, .int 0, .int 0]))] s.heap := hP
  have hl := lv_entry ([.ref a]) (n := 1) (Nat.le_of_ble_eq_true rfl)
  rw [lg_entry_eq]
  generalize (lg_sl ([.ref a]) ++ List.replicate (1 - (lg_sl ([.ref a])).length) Slot.unset).toArray = ls at hl ⊢
  have hl : lv_has ls 1 [(0, .ref a)] := hl
  refine lv_aload_n hx hb d_X_init_0 rfl (lv_at hl 0 rfl) ?_
  refine W.objInit hx hb hown (hta _ ml_X_1) (hta _ im_obj) (hta _ cd_obj) rfl (by rw [hml]; exact hl.1) rfl d_X_init_1 (Nat.le_of_ble_eq_true rfl) (Nat.le_of_ble_eq_true rfl) ?_
  refine W.eq (g2 := F0 m 4 ls []) rfl ?_
  refine lv_aload_n hx hb d_X_init_4 rfl (lv_at hl 0 rfl) ?_
  refine lv_bipush (v := 20) hx hb d_X_init_5 (by decide) ?_
  refine sn_ia (D := D) (N := 20) (t0 := 0) hx hb hta ac_int hK rfl hP hD hS hA (by decide) (by decide) (by decide) (by decide) d_X_init_7 (fun q7 H hP hD hS => ?_)
  have hP : va_P D classes [(a, .inr (0, [.null, .null, .null, .null, .null, .null, .null, .int 0, .int 0])), (q7, .inl (cI, 20, .inl (fun _ => 0)))] H := hP
  have hD : va_D A [(a, .inr (0, [.null, .null, .null, .null, .null, .null, .null, .int 0, .int 0])), (q7, .inl (cI, 20, .inl (fun _ => 0)))] := hD
  refine W.widen (k := 1) (n := 20) (by decide) (by decide) ?_
  refine va_putF (D := D) (ci := 0) (v := .ref q7) (ty := .array .int) (C := R_X) (T := F_X) (N := 9) hx hb hta i_X t_X t_X_ok n_X hown hK hP hD hS 0 rfl rfl 0 (by decide) (hta _ zfl_X_9) (fun _ h9 => h9) rfl hin rfl (by decide +kernel) rfl rfl (Nat.le_of_ble_eq_true rfl) d_X_init_9 (fun H locs hP hD hS => ?_)
  have hP : va_P D classes [(a, .inr (0, [.ref q7, .null, .null, .null, .null, .null, .null, .int 0, .int 0])), (q7, .inl (cI, 20, .inl (fun _ => 0)))] H := hP
  have hD : va_D A [(a, .inr (0, [.ref q7, .null, .null, .null, .null, .null, .null, .int 0, .int 0])), (q7, .inl (cI, 20, .inl (fun _ => 0)))] := hD
  refine lv_aload_n hx hb d_X_init_12 rfl (lv_at hl 0 rfl) ?_
  refine va_new (D := D) (ci := 1) (fs := [.null, .int 0]) (C := R_Strip) (T := F_Strip) (N := 2) hx hb hta i_Strip t_Strip t_Strip_ok hown (hta _ cl_X_13) (hta _ is_Strip) (hta _ in_Strip) hK hP hD hS hA rfl (fun j hj => by rcases (show j = 0 ∨ j = 1 by omega) with rfl | rfl <;> rfl) (by decide) (by decide) d_X_init_13 (fun q13 H hP hD hS => ?_)
  have hP : va_P D classes [(a, .inr (0, [.ref q7, .null, .null, .null, .null, .null, .null, .int 0, .int 0])), (q7, .inl (cI, 20, .inl (fun _ => 0))), (q13, .inr (1, [.null, .int 0]))] H := hP
  have hD : va_D A [(a, .inr (0, [.ref q7, .null, .null, .null, .null, .null, .null, .int 0, .int 0])), (q7, .inl (cI, 20, .inl (fun _ => 0))), (q13, .inr (1, [.null, .int 0]))] := hD
  refine W.widen (k := 2) (n := 22) (by decide) (by decide) ?_
  refine lv_dup hx hb d_X_init_16 rfl ?_
  refine lv_sipush (v := 4000) hx hb d_X_init_17 (by decide) ?_
  refine sn_v (D := D) (w0 := [(q13, .inr (1, [.null, .int 0]))]) (ws := [(a, .inr (0, [.ref q7, .null, .null, .null, .null, .null, .null, .int 0, .int 0])), (q7, .inl (cI, 20, .inl (fun _ => 0))), (q13, .inr (1, [.null, .int 0]))]) (wr := [(a, .inr (0, [.ref q7, .null, .null, .null, .null, .null, .null, .int 0, .int 0])), (q7, .inl (cI, 20, .inl (fun _ => 0)))]) (b0 := q13) (As := [.int 4000]) (rest := [.ref q13, .ref a]) ⟨hx, hb, hml, hown, hta⟩ (n_Strip_init l D q13 _ cI 4000 (by decide)) oi_X_15 ⟨Nat.le_of_ble_eq_true rfl, Nat.le_of_ble_eq_true rfl⟩ hP hK hD hS hA [2] [0, 1] rfl rfl rfl rfl rfl (by decide) rfl hl.1 rfl (Nat.le_of_ble_eq_true rfl) d_X_init_20 ⟨by decide, by decide⟩ (fun u20 H locs hw hP hD hS => ?_)
  have hP : va_P D classes [(a, .inr (0, [.ref q7, .null, .null, .null, .null, .null, .null, .int 0, .int 0])), (q7, .inl (cI, 20, .inl (fun _ => 0))), (q13, .inr (1, [.ref (u20 0), .int 0])), ((u20 0), .inl (cI, 4000, .inl (fun _ => 0)))] H := hP
  have hD : va_D A [(a, .inr (0, [.ref q7, .null, .null, .null, .null, .null, .null, .int 0, .int 0])), (q7, .inl (cI, 20, .inl (fun _ => 0))), (q13, .inr (1, [.ref (u20 0), .int 0])), ((u20 0), .inl (cI, 4000, .inl (fun _ => 0)))] := hD
  refine W.widen (k := 3) (n := 4022) (by decide) (by decide) ?_
  refine va_putF (D := D) (ci := 0) (v := .ref q13) (ty := .object "PlainPages$Strip") (C := R_X) (T := F_X) (N := 9) hx hb hta i_X t_X t_X_ok n_X hown hK hP hD hS 0 rfl rfl 1 (by decide) (hta _ zfl_X_18) (fun _ h9 => h9) rfl hin rfl (by decide +kernel) rfl rfl (Nat.le_of_ble_eq_true rfl) d_X_init_23 (fun H locs hP hD hS => ?_)
  have hP : va_P D classes [(a, .inr (0, [.ref q7, .ref q13, .null, .null, .null, .null, .null, .int 0, .int 0])), (q7, .inl (cI, 20, .inl (fun _ => 0))), (q13, .inr (1, [.ref (u20 0), .int 0])), ((u20 0), .inl (cI, 4000, .inl (fun _ => 0)))] H := hP
  have hD : va_D A [(a, .inr (0, [.ref q7, .ref q13, .null, .null, .null, .null, .null, .int 0, .int 0])), (q7, .inl (cI, 20, .inl (fun _ => 0))), (q13, .inr (1, [.ref (u20 0), .int 0])), ((u20 0), .inl (cI, 4000, .inl (fun _ => 0)))] := hD
  refine lv_aload_n hx hb d_X_init_26 rfl (lv_at hl 0 rfl) ?_
  refine va_new (D := D) (ci := 1) (fs := [.null, .int 0]) (C := R_Strip) (T := F_Strip) (N := 2) hx hb hta i_Strip t_Strip t_Strip_ok hown (hta _ cl_X_13) (hta _ is_Strip) (hta _ in_Strip) hK hP hD hS hA rfl (fun j hj => by rcases (show j = 0 ∨ j = 1 by omega) with rfl | rfl <;> rfl) (by decide) (by decide) d_X_init_27 (fun q27 H hP hD hS => ?_)
  have hP : va_P D classes [(a, .inr (0, [.ref q7, .ref q13, .null, .null, .null, .null, .null, .int 0, .int 0])), (q7, .inl (cI, 20, .inl (fun _ => 0))), (q13, .inr (1, [.ref (u20 0), .int 0])), ((u20 0), .inl (cI, 4000, .inl (fun _ => 0))), (q27, .inr (1, [.null, .int 0]))] H := hP
  have hD : va_D A [(a, .inr (0, [.ref q7, .ref q13, .null, .null, .null, .null, .null, .int 0, .int 0])), (q7, .inl (cI, 20, .inl (fun _ => 0))), (q13, .inr (1, [.ref (u20 0), .int 0])), ((u20 0), .inl (cI, 4000, .inl (fun _ => 0))), (q27, .inr (1, [.null, .int 0]))] := hD
  refine W.widen (k := 4) (n := 4024) (by decide) (by decide) ?_
  refine lv_dup hx hb d_X_init_30 rfl ?_
  refine lv_sipush (v := 24000) hx hb d_X_init_31 (by decide) ?_
  refine sn_v (D := D) (w0 := [(q27, .inr (1, [.null, .int 0]))]) (ws := [(a, .inr (0, [.ref q7, .ref q13, .null, .null, .null, .null, .null, .int 0, .int 0])), (q7, .inl (cI, 20, .inl (fun _ => 0))), (q13, .inr (1, [.ref (u20 0), .int 0])), ((u20 0), .inl (cI, 4000, .inl (fun _ => 0))), (q27, .inr (1, [.null, .int 0]))]) (wr := [(a, .inr (0, [.ref q7, .ref q13, .null, .null, .null, .null, .null, .int 0, .int 0])), (q7, .inl (cI, 20, .inl (fun _ => 0))), (q13, .inr (1, [.ref (u20 0), .int 0])), ((u20 0), .inl (cI, 4000, .inl (fun _ => 0)))]) (b0 := q27) (As := [.int 24000]) (rest := [.ref q27, .ref a]) ⟨hx, hb, hml, hown, hta⟩ (n_Strip_init l D q27 _ cI 24000 (by decide)) oi_X_15 ⟨Nat.le_of_ble_eq_true rfl, Nat.le_of_ble_eq_true rfl⟩ hP hK hD hS hA [4] [0, 1, 2, 3] rfl rfl rfl rfl rfl (by decide) rfl hl.1 rfl (Nat.le_of_ble_eq_true rfl) d_X_init_34 ⟨by decide, by decide⟩ (fun u34 H locs hw hP hD hS => ?_)
  have hP : va_P D classes [(a, .inr (0, [.ref q7, .ref q13, .null, .null, .null, .null, .null, .int 0, .int 0])), (q7, .inl (cI, 20, .inl (fun _ => 0))), (q13, .inr (1, [.ref (u20 0), .int 0])), ((u20 0), .inl (cI, 4000, .inl (fun _ => 0))), (q27, .inr (1, [.ref (u34 0), .int 0])), ((u34 0), .inl (cI, 24000, .inl (fun _ => 0)))] H := hP
  have hD : va_D A [(a, .inr (0, [.ref q7, .ref q13, .null, .null, .null, .null, .null, .int 0, .int 0])), (q7, .inl (cI, 20, .inl (fun _ => 0))), (q13, .inr (1, [.ref (u20 0), .int 0])), ((u20 0), .inl (cI, 4000, .inl (fun _ => 0))), (q27, .inr (1, [.ref (u34 0), .int 0])), ((u34 0), .inl (cI, 24000, .inl (fun _ => 0)))] := hD
  refine W.widen (k := 5) (n := 28024) (by decide) (by decide) ?_
  refine va_putF (D := D) (ci := 0) (v := .ref q27) (ty := .object "PlainPages$Strip") (C := R_X) (T := F_X) (N := 9) hx hb hta i_X t_X t_X_ok n_X hown hK hP hD hS 0 rfl rfl 2 (by decide) (hta _ zfl_X_22) (fun _ h9 => h9) rfl hin rfl (by decide +kernel) rfl rfl (Nat.le_of_ble_eq_true rfl) d_X_init_37 (fun H locs hP hD hS => ?_)
  have hP : va_P D classes [(a, .inr (0, [.ref q7, .ref q13, .ref q27, .null, .null, .null, .null, .int 0, .int 0])), (q7, .inl (cI, 20, .inl (fun _ => 0))), (q13, .inr (1, [.ref (u20 0), .int 0])), ((u20 0), .inl (cI, 4000, .inl (fun _ => 0))), (q27, .inr (1, [.ref (u34 0), .int 0])), ((u34 0), .inl (cI, 24000, .inl (fun _ => 0)))] H := hP
  have hD : va_D A [(a, .inr (0, [.ref q7, .ref q13, .ref q27, .null, .null, .null, .null, .int 0, .int 0])), (q7, .inl (cI, 20, .inl (fun _ => 0))), (q13, .inr (1, [.ref (u20 0), .int 0])), ((u20 0), .inl (cI, 4000, .inl (fun _ => 0))), (q27, .inr (1, [.ref (u34 0), .int 0])), ((u34 0), .inl (cI, 24000, .inl (fun _ => 0)))] := hD
  refine lv_aload_n hx hb d_X_init_40 rfl (lv_at hl 0 rfl) ?_
  refine va_new (D := D) (ci := 3) (fs := [.null, .null, .null, .int 0]) (C := R_Book) (T := F_Book) (N := 4) hx hb hta i_Book t_Book t_Book_ok hown (hta _ cl_X_25) (hta _ is_Book) (hta _ in_Book) hK hP hD hS hA rfl (fun j hj => by rcases (show j = 0 ∨ j = 1 ∨ j = 2 ∨ j = 3 by omega) with rfl | rfl | rfl | rfl <;> rfl) (by decide) (by decide) d_X_init_41 (fun q41 H hP hD hS => ?_)
  have hP : va_P D classes [(a, .inr (0, [.ref q7, .ref q13, .ref q27, .null, .null, .null, .null, .int 0, .int 0])), (q7, .inl (cI, 20, .inl (fun _ => 0))), (q13, .inr (1, [.ref (u20 0), .int 0])), ((u20 0), .inl (cI, 4000, .inl (fun _ => 0))), (q27, .inr (1, [.ref (u34 0), .int 0])), ((u34 0), .inl (cI, 24000, .inl (fun _ => 0))), (q41, .inr (3, [.null, .null, .null, .int 0]))] H := hP
  have hD : va_D A [(a, .inr (0, [.ref q7, .ref q13, .ref q27, .null, .null, .null, .null, .int 0, .int 0])), (q7, .inl (cI, 20, .inl (fun _ => 0))), (q13, .inr (1, [.ref (u20 0), .int 0])), ((u20 0), .inl (cI, 4000, .inl (fun _ => 0))), (q27, .inr (1, [.ref (u34 0), .int 0])), ((u34 0), .inl (cI, 24000, .inl (fun _ => 0))), (q41, .inr (3, [.null, .null, .null, .int 0]))] := hD
  refine W.widen (k := 6) (n := 28028) (by decide) (by decide) ?_
  refine lv_dup hx hb d_X_init_44 rfl ?_
  refine sn_vN (D := D) (w0 := [(q41, .inr (3, [.null, .null, .null, .int 0]))]) (ws := [(a, .inr (0, [.ref q7, .ref q13, .ref q27, .null, .null, .null, .null, .int 0, .int 0])), (q7, .inl (cI, 20, .inl (fun _ => 0))), (q13, .inr (1, [.ref (u20 0), .int 0])), ((u20 0), .inl (cI, 4000, .inl (fun _ => 0))), (q27, .inr (1, [.ref (u34 0), .int 0])), ((u34 0), .inl (cI, 24000, .inl (fun _ => 0))), (q41, .inr (3, [.null, .null, .null, .int 0]))]) (wr := [(a, .inr (0, [.ref q7, .ref q13, .ref q27, .null, .null, .null, .null, .int 0, .int 0])), (q7, .inl (cI, 20, .inl (fun _ => 0))), (q13, .inr (1, [.ref (u20 0), .int 0])), ((u20 0), .inl (cI, 4000, .inl (fun _ => 0))), (q27, .inr (1, [.ref (u34 0), .int 0])), ((u34 0), .inl (cI, 24000, .inl (fun _ => 0)))]) (b0 := q41) (As := []) (rest := [.ref q41, .ref a]) ⟨hx, hb, hml, hown, hta⟩ (n_Book_init l D q41 _ cI) hNest im_Book_init in_Book cd_Book_init rfl ⟨by decide +kernel, by decide +kernel⟩ (by decide +kernel) ⟨Nat.le_of_ble_eq_true rfl, Nat.le_of_ble_eq_true rfl⟩ hP hK hD hS hA [6] [0, 1, 2, 3, 4, 5] rfl rfl rfl rfl rfl (by decide) rfl hl.1 rfl (Nat.le_of_ble_eq_true rfl) d_X_init_45 ⟨by decide, by decide⟩ (fun u45 H locs hw hP hD hS => ?_)
  have hP : va_P D classes [(a, .inr (0, [.ref q7, .ref q13, .ref q27, .null, .null, .null, .null, .int 0, .int 0])), (q7, .inl (cI, 20, .inl (fun _ => 0))), (q13, .inr (1, [.ref (u20 0), .int 0])), ((u20 0), .inl (cI, 4000, .inl (fun _ => 0))), (q27, .inr (1, [.ref (u34 0), .int 0])), ((u34 0), .inl (cI, 24000, .inl (fun _ => 0))), (q41, .inr (3, [.ref (u45 0), .ref (u45 2), .ref (u45 4), .int 0])), ((u45 0), .inr (2, [.int 900, .int 14, .ref (u45 1), .int 0])), ((u45 1), .inl (cI, 12600, .inl (fun _ => 0))), ((u45 2), .inr (2, [.int 800, .int 5, .ref (u45 3), .int 0])), ((u45 3), .inl (cI, 4000, .inl (fun _ => 0))), ((u45 4), .inr (1, [.ref (u45 5), .int 0])), ((u45 5), .inl (cI, 4000, .inl (fun _ => 0)))] H := hP
  have hD : va_D A [(a, .inr (0, [.ref q7, .ref q13, .ref q27, .null, .null, .null, .null, .int 0, .int 0])), (q7, .inl (cI, 20, .inl (fun _ => 0))), (q13, .inr (1, [.ref (u20 0), .int 0])), ((u20 0), .inl (cI, 4000, .inl (fun _ => 0))), (q27, .inr (1, [.ref (u34 0), .int 0])), ((u34 0), .inl (cI, 24000, .inl (fun _ => 0))), (q41, .inr (3, [.ref (u45 0), .ref (u45 2), .ref (u45 4), .int 0])), ((u45 0), .inr (2, [.int 900, .int 14, .ref (u45 1), .int 0])), ((u45 1), .inl (cI, 12600, .inl (fun _ => 0))), ((u45 2), .inr (2, [.int 800, .int 5, .ref (u45 3), .int 0])), ((u45 3), .inl (cI, 4000, .inl (fun _ => 0))), ((u45 4), .inr (1, [.ref (u45 5), .int 0])), ((u45 5), .inl (cI, 4000, .inl (fun _ => 0)))] := hD
  refine W.widen (k := 12) (n := 48638) (by decide) (by decide) ?_
  refine va_putF (D := D) (ci := 0) (v := .ref q41) (ty := .object "PlainPages$Book") (C := R_X) (T := F_X) (N := 9) hx hb hta i_X t_X t_X_ok n_X hown hK hP hD hS 0 rfl rfl 3 (by decide) (hta _ zfl_X_28) (fun _ h9 => h9) rfl hin rfl (by decide +kernel) rfl rfl (Nat.le_of_ble_eq_true rfl) d_X_init_48 (fun H locs hP hD hS => ?_)
  have hP : va_P D classes [(a, .inr (0, [.ref q7, .ref q13, .ref q27, .ref q41, .null, .null, .null, .int 0, .int 0])), (q7, .inl (cI, 20, .inl (fun _ => 0))), (q13, .inr (1, [.ref (u20 0), .int 0])), ((u20 0), .inl (cI, 4000, .inl (fun _ => 0))), (q27, .inr (1, [.ref (u34 0), .int 0])), ((u34 0), .inl (cI, 24000, .inl (fun _ => 0))), (q41, .inr (3, [.ref (u45 0), .ref (u45 2), .ref (u45 4), .int 0])), ((u45 0), .inr (2, [.int 900, .int 14, .ref (u45 1), .int 0])), ((u45 1), .inl (cI, 12600, .inl (fun _ => 0))), ((u45 2), .inr (2, [.int 800, .int 5, .ref (u45 3), .int 0])), ((u45 3), .inl (cI, 4000, .inl (fun _ => 0))), ((u45 4), .inr (1, [.ref (u45 5), .int 0])), ((u45 5), .inl (cI, 4000, .inl (fun _ => 0)))] H := hP
  have hD : va_D A [(a, .inr (0, [.ref q7, .ref q13, .ref q27, .ref q41, .null, .null, .null, .int 0, .int 0])), (q7, .inl (cI, 20, .inl (fun _ => 0))), (q13, .inr (1, [.ref (u20 0), .int 0])), ((u20 0), .inl (cI, 4000, .inl (fun _ => 0))), (q27, .inr (1, [.ref (u34 0), .int 0])), ((u34 0), .inl (cI, 24000, .inl (fun _ => 0))), (q41, .inr (3, [.ref (u45 0), .ref (u45 2), .ref (u45 4), .int 0])), ((u45 0), .inr (2, [.int 900, .int 14, .ref (u45 1), .int 0])), ((u45 1), .inl (cI, 12600, .inl (fun _ => 0))), ((u45 2), .inr (2, [.int 800, .int 5, .ref (u45 3), .int 0])), ((u45 3), .inl (cI, 4000, .inl (fun _ => 0))), ((u45 4), .inr (1, [.ref (u45 5), .int 0])), ((u45 5), .inl (cI, 4000, .inl (fun _ => 0)))] := hD
  refine lv_aload_n hx hb d_X_init_51 rfl (lv_at hl 0 rfl) ?_
  refine va_new (D := D) (ci := 4) (fs := [.null, .null, .int 0, .int 0, .int 0, .int 0]) (C := R_Reader) (T := F_Reader) (N := 6) hx hb hta i_Reader t_Reader t_Reader_ok hown (hta _ cl_X_32) (hta _ is_Reader) (hta _ in_Reader) hK hP hD hS hA rfl (fun j hj => by rcases (show j = 0 ∨ j = 1 ∨ j = 2 ∨ j = 3 ∨ j = 4 ∨ j = 5 by omega) with rfl | rfl | rfl | rfl | rfl | rfl <;> rfl) (by decide) (by decide) d_X_init_52 (fun q52 H hP hD hS => ?_)
  have hP : va_P D classes [(a, .inr (0, [.ref q7, .ref q13, .ref q27, .ref q41, .null, .null, .null, .int 0, .int 0])), (q7, .inl (cI, 20, .inl (fun _ => 0))), (q13, .inr (1, [.ref (u20 0), .int 0])), ((u20 0), .inl (cI, 4000, .inl (fun _ => 0))), (q27, .inr (1, [.ref (u34 0), .int 0])), ((u34 0), .inl (cI, 24000, .inl (fun _ => 0))), (q41, .inr (3, [.ref (u45 0), .ref (u45 2), .ref (u45 4), .int 0])), ((u45 0), .inr (2, [.int 900, .int 14, .ref (u45 1), .int 0])), ((u45 1), .inl (cI, 12600, .inl (fun _ => 0))), ((u45 2), .inr (2, [.int 800, .int 5, .ref (u45 3), .int 0])), ((u45 3), .inl (cI, 4000, .inl (fun _ => 0))), ((u45 4), .inr (1, [.ref (u45 5), .int 0])), ((u45 5), .inl (cI, 4000, .inl (fun _ => 0))), (q52, .inr (4, [.null, .null, .int 0, .int 0, .int 0, .int 0]))] H := hP
  have hD : va_D A [(a, .inr (0, [.ref q7, .ref q13, .ref q27, .ref q41, .null, .null, .null, .int 0, .int 0])), (q7, .inl (cI, 20, .inl (fun _ => 0))), (q13, .inr (1, [.ref (u20 0), .int 0])), ((u20 0), .inl (cI, 4000, .inl (fun _ => 0))), (q27, .inr (1, [.ref (u34 0), .int 0])), ((u34 0), .inl (cI, 24000, .inl (fun _ => 0))), (q41, .inr (3, [.ref (u45 0), .ref (u45 2), .ref (u45 4), .int 0])), ((u45 0), .inr (2, [.int 900, .int 14, .ref (u45 1), .int 0])), ((u45 1), .inl (cI, 12600, .inl (fun _ => 0))), ((u45 2), .inr (2, [.int 800, .int 5, .ref (u45 3), .int 0])), ((u45 3), .inl (cI, 4000, .inl (fun _ => 0))), ((u45 4), .inr (1, [.ref (u45 5), .int 0])), ((u45 5), .inl (cI, 4000, .inl (fun _ => 0))), (q52, .inr (4, [.null, .null, .int 0, .int 0, .int 0, .int 0]))] := hD
  refine W.widen (k := 13) (n := 48644) (by decide) (by decide) ?_
  refine lv_dup hx hb d_X_init_55 rfl ?_
  refine lv_aload_n hx hb d_X_init_56 rfl (lv_at hl 0 rfl) ?_
  refine va_get (D := D) (ci := 0) (v := .ref q13) (C := R_X) (T := F_X) (N := 9) hx hb hta i_X hown hK hP 0 rfl rfl 1 (by decide) (hta _ zfl_X_18) (fun _ h9 => h9) rfl d_X_init_57 ?_
  refine lv_aload_n hx hb d_X_init_60 rfl (lv_at hl 0 rfl) ?_
  refine va_get (D := D) (ci := 0) (v := .ref q41) (C := R_X) (T := F_X) (N := 9) hx hb hta i_X hown hK hP 0 rfl rfl 3 (by decide) (hta _ zfl_X_28) (fun _ h9 => h9) rfl d_X_init_61 ?_
  refine sn_v (D := D) (w0 := [(q52, .inr (4, [.null, .null, .int 0, .int 0, .int 0, .int 0]))]) (ws := [(a, .inr (0, [.ref q7, .ref q13, .ref q27, .ref q41, .null, .null, .null, .int 0, .int 0])), (q7, .inl (cI, 20, .inl (fun _ => 0))), (q13, .inr (1, [.ref (u20 0), .int 0])), ((u20 0), .inl (cI, 4000, .inl (fun _ => 0))), (q27, .inr (1, [.ref (u34 0), .int 0])), ((u34 0), .inl (cI, 24000, .inl (fun _ => 0))), (q41, .inr (3, [.ref (u45 0), .ref (u45 2), .ref (u45 4), .int 0])), ((u45 0), .inr (2, [.int 900, .int 14, .ref (u45 1), .int 0])), ((u45 1), .inl (cI, 12600, .inl (fun _ => 0))), ((u45 2), .inr (2, [.int 800, .int 5, .ref (u45 3), .int 0])), ((u45 3), .inl (cI, 4000, .inl (fun _ => 0))), ((u45 4), .inr (1, [.ref (u45 5), .int 0])), ((u45 5), .inl (cI, 4000, .inl (fun _ => 0))), (q52, .inr (4, [.null, .null, .int 0, .int 0, .int 0, .int 0]))]) (wr := [(a, .inr (0, [.ref q7, .ref q13, .ref q27, .ref q41, .null, .null, .null, .int 0, .int 0])), (q7, .inl (cI, 20, .inl (fun _ => 0))), (q13, .inr (1, [.ref (u20 0), .int 0])), ((u20 0), .inl (cI, 4000, .inl (fun _ => 0))), (q27, .inr (1, [.ref (u34 0), .int 0])), ((u34 0), .inl (cI, 24000, .inl (fun _ => 0))), (q41, .inr (3, [.ref (u45 0), .ref (u45 2), .ref (u45 4), .int 0])), ((u45 0), .inr (2, [.int 900, .int 14, .ref (u45 1), .int 0])), ((u45 1), .inl (cI, 12600, .inl (fun _ => 0))), ((u45 2), .inr (2, [.int 800, .int 5, .ref (u45 3), .int 0])), ((u45 3), .inl (cI, 4000, .inl (fun _ => 0))), ((u45 4), .inr (1, [.ref (u45 5), .int 0])), ((u45 5), .inl (cI, 4000, .inl (fun _ => 0)))]) (b0 := q52) (As := [.ref q13, .ref q41]) (rest := [.ref q52, .ref a]) ⟨hx, hb, hml, hown, hta⟩ (n_Reader_init l D q52 _ cI q13 q41) oi_X_34 ⟨Nat.le_of_ble_eq_true rfl, Nat.le_of_ble_eq_true rfl⟩ hP hK hD hS hA [13] [0, 1, 2, 3, 4, 5, 6, 7, 8, 9, 10, 11, 12] rfl rfl rfl rfl rfl (by decide) rfl hl.1 rfl (Nat.le_of_ble_eq_true rfl) d_X_init_64 ⟨by decide, by decide⟩ (fun u64 H locs hw hP hD hS => ?_)
  have hP : va_P D classes [(a, .inr (0, [.ref q7, .ref q13, .ref q27, .ref q41, .null, .null, .null, .int 0, .int 0])), (q7, .inl (cI, 20, .inl (fun _ => 0))), (q13, .inr (1, [.ref (u20 0), .int 0])), ((u20 0), .inl (cI, 4000, .inl (fun _ => 0))), (q27, .inr (1, [.ref (u34 0), .int 0])), ((u34 0), .inl (cI, 24000, .inl (fun _ => 0))), (q41, .inr (3, [.ref (u45 0), .ref (u45 2), .ref (u45 4), .int 0])), ((u45 0), .inr (2, [.int 900, .int 14, .ref (u45 1), .int 0])), ((u45 1), .inl (cI, 12600, .inl (fun _ => 0))), ((u45 2), .inr (2, [.int 800, .int 5, .ref (u45 3), .int 0])), ((u45 3), .inl (cI, 4000, .inl (fun _ => 0))), ((u45 4), .inr (1, [.ref (u45 5), .int 0])), ((u45 5), .inl (cI, 4000, .inl (fun _ => 0))), (q52, .inr (4, [.ref q13, .ref q41, .int 0, .int (-1), .int 0, .int (-1)]))] H := hP
  have hD : va_D A [(a, .inr (0, [.ref q7, .ref q13, .ref q27, .ref q41, .null, .null, .null, .int 0, .int 0])), (q7, .inl (cI, 20, .inl (fun _ => 0))), (q13, .inr (1, [.ref (u20 0), .int 0])), ((u20 0), .inl (cI, 4000, .inl (fun _ => 0))), (q27, .inr (1, [.ref (u34 0), .int 0])), ((u34 0), .inl (cI, 24000, .inl (fun _ => 0))), (q41, .inr (3, [.ref (u45 0), .ref (u45 2), .ref (u45 4), .int 0])), ((u45 0), .inr (2, [.int 900, .int 14, .ref (u45 1), .int 0])), ((u45 1), .inl (cI, 12600, .inl (fun _ => 0))), ((u45 2), .inr (2, [.int 800, .int 5, .ref (u45 3), .int 0])), ((u45 3), .inl (cI, 4000, .inl (fun _ => 0))), ((u45 4), .inr (1, [.ref (u45 5), .int 0])), ((u45 5), .inl (cI, 4000, .inl (fun _ => 0))), (q52, .inr (4, [.ref q13, .ref q41, .int 0, .int (-1), .int 0, .int (-1)]))] := hD
  refine W.widen (k := 13) (n := 48644) (by decide) (by decide) ?_
  refine va_putF (D := D) (ci := 0) (v := .ref q52) (ty := .object "PlainPages$Reader") (C := R_X) (T := F_X) (N := 9) hx hb hta i_X t_X t_X_ok n_X hown hK hP hD hS 0 rfl rfl 4 (by decide) (hta _ zfl_X_37) (fun _ h9 => h9) rfl hin rfl (by decide +kernel) rfl rfl (Nat.le_of_ble_eq_true rfl) d_X_init_67 (fun H locs hP hD hS => ?_)
  have hP : va_P D classes [(a, .inr (0, [.ref q7, .ref q13, .ref q27, .ref q41, .ref q52, .null, .null, .int 0, .int 0])), (q7, .inl (cI, 20, .inl (fun _ => 0))), (q13, .inr (1, [.ref (u20 0), .int 0])), ((u20 0), .inl (cI, 4000, .inl (fun _ => 0))), (q27, .inr (1, [.ref (u34 0), .int 0])), ((u34 0), .inl (cI, 24000, .inl (fun _ => 0))), (q41, .inr (3, [.ref (u45 0), .ref (u45 2), .ref (u45 4), .int 0])), ((u45 0), .inr (2, [.int 900, .int 14, .ref (u45 1), .int 0])), ((u45 1), .inl (cI, 12600, .inl (fun _ => 0))), ((u45 2), .inr (2, [.int 800, .int 5, .ref (u45 3), .int 0])), ((u45 3), .inl (cI, 4000, .inl (fun _ => 0))), ((u45 4), .inr (1, [.ref (u45 5), .int 0])), ((u45 5), .inl (cI, 4000, .inl (fun _ => 0))), (q52, .inr (4, [.ref q13, .ref q41, .int 0, .int (-1), .int 0, .int (-1)]))] H := hP
  have hD : va_D A [(a, .inr (0, [.ref q7, .ref q13, .ref q27, .ref q41, .ref q52, .null, .null, .int 0, .int 0])), (q7, .inl (cI, 20, .inl (fun _ => 0))), (q13, .inr (1, [.ref (u20 0), .int 0])), ((u20 0), .inl (cI, 4000, .inl (fun _ => 0))), (q27, .inr (1, [.ref (u34 0), .int 0])), ((u34 0), .inl (cI, 24000, .inl (fun _ => 0))), (q41, .inr (3, [.ref (u45 0), .ref (u45 2), .ref (u45 4), .int 0])), ((u45 0), .inr (2, [.int 900, .int 14, .ref (u45 1), .int 0])), ((u45 1), .inl (cI, 12600, .inl (fun _ => 0))), ((u45 2), .inr (2, [.int 800, .int 5, .ref (u45 3), .int 0])), ((u45 3), .inl (cI, 4000, .inl (fun _ => 0))), ((u45 4), .inr (1, [.ref (u45 5), .int 0])), ((u45 5), .inl (cI, 4000, .inl (fun _ => 0))), (q52, .inr (4, [.ref q13, .ref q41, .int 0, .int (-1), .int 0, .int (-1)]))] := hD
  refine lv_aload_n hx hb d_X_init_70 rfl (lv_at hl 0 rfl) ?_
  refine va_new (D := D) (ci := 5) (fs := [.null]) (C := R_Insp) (T := F_Insp) (N := 1) hx hb hta i_Insp t_Insp t_Insp_ok hown (hta _ cl_X_41) (hta _ is_Insp) (hta _ in_Insp) hK hP hD hS hA rfl (fun j hj => by rcases (show j = 0 by omega) with rfl <;> rfl) (by decide) (by decide) d_X_init_71 (fun q71 H hP hD hS => ?_)
  have hP : va_P D classes [(a, .inr (0, [.ref q7, .ref q13, .ref q27, .ref q41, .ref q52, .null, .null, .int 0, .int 0])), (q7, .inl (cI, 20, .inl (fun _ => 0))), (q13, .inr (1, [.ref (u20 0), .int 0])), ((u20 0), .inl (cI, 4000, .inl (fun _ => 0))), (q27, .inr (1, [.ref (u34 0), .int 0])), ((u34 0), .inl (cI, 24000, .inl (fun _ => 0))), (q41, .inr (3, [.ref (u45 0), .ref (u45 2), .ref (u45 4), .int 0])), ((u45 0), .inr (2, [.int 900, .int 14, .ref (u45 1), .int 0])), ((u45 1), .inl (cI, 12600, .inl (fun _ => 0))), ((u45 2), .inr (2, [.int 800, .int 5, .ref (u45 3), .int 0])), ((u45 3), .inl (cI, 4000, .inl (fun _ => 0))), ((u45 4), .inr (1, [.ref (u45 5), .int 0])), ((u45 5), .inl (cI, 4000, .inl (fun _ => 0))), (q52, .inr (4, [.ref q13, .ref q41, .int 0, .int (-1), .int 0, .int (-1)])), (q71, .inr (5, [.null]))] H := hP
  have hD : va_D A [(a, .inr (0, [.ref q7, .ref q13, .ref q27, .ref q41, .ref q52, .null, .null, .int 0, .int 0])), (q7, .inl (cI, 20, .inl (fun _ => 0))), (q13, .inr (1, [.ref (u20 0), .int 0])), ((u20 0), .inl (cI, 4000, .inl (fun _ => 0))), (q27, .inr (1, [.ref (u34 0), .int 0])), ((u34 0), .inl (cI, 24000, .inl (fun _ => 0))), (q41, .inr (3, [.ref (u45 0), .ref (u45 2), .ref (u45 4), .int 0])), ((u45 0), .inr (2, [.int 900, .int 14, .ref (u45 1), .int 0])), ((u45 1), .inl (cI, 12600, .inl (fun _ => 0))), ((u45 2), .inr (2, [.int 800, .int 5, .ref (u45 3), .int 0])), ((u45 3), .inl (cI, 4000, .inl (fun _ => 0))), ((u45 4), .inr (1, [.ref (u45 5), .int 0])), ((u45 5), .inl (cI, 4000, .inl (fun _ => 0))), (q52, .inr (4, [.ref q13, .ref q41, .int 0, .int (-1), .int 0, .int (-1)])), (q71, .inr (5, [.null]))] := hD
  refine W.widen (k := 14) (n := 48645) (by decide) (by decide) ?_
  refine lv_dup hx hb d_X_init_74 rfl ?_
  refine lv_aload_n hx hb d_X_init_75 rfl (lv_at hl 0 rfl) ?_
  refine va_get (D := D) (ci := 0) (v := .ref q41) (C := R_X) (T := F_X) (N := 9) hx hb hta i_X hown hK hP 0 rfl rfl 3 (by decide) (hta _ zfl_X_28) (fun _ h9 => h9) rfl d_X_init_76 ?_
  refine sn_v (D := D) (w0 := [(q71, .inr (5, [.null]))]) (ws := [(a, .inr (0, [.ref q7, .ref q13, .ref q27, .ref q41, .ref q52, .null, .null, .int 0, .int 0])), (q7, .inl (cI, 20, .inl (fun _ => 0))), (q13, .inr (1, [.ref (u20 0), .int 0])), ((u20 0), .inl (cI, 4000, .inl (fun _ => 0))), (q27, .inr (1, [.ref (u34 0), .int 0])), ((u34 0), .inl (cI, 24000, .inl (fun _ => 0))), (q41, .inr (3, [.ref (u45 0), .ref (u45 2), .ref (u45 4), .int 0])), ((u45 0), .inr (2, [.int 900, .int 14, .ref (u45 1), .int 0])), ((u45 1), .inl (cI, 12600, .inl (fun _ => 0))), ((u45 2), .inr (2, [.int 800, .int 5, .ref (u45 3), .int 0])), ((u45 3), .inl (cI, 4000, .inl (fun _ => 0))), ((u45 4), .inr (1, [.ref (u45 5), .int 0])), ((u45 5), .inl (cI, 4000, .inl (fun _ => 0))), (q52, .inr (4, [.ref q13, .ref q41, .int 0, .int (-1), .int 0, .int (-1)])), (q71, .inr (5, [.null]))]) (wr := [(a, .inr (0, [.ref q7, .ref q13, .ref q27, .ref q41, .ref q52, .null, .null, .int 0, .int 0])), (q7, .inl (cI, 20, .inl (fun _ => 0))), (q13, .inr (1, [.ref (u20 0), .int 0])), ((u20 0), .inl (cI, 4000, .inl (fun _ => 0))), (q27, .inr (1, [.ref (u34 0), .int 0])), ((u34 0), .inl (cI, 24000, .inl (fun _ => 0))), (q41, .inr (3, [.ref (u45 0), .ref (u45 2), .ref (u45 4), .int 0])), ((u45 0), .inr (2, [.int 900, .int 14, .ref (u45 1), .int 0])), ((u45 1), .inl (cI, 12600, .inl (fun _ => 0))), ((u45 2), .inr (2, [.int 800, .int 5, .ref (u45 3), .int 0])), ((u45 3), .inl (cI, 4000, .inl (fun _ => 0))), ((u45 4), .inr (1, [.ref (u45 5), .int 0])), ((u45 5), .inl (cI, 4000, .inl (fun _ => 0))), (q52, .inr (4, [.ref q13, .ref q41, .int 0, .int (-1), .int 0, .int (-1)]))]) (b0 := q71) (As := [.ref q41]) (rest := [.ref q71, .ref a]) ⟨hx, hb, hml, hown, hta⟩ (n_Insp_init l D q71 _ cI q41) oi_X_43 ⟨Nat.le_of_ble_eq_true rfl, Nat.le_of_ble_eq_true rfl⟩ hP hK hD hS hA [14] [0, 1, 2, 3, 4, 5, 6, 7, 8, 9, 10, 11, 12, 13] rfl rfl rfl rfl rfl (by decide) rfl hl.1 rfl (Nat.le_of_ble_eq_true rfl) d_X_init_79 ⟨by decide, by decide⟩ (fun u79 H locs hw hP hD hS => ?_)
  have hP : va_P D classes [(a, .inr (0, [.ref q7, .ref q13, .ref q27, .ref q41, .ref q52, .null, .null, .int 0, .int 0])), (q7, .inl (cI, 20, .inl (fun _ => 0))), (q13, .inr (1, [.ref (u20 0), .int 0])), ((u20 0), .inl (cI, 4000, .inl (fun _ => 0))), (q27, .inr (1, [.ref (u34 0), .int 0])), ((u34 0), .inl (cI, 24000, .inl (fun _ => 0))), (q41, .inr (3, [.ref (u45 0), .ref (u45 2), .ref (u45 4), .int 0])), ((u45 0), .inr (2, [.int 900, .int 14, .ref (u45 1), .int 0])), ((u45 1), .inl (cI, 12600, .inl (fun _ => 0))), ((u45 2), .inr (2, [.int 800, .int 5, .ref (u45 3), .int 0])), ((u45 3), .inl (cI, 4000, .inl (fun _ => 0))), ((u45 4), .inr (1, [.ref (u45 5), .int 0])), ((u45 5), .inl (cI, 4000, .inl (fun _ => 0))), (q52, .inr (4, [.ref q13, .ref q41, .int 0, .int (-1), .int 0, .int (-1)])), (q71, .inr (5, [.ref q41]))] H := hP
  have hD : va_D A [(a, .inr (0, [.ref q7, .ref q13, .ref q27, .ref q41, .ref q52, .null, .null, .int 0, .int 0])), (q7, .inl (cI, 20, .inl (fun _ => 0))), (q13, .inr (1, [.ref (u20 0), .int 0])), ((u20 0), .inl (cI, 4000, .inl (fun _ => 0))), (q27, .inr (1, [.ref (u34 0), .int 0])), ((u34 0), .inl (cI, 24000, .inl (fun _ => 0))), (q41, .inr (3, [.ref (u45 0), .ref (u45 2), .ref (u45 4), .int 0])), ((u45 0), .inr (2, [.int 900, .int 14, .ref (u45 1), .int 0])), ((u45 1), .inl (cI, 12600, .inl (fun _ => 0))), ((u45 2), .inr (2, [.int 800, .int 5, .ref (u45 3), .int 0])), ((u45 3), .inl (cI, 4000, .inl (fun _ => 0))), ((u45 4), .inr (1, [.ref (u45 5), .int 0])), ((u45 5), .inl (cI, 4000, .inl (fun _ => 0))), (q52, .inr (4, [.ref q13, .ref q41, .int 0, .int (-1), .int 0, .int (-1)])), (q71, .inr (5, [.ref q41]))] := hD
  refine W.widen (k := 14) (n := 48645) (by decide) (by decide) ?_
  refine va_putF (D := D) (ci := 0) (v := .ref q71) (ty := .object "PlainPages$Inspector") (C := R_X) (T := F_X) (N := 9) hx hb hta i_X t_X t_X_ok n_X hown hK hP hD hS 0 rfl rfl 5 (by decide) (hta _ zfl_X_46) (fun _ h9 => h9) rfl hin rfl (by decide +kernel) rfl rfl (Nat.le_of_ble_eq_true rfl) d_X_init_82 (fun H locs hP hD hS => ?_)
  have hP : va_P D classes [(a, .inr (0, [.ref q7, .ref q13, .ref q27, .ref q41, .ref q52, .ref q71, .null, .int 0, .int 0])), (q7, .inl (cI, 20, .inl (fun _ => 0))), (q13, .inr (1, [.ref (u20 0), .int 0])), ((u20 0), .inl (cI, 4000, .inl (fun _ => 0))), (q27, .inr (1, [.ref (u34 0), .int 0])), ((u34 0), .inl (cI, 24000, .inl (fun _ => 0))), (q41, .inr (3, [.ref (u45 0), .ref (u45 2), .ref (u45 4), .int 0])), ((u45 0), .inr (2, [.int 900, .int 14, .ref (u45 1), .int 0])), ((u45 1), .inl (cI, 12600, .inl (fun _ => 0))), ((u45 2), .inr (2, [.int 800, .int 5, .ref (u45 3), .int 0])), ((u45 3), .inl (cI, 4000, .inl (fun _ => 0))), ((u45 4), .inr (1, [.ref (u45 5), .int 0])), ((u45 5), .inl (cI, 4000, .inl (fun _ => 0))), (q52, .inr (4, [.ref q13, .ref q41, .int 0, .int (-1), .int 0, .int (-1)])), (q71, .inr (5, [.ref q41]))] H := hP
  have hD : va_D A [(a, .inr (0, [.ref q7, .ref q13, .ref q27, .ref q41, .ref q52, .ref q71, .null, .int 0, .int 0])), (q7, .inl (cI, 20, .inl (fun _ => 0))), (q13, .inr (1, [.ref (u20 0), .int 0])), ((u20 0), .inl (cI, 4000, .inl (fun _ => 0))), (q27, .inr (1, [.ref (u34 0), .int 0])), ((u34 0), .inl (cI, 24000, .inl (fun _ => 0))), (q41, .inr (3, [.ref (u45 0), .ref (u45 2), .ref (u45 4), .int 0])), ((u45 0), .inr (2, [.int 900, .int 14, .ref (u45 1), .int 0])), ((u45 1), .inl (cI, 12600, .inl (fun _ => 0))), ((u45 2), .inr (2, [.int 800, .int 5, .ref (u45 3), .int 0])), ((u45 3), .inl (cI, 4000, .inl (fun _ => 0))), ((u45 4), .inr (1, [.ref (u45 5), .int 0])), ((u45 5), .inl (cI, 4000, .inl (fun _ => 0))), (q52, .inr (4, [.ref q13, .ref q41, .int 0, .int (-1), .int 0, .int (-1)])), (q71, .inr (5, [.ref q41]))] := hD
  refine lv_aload_n hx hb d_X_init_85 rfl (lv_at hl 0 rfl) ?_
  refine va_new (D := D) (ci := 6) (fs := [.null, .null]) (C := R_Scribe) (T := F_Scribe) (N := 2) hx hb hta i_Scribe t_Scribe t_Scribe_ok hown (hta _ cl_X_50) (hta _ is_Scribe) (hta _ in_Scribe) hK hP hD hS hA rfl (fun j hj => by rcases (show j = 0 ∨ j = 1 by omega) with rfl | rfl <;> rfl) (by decide) (by decide) d_X_init_86 (fun q86 H hP hD hS => ?_)
  have hP : va_P D classes [(a, .inr (0, [.ref q7, .ref q13, .ref q27, .ref q41, .ref q52, .ref q71, .null, .int 0, .int 0])), (q7, .inl (cI, 20, .inl (fun _ => 0))), (q13, .inr (1, [.ref (u20 0), .int 0])), ((u20 0), .inl (cI, 4000, .inl (fun _ => 0))), (q27, .inr (1, [.ref (u34 0), .int 0])), ((u34 0), .inl (cI, 24000, .inl (fun _ => 0))), (q41, .inr (3, [.ref (u45 0), .ref (u45 2), .ref (u45 4), .int 0])), ((u45 0), .inr (2, [.int 900, .int 14, .ref (u45 1), .int 0])), ((u45 1), .inl (cI, 12600, .inl (fun _ => 0))), ((u45 2), .inr (2, [.int 800, .int 5, .ref (u45 3), .int 0])), ((u45 3), .inl (cI, 4000, .inl (fun _ => 0))), ((u45 4), .inr (1, [.ref (u45 5), .int 0])), ((u45 5), .inl (cI, 4000, .inl (fun _ => 0))), (q52, .inr (4, [.ref q13, .ref q41, .int 0, .int (-1), .int 0, .int (-1)])), (q71, .inr (5, [.ref q41])), (q86, .inr (6, [.null, .null]))] H := hP
  have hD : va_D A [(a, .inr (0, [.ref q7, .ref q13, .ref q27, .ref q41, .ref q52, .ref q71, .null, .int 0, .int 0])), (q7, .inl (cI, 20, .inl (fun _ => 0))), (q13, .inr (1, [.ref (u20 0), .int 0])), ((u20 0), .inl (cI, 4000, .inl (fun _ => 0))), (q27, .inr (1, [.ref (u34 0), .int 0])), ((u34 0), .inl (cI, 24000, .inl (fun _ => 0))), (q41, .inr (3, [.ref (u45 0), .ref (u45 2), .ref (u45 4), .int 0])), ((u45 0), .inr (2, [.int 900, .int 14, .ref (u45 1), .int 0])), ((u45 1), .inl (cI, 12600, .inl (fun _ => 0))), ((u45 2), .inr (2, [.int 800, .int 5, .ref (u45 3), .int 0])), ((u45 3), .inl (cI, 4000, .inl (fun _ => 0))), ((u45 4), .inr (1, [.ref (u45 5), .int 0])), ((u45 5), .inl (cI, 4000, .inl (fun _ => 0))), (q52, .inr (4, [.ref q13, .ref q41, .int 0, .int (-1), .int 0, .int (-1)])), (q71, .inr (5, [.ref q41])), (q86, .inr (6, [.null, .null]))] := hD
  refine W.widen (k := 15) (n := 48647) (by decide) (by decide) ?_
  refine lv_dup hx hb d_X_init_89 rfl ?_
  refine lv_aload_n hx hb d_X_init_90 rfl (lv_at hl 0 rfl) ?_
  refine va_get (D := D) (ci := 0) (v := .ref q41) (C := R_X) (T := F_X) (N := 9) hx hb hta i_X hown hK hP 0 rfl rfl 3 (by decide) (hta _ zfl_X_28) (fun _ h9 => h9) rfl d_X_init_91 ?_
  refine lv_aload_n hx hb d_X_init_94 rfl (lv_at hl 0 rfl) ?_
  refine va_get (D := D) (ci := 0) (v := .ref q27) (C := R_X) (T := F_X) (N := 9) hx hb hta i_X hown hK hP 0 rfl rfl 2 (by decide) (hta _ zfl_X_22) (fun _ h9 => h9) rfl d_X_init_95 ?_
  refine sn_v (D := D) (w0 := [(q86, .inr (6, [.null, .null]))]) (ws := [(a, .inr (0, [.ref q7, .ref q13, .ref q27, .ref q41, .ref q52, .ref q71, .null, .int 0, .int 0])), (q7, .inl (cI, 20, .inl (fun _ => 0))), (q13, .inr (1, [.ref (u20 0), .int 0])), ((u20 0), .inl (cI, 4000, .inl (fun _ => 0))), (q27, .inr (1, [.ref (u34 0), .int 0])), ((u34 0), .inl (cI, 24000, .inl (fun _ => 0))), (q41, .inr (3, [.ref (u45 0), .ref (u45 2), .ref (u45 4), .int 0])), ((u45 0), .inr (2, [.int 900, .int 14, .ref (u45 1), .int 0])), ((u45 1), .inl (cI, 12600, .inl (fun _ => 0))), ((u45 2), .inr (2, [.int 800, .int 5, .ref (u45 3), .int 0])), ((u45 3), .inl (cI, 4000, .inl (fun _ => 0))), ((u45 4), .inr (1, [.ref (u45 5), .int 0])), ((u45 5), .inl (cI, 4000, .inl (fun _ => 0))), (q52, .inr (4, [.ref q13, .ref q41, .int 0, .int (-1), .int 0, .int (-1)])), (q71, .inr (5, [.ref q41])), (q86, .inr (6, [.null, .null]))]) (wr := [(a, .inr (0, [.ref q7, .ref q13, .ref q27, .ref q41, .ref q52, .ref q71, .null, .int 0, .int 0])), (q7, .inl (cI, 20, .inl (fun _ => 0))), (q13, .inr (1, [.ref (u20 0), .int 0])), ((u20 0), .inl (cI, 4000, .inl (fun _ => 0))), (q27, .inr (1, [.ref (u34 0), .int 0])), ((u34 0), .inl (cI, 24000, .inl (fun _ => 0))), (q41, .inr (3, [.ref (u45 0), .ref (u45 2), .ref (u45 4), .int 0])), ((u45 0), .inr (2, [.int 900, .int 14, .ref (u45 1), .int 0])), ((u45 1), .inl (cI, 12600, .inl (fun _ => 0))), ((u45 2), .inr (2, [.int 800, .int 5, .ref (u45 3), .int 0])), ((u45 3), .inl (cI, 4000, .inl (fun _ => 0))), ((u45 4), .inr (1, [.ref (u45 5), .int 0])), ((u45 5), .inl (cI, 4000, .inl (fun _ => 0))), (q52, .inr (4, [.ref q13, .ref q41, .int 0, .int (-1), .int 0, .int (-1)])), (q71, .inr (5, [.ref q41]))]) (b0 := q86) (As := [.ref q41, .ref q27]) (rest := [.ref q86, .ref a]) ⟨hx, hb, hml, hown, hta⟩ (n_Scribe_init l D q86 _ cI q41 q27) oi_X_52 ⟨Nat.le_of_ble_eq_true rfl, Nat.le_of_ble_eq_true rfl⟩ hP hK hD hS hA [15] [0, 1, 2, 3, 4, 5, 6, 7, 8, 9, 10, 11, 12, 13, 14] rfl rfl rfl rfl rfl (by decide) rfl hl.1 rfl (Nat.le_of_ble_eq_true rfl) d_X_init_98 ⟨by decide, by decide⟩ (fun u98 H locs hw hP hD hS => ?_)
  have hP : va_P D classes [(a, .inr (0, [.ref q7, .ref q13, .ref q27, .ref q41, .ref q52, .ref q71, .null, .int 0, .int 0])), (q7, .inl (cI, 20, .inl (fun _ => 0))), (q13, .inr (1, [.ref (u20 0), .int 0])), ((u20 0), .inl (cI, 4000, .inl (fun _ => 0))), (q27, .inr (1, [.ref (u34 0), .int 0])), ((u34 0), .inl (cI, 24000, .inl (fun _ => 0))), (q41, .inr (3, [.ref (u45 0), .ref (u45 2), .ref (u45 4), .int 0])), ((u45 0), .inr (2, [.int 900, .int 14, .ref (u45 1), .int 0])), ((u45 1), .inl (cI, 12600, .inl (fun _ => 0))), ((u45 2), .inr (2, [.int 800, .int 5, .ref (u45 3), .int 0])), ((u45 3), .inl (cI, 4000, .inl (fun _ => 0))), ((u45 4), .inr (1, [.ref (u45 5), .int 0])), ((u45 5), .inl (cI, 4000, .inl (fun _ => 0))), (q52, .inr (4, [.ref q13, .ref q41, .int 0, .int (-1), .int 0, .int (-1)])), (q71, .inr (5, [.ref q41])), (q86, .inr (6, [.ref q41, .ref q27]))] H := hP
  have hD : va_D A [(a, .inr (0, [.ref q7, .ref q13, .ref q27, .ref q41, .ref q52, .ref q71, .null, .int 0, .int 0])), (q7, .inl (cI, 20, .inl (fun _ => 0))), (q13, .inr (1, [.ref (u20 0), .int 0])), ((u20 0), .inl (cI, 4000, .inl (fun _ => 0))), (q27, .inr (1, [.ref (u34 0), .int 0])), ((u34 0), .inl (cI, 24000, .inl (fun _ => 0))), (q41, .inr (3, [.ref (u45 0), .ref (u45 2), .ref (u45 4), .int 0])), ((u45 0), .inr (2, [.int 900, .int 14, .ref (u45 1), .int 0])), ((u45 1), .inl (cI, 12600, .inl (fun _ => 0))), ((u45 2), .inr (2, [.int 800, .int 5, .ref (u45 3), .int 0])), ((u45 3), .inl (cI, 4000, .inl (fun _ => 0))), ((u45 4), .inr (1, [.ref (u45 5), .int 0])), ((u45 5), .inl (cI, 4000, .inl (fun _ => 0))), (q52, .inr (4, [.ref q13, .ref q41, .int 0, .int (-1), .int 0, .int (-1)])), (q71, .inr (5, [.ref q41])), (q86, .inr (6, [.ref q41, .ref q27]))] := hD
  refine W.widen (k := 15) (n := 48647) (by decide) (by decide) ?_
  refine va_putF (D := D) (ci := 0) (v := .ref q86) (ty := .object "PlainPages$Scribe") (C := R_X) (T := F_X) (N := 9) hx hb hta i_X t_X t_X_ok n_X hown hK hP hD hS 0 rfl rfl 6 (by decide) (hta _ zfl_X_55) (fun _ h9 => h9) rfl hin rfl (by decide +kernel) rfl rfl (Nat.le_of_ble_eq_true rfl) d_X_init_101 (fun H locs hP hD hS => ?_)
  have hP : va_P D classes [(a, .inr (0, [.ref q7, .ref q13, .ref q27, .ref q41, .ref q52, .ref q71, .ref q86, .int 0, .int 0])), (q7, .inl (cI, 20, .inl (fun _ => 0))), (q13, .inr (1, [.ref (u20 0), .int 0])), ((u20 0), .inl (cI, 4000, .inl (fun _ => 0))), (q27, .inr (1, [.ref (u34 0), .int 0])), ((u34 0), .inl (cI, 24000, .inl (fun _ => 0))), (q41, .inr (3, [.ref (u45 0), .ref (u45 2), .ref (u45 4), .int 0])), ((u45 0), .inr (2, [.int 900, .int 14, .ref (u45 1), .int 0])), ((u45 1), .inl (cI, 12600, .inl (fun _ => 0))), ((u45 2), .inr (2, [.int 800, .int 5, .ref (u45 3), .int 0])), ((u45 3), .inl (cI, 4000, .inl (fun _ => 0))), ((u45 4), .inr (1, [.ref (u45 5), .int 0])), ((u45 5), .inl (cI, 4000, .inl (fun _ => 0))), (q52, .inr (4, [.ref q13, .ref q41, .int 0, .int (-1), .int 0, .int (-1)])), (q71, .inr (5, [.ref q41])), (q86, .inr (6, [.ref q41, .ref q27]))] H := hP
  have hD : va_D A [(a, .inr (0, [.ref q7, .ref q13, .ref q27, .ref q41, .ref q52, .ref q71, .ref q86, .int 0, .int 0])), (q7, .inl (cI, 20, .inl (fun _ => 0))), (q13, .inr (1, [.ref (u20 0), .int 0])), ((u20 0), .inl (cI, 4000, .inl (fun _ => 0))), (q27, .inr (1, [.ref (u34 0), .int 0])), ((u34 0), .inl (cI, 24000, .inl (fun _ => 0))), (q41, .inr (3, [.ref (u45 0), .ref (u45 2), .ref (u45 4), .int 0])), ((u45 0), .inr (2, [.int 900, .int 14, .ref (u45 1), .int 0])), ((u45 1), .inl (cI, 12600, .inl (fun _ => 0))), ((u45 2), .inr (2, [.int 800, .int 5, .ref (u45 3), .int 0])), ((u45 3), .inl (cI, 4000, .inl (fun _ => 0))), ((u45 4), .inr (1, [.ref (u45 5), .int 0])), ((u45 5), .inl (cI, 4000, .inl (fun _ => 0))), (q52, .inr (4, [.ref q13, .ref q41, .int 0, .int (-1), .int 0, .int (-1)])), (q71, .inr (5, [.ref q41])), (q86, .inr (6, [.ref q41, .ref q27]))] := hD
  refine lv_aload_n hx hb d_X_init_104 rfl (lv_at hl 0 rfl) ?_
  refine lv_iconst (v := 0) hx hb d_X_init_105 (by decide) ?_
  refine va_put (D := D) (ci := 0) (v := .int 0) (ty := .int) (C := R_X) (T := F_X) (N := 9) hx hb hta i_X t_X t_X_ok n_X hown hK hP hD hS 0 rfl rfl 7 (by decide) (hta _ zfl_X_59) (fun _ h9 => h9) rfl (by decide +kernel) rfl rfl (Nat.le_of_ble_eq_true rfl) d_X_init_106 (fun H locs hP hD hS => ?_)
  have hP : va_P D classes [(a, .inr (0, [.ref q7, .ref q13, .ref q27, .ref q41, .ref q52, .ref q71, .ref q86, .int 0, .int 0])), (q7, .inl (cI, 20, .inl (fun _ => 0))), (q13, .inr (1, [.ref (u20 0), .int 0])), ((u20 0), .inl (cI, 4000, .inl (fun _ => 0))), (q27, .inr (1, [.ref (u34 0), .int 0])), ((u34 0), .inl (cI, 24000, .inl (fun _ => 0))), (q41, .inr (3, [.ref (u45 0), .ref (u45 2), .ref (u45 4), .int 0])), ((u45 0), .inr (2, [.int 900, .int 14, .ref (u45 1), .int 0])), ((u45 1), .inl (cI, 12600, .inl (fun _ => 0))), ((u45 2), .inr (2, [.int 800, .int 5, .ref (u45 3), .int 0])), ((u45 3), .inl (cI, 4000, .inl (fun _ => 0))), ((u45 4), .inr (1, [.ref (u45 5), .int 0])), ((u45 5), .inl (cI, 4000, .inl (fun _ => 0))), (q52, .inr (4, [.ref q13, .ref q41, .int 0, .int (-1), .int 0, .int (-1)])), (q71, .inr (5, [.ref q41])), (q86, .inr (6, [.ref q41, .ref q27]))] H := hP
  have hD : va_D A [(a, .inr (0, [.ref q7, .ref q13, .ref q27, .ref q41, .ref q52, .ref q71, .ref q86, .int 0, .int 0])), (q7, .inl (cI, 20, .inl (fun _ => 0))), (q13, .inr (1, [.ref (u20 0), .int 0])), ((u20 0), .inl (cI, 4000, .inl (fun _ => 0))), (q27, .inr (1, [.ref (u34 0), .int 0])), ((u34 0), .inl (cI, 24000, .inl (fun _ => 0))), (q41, .inr (3, [.ref (u45 0), .ref (u45 2), .ref (u45 4), .int 0])), ((u45 0), .inr (2, [.int 900, .int 14, .ref (u45 1), .int 0])), ((u45 1), .inl (cI, 12600, .inl (fun _ => 0))), ((u45 2), .inr (2, [.int 800, .int 5, .ref (u45 3), .int 0])), ((u45 3), .inl (cI, 4000, .inl (fun _ => 0))), ((u45 4), .inr (1, [.ref (u45 5), .int 0])), ((u45 5), .inl (cI, 4000, .inl (fun _ => 0))), (q52, .inr (4, [.ref q13, .ref q41, .int 0, .int (-1), .int 0, .int (-1)])), (q71, .inr (5, [.ref q41])), (q86, .inr (6, [.ref q41, .ref q27]))] := hD
  refine lv_aload_n hx hb d_X_init_109 rfl (lv_at hl 0 rfl) ?_
  refine lv_iconst (v := -1) hx hb d_X_init_110 (by decide) ?_
  refine va_put (D := D) (ci := 0) (v := .int (-1)) (ty := .int) (C := R_X) (T := F_X) (N := 9) hx hb hta i_X t_X t_X_ok n_X hown hK hP hD hS 0 rfl rfl 8 (by decide) (hta _ zfl_X_63) (fun _ h9 => h9) rfl (by decide +kernel) rfl rfl (Nat.le_of_ble_eq_true rfl) d_X_init_111 (fun H locs hP hD hS => ?_)
  have hP : va_P D classes [(a, .inr (0, [.ref q7, .ref q13, .ref q27, .ref q41, .ref q52, .ref q71, .ref q86, .int 0, .int (-1)])), (q7, .inl (cI, 20, .inl (fun _ => 0))), (q13, .inr (1, [.ref (u20 0), .int 0])), ((u20 0), .inl (cI, 4000, .inl (fun _ => 0))), (q27, .inr (1, [.ref (u34 0), .int 0])), ((u34 0), .inl (cI, 24000, .inl (fun _ => 0))), (q41, .inr (3, [.ref (u45 0), .ref (u45 2), .ref (u45 4), .int 0])), ((u45 0), .inr (2, [.int 900, .int 14, .ref (u45 1), .int 0])), ((u45 1), .inl (cI, 12600, .inl (fun _ => 0))), ((u45 2), .inr (2, [.int 800, .int 5, .ref (u45 3), .int 0])), ((u45 3), .inl (cI, 4000, .inl (fun _ => 0))), ((u45 4), .inr (1, [.ref (u45 5), .int 0])), ((u45 5), .inl (cI, 4000, .inl (fun _ => 0))), (q52, .inr (4, [.ref q13, .ref q41, .int 0, .int (-1), .int 0, .int (-1)])), (q71, .inr (5, [.ref q41])), (q86, .inr (6, [.ref q41, .ref q27]))] H := hP
  have hD : va_D A [(a, .inr (0, [.ref q7, .ref q13, .ref q27, .ref q41, .ref q52, .ref q71, .ref q86, .int 0, .int (-1)])), (q7, .inl (cI, 20, .inl (fun _ => 0))), (q13, .inr (1, [.ref (u20 0), .int 0])), ((u20 0), .inl (cI, 4000, .inl (fun _ => 0))), (q27, .inr (1, [.ref (u34 0), .int 0])), ((u34 0), .inl (cI, 24000, .inl (fun _ => 0))), (q41, .inr (3, [.ref (u45 0), .ref (u45 2), .ref (u45 4), .int 0])), ((u45 0), .inr (2, [.int 900, .int 14, .ref (u45 1), .int 0])), ((u45 1), .inl (cI, 12600, .inl (fun _ => 0))), ((u45 2), .inr (2, [.int 800, .int 5, .ref (u45 3), .int 0])), ((u45 3), .inl (cI, 4000, .inl (fun _ => 0))), ((u45 4), .inr (1, [.ref (u45 5), .int 0])), ((u45 5), .inl (cI, 4000, .inl (fun _ => 0))), (q52, .inr (4, [.ref q13, .ref q41, .int 0, .int (-1), .int 0, .int (-1)])), (q71, .inr (5, [.ref q41])), (q86, .inr (6, [.ref q41, .ref q27]))] := hD
  have hP := hP.sub (ws' := (WW (D, (fun k => ([a, q7, q13, (u20 0), q27, (u34 0), q41, (u45 0), (u45 1), (u45 2), (u45 3), (u45 4), (u45 5), q52, q71, q86] : List Nat).getD k 0), cI, aE, aK, aV, aT) PP0)) [0, 1, 2, 3, 4, 5, 6, 7, 8, 9, 10, 11, 12, 13, 14, 15] rfl
  have hD := hD.sub (ws' := (WW (D, (fun k => ([a, q7, q13, (u20 0), q27, (u34 0), q41, (u45 0), (u45 1), (u45 2), (u45 3), (u45 4), (u45 5), q52, q71, q86] : List Nat).getD k 0), cI, aE, aK, aV, aT) PP0)) [0, 1, 2, 3, 4, 5, 6, 7, 8, 9, 10, 11, 12, 13, 14, 15] (by decide) rfl
  exact W.vret hx hb hr (fun t ht hW => ⟨⟨(fun k => ([a, q7, q13, (u20 0), q27, (u34 0), q41, (u45 0), (u45 1), (u45 2), (u45 3), (u45 4), (u45 5), q52, q71, q86] : List Nat).getD k 0), rfl, rfl, by rw [ht]; exact hP, va_K.moved hW.alike hK, hD⟩, hS.F ht⟩) hS.2.2 d_X_init_114
