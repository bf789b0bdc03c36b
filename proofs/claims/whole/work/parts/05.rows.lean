/-! Rows of references to kinds (none: null), of the constants, and calls on the strips and tables of the class's world. -/
def kOk (r : Option Nat) : Prop := ∀ k : Nat, r = some k → k < 23
theorem re_none (ad : Nat → Nat) : va_re ad none = .null := rfl
theorem re_some (ad : Nat → Nat) (k : Nat) : va_re ad (some k) = .ref (ad k) := rfl
theorem lv_catQ {ad : Nat → Nat} (r : Option Nat) : (va_re ad r).category = 1 := by cases r <;> rfl
section QR
variable {p : Program} {l : Launch} {e : Env} {R : Room} {s : State} {m : MethodId} {args : Array Value} {below : List Frame} {meth : Method} {c : Code} {H : Heap} {locs : List Loc} {cells slots : Nat} {Q : State → Prop}
variable {cc : ByteArray} {pc : Nat} {ls : Array Slot} {rest : List Value} {A : Nat → Prop} {w : WD} {ad : Nat → Nat} {r : Option Nat}
theorem lv_aload_nQ (hexec : p.tables.exec = Jvm.exec) (hb : c.code = cc) {k : Fin 4} {i : Nat} (hdg : decode cc pc = .ok (.aload_n k, 1)) (hi : (k : Nat) = i) (hl : ls[i]? = some (.val (va_re ad r)))
    (kk : W p l e R s m args below meth c H locs cells slots Q (F0 m (pc + 1) ls (va_re ad r :: rest))) : W p l e R s m args below meth c H locs cells slots Q (F0 m pc ls rest) := by
  cases r with
  | none => exact lv_aload_nN hexec hb hdg hi hl kk
  | some a => exact lv_aload_n hexec hb hdg hi hl kk
theorem lv_aloadQ (hexec : p.tables.exec = Jvm.exec) (hb : c.code = cc) {i : Nat} (hdg : decode cc pc = .ok (.aload i, 2)) (hl : ls[i]? = some (.val (va_re ad r)))
    (kk : W p l e R s m args below meth c H locs cells slots Q (F0 m (pc + 2) ls (va_re ad r :: rest))) : W p l e R s m args below meth c H locs cells slots Q (F0 m pc ls rest) := by
  cases r with
  | none => exact lv_aloadN hexec hb hdg hl kk
  | some a => exact lv_aload hexec hb hdg hl kk
theorem lv_astore_nQ (hexec : p.tables.exec = Jvm.exec) (hb : c.code = cc) {k : Fin 4} {i nL : Nat} {lv lv' : List (Nat × Value)} (hdg : decode cc pc = .ok (.astore_n k, 1)) (hi : (k : Nat) = i) (h : lv_has ls nL lv) (hn : i < nL) (hl : (i, va_re ad r) :: lv.filter (fun q => !(q.1 == i) && !(q.1 + 1 == i && q.2.category == 2)) = lv')
    (kk : ∀ ls' : Array Slot, lv_has ls' nL lv' → W p l e R s m args below meth c H locs cells slots Q (F0 m (pc + 1) ls' rest)) : W p l e R s m args below meth c H locs cells slots Q (F0 m pc ls (va_re ad r :: rest)) := by
  cases r with
  | none => exact lv_astore_nN hexec hb hdg hi h hn hl kk
  | some a => exact lv_astore_n hexec hb hdg hi h hn hl kk
theorem lv_astoreQ (hexec : p.tables.exec = Jvm.exec) (hb : c.code = cc) {i nL : Nat} {lv lv' : List (Nat × Value)} (hdg : decode cc pc = .ok (.astore i, 2)) (h : lv_has ls nL lv) (hn : i < nL) (hl : (i, va_re ad r) :: lv.filter (fun q => !(q.1 == i) && !(q.1 + 1 == i && q.2.category == 2)) = lv')
    (kk : ∀ ls' : Array Slot, lv_has ls' nL lv' → W p l e R s m args below meth c H locs cells slots Q (F0 m (pc + 2) ls' rest)) : W p l e R s m args below meth c H locs cells slots Q (F0 m pc ls (va_re ad r :: rest)) := by
  cases r with
  | none => exact lv_astoreN hexec hb hdg h hn hl kk
  | some a => exact lv_astore hexec hb hdg h hn hl kk
theorem lv_ifnullQ (hexec : p.tables.exec = Jvm.exec) (hb : c.code = cc) {off : Int} {tgt : Nat} (hdg : decode cc pc = .ok (.ifnull off, 3)) (ht : (pc : Int) + off = (tgt : Int))
    (kt : r = none → W p l e R s m args below meth c H locs cells slots Q (F0 m tgt ls rest)) (kf : ¬ r = none → W p l e R s m args below meth c H locs cells slots Q (F0 m (pc + 3) ls rest)) : W p l e R s m args below meth c H locs cells slots Q (F0 m pc ls (va_re ad r :: rest)) := by
  cases r with
  | none => exact lv_ifnullN hexec hb hdg ht (kt rfl)
  | some a => exact lv_ifnull hexec hb hdg (kf (fun h => by cases h))
theorem lv_ifnonnullQ (hexec : p.tables.exec = Jvm.exec) (hb : c.code = cc) {off : Int} {tgt : Nat} (hdg : decode cc pc = .ok (.ifnonnull off, 3)) (ht : (pc : Int) + off = (tgt : Int))
    (kt : ¬ r = none → W p l e R s m args below meth c H locs cells slots Q (F0 m tgt ls rest)) (kf : r = none → W p l e R s m args below meth c H locs cells slots Q (F0 m (pc + 3) ls rest)) : W p l e R s m args below meth c H locs cells slots Q (F0 m pc ls (va_re ad r :: rest)) := by
  cases r with
  | none => exact lv_ifnonnullN hexec hb hdg (kf rfl)
  | some a => exact lv_ifnonnull hexec hb hdg ht (kt (fun h => by cases h))
theorem re_inj {ad : Nat → Nat} (inj : ∀ i j, i < 23 → j < 23 → ad i = ad j → i = j) {x y : Option Nat} (hx : kOk x) (hy : kOk y) : x.map ad = y.map ad ↔ x = y := by
  constructor
  · intro h
    cases x with
    | none => cases y with
      | none => rfl
      | some b => cases h
    | some a => cases y with
      | none => cases h
      | some b => rw [inj a b (hx a rfl) (hy b rfl) (Option.some.inj h)]
  · intro h; rw [h]
theorem lv_acmpE_eq (inj : ∀ i j, i < 23 → j < 23 → ad i = ad j → i = j) {x y : Option Nat} (hkx : kOk x) (hky : kOk y) {off : Int} {tgt : Nat} (hexec : p.tables.exec = Jvm.exec) (hb : c.code = cc) (hdg : decode cc pc = .ok (.if_acmp .eq off, 3)) (ht : (pc : Int) + off = (tgt : Int))
    (kt : x = y → W p l e R s m args below meth c H locs cells slots Q (F0 m tgt ls rest)) (kf : ¬ x = y → W p l e R s m args below meth c H locs cells slots Q (F0 m (pc + 3) ls rest)) : W p l e R s m args below meth c H locs cells slots Q (F0 m pc ls (va_re ad y :: va_re ad x :: rest)) :=
  lv_acmp_eq hexec hb hdg ht (fun h => kt ((re_inj inj hkx hky).mp h)) (fun h => kf (fun z => h ((re_inj inj hkx hky).mpr z)))
theorem lv_acmpE_ne (inj : ∀ i j, i < 23 → j < 23 → ad i = ad j → i = j) {x y : Option Nat} (hkx : kOk x) (hky : kOk y) {off : Int} {tgt : Nat} (hexec : p.tables.exec = Jvm.exec) (hb : c.code = cc) (hdg : decode cc pc = .ok (.if_acmp .ne off, 3)) (ht : (pc : Int) + off = (tgt : Int))
    (kt : ¬ x = y → W p l e R s m args below meth c H locs cells slots Q (F0 m tgt ls rest)) (kf : x = y → W p l e R s m args below meth c H locs cells slots Q (F0 m (pc + 3) ls rest)) : W p l e R s m args below meth c H locs cells slots Q (F0 m pc ls (va_re ad y :: va_re ad x :: rest)) :=
  lv_acmp_ne hexec hb hdg ht (fun h => kt (fun z => h ((re_inj inj hkx hky).mpr z))) (fun h => kf ((re_inj inj hkx hky).mp h))
/-- an int field of a kind: its own class's code reads it -/
theorem k_get (hexec : p.tables.exec = Jvm.exec) (hb : c.code = cc) {own : String} {index k : Nat} (hC : CST w A s s.heap) (hr : r = some k) (hk : k < 23) (hS : va_S A s.heap H locs) (hown : s.vm.findClass own = some m.cls) {q : String × String × String × List Int32} (hq : q ∈ kF) (hlink : (Cond.fieldLink own index q.1 q.2.1 q.2.2.1).before args s = true) (hdg : decode cc pc = .ok (.getfield index, 3))
    (kk : W p l e R s m args below meth c H locs cells slots Q (F0 m (pc + 3) ls (.int (q.2.2.2.getD k 0) :: rest))) : W p l e R s m args below meth c H locs cells slots Q (F0 m pc ls (va_re (wE w) r :: rest)) := by
  subst hr
  exact va_getE hexec hb hC.1 hk hS hown hq hlink (fun _ h => h) hdg kk
/-- the same, a nest mate's code reads it -/
theorem k_getN (hexec : p.tables.exec = Jvm.exec) (hb : c.code = cc) {own host : String} {index k : Nat} (hC : CST w A s s.heap) (hr : r = some k) (hk : k < 23) (hS : va_S A s.heap H locs) (hown : s.vm.findClass own = some m.cls) {q : String × String × String × List Int32} (hq : q ∈ kF) (hlink : va_Nw (.fieldLinkNest own index q.1 q.2.1 q.2.2.1 host) s) (hdg : decode cc pc = .ok (.getfield index, 3))
    (kk : W p l e R s m args below meth c H locs cells slots Q (F0 m (pc + 3) ls (.int (q.2.2.2.getD k 0) :: rest))) : W p l e R s m args below meth c H locs cells slots Q (F0 m pc ls (va_re (wE w) r :: rest)) := by
  subst hr
  obtain ⟨cf, kf, fi, f, cell, h1, h2, h3, h4, h5, h6⟩ := ((hC.1.1 k hk).2.2 q hq).kept hS.2.1
  exact va_Wgetf hexec hb hown (va_Nw.use (A := args) rfl hlink) h1 h2 h3 h4 (v := .int (q.2.2.2.getD k 0)) h5 rfl rfl hdg kk
/-- a kind's label -/
theorem k_lab (hexec : p.tables.exec = Jvm.exec) (hb : c.code = cc) {own host : String} {index k : Nat} (hC : CST w A s s.heap) (hr : r = some k) (hk : k < 23) (hS : va_S A s.heap H locs) (hown : s.vm.findClass own = some m.cls) (hlink : va_Nw (.fieldLinkNest own index "PlainPages$Kind" "label" "Ljava/lang/String;" host) s) (hdg : decode cc pc = .ok (.getfield index, 3))
    (kk : W p l e R s m args below meth c H locs cells slots Q (F0 m (pc + 3) ls (.ref (wK w (kLa.getD k 0)) :: rest))) : W p l e R s m args below meth c H locs cells slots Q (F0 m pc ls (va_re (wE w) r :: rest)) := by
  subst hr
  obtain ⟨cf, kf, fi, f, cell, h1, h2, h3, h4, h5, h6⟩ := (hC.2.1 k hk).kept hS.2.1
  exact va_Wgetf hexec hb hown (va_Nw.use (A := args) rfl hlink) h1 h2 h3 h4 (v := .ref (wK w (kLa.getD k 0))) h5 rfl rfl hdg kk
/-- a kind by its name -/
theorem k_sta (hexec : p.tables.exec = Jvm.exec) (hb : c.code = cc) {own nm : String} {index k : Nat} (hC : CST w A s s.heap) (hk : k < 23) (hnm : kNm.getD k "" = nm) (hS : va_S A s.heap H locs) (hown : s.vm.findClass own = some m.cls) (hlink : (Cond.fieldLink own index "PlainPages$Kind" nm "LPlainPages$Kind;").before args s = true) (hdg : decode cc pc = .ok (.getstatic index, 3))
    (kk : W p l e R s m args below meth c H locs cells slots Q (F0 m (pc + 3) ls (va_re (wE w) (some k) :: rest))) : W p l e R s m args below meth c H locs cells slots Q (F0 m pc ls rest) := by
  subst hnm
  exact va_gets hexec hb (hC.1.1 k hk).1 hS hown hlink (fun _ h => h) hdg kk
/-- the array of kinds -/
theorem k_arr (hexec : p.tables.exec = Jvm.exec) (hb : c.code = cc) {own host : String} {index : Nat} (hC : CST w A s s.heap) (hS : va_S A s.heap H locs) (hown : s.vm.findClass own = some m.cls) (hlink : va_Nw (.fieldLinkNest own index "PlainPages" "KINDS" "[LPlainPages$Kind;" host) s) (hdg : decode cc pc = .ok (.getstatic index, 3))
    (kk : W p l e R s m args below meth c H locs cells slots Q (F0 m (pc + 3) ls (.ref (wT w) :: rest))) : W p l e R s m args below meth c H locs cells slots Q (F0 m pc ls rest) := by
  obtain ⟨cf, kf, fi, f, a, cell, h1, h2, h3, h4, h5, h6, h7, h8⟩ := hC.2.2.1
  intro T hT X
  obtain ⟨vm', X', st⟩ := X.getstaticNest hexec hown (va_Nw.use (A := args) rfl hlink) h1 h2 h3 h4 (by rw [hT, hS.2.1 a (Array.getElem?_eq_some_iff.mp h5).1 h8]; exact h5) (fun e => by rw [e] at h6; cases h6) h7 (g := F0 m pc ls rest) rfl (by rw [hb]; exact hdg)
  obtain ⟨t, a1, b1⟩ := kk (T.setVm vm') hT X'
  exact ⟨t, st t a1, b1⟩
theorem k_ald (hexec : p.tables.exec = Jvm.exec) (hb : c.code = cc) (hC : CST w A s s.heap) (hS : va_S A s.heap H locs) {i : Int32} (hin : vp_in i 23) (hdg : decode cc pc = .ok (.aaload, 1))
    (kk : W p l e R s m args below meth c H locs cells slots Q (F0 m (pc + 1) ls (va_re (wE w) (some i.toNatClampNeg) :: rest))) : W p l e R s m args below meth c H locs cells slots Q (F0 m pc ls (.int i :: .ref (wT w) :: rest)) :=
  vb_tq hexec hb hC.2.2.2.1 hS hin rfl hdg kk
theorem k_len (hexec : p.tables.exec = Jvm.exec) (hb : c.code = cc) (hC : CST w A s s.heap) (hS : va_S A s.heap H locs) (hdg : decode cc pc = .ok (.arraylength, 1))
    (kk : W p l e R s m args below meth c H locs cells slots Q (F0 m (pc + 1) ls (.int 23 :: rest))) : W p l e R s m args below meth c H locs cells slots Q (F0 m pc ls (.ref (wT w) :: rest)) :=
  va_tlen hexec hb hC.2.2.2.1 hS (by decide) hdg kk
theorem k_recv (hC : CST w A s s.heap) (hS : va_S A s.heap H locs) {k : Nat} (hk : k < 23) : ∃ cell : Cell, H[wE w k]? = some cell ∧ cell.vm.isStatics = false ∧ s.vm.findClass "PlainPages$Kind" = some cell.cls := va_recvE hC.1 hk hS
theorem t_recv (hC : CST w A s s.heap) (hS : va_S A s.heap H locs) {i : Nat} (hi : i < 49) : ∃ cell : Cell, H[wK w i]? = some cell ∧ cell.vm.isStatics = false ∧ s.vm.findClass "java/lang/String" = some cell.cls := by
  obtain ⟨cell, h1, h2, h3, -⟩ := (hC.2.2.2.2.1 i hi).1.kept hS.2.1
  exact ⟨cell, h1, h2, h3⟩
theorem t_val (hexec : p.tables.exec = Jvm.exec) (hb : c.code = cc) {own : String} {index i : Nat} (hC : CST w A s s.heap) (hS : va_S A s.heap H locs) (hi : i < 49) (hown : s.vm.findClass own = some m.cls) (hlink : (Cond.fieldLink own index "java/lang/String" "value" "[B").before args s = true) (hdg : decode cc pc = .ok (.getfield index, 3))
    (kk : W p l e R s m args below meth c H locs cells slots Q (F0 m (pc + 3) ls (.ref (wV w i) :: rest))) : W p l e R s m args below meth c H locs cells slots Q (F0 m pc ls (.ref (wK w i) :: rest)) :=
  vk_getf hexec hb (hC.2.2.2.2.1 i hi).2.2.1 hS hown hlink (fun _ h => h) hdg kk
theorem t_cod (hexec : p.tables.exec = Jvm.exec) (hb : c.code = cc) {own : String} {index i : Nat} (hC : CST w A s s.heap) (hS : va_S A s.heap H locs) (hi : i < 49) (hown : s.vm.findClass own = some m.cls) (hlink : (Cond.fieldLink own index "java/lang/String" "coder" "B").before args s = true) (hdg : decode cc pc = .ok (.getfield index, 3))
    (kk : W p l e R s m args below meth c H locs cells slots Q (F0 m (pc + 3) ls (.int 0 :: rest))) : W p l e R s m args below meth c H locs cells slots Q (F0 m pc ls (.ref (wK w i) :: rest)) :=
  vk_getf hexec hb (hC.2.2.2.2.1 i hi).2.1 hS hown hlink (fun _ h => h) hdg kk
theorem t_com (hexec : p.tables.exec = Jvm.exec) (hb : c.code = cc) {own : String} {index : Nat} (hC : CST w A s s.heap) (hS : va_S A s.heap H locs) (hown : s.vm.findClass own = some m.cls) (hlink : (Cond.fieldLink own index "java/lang/String" "COMPACT_STRINGS" "Z").before args s = true) (hdg : decode cc pc = .ok (.getstatic index, 3))
    (kk : W p l e R s m args below meth c H locs cells slots Q (F0 m (pc + 3) ls (.int 1 :: rest))) : W p l e R s m args below meth c H locs cells slots Q (F0 m pc ls rest) :=
  va_gets hexec hb hC.2.2.2.2.2.1 hS hown hlink (fun _ h => h) hdg kk
theorem t_len (hexec : p.tables.exec = Jvm.exec) (hb : c.code = cc) (hC : CST w A s s.heap) (hS : va_S A s.heap H locs) {i : Nat} (hi : i < 49) (hdg : decode cc pc = .ok (.arraylength, 1))
    (kk : W p l e R s m args below meth c H locs cells slots Q (F0 m (pc + 1) ls (.int (nI (tLn.getD i 0)) :: rest))) : W p l e R s m args below meth c H locs cells slots Q (F0 m pc ls (.ref (wV w i) :: rest)) :=
  va_tlen hexec hb (hC.2.2.2.2.1 i hi).2.2.2 hS rfl hdg kk
theorem t_ald (hexec : p.tables.exec = Jvm.exec) (hb : c.code = cc) (hC : CST w A s s.heap) (hS : va_S A s.heap H locs) {i : Nat} (hi : i < 49) {j : Int32} (hin : vp_in j (tLn.getD i 0)) (hdg : decode cc pc = .ok (.baload, 1))
    (kk : W p l e R s m args below meth c H locs cells slots Q (F0 m (pc + 1) ls (.int ((tBy.getD i []).getD j.toNatClampNeg 0) :: rest))) : W p l e R s m args below meth c H locs cells slots Q (F0 m pc ls (.int j :: .ref (wV w i) :: rest)) :=
  va_tb hexec hb (hC.2.2.2.2.1 i hi).2.2.2 hS hin rfl hdg kk
/-- a text of the class's constant pool -/
theorem t_ldc (hexec : p.tables.exec = Jvm.exec) (hb : c.code = cc) {own : String} {index i : Nat} (hC : CST w A s s.heap) (hi : i < 49) {tx : String} (ho : tOw.getD i ("", 0, "") = (own, index, tx)) (hown : s.vm.findClass own = some m.cls) (hdg : decode cc pc = .ok (.ldc index, 2))
    (kk : W p l e R s m args below meth c H locs cells slots Q (F0 m (pc + 2) ls (.ref (wK w i) :: rest))) : W p l e R s m args below meth c H locs cells slots Q (F0 m pc ls rest) := by
  have h := hC.2.2.2.2.2.2.1 i hi
  rw [ho] at h
  exact va_ldcS hexec hb hown h hdg kk
/-- a virtual call that reads alone, and answers a kind or null -/
theorem roQ_V {nL : Nat} {As st0 : List Value} {own C : String} {index ml n fr lo b0 : Nat} {y : MethodName} {b : ByteArray} {rt : Option FieldType} {B : State → Prop} {post : Option Nat → Prop} (S : CallFix p m c cc nL s args aW own) (hM : Met l y (Cond.code y b ml rt :: aW) { frames := fr, cells := 0, slots := 0, locals := lo } (va_Pc (.ref b0 :: As) B) (va_Se ad post) 0 0 (fun _ => False)) (ok : okV own index C y b ml rt n) (hR : roomy fr lo ml R) (hbl : Blind B) (hrecv : ∃ cell : Cell, H[b0]? = some cell ∧ cell.vm.isStatics = false ∧ s.vm.findClass C = some cell.cls) (hB : ∀ U : State, U.heap = H → s.WarmedH U.vm → B U)
    (hn : As.length = n) (hsize : ls.size = nL) (hst : st0 = As.reverse ++ .ref b0 :: rest) (hroom : (rest.map fun v => v.category).sum ≤ 8) (hdg : decode cc pc = .ok (.invokevirtual index, 3)) (hc : cells ≤ R.cells ∧ slots ≤ R.slots)
    (kk : ∀ r : Option Nat, post r → W p l e R s m args below meth c H locs cells slots Q (F0 m (pc + 3) ls (va_re ad r :: rest))) : W p l e R s m args below meth c H locs cells slots Q (F0 m pc ls st0) :=
  va_cse (W.runV S hM (cw_V S.2.2.2.2 ok hR) ⟨blind_pc hbl, hrecv, fun U h1 h2 => ⟨rfl, hB U h1 h2⟩⟩ rfl hn hsize hst (lv_room hroom) hdg hc) kk
/-- a static call that reads alone, and answers nothing -/
theorem roN_S {nL : Nat} {As st0 : List Value} {own : String} {index ml n fr lo : Nat} {y : MethodName} {b : ByteArray} {rt : Option FieldType} {B : State → Prop} {post : Unit → Prop} (S : CallFix p m c cc nL s args aW own) (hM : Met l y (Cond.code y b ml rt :: aW) { frames := fr, cells := 0, slots := 0, locals := lo } (va_Pc As B) (va_Sv post) 0 0 (fun _ => False)) (ok : okS own index y b ml rt n) (hR : roomy fr lo ml R) (hbl : Blind B) (hB : ∀ U : State, U.heap = H → s.WarmedH U.vm → B U)
    (hn : As.length = n) (hsize : ls.size = nL) (hst : st0 = As.reverse ++ rest) (hroom : (rest.map fun v => v.category).sum ≤ 8) (hdg : decode cc pc = .ok (.invokestatic index, 3)) (hc : cells ≤ R.cells ∧ slots ≤ R.slots)
    (kk : ∀ u : Unit, post u → W p l e R s m args below meth c H locs cells slots Q (F0 m (pc + 3) ls rest)) : W p l e R s m args below meth c H locs cells slots Q (F0 m pc ls st0) :=
  va_csv (W.runS S hM (cw_S S.2.2.2.2 ok hR) ⟨blind_pc hbl, fun U h1 h2 => ⟨rfl, hB U h1 h2⟩⟩ rfl hn hsize hst (lv_room hroom) hdg hc) (kk ())
/-- the JDK's formatter: a reference or null, nobody looks at it -/
theorem t_fmt (hexec : p.tables.exec = Jvm.exec) (hb : c.code = cc) {own : String} {index : Nat} (hC : CST w A s s.heap) (hS : va_S A s.heap H locs) (hown : s.vm.findClass own = some m.cls) (hlink : (Cond.fieldLink own index "jdk/internal/util/Preconditions" "SIOOBE_FORMATTER" "Ljava/util/function/BiFunction;").before args s = true) (hdg : decode cc pc = .ok (.getstatic index, 3))
    (kk : ∀ r : Option Nat, W p l e R s m args below meth c H locs cells slots Q (F0 m (pc + 3) ls (va_rf r :: rest))) : W p l e R s m args below meth c H locs cells slots Q (F0 m pc ls rest) := by
  obtain ⟨r, hZ⟩ := hC.2.2.2.2.2.2.2.2.2.2.2
  exact va_gets hexec hb hZ hS hown hlink (fun _ h => h) hdg (kk r)
end QR
section CP
variable {p : Program} {l : Launch} {e : Env} {R : Room} {s : State} {m : MethodId} {args : Array Value} {below : List Frame} {meth : Method} {c : Code} {H : Heap} {locs : List Loc} {cells slots : Nat} {Q : State → Prop}
variable {cc : ByteArray} {pc nL : Nat} {ls : Array Slot} {rest st0 As : List Value} {A : Nat → Prop} {w : WD} {σ : PPS}
theorem cTp_v {own : String} {index ml n fr lo : Nat} {y : MethodName} {b : ByteArray} {rt : Option FieldType} {post : StS → Prop} (S : CallFix p m c cc nL s args aW own)
    (hM : Met l y (Cond.code y b ml rt :: aW) { frames := fr, cells := 0, slots := 0, locals := lo } (va_Pc (.ref (wA w 2) :: As) (mW (wG w) (SW (wA w 2) (wA w 3) (wI w) 4000 (pTp σ)) (wI w) H.size)) (va_Qv post (mB (wG w) (SW (wA w 2) (wA w 3) (wI w) 4000) (wI w) (va_A (SW (wA w 2) (wA w 3) (wI w) 4000 (pTp σ)) H.size)) (va_A (SW (wA w 2) (wA w 3) (wI w) 4000 (pTp σ)) H.size)) 0 0 (va_A (SW (wA w 2) (wA w 3) (wI w) 4000 (pTp σ)) H.size))
    (ok : okV own index R_Strip y b ml rt n) (hR : roomy fr lo ml R) (hP : va_P (wG w) classes (WW w σ) H) (hK : va_K (wG w) classes [(wI w, .int)] s) (hD : va_D A (WW w σ)) (hS : va_S A s.heap H locs) (hA : ∀ q, s.heap.size ≤ q → A q)
    (hn : As.length = n) (hsize : ls.size = nL) (hst : st0 = As.reverse ++ .ref (wA w 2) :: rest) (hroom : (rest.map fun v => v.category).sum ≤ 8) (hdg : decode cc pc = .ok (.invokevirtual index, 3)) (hc : cells ≤ R.cells ∧ slots ≤ R.slots)
    (kk : ∀ (u : StS) (H1 : Heap) (locs1 : List Loc), post u → va_P (wG w) classes (WW w (sTp σ u)) H1 → va_D A (WW w (sTp σ u)) → va_S A s.heap H1 locs1 → W p l e R s m args below meth c H1 locs1 cells slots Q (F0 m (pc + 3) ls rest)) : W p l e R s m args below meth c H locs cells slots Q (F0 m pc ls st0) :=
  sc_v (wt := SW (wA w 2) (wA w 3) (wI w) 4000) (wn := fun u => WW w (sTp σ u)) (u0 := pTp σ) (ws := WW w σ) (wr := (([0, 1, 4, 5, 6, 7, 8, 9, 10, 11, 12, 13, 14, 15] : List Nat).filterMap (fun i => (WW w σ)[i]?))) S hM ok hR (va_recv hK hP (ci := 1) (q0 := 2) rfl rfl) hP hK hD hS hA [2, 3] [0, 1, 4, 5, 6, 7, 8, 9, 10, 11, 12, 13, 14, 15] [0, 1, 14, 15, 2, 3, 4, 5, 6, 7, 8, 9, 10, 11, 12, 13] rfl rfl rfl rfl rfl (by decide) (fun _ => rfl) (fun _ => rfl) rfl hn hsize hst hroom hdg hc kk
theorem cSh_v {own : String} {index ml n fr lo : Nat} {y : MethodName} {b : ByteArray} {rt : Option FieldType} {post : StS → Prop} (S : CallFix p m c cc nL s args aW own)
    (hM : Met l y (Cond.code y b ml rt :: aW) { frames := fr, cells := 0, slots := 0, locals := lo } (va_Pc (.ref (wA w 4) :: As) (mW (wG w) (SW (wA w 4) (wA w 5) (wI w) 24000 (pSh σ)) (wI w) H.size)) (va_Qv post (mB (wG w) (SW (wA w 4) (wA w 5) (wI w) 24000) (wI w) (va_A (SW (wA w 4) (wA w 5) (wI w) 24000 (pSh σ)) H.size)) (va_A (SW (wA w 4) (wA w 5) (wI w) 24000 (pSh σ)) H.size)) 0 0 (va_A (SW (wA w 4) (wA w 5) (wI w) 24000 (pSh σ)) H.size))
    (ok : okV own index R_Strip y b ml rt n) (hR : roomy fr lo ml R) (hP : va_P (wG w) classes (WW w σ) H) (hK : va_K (wG w) classes [(wI w, .int)] s) (hD : va_D A (WW w σ)) (hS : va_S A s.heap H locs) (hA : ∀ q, s.heap.size ≤ q → A q)
    (hn : As.length = n) (hsize : ls.size = nL) (hst : st0 = As.reverse ++ .ref (wA w 4) :: rest) (hroom : (rest.map fun v => v.category).sum ≤ 8) (hdg : decode cc pc = .ok (.invokevirtual index, 3)) (hc : cells ≤ R.cells ∧ slots ≤ R.slots)
    (kk : ∀ (u : StS) (H1 : Heap) (locs1 : List Loc), post u → va_P (wG w) classes (WW w (sSh σ u)) H1 → va_D A (WW w (sSh σ u)) → va_S A s.heap H1 locs1 → W p l e R s m args below meth c H1 locs1 cells slots Q (F0 m (pc + 3) ls rest)) : W p l e R s m args below meth c H locs cells slots Q (F0 m pc ls st0) :=
  sc_v (wt := SW (wA w 4) (wA w 5) (wI w) 24000) (wn := fun u => WW w (sSh σ u)) (u0 := pSh σ) (ws := WW w σ) (wr := (([0, 1, 2, 3, 6, 7, 8, 9, 10, 11, 12, 13, 14, 15] : List Nat).filterMap (fun i => (WW w σ)[i]?))) S hM ok hR (va_recv hK hP (ci := 1) (q0 := 4) rfl rfl) hP hK hD hS hA [4, 5] [0, 1, 2, 3, 6, 7, 8, 9, 10, 11, 12, 13, 14, 15] [0, 1, 2, 3, 14, 15, 4, 5, 6, 7, 8, 9, 10, 11, 12, 13] rfl rfl rfl rfl rfl (by decide) (fun _ => rfl) (fun _ => rfl) rfl hn hsize hst hroom hdg hc kk
theorem cLe_v {own : String} {index ml n fr lo : Nat} {y : MethodName} {b : ByteArray} {rt : Option FieldType} {post : StS → Prop} (S : CallFix p m c cc nL s args aW own)
    (hM : Met l y (Cond.code y b ml rt :: aW) { frames := fr, cells := 0, slots := 0, locals := lo } (va_Pc (.ref (wA w 11) :: As) (mW (wG w) (SW (wA w 11) (wA w 12) (wI w) 4000 (pLe σ)) (wI w) H.size)) (va_Qv post (mB (wG w) (SW (wA w 11) (wA w 12) (wI w) 4000) (wI w) (va_A (SW (wA w 11) (wA w 12) (wI w) 4000 (pLe σ)) H.size)) (va_A (SW (wA w 11) (wA w 12) (wI w) 4000 (pLe σ)) H.size)) 0 0 (va_A (SW (wA w 11) (wA w 12) (wI w) 4000 (pLe σ)) H.size))
    (ok : okV own index R_Strip y b ml rt n) (hR : roomy fr lo ml R) (hP : va_P (wG w) classes (WW w σ) H) (hK : va_K (wG w) classes [(wI w, .int)] s) (hD : va_D A (WW w σ)) (hS : va_S A s.heap H locs) (hA : ∀ q, s.heap.size ≤ q → A q)
    (hn : As.length = n) (hsize : ls.size = nL) (hst : st0 = As.reverse ++ .ref (wA w 11) :: rest) (hroom : (rest.map fun v => v.category).sum ≤ 8) (hdg : decode cc pc = .ok (.invokevirtual index, 3)) (hc : cells ≤ R.cells ∧ slots ≤ R.slots)
    (kk : ∀ (u : StS) (H1 : Heap) (locs1 : List Loc), post u → va_P (wG w) classes (WW w (sLe σ u)) H1 → va_D A (WW w (sLe σ u)) → va_S A s.heap H1 locs1 → W p l e R s m args below meth c H1 locs1 cells slots Q (F0 m (pc + 3) ls rest)) : W p l e R s m args below meth c H locs cells slots Q (F0 m pc ls st0) :=
  sc_v (wt := SW (wA w 11) (wA w 12) (wI w) 4000) (wn := fun u => WW w (sLe σ u)) (u0 := pLe σ) (ws := WW w σ) (wr := (([0, 1, 2, 3, 4, 5, 6, 7, 8, 9, 10, 13, 14, 15] : List Nat).filterMap (fun i => (WW w σ)[i]?))) S hM ok hR (va_recv hK hP (ci := 1) (q0 := 11) rfl rfl) hP hK hD hS hA [11, 12] [0, 1, 2, 3, 4, 5, 6, 7, 8, 9, 10, 13, 14, 15] [0, 1, 2, 3, 4, 5, 6, 7, 8, 9, 10, 14, 15, 11, 12, 13] rfl rfl rfl rfl rfl (by decide) (fun _ => rfl) (fun _ => rfl) rfl hn hsize hst hroom hdg hc kk
theorem cNd_v {own : String} {index ml n fr lo : Nat} {y : MethodName} {b : ByteArray} {rt : Option FieldType} {post : StS → Prop} (S : CallFix p m c cc nL s args aW own)
    (hM : Met l y (Cond.code y b ml rt :: aW) { frames := fr, cells := 0, slots := 0, locals := lo } (va_Pc (.ref (wA w 7) :: As) (mW (wG w) (TW (wA w 7) (wA w 8) (wI w) 900 14 12600 (pNd σ)) (wI w) H.size)) (va_Qv post (mB (wG w) (TW (wA w 7) (wA w 8) (wI w) 900 14 12600) (wI w) (va_A (TW (wA w 7) (wA w 8) (wI w) 900 14 12600 (pNd σ)) H.size)) (va_A (TW (wA w 7) (wA w 8) (wI w) 900 14 12600 (pNd σ)) H.size)) 0 0 (va_A (TW (wA w 7) (wA w 8) (wI w) 900 14 12600 (pNd σ)) H.size))
    (ok : okV own index R_Table y b ml rt n) (hR : roomy fr lo ml R) (hP : va_P (wG w) classes (WW w σ) H) (hK : va_K (wG w) classes [(wI w, .int)] s) (hD : va_D A (WW w σ)) (hS : va_S A s.heap H locs) (hA : ∀ q, s.heap.size ≤ q → A q)
    (hn : As.length = n) (hsize : ls.size = nL) (hst : st0 = As.reverse ++ .ref (wA w 7) :: rest) (hroom : (rest.map fun v => v.category).sum ≤ 8) (hdg : decode cc pc = .ok (.invokevirtual index, 3)) (hc : cells ≤ R.cells ∧ slots ≤ R.slots)
    (kk : ∀ (u : StS) (H1 : Heap) (locs1 : List Loc), post u → va_P (wG w) classes (WW w (sNd σ u)) H1 → va_D A (WW w (sNd σ u)) → va_S A s.heap H1 locs1 → W p l e R s m args below meth c H1 locs1 cells slots Q (F0 m (pc + 3) ls rest)) : W p l e R s m args below meth c H locs cells slots Q (F0 m pc ls st0) :=
  sc_v (wt := TW (wA w 7) (wA w 8) (wI w) 900 14 12600) (wn := fun u => WW w (sNd σ u)) (u0 := pNd σ) (ws := WW w σ) (wr := (([0, 1, 2, 3, 4, 5, 6, 9, 10, 11, 12, 13, 14, 15] : List Nat).filterMap (fun i => (WW w σ)[i]?))) S hM ok hR (va_recv hK hP (ci := 2) (q0 := 7) rfl rfl) hP hK hD hS hA [7, 8] [0, 1, 2, 3, 4, 5, 6, 9, 10, 11, 12, 13, 14, 15] [0, 1, 2, 3, 4, 5, 6, 14, 15, 7, 8, 9, 10, 11, 12, 13] rfl rfl rfl rfl rfl (by decide) (fun _ => rfl) (fun _ => rfl) rfl hn hsize hst hroom hdg hc kk
theorem cNd_i {own : String} {index ml n fr lo : Nat} {y : MethodName} {b : ByteArray} {rt : Option FieldType} {post : Int32 → StS → Prop} (S : CallFix p m c cc nL s args aW own)
    (hM : Met l y (Cond.code y b ml rt :: aW) { frames := fr, cells := 0, slots := 0, locals := lo } (va_Pc (.ref (wA w 7) :: As) (mW (wG w) (TW (wA w 7) (wA w 8) (wI w) 900 14 12600 (pNd σ)) (wI w) H.size)) (va_Qi post (mB (wG w) (TW (wA w 7) (wA w 8) (wI w) 900 14 12600) (wI w) (va_A (TW (wA w 7) (wA w 8) (wI w) 900 14 12600 (pNd σ)) H.size)) (va_A (TW (wA w 7) (wA w 8) (wI w) 900 14 12600 (pNd σ)) H.size)) 0 0 (va_A (TW (wA w 7) (wA w 8) (wI w) 900 14 12600 (pNd σ)) H.size))
    (ok : okV own index R_Table y b ml rt n) (hR : roomy fr lo ml R) (hP : va_P (wG w) classes (WW w σ) H) (hK : va_K (wG w) classes [(wI w, .int)] s) (hD : va_D A (WW w σ)) (hS : va_S A s.heap H locs) (hA : ∀ q, s.heap.size ≤ q → A q)
    (hn : As.length = n) (hsize : ls.size = nL) (hst : st0 = As.reverse ++ .ref (wA w 7) :: rest) (hroom : (rest.map fun v => v.category).sum ≤ 8) (hdg : decode cc pc = .ok (.invokevirtual index, 3)) (hc : cells ≤ R.cells ∧ slots ≤ R.slots)
    (kk : ∀ (r : Int32) (u : StS) (H1 : Heap) (locs1 : List Loc), post r u → va_P (wG w) classes (WW w (sNd σ u)) H1 → va_D A (WW w (sNd σ u)) → va_S A s.heap H1 locs1 → W p l e R s m args below meth c H1 locs1 cells slots Q (F0 m (pc + 3) ls (.int r :: rest))) : W p l e R s m args below meth c H locs cells slots Q (F0 m pc ls st0) :=
  sc_i (wt := TW (wA w 7) (wA w 8) (wI w) 900 14 12600) (wn := fun u => WW w (sNd σ u)) (u0 := pNd σ) (ws := WW w σ) (wr := (([0, 1, 2, 3, 4, 5, 6, 9, 10, 11, 12, 13, 14, 15] : List Nat).filterMap (fun i => (WW w σ)[i]?))) S hM ok hR (va_recv hK hP (ci := 2) (q0 := 7) rfl rfl) hP hK hD hS hA [7, 8] [0, 1, 2, 3, 4, 5, 6, 9, 10, 11, 12, 13, 14, 15] [0, 1, 2, 3, 4, 5, 6, 14, 15, 7, 8, 9, 10, 11, 12, 13] rfl rfl rfl rfl rfl (by decide) (fun _ => rfl) (fun _ => rfl) rfl hn hsize hst hroom hdg hc kk
theorem cAt_v {own : String} {index ml n fr lo : Nat} {y : MethodName} {b : ByteArray} {rt : Option FieldType} {post : StS → Prop} (S : CallFix p m c cc nL s args aW own)
    (hM : Met l y (Cond.code y b ml rt :: aW) { frames := fr, cells := 0, slots := 0, locals := lo } (va_Pc (.ref (wA w 9) :: As) (mW (wG w) (TW (wA w 9) (wA w 10) (wI w) 800 5 4000 (pAt σ)) (wI w) H.size)) (va_Qv post (mB (wG w) (TW (wA w 9) (wA w 10) (wI w) 800 5 4000) (wI w) (va_A (TW (wA w 9) (wA w 10) (wI w) 800 5 4000 (pAt σ)) H.size)) (va_A (TW (wA w 9) (wA w 10) (wI w) 800 5 4000 (pAt σ)) H.size)) 0 0 (va_A (TW (wA w 9) (wA w 10) (wI w) 800 5 4000 (pAt σ)) H.size))
    (ok : okV own index R_Table y b ml rt n) (hR : roomy fr lo ml R) (hP : va_P (wG w) classes (WW w σ) H) (hK : va_K (wG w) classes [(wI w, .int)] s) (hD : va_D A (WW w σ)) (hS : va_S A s.heap H locs) (hA : ∀ q, s.heap.size ≤ q → A q)
    (hn : As.length = n) (hsize : ls.size = nL) (hst : st0 = As.reverse ++ .ref (wA w 9) :: rest) (hroom : (rest.map fun v => v.category).sum ≤ 8) (hdg : decode cc pc = .ok (.invokevirtual index, 3)) (hc : cells ≤ R.cells ∧ slots ≤ R.slots)
    (kk : ∀ (u : StS) (H1 : Heap) (locs1 : List Loc), post u → va_P (wG w) classes (WW w (sAt σ u)) H1 → va_D A (WW w (sAt σ u)) → va_S A s.heap H1 locs1 → W p l e R s m args below meth c H1 locs1 cells slots Q (F0 m (pc + 3) ls rest)) : W p l e R s m args below meth c H locs cells slots Q (F0 m pc ls st0) :=
  sc_v (wt := TW (wA w 9) (wA w 10) (wI w) 800 5 4000) (wn := fun u => WW w (sAt σ u)) (u0 := pAt σ) (ws := WW w σ) (wr := (([0, 1, 2, 3, 4, 5, 6, 7, 8, 11, 12, 13, 14, 15] : List Nat).filterMap (fun i => (WW w σ)[i]?))) S hM ok hR (va_recv hK hP (ci := 2) (q0 := 9) rfl rfl) hP hK hD hS hA [9, 10] [0, 1, 2, 3, 4, 5, 6, 7, 8, 11, 12, 13, 14, 15] [0, 1, 2, 3, 4, 5, 6, 7, 8, 14, 15, 9, 10, 11, 12, 13] rfl rfl rfl rfl rfl (by decide) (fun _ => rfl) (fun _ => rfl) rfl hn hsize hst hroom hdg hc kk
theorem cAt_i {own : String} {index ml n fr lo : Nat} {y : MethodName} {b : ByteArray} {rt : Option FieldType} {post : Int32 → StS → Prop} (S : CallFix p m c cc nL s args aW own)
    (hM : Met l y (Cond.code y b ml rt :: aW) { frames := fr, cells := 0, slots := 0, locals := lo } (va_Pc (.ref (wA w 9) :: As) (mW (wG w) (TW (wA w 9) (wA w 10) (wI w) 800 5 4000 (pAt σ)) (wI w) H.size)) (va_Qi post (mB (wG w) (TW (wA w 9) (wA w 10) (wI w) 800 5 4000) (wI w) (va_A (TW (wA w 9) (wA w 10) (wI w) 800 5 4000 (pAt σ)) H.size)) (va_A (TW (wA w 9) (wA w 10) (wI w) 800 5 4000 (pAt σ)) H.size)) 0 0 (va_A (TW (wA w 9) (wA w 10) (wI w) 800 5 4000 (pAt σ)) H.size))
    (ok : okV own index R_Table y b ml rt n) (hR : roomy fr lo ml R) (hP : va_P (wG w) classes (WW w σ) H) (hK : va_K (wG w) classes [(wI w, .int)] s) (hD : va_D A (WW w σ)) (hS : va_S A s.heap H locs) (hA : ∀ q, s.heap.size ≤ q → A q)
    (hn : As.length = n) (hsize : ls.size = nL) (hst : st0 = As.reverse ++ .ref (wA w 9) :: rest) (hroom : (rest.map fun v => v.category).sum ≤ 8) (hdg : decode cc pc = .ok (.invokevirtual index, 3)) (hc : cells ≤ R.cells ∧ slots ≤ R.slots)
    (kk : ∀ (r : Int32) (u : StS) (H1 : Heap) (locs1 : List Loc), post r u → va_P (wG w) classes (WW w (sAt σ u)) H1 → va_D A (WW w (sAt σ u)) → va_S A s.heap H1 locs1 → W p l e R s m args below meth c H1 locs1 cells slots Q (F0 m (pc + 3) ls (.int r :: rest))) : W p l e R s m args below meth c H locs cells slots Q (F0 m pc ls st0) :=
  sc_i (wt := TW (wA w 9) (wA w 10) (wI w) 800 5 4000) (wn := fun u => WW w (sAt σ u)) (u0 := pAt σ) (ws := WW w σ) (wr := (([0, 1, 2, 3, 4, 5, 6, 7, 8, 11, 12, 13, 14, 15] : List Nat).filterMap (fun i => (WW w σ)[i]?))) S hM ok hR (va_recv hK hP (ci := 2) (q0 := 9) rfl rfl) hP hK hD hS hA [9, 10] [0, 1, 2, 3, 4, 5, 6, 7, 8, 11, 12, 13, 14, 15] [0, 1, 2, 3, 4, 5, 6, 7, 8, 14, 15, 9, 10, 11, 12, 13] rfl rfl rfl rfl rfl (by decide) (fun _ => rfl) (fun _ => rfl) rfl hn hsize hst hroom hdg hc kk
end CP
