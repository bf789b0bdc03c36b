/-! Calls: the rows of this claim, over the one list of words aW. -/
def Blind (B : State → Prop) : Prop := ∀ (a : Array Value) (U : State) (g : JFrame) (mk : MethodId), B U → B (U.calling g mk a)
theorem blind_pc {vs : List Value} {B : State → Prop} (h : Blind B) : FrameBlind (va_Pc vs B) := fun a U g mk q => ⟨q.1, h a U g mk q.2⟩
/-- what a virtual call at 'index' of class own needs of the tables -/
def okV (own : String) (index : Nat) (C : String) (y : MethodName) (b : ByteArray) (ml : Nat) (rt : Option FieldType) (n : Nat) : Prop :=
  Cond.methodLink own index y ∈ aW ∧ Cond.instanceMethod y ∈ aW ∧ Cond.selects C y y ∈ aW ∧ Cond.initialized C ∈ aW ∧ Cond.code y b ml rt ∈ aW ∧
  y.cls = C ∧ y.cls ≠ "java/lang/invoke/MethodHandle" ∧ y.cls ≠ "java/lang/invoke/VarHandle" ∧ (parseMethodDescriptor y.desc).map (fun d => d.parameters.length) = some n
def okS (own : String) (index : Nat) (y : MethodName) (b : ByteArray) (ml : Nat) (rt : Option FieldType) (n : Nat) : Prop :=
  Cond.methodLink own index y ∈ aW ∧ Cond.static y ∈ aW ∧ Cond.initialized y.cls ∈ aW ∧ Cond.code y b ml rt ∈ aW ∧
  y.cls ≠ "java/lang/invoke/MethodHandle" ∧ y.cls ≠ "java/lang/invoke/VarHandle" ∧ (parseMethodDescriptor y.desc).map (fun d => d.parameters.length) = some n
/-- the room that a callee of ml locals with (fr, lo) asks of R -/
def roomy (fr lo ml : Nat) (R : Room) : Prop := fr + 1 ≤ R.frames ∧ 8 + (ml + 11) + lo ≤ R.locals
section RC
variable {p : Program} {l : Launch} {e : Env} {R : Room} {s : State} {m : MethodId} {args : Array Value} {below : List Frame} {meth : Method} {c : Code} {H : Heap} {locs : List Loc} {cells slots : Nat} {Q : State → Prop}
variable {cc : ByteArray} {pc nL : Nat} {ls : Array Slot} {rest st0 As : List Value}
theorem aW_pay {s : State} {args : Array Value} (hta : ∀ w ∈ aW, w.before args s = true) {w0 : Cond} (h0 : w0 ∈ aW) : ∀ w ∈ (w0 :: aW), ∀ (a' : Array Value) (U : State), s.WarmedH U.vm → w.before a' U = true := by
  intro w hw a' U hW
  have hm : w ∈ aW := by
    rcases List.mem_cons.mp hw with h | h
    · rw [h]; exact h0
    · exact h
  exact word_at hW (aW_good hm) (hta w hm)
theorem cw_V {own C : String} {index ml n fr lo mc ms : Nat} {y : MethodName} {b : ByteArray} {rt : Option FieldType} (hta : ∀ w ∈ aW, w.before args s = true) (ok : okV own index C y b ml rt n) (hR : roomy fr lo ml R) :
    CallW R s args own C index y b ml rt (Cond.code y b ml rt :: aW) { frames := fr, cells := mc, slots := ms, locals := lo } mc ms n := by
  obtain ⟨h1, h2, h3, h4, h5, h6, h7, h8, h9⟩ := ok
  subst h6
  refine ⟨⟨rfl, rfl, hR.1, hR.2, aW_pay hta h5, List.mem_cons_self, hta _ h5, hta _ h4, ⟨h7, h8⟩, fun sig h => ?_, hta _ h1⟩, hta _ h2, hta _ h3⟩
  rw [h] at h9
  exact (Option.some.inj h9).symm
theorem cw_S {own : String} {index ml n fr lo mc ms : Nat} {y : MethodName} {b : ByteArray} {rt : Option FieldType} (hta : ∀ w ∈ aW, w.before args s = true) (ok : okS own index y b ml rt n) (hR : roomy fr lo ml R) :
    CallB R s args own index y b ml rt (Cond.code y b ml rt :: aW) { frames := fr, cells := mc, slots := ms, locals := lo } mc ms n ∧ (Cond.static y).before args s = true := by
  obtain ⟨h1, h2, h3, h4, h7, h8, h9⟩ := ok
  refine ⟨⟨rfl, rfl, hR.1, hR.2, aW_pay hta h4, List.mem_cons_self, hta _ h4, hta _ h3, ⟨h7, h8⟩, fun sig h => ?_, hta _ h1⟩, hta _ h2⟩
  rw [h] at h9
  exact (Option.some.inj h9).symm
/-- a static call that reads alone -/
theorem ro_S {own : String} {index ml n fr lo : Nat} {y : MethodName} {b : ByteArray} {rt : Option FieldType} {B : State → Prop} {post : Int32 → Prop} (S : CallFix p m c cc nL s args aW own) (hM : Met l y (Cond.code y b ml rt :: aW) { frames := fr, cells := 0, slots := 0, locals := lo } (va_Pc As B) (vp_Si post) 0 0 (fun _ => False)) (ok : okS own index y b ml rt n) (hR : roomy fr lo ml R) (hbl : Blind B) (hB : ∀ U : State, U.heap = H → s.WarmedH U.vm → B U)
    (hn : As.length = n) (hsize : ls.size = nL) (hst : st0 = As.reverse ++ rest) (hroom : (rest.map fun v => v.category).sum ≤ 8) (hdg : decode cc pc = .ok (.invokestatic index, 3)) (hc : cells ≤ R.cells ∧ slots ≤ R.slots)
    (kk : ∀ r : Int32, post r → W p l e R s m args below meth c H locs cells slots Q (F0 m (pc + 3) ls (.int r :: rest))) : W p l e R s m args below meth c H locs cells slots Q (F0 m pc ls st0) :=
  vp_callSi (W.runS S hM (cw_S S.2.2.2.2 ok hR) ⟨blind_pc hbl, fun U h1 h2 => ⟨rfl, hB U h1 h2⟩⟩ rfl hn hsize hst (lv_room hroom) hdg hc) kk
/-- a virtual call that reads alone -/
theorem ro_V {own C : String} {index ml n fr lo b0 : Nat} {y : MethodName} {b : ByteArray} {rt : Option FieldType} {B : State → Prop} {post : Int32 → Prop} (S : CallFix p m c cc nL s args aW own) (hM : Met l y (Cond.code y b ml rt :: aW) { frames := fr, cells := 0, slots := 0, locals := lo } (va_Pc (.ref b0 :: As) B) (vp_Si post) 0 0 (fun _ => False)) (ok : okV own index C y b ml rt n) (hR : roomy fr lo ml R) (hbl : Blind B) (hrecv : ∃ cell : Cell, H[b0]? = some cell ∧ cell.vm.isStatics = false ∧ s.vm.findClass C = some cell.cls) (hB : ∀ U : State, U.heap = H → s.WarmedH U.vm → B U)
    (hn : As.length = n) (hsize : ls.size = nL) (hst : st0 = As.reverse ++ .ref b0 :: rest) (hroom : (rest.map fun v => v.category).sum ≤ 8) (hdg : decode cc pc = .ok (.invokevirtual index, 3)) (hc : cells ≤ R.cells ∧ slots ≤ R.slots)
    (kk : ∀ r : Int32, post r → W p l e R s m args below meth c H locs cells slots Q (F0 m (pc + 3) ls (.int r :: rest))) : W p l e R s m args below meth c H locs cells slots Q (F0 m pc ls st0) :=
  vp_callSi (W.runV S hM (cw_V S.2.2.2.2 ok hR) ⟨blind_pc hbl, hrecv, fun U h1 h2 => ⟨rfl, hB U h1 h2⟩⟩ rfl hn hsize hst (lv_room hroom) hdg hc) kk
end RC
theorem blind_true : Blind (fun _ => True) := fun _ _ _ _ _ => trivial
/-- a world that is read -/
def rW (D : va_G) (ws : va_W) (cI : ClassId) (U : State) : Prop := va_P D classes ws U.heap ∧ va_K D classes [(cI, .int)] U
theorem blind_rW {D : va_G} {ws : va_W} {cI : ClassId} : Blind (rW D ws cI) := fun a U g mk q => ⟨q.1, va_K.moved (u := U) (U := U.calling g mk a) (Vm.Alike.refl U.vm) q.2⟩
/-- a world that is written: sz cells stand -/
def mW (D : va_G) (ws : va_W) (cI : ClassId) (sz : Nat) (U : State) : Prop := U.heap.size = sz ∧ va_P D classes ws U.heap ∧ va_K D classes [(cI, .int)] U ∧ va_D (fun _ => True) ws
theorem blind_mW {D : va_G} {ws : va_W} {cI : ClassId} {sz : Nat} : Blind (mW D ws cI sz) := fun a U g mk q => ⟨q.1, q.2.1, va_K.moved (u := U) (U := U.calling g mk a) (Vm.Alike.refl U.vm) q.2.2.1, q.2.2.2⟩
/-- the end of a method that has written: the world of u -/
def mB {S : Type} (D : va_G) (wt : S → va_W) (cI : ClassId) (A : Nat → Prop) (u : S) (t : State) : Prop := va_P D classes (wt u) t.heap ∧ va_K D classes [(cI, .int)] t ∧ va_D A (wt u)
/-- the state of a strip, and of a table: how many, and what stands there -/
abbrev StS : Type := Int32 × (Nat → Int32)
abbrev SW (a b : Nat) (cI : ClassId) (N : Nat) (σ : StS) : va_W := [(a, .inr (1, [.ref b, .int σ.1])), (b, .inl (cI, N, .inl σ.2))]
abbrev TW (a b : Nat) (cI : ClassId) (most width : Int32) (N : Nat) (σ : StS) : va_W := [(a, .inr (2, [.int most, .int width, .ref b, .int σ.1])), (b, .inl (cI, N, .inl σ.2))]
