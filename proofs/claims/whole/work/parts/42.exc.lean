/-! What the throws need of the tables, beside the words: told apart, carried along. -/
def exL : List Cond := [.declares ⟨"java/lang/RuntimeException", "<init>", "(Ljava/lang/String;)V"⟩, .declares ⟨"java/lang/Exception", "<init>", "(Ljava/lang/String;)V"⟩, .declares ⟨"java/lang/Throwable", "<init>", "(Ljava/lang/String;)V"⟩,
  .castable "java/lang/IllegalArgumentException" "java/lang/IllegalArgumentException", .castable "java/lang/IllegalStateException" "java/lang/IllegalStateException", .castable "java/lang/IndexOutOfBoundsException" "java/lang/IndexOutOfBoundsException"]
def exU : Cond := .isRef (.static Bundle.tN "UNASSIGNED_STACK" Bundle.steD)
def exS : Cond := .isRef (.static Bundle.tN "SUPPRESSED_SENTINEL" Bundle.listD)
def exU' : Cond := .laysStatic Bundle.tN "UNASSIGNED_STACK" Bundle.steD
def exS' : Cond := .laysStatic Bundle.tN "SUPPRESSED_SENTINEL" Bundle.listD
abbrev exN : List String := ["java/lang/RuntimeException", "java/lang/Exception"]
def exOk (ic : Nat) (cls : String) : Prop := ∀ a ∈ Bundle.ownAtoms "PlainPages" ic cls exN, a ∈ aW ∨ a ∈ exL ∨ a = exU ∨ a = exS ∨ a = exU' ∨ a = exS'
set_option maxRecDepth 100000 in
theorem exOk_A : exOk 91 "java/lang/IllegalArgumentException" := by unfold exOk; decide +kernel
set_option maxRecDepth 100000 in
theorem exOk_S : exOk 99 "java/lang/IllegalStateException" := by unfold exOk; decide +kernel
set_option maxRecDepth 100000 in
theorem exOk_I : exOk 128 "java/lang/IndexOutOfBoundsException" := by unfold exOk; decide +kernel
/-- a static field that its class lays, and what lies in it -/
def va_Y (C n d : String) (v : Value) (A : Nat → Prop) (U : State) (H : Heap) : Prop := ∃ (c : ClassId) (k : Class) (i : Nat) (f : Field) (a : Nat) (cell : Cell), U.vm.findClass C = some c ∧ U.fieldFound? C n d = some (c, k, i, f) ∧ f.isStatic = true ∧ k.statics = some a ∧ k.staticTypes[f.slot]? = some f.type ∧ H[a]? = some cell ∧ cell.vm.isStatics = true ∧ cell.cls = c ∧ cell.slots[f.slot]? = some v ∧ ¬ A a
theorem va_Y.moved {C n d : String} {v : Value} {A : Nat → Prop} {u U : State} {H : Heap} (hvm : u.vm.Alike U.vm) (h : va_Y C n d v A u H) : va_Y C n d v A U H := by
  obtain ⟨c, k, i, f, a, cell, h0, h1, h2, h3, h4, h5⟩ := h
  obtain ⟨k', hi', he⟩ := State.fieldFound?_setVm hvm h1
  exact ⟨c, k', i, f, a, cell, by rw [hvm.findClass]; exact h0, hi', h2, by rw [he]; exact h3, by rw [he]; exact h4, h5⟩
theorem va_Y.kept {C n d : String} {v : Value} {A : Nat → Prop} {U : State} {H H1 : Heap} (h : va_Y C n d v A U H) (hq : ∀ a : Nat, a < H.size → ¬ A a → H1[a]? = H[a]?) : va_Y C n d v A U H1 := by
  obtain ⟨c, k, i, f, a, cell, h0, h1, h2, h3, h4, h5, h6, h7, h8, h9⟩ := h
  exact ⟨c, k, i, f, a, cell, h0, h1, h2, h3, h4, by rw [hq a (Array.getElem?_eq_some_iff.mp h5).1 h9]; exact h5, h6, h7, h8, h9⟩
theorem va_Y.narrow {C n d : String} {v : Value} {A B : Nat → Prop} {U : State} {H : Heap} (h : va_Y C n d v A U H) (hAB : ∀ q, B q → A q) : va_Y C n d v B U H := by
  obtain ⟨c, k, i, f, a, cell, h0, h1, h2, h3, h4, h5, h6, h7, h8, h9⟩ := h
  exact ⟨c, k, i, f, a, cell, h0, h1, h2, h3, h4, h5, h6, h7, h8, fun z => h9 (hAB a z)⟩
theorem va_Y.lays {C n d : String} {v : Value} {A : Nat → Prop} {U : State} {args : Array Value} (h : va_Y C n d v A U U.heap) : (Cond.laysStatic C n d).before args U = true := by
  obtain ⟨c, k, i, f, a, cell, h0, h1, h2, h3, h4, h5, h6, h7, h8, h9⟩ := h
  exact Cond.laysStatic_of h0 h1 h2 h3 h5 h6 h7 (Array.getElem?_eq_some_iff.mp h8).1 h4
def EX (A : Nat → Prop) (U : State) (H : Heap) : Prop := (∀ a ∈ exL, va_Nw a U) ∧ (∃ r : Option Nat, va_Y Bundle.tN "UNASSIGNED_STACK" Bundle.steD (va_rf r) A U H) ∧ (∃ r : Option Nat, va_Y Bundle.tN "SUPPRESSED_SENTINEL" Bundle.listD (va_rf r) A U H)
theorem exL_tab : ∀ a ∈ exL, a.onTables = true := by
  intro a h
  simp only [exL, List.mem_cons, List.not_mem_nil, or_false] at h
  rcases h with rfl | rfl | rfl | rfl | rfl | rfl <;> rfl
theorem EX.go {A B : Nat → Prop} {s U : State} {H : Heap} {locs : List Loc} (h : EX A s s.heap) (hS : va_S A s.heap H locs) (hW : s.WarmedH U.vm) (hAB : ∀ q, B q → A q) : EX B U H := by
  obtain ⟨h1, ⟨r, h2⟩, ⟨r3, h3⟩⟩ := h
  refine ⟨?_, ⟨r, ((va_Y.moved hW.alike h2).kept hS.2.1).narrow hAB⟩, ⟨r3, ((va_Y.moved hW.alike h3).kept hS.2.1).narrow hAB⟩⟩
  intro a ha
  have h4 := h1 a ha
  simp only [exL, List.mem_cons, List.not_mem_nil, or_false] at ha
  rcases ha with rfl | rfl | rfl | rfl | rfl | rfl
  · exact va_Nw.warmD hW h4
  · exact va_Nw.warmD hW h4
  · exact va_Nw.warmD hW h4
  · exact va_Nw.warmC hW h4
  · exact va_Nw.warmC hW h4
  · exact va_Nw.warmC hW h4
theorem EX.blind {A : Nat → Prop} {U : State} {g : JFrame} {mk : MethodId} {a : Array Value} (h : EX A U U.heap) : EX A (U.calling g mk a) (U.calling g mk a).heap := by
  have hv : U.vm.Alike (U.calling g mk a).vm := Vm.Alike.refl U.vm
  obtain ⟨h1, ⟨r, h2⟩, ⟨r3, h3⟩⟩ := h
  exact ⟨fun w hw => va_Nw.same (u := U) (exL_tab w hw) rfl (h1 w hw), ⟨r, va_Y.moved hv h2⟩, ⟨r3, va_Y.moved hv h3⟩⟩
theorem ex_ref {C n d : String} {r : Option Nat} {A : Nat → Prop} {U : State} {args : Array Value} (h : va_Y C n d (va_rf r) A U U.heap) : (Cond.isRef (.static C n d)).before args U = true := by
  obtain ⟨c, k, i, f, a, cell, h0, h1, h2, h3, h4, h5, h6, h7, h8, h9⟩ := h
  have hv : (Term.static C n d).eval args U none [] U = some (va_rf r) := Term.static_eval h1 h2 h3 h5 h6 h8
  cases r <;> simp [Cond.before, Cond.holds, Cond.value, hv, va_rf]
theorem ex_at {s : State} {args : Array Value} {A : Nat → Prop} {H : Heap} {locs : List Loc} {ic : Nat} {cls : String} (hta : ∀ w ∈ aW, w.before args s = true) (hE : EX A s s.heap) (hS : va_S A s.heap H locs) (ok : exOk ic cls) :
    ∀ U : State, U.vm = s.vm → U.heap = H → ∀ a ∈ Bundle.ownAtoms "PlainPages" ic cls exN, a.before args U = true := by
  intro U hv hh a ha
  have hW : s.WarmedH U.vm := by rw [hv]; exact State.WarmedH.refl s
  subst hh
  have hE' := hE.go (U := U) (B := A) hS hW (fun _ h => h)
  rcases ok a ha with h | h | h | h | h | h
  · exact word_at hW (aW_good h) (hta a h)
  · exact va_Nw.use (exL_tab a h) (hE'.1 a h)
  · subst h; obtain ⟨r, h2⟩ := hE'.2.1; exact ex_ref h2
  · subst h; obtain ⟨r, h2⟩ := hE'.2.2; exact ex_ref h2
  · subst h; obtain ⟨r, h2⟩ := hE'.2.1; exact h2.lays
  · subst h; obtain ⟨r, h2⟩ := hE'.2.2; exact h2.lays
/-- the end of a method of the face that may throw an exception of class cls -/
def QX (w : WD) (cls : String) (post : Int32 → PPS → Prop) (postT : PPS → Prop) (A : Nat → Prop) : Array Value → State → Outcome → State → Prop := fun _ st o t =>
  ((∃ (r : Int32) (u : PPS), o = .returned (some (.int r)) ∧ (post r u ∧ inv u) ∧ mB (wG w) (WW w) (wI w) A u t) ∨
    (∃ (x : Addr) (u : PPS) (ce : Cell), o = .threw x ∧ (postT u ∧ inv u) ∧ mB (wG w) (WW w) (wI w) A u t ∧ st.heap.size ≤ x ∧ t.heap[x]? = some ce ∧ ce.vm = .none ∧ t.vm.findClass cls = some ce.cls)) ∧ va_F A st t
/-- the world, written, and what the throws need -/
def xW (w : WD) (σ : PPS) (sz : Nat) (U : State) : Prop := gW w σ sz U ∧ EX (va_A (WW w σ) sz) U U.heap
theorem blind_xW {w : WD} {σ : PPS} {sz : Nat} : Blind (xW w σ sz) := fun a U g mk q => ⟨blind_gW a U g mk q.1, q.2.blind⟩
section XR
variable {p : Program} {l : Launch} {e : Env} {R : Room} {s : State} {m : MethodId} {args : Array Value} {below : List Frame} {meth : Method} {c : Code} {H : Heap} {locs : List Loc}
variable {cc : ByteArray} {pc : Nat} {ls : Array Slot} {A : Nat → Prop} {w : WD} {σ : PPS} {post : Int32 → PPS → Prop} {postT : PPS → Prop}
/-- the face's throw -/
theorem x_throw (hexec : p.tables.exec = Jvm.exec) (hb : c.code = cc) (hls : l.stackTraces = false) {cls tx : String} {ix kx ic ti : Nat} (ok : exOk ic cls) (hown : s.vm.findClass "PlainPages" = some m.cls) (hsize : ls.size = c.maxLocals) (hta : ∀ w ∈ aW, w.before args s = true) (hC : CST w A s s.heap) (hX : EX A s s.heap) (hti : ti < 49) (ho : tOw.getD ti ("", 0, "") = ("PlainPages", kx, tx)) (hcls : Bundle.fit cls = true)
    (hcl : Cond.classLink "PlainPages" ix cls ∈ aW) (hins : Cond.instantiable cls 6 ∈ aW) (hini : Cond.initialized cls ∈ aW) (hno : c.exceptionTable.isEmpty = true) (hlocks : meth.locks = false)
    (hcells : 1 ≤ R.cells) (hslots : 6 ≤ R.slots) (hRf : 5 < R.frames) (hRl : 1 + 81 ≤ R.locals)
    (d0 : decode cc pc = .ok (.new ix, 3)) (d3 : decode cc (pc + 3) = .ok (.dup, 1)) (d4 : decode cc (pc + 3 + 1) = .ok (.ldc kx, 2)) (d6 : decode cc (pc + 3 + 1 + 2) = .ok (.invokespecial ic, 3)) (d9 : decode cc (pc + 3 + 1 + 2 + 3) = .ok (.athrow, 1))
    (hP : va_P (wG w) classes (WW w σ) H) (hK : va_K (wG w) classes [(wI w, .int)] s) (hD : va_D A (WW w σ)) (hS : va_S A s.heap H locs) (hI : inv σ) (hE : postT σ) :
    W p l e R s m args below meth c H locs 0 0 (MQX below (QX w cls post postT A) args s 1 6 A) (F0 m pc ls []) := by
  refine thr_W (names := exN) (tx := tx) (w := w) hexec hb hls hown hsize hC hS hti ho hcls (by decide) (ex_at hta hX hS ok) (hta _ hcl) (hta _ hins) (hta _ hini) hno hlocks (by omega) (by omega) hRf hRl d0 d3 d4 d6 d9 (fun t ce hold hsz hce hvm hfc hW => ?_) hS.2.2
  refine ⟨Or.inr ⟨H.size, σ, ce, rfl, ⟨hE, hI⟩, ⟨hP.kept (fun k q h => hold q.1 (hP k q h).lt), va_K.moved hW.alike hK, hD⟩, hS.1, hce, hvm, by rw [hW.alike.findClass]; exact hfc⟩, Nat.le_trans hS.1 hsz, fun q h1 h2 => ?_⟩
  rw [hold q (Nat.lt_of_lt_of_le h1 hS.1)]
  exact hS.2.1 q h1 h2
end XR
