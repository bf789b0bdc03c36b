/-! The throw itself: new, dup, a text, the constructor, athrow. -/
section TR
variable {p : Program} {l : Launch} {e : Env} {R : Room} {s : State} {m : MethodId} {args : Array Value} {below : List Frame} {meth : Method} {c : Code} {H : Heap} {locs : List Loc} {cells slots : Nat}
variable {cc : ByteArray} {pc : Nat} {ls : Array Slot} {rest0 : List Value} {A : Nat → Prop} {w : WD}
theorem thr_at (hexec : p.tables.exec = Jvm.exec) (hb : c.code = cc) (hls : l.stackTraces = false) {own cls tx : String} {names : List String} {ix kx ic ti : Nat} (hown : s.vm.findClass own = some m.cls) (hsize : ls.size = c.maxLocals) (hC : CST w A s s.heap) (hti : ti < 49) (ho : tOw.getD ti ("", 0, "") = (own, kx, tx)) (hcls : Bundle.fit cls = true) (hnames : ∀ n ∈ names, Bundle.fit n = true)
    (hat : ∀ a ∈ Bundle.ownAtoms own ic cls names, a.before args s = true) (hcl : (Cond.classLink own ix cls).before args s = true) (hins : (Cond.instantiable cls 6).before args s = true) (hini : (Cond.initialized cls).before args s = true) (hno : c.exceptionTable.isEmpty = true) (hlocks : meth.locks = false)
    (hcells : 1 ≤ R.cells) (hslots : 6 ≤ R.slots) (hRf : names.length + 3 < R.frames) (hRl : ((Value.ref s.heap.size :: rest0).map fun v => v.category).sum + (13 * (names.length + 1) + 42) ≤ R.locals)
    (d0 : decode cc pc = .ok (.new ix, 3)) (d3 : decode cc (pc + 3) = .ok (.dup, 1)) (d4 : decode cc (pc + 3 + 1) = .ok (.ldc kx, 2)) (d6 : decode cc (pc + 3 + 1 + 2) = .ok (.invokespecial ic, 3)) (d9 : decode cc (pc + 3 + 1 + 2 + 3) = .ok (.athrow, 1)) :
    W p l e R s m args below meth c s.heap [] 0 0 (fun U => U.status = .running ∧ Ended U below (.threw s.heap.size) ∧ s.WarmedH U.vm ∧ s.sameButNew ({ U with vm := s.vm } : State) [] 1 6 ∧ ∃ ce : Cell, U.heap[s.heap.size]? = some ce ∧ ce.vm = .none ∧ s.vm.findClass cls = some ce.cls) (F0 m pc ls rest0) := by
  have hS : va_S A s.heap s.heap [] := va_S.rf
  refine W.newc hexec hb hown hcl hins hini rfl d0 (by omega) (by omega) fun cC kC h1 h2 h3 h4 => ?_
  refine W.eq (g2 := F0 m (pc + 3) ls (.ref s.heap.size :: rest0)) rfl ?_
  refine lv_dup hexec hb d3 rfl ?_
  refine t_ldc hexec hb hC hti ho hown d4 ?_
  intro T hT X
  subst hb
  have htr : e.platform.stackTraces = false := by rw [X.admits.platform]; exact hls
  obtain ⟨U, st, run, hend, hW, hsame, ce, hce, hoc⟩ := X.ctorThrowS hexec htr hown hcls hnames hat (fun x h => by cases h) h1 h2 (a := s.heap.size) (by rw [hT]; simp [freshCell]) (Nat.le_refl _) (msg := .ref (wK w ti)) rfl
    (g := F0 m (pc + 3 + 1 + 2) ls (.ref (wK w ti) :: .ref s.heap.size :: .ref s.heap.size :: rest0)) rfl hsize rfl rfl (rest := rest0) rfl d6 d9 (fun x hx => by simp [Array.isEmpty_iff.mp hno] at hx) hRf (by show 2 * 0 + _ + _ ≤ _; omega) (hlocks := hlocks)
  refine ⟨U, st, run, hend, hW, ?_, ce, hce, hoc.vm, hoc.cls⟩
  exact hsame.mono (by omega) (by omega)
/-- the same, from any point of a walk: what stood stays, the exception is the next cell -/
theorem thr_W (hexec : p.tables.exec = Jvm.exec) (hb : c.code = cc) (hls : l.stackTraces = false) {own cls tx : String} {names : List String} {ix kx ic ti : Nat} {Qc : Array Value → State → Outcome → State → Prop} {free : Addr → Prop} (hown : s.vm.findClass own = some m.cls) (hsize : ls.size = c.maxLocals) (hC : CST w A s s.heap) (hS : va_S A s.heap H locs) (hti : ti < 49) (ho : tOw.getD ti ("", 0, "") = (own, kx, tx)) (hcls : Bundle.fit cls = true) (hnames : ∀ n ∈ names, Bundle.fit n = true)
    (hat : ∀ U : State, U.vm = s.vm → U.heap = H → ∀ a ∈ Bundle.ownAtoms own ic cls names, a.before args U = true) (hcl : (Cond.classLink own ix cls).before args s = true) (hins : (Cond.instantiable cls 6).before args s = true) (hini : (Cond.initialized cls).before args s = true) (hno : c.exceptionTable.isEmpty = true) (hlocks : meth.locks = false)
    (hcells : cells + 1 ≤ R.cells) (hslots : slots + 6 ≤ R.slots) (hRf : names.length + 3 < R.frames) (hRl : ((Value.ref H.size :: rest0).map fun v => v.category).sum + (13 * (names.length + 1) + 42) ≤ R.locals)
    (d0 : decode cc pc = .ok (.new ix, 3)) (d3 : decode cc (pc + 3) = .ok (.dup, 1)) (d4 : decode cc (pc + 3 + 1) = .ok (.ldc kx, 2)) (d6 : decode cc (pc + 3 + 1 + 2) = .ok (.invokespecial ic, 3)) (d9 : decode cc (pc + 3 + 1 + 2 + 3) = .ok (.athrow, 1))
    (hq : ∀ (t : State) (ce : Cell), (∀ q, q < H.size → t.heap[q]? = H[q]?) → H.size ≤ t.heap.size → t.heap[H.size]? = some ce → ce.vm = .none → s.vm.findClass cls = some ce.cls → s.WarmedH t.vm → Qc args s (.threw H.size) t) (hf : ∀ q ∈ locs, free q.base) :
    W p l e R s m args below meth c H locs cells slots (MQX below Qc args s (cells + 1) (slots + 6) free) (F0 m pc ls rest0) := by
  intro T hT X
  subst hT
  have X' := st_base X (by omega) (by omega)
  have hC' : CST w A ({ s with heap := T.heap, slotsUsed := T.slotsUsed } : State) T.heap := hC.go (U := ({ s with heap := T.heap, slotsUsed := T.slotsUsed } : State)) hS (State.WarmedH.refl s) (fun _ h => h)
  obtain ⟨U, st, run, hend, hW, hsame, ce, hce, hvm, hfc⟩ := thr_at (R := ({ frames := R.frames, cells := R.cells - cells, slots := R.slots - slots, locals := R.locals } : Room)) (s := ({ s with heap := T.heap, slotsUsed := T.slotsUsed } : State)) (ls := ls) (rest0 := rest0) (pc := pc) (below := below) hexec hb hls hown hsize hC' hti ho hcls hnames (hat _ rfl rfl) (va_tabs (A := args) (u := s) rfl rfl hcl) (va_tabs (A := args) (u := s) rfl rfl hins) (va_tabs (A := args) (u := s) rfl rfl hini) hno hlocks
    (by show 1 ≤ R.cells - cells; omega) (by show 6 ≤ R.slots - slots; omega) hRf hRl d0 d3 d4 d6 d9 T rfl X'
  obtain ⟨g1, g2, g3, g4, g5, g6⟩ := hsame
  have hold : ∀ q, q < T.heap.size → U.heap[q]? = T.heap[q]? := by
    intro q hq9
    have h9 : T.heap[q]? = some T.heap[q] := Array.getElem?_eq_getElem hq9
    obtain ⟨c', k1, k2, k3, k4⟩ := g6 q _ h9
    have k1' : U.heap[q]? = some c' := k1
    rw [k1', h9, k2]
    congr 1
    have : c'.slots = (T.heap[q]).slots := Array.ext_getElem? (fun i => k4 i (by simp))
    rw [this]
  obtain ⟨F, hF⟩ : ∃ F, T.setVm s.vm = ({ s.setFrames F with heap := T.heap, slotsUsed := T.slotsUsed } : State) := ⟨_, X.same.1⟩
  have hB : (T.setVm s.vm).sameButNew ({ U with vm := s.vm } : State) [] 1 6 := by
    rw [hF]
    refine ⟨?_, g2, g3, g4, g5, g6⟩
    refine g1.trans ?_
    have e9 := congrArg (fun z : State => ({ z with heap := U.heap, slotsUsed := U.slotsUsed } : State)) (State.setFrames_setFrames s F ({ U with vm := s.vm } : State).frames).symm
    exact e9
  have hA := X.same.trans hB
  rw [List.append_nil] at hA
  exact ⟨U, st, .threw T.heap.size, run, hend, hq U ce hold g2 hce hvm hfc hW, locs, ⟨hW, hA⟩, hf⟩
end TR
