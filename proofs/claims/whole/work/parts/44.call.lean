/-! A call of a method that returns or throws. -/
section XC
variable {p : Program} {l : Launch} {e : Env} {R : Room} {s : State} {m : MethodId} {args : Array Value} {below : List Frame} {meth : Method} {c : Code} {H : Heap} {locs : List Loc} {cells slots : Nat} {Q : State → Prop}
variable {y : MethodName} {bytes cc : ByteArray} {maxL nL mc ms n index : Nat} {ret : Option FieldType} {ws : List Cond} {rm : Room} {Pc : Array Value → State → Prop} {Qc : Array Value → State → Outcome → State → Prop} {free : Addr → Prop} {Ts : List Cond} {own C : String} {b : Addr} {As rest : List Value} {g : JFrame}
theorem x_run (S : CallFix p m c cc nL s args Ts own) (hM : MetX l y ws rm Pc Qc mc ms free) (cw : CallW R s args own C index y bytes maxL ret ws rm mc ms n) (hp : PreV s H C b Pc As)
    (hg : g.method = m) (hn : As.length = n) (hsize : g.locals.size = nL) (hstack : g.stack = As.reverse ++ .ref b :: rest) (hW : 2 * g.monitorRoom + (rest.map fun v => v.category).sum ≤ 8) (hdg : decode cc g.pc = .ok (.invokevirtual index, 3)) (hf : cells + mc ≤ R.cells ∧ slots + ms ≤ R.slots) :
    ∀ T : State, T.heap = H → Stand p l e R s m args below meth c T locs cells slots → ∃ (o : Outcome) (st₀ t T' : State) (L : List Loc), st₀.heap = H ∧ Stand p l e R s m args below meth c T' (locs ++ L) (cells + mc) (slots + ms) ∧ (∀ q ∈ L, free q.base) ∧ T'.heap = t.heap ∧ T'.vm = t.vm ∧ Qc (Value.ref b :: As).toArray st₀ o t ∧
      ((∃ v, o = .returned v ∧ Goes p e below T g T' { g with pc := g.pc + 3, stack := v.toList ++ rest }) ∨ (∃ x, o = .threw x ∧ ∀ target, Steps p.tables e below ((T'.setTop { g with stack := rest }).pushFrame (.throwing x)) target → Steps p.tables e below (T.setTop g) target)) := by
  obtain ⟨⟨hrc, hrs, hfr, hlo, hws, hcw, hcode, hini, hy, hlen, hl⟩, hin, hse⟩ := cw
  obtain ⟨hx, hb, hml, ho, -⟩ := S
  obtain ⟨hbl, ⟨cellB, hcB, hoB, hclB⟩, hPc⟩ := hp
  intro T hT X
  subst hb
  obtain ⟨mk, methM, hnamed, hmethM, hstM, habM⟩ := Cond.instanceMethod_spec hin
  obtain ⟨methM', cM, hmethM', hcM, -, hlM, -, -, -, hsigM⟩ := Cond.code_spec hnamed hcode
  cases hmethM.symm.trans hmethM'
  obtain ⟨c2, r2, m2, q1, q2, q3, q4, kP, hkP, hkPi⟩ := Cond.selects_spec hse
  cases hclB.symm.trans q1
  cases (State.methodFound?_of_named hnamed hy).symm.trans q2
  cases hnamed.symm.trans q3
  have hselP : selectMethod e.platform s.vm cellB.cls mk = .method mk := by rw [Launch.admits_selectMethod X.admits]; exact q4
  have hlen' : As.length = methM.sig.parameters.length := hn.trans (hlen _ hsigM)
  obtain ⟨vm₁, X₁, hstep₁⟩ := X.invokevirtual hx ho hl hnamed hmethM hstM hkP hkPi hy (a := b) (cell := cellB) (by rw [hT]; exact hcB)
    (fun z h => by rw [h] at hoB; cases hoB) hselP hmethM habM hkP hkPi (g := g) hg (argsL := As) (rest := rest) hlen' hstack hdg
  have hn₁ := X₁.named hnamed
  obtain ⟨kY, hkY, -⟩ := className_of_methodNamed hn₁
  have hcode₁ := hws _ hcw (Value.ref b :: As).toArray (T.setVm vm₁) X₁.warmed
  obtain ⟨methY, cY, hmY, hcY, -, hlY, -⟩ := Cond.code_spec hn₁ hcode₁
  have hini₁ : (Cond.initialized y.cls).before (Value.ref b :: As).toArray (T.setVm vm₁) = true := word_at X₁.warmed (Or.inl (by first | rfl | simp [Cond.onTables, Cond.keeps, Cond.steady])) hini
  have hinitY : kY.init = .initialized := Cond.initialized_spec (findClass_of_methodNamed hn₁) hkY hini₁
  have hg₁ : ({ g with stack := rest } : JFrame).method = m := hg
  have h : At (T.setVm vm₁) ({ g with stack := rest } : JFrame).method c below := by rw [hg₁]; exact X₁.here
  have hroomL : 2 * g.monitorRoom + (rest.map fun v => v.category).sum + (maxL + 11) + rm.locals ≤ R.locals := by omega
  have happ : (headSpec ws rm).appliesLoose y e.platform ((T.setVm vm₁).calling { g with stack := rest } mk (Value.ref b :: As).toArray) = true :=
    Spec.appliesLoose_calling (g := { g with stack := rest }) h hdg hn₁ hkY hinitY
      (X₁.room_calling (g := { g with stack := rest }) (R' := (headSpec ws rm).room) (hsize.trans hml.symm) hmY hcY hfr (by rw [hlY]; exact hroomL) (by show cells + rm.cells ≤ _; rw [hrc]; exact hf.1) (by show slots + rm.slots ≤ _; rw [hrs]; exact hf.2))
      (atoms_intro fun w hw => hws w hw _ _ X₁.warmed)
  obtain ⟨g₀, hr₀⟩ := X₁.frames_eq
  have hfr1 : ((T.setVm vm₁).setTop { g with stack := rest }).frames = .java { g with stack := rest } :: below := by rw [State.frames_setTop' _ h.top, hr₀]; rfl
  obtain ⟨o, s₂, hsteps, -, hend, hq, L, ⟨hW₂, hsame⟩, hL⟩ := Steps.callFree hM p X₁.admits X₁.cas X₁.clock (acts := []) (mid := [.java { g with stack := rest }]) (below := below) hfr1 happ (hbl _ _ _ _ (hPc (T.setVm vm₁) hT X₁.warmed)) trivial
  rw [hfr1] at hend
  cases o with
  | returned v =>
    obtain ⟨T', X', hW', hs', ht⟩ := X₁.outOf hg₁ (g := { g with stack := rest }) hdg hend hW₂ hsame
    refine ⟨_, _, s₂, T', L, ?_, X', hL, ?_, ?_, hq, Or.inl ⟨v, rfl, ?_⟩⟩
    · exact hT
    · rw [ht]; rfl
    · rw [ht]; rfl
    · intro target h2
      refine hstep₁ _ fun acts => ?_
      rw [doInvoke_state]
      refine hsteps.trans ?_
      rw [ht]
      exact h2
  | threw x =>
    obtain ⟨T', X', hW', hs', ht⟩ := X₁.outOfThrown hg₁ (g := { g with stack := rest }) hend hW₂ hsame
    refine ⟨_, _, s₂, T', L, ?_, X', hL, ?_, ?_, hq, Or.inr ⟨x, rfl, ?_⟩⟩
    · exact hT
    · rw [ht, throwing_heap]
    · rw [ht, throwing_vm]
    · intro target h2
      refine hstep₁ _ fun acts => ?_
      rw [doInvoke_state]
      refine hsteps.trans ?_
      rw [ht]
      exact h2
end XC
/-- the class's world, and the law's array of one long beside it -/
def LW (w : WD) (aL : Nat) (cL : ClassId) (f : Nat → Int64) (σ : PPS) : va_W := (aL, .inl (cL, 1, .inr (.inl f))) :: WW w σ
abbrev lTy (w : WD) (cL : ClassId) : List (ClassId × FieldType) := [(wI w, .int), (cL, .long)]
section XD
variable {p : Program} {l : Launch} {e : Env} {R : Room} {s : State} {m : MethodId} {args : Array Value} {below : List Frame} {meth : Method} {c : Code} {H : Heap} {locs : List Loc} {cells slots : Nat} {Q : State → Prop}
variable {cc : ByteArray} {pc nL : Nat} {ls : Array Slot} {rest st0 As : List Value} {A : Nat → Prop} {w : WD} {σ : PPS} {aL : Nat} {cL : ClassId} {f : Nat → Int64}
theorem LW.P (hP : va_P (wG w) classes (LW w aL cL f σ) H) : va_P (wG w) classes (WW w σ) H := fun k q h => hP (k + 1) q h
theorem LW.D (hD : va_D A (LW w aL cL f σ)) : va_D A (WW w σ) := ⟨fun i j p q hi hj he => by have := hD.1 (i + 1) (j + 1) p q hi hj he; omega, fun k q h => hD.2 (k + 1) q h⟩
theorem LW.K (hK : va_K (wG w) classes (lTy w cL) s) : va_K (wG w) classes [(wI w, .int)] s := ⟨hK.1, fun k q h => by
  cases k with
  | zero => exact hK.2 0 q h
  | succ k => cases h⟩
/-- a call of the face that returns or throws, the throw caught by the one entry -/
theorem x_call {own C cls : String} {index ml n fr lo b0 : Nat} {y : MethodName} {b : ByteArray} {rt : Option FieldType} {post : Int32 → PPS → Prop} {postT : PPS → Prop} {x0 : ExceptionTableEntry} (S : CallFix p m c cc nL s args aW own)
    (hM : MetX l y (Cond.code y b ml rt :: aW) { frames := fr, cells := 1, slots := 6, locals := lo } (va_Pc (.ref b0 :: As) (xW w σ H.size)) (QX w cls post postT (va_A (WW w σ) H.size)) 1 6 (va_A (WW w σ) H.size))
    (ok : okV own index C y b ml rt n) (hR : roomy fr lo ml R) (hrecv : ∃ cell : Cell, H[b0]? = some cell ∧ cell.vm.isStatics = false ∧ s.vm.findClass C = some cell.cls)
    (hP : va_P (wG w) classes (LW w aL cL f σ) H) (hK : va_K (wG w) classes (lTy w cL) s) (hD : va_D A (LW w aL cL f σ)) (hS : va_S A s.heap H locs) (hA : ∀ q, s.heap.size ≤ q → A q) (hC : CST w A s s.heap) (hX : EX A s s.heap)
    (hn : As.length = n) (hsize : ls.size = nL) (hst : st0 = As.reverse ++ .ref b0 :: rest) (hroom : (rest.map fun v => v.category).sum ≤ 8) (hdg : decode cc pc = .ok (.invokevirtual index, 3)) (hc : cells + 1 ≤ R.cells ∧ slots + 6 ≤ R.slots)
    (htab : c.exceptionTable.toList = [x0]) (hcov : covers x0 pc = true) (h0 : x0.catchType ≠ 0) (hlink : (Cond.classLink own x0.catchType cls).before args s = true) (hcast : (Cond.castable cls cls).before #[] s = true)
    (kr : ∀ (r : Int32) (u : PPS) (H1 : Heap) (locs1 : List Loc), post r u ∧ inv u → va_P (wG w) classes (LW w aL cL f u) H1 → va_D A (LW w aL cL f u) → va_S A s.heap H1 locs1 → W p l e R s m args below meth c H1 locs1 (cells + 1) (slots + 6) Q (F0 m (pc + 3) ls (.int r :: rest)))
    (kt : ∀ (x : Addr) (u : PPS) (H1 : Heap) (locs1 : List Loc), postT u ∧ inv u → va_P (wG w) classes (LW w aL cL f u) H1 → va_D A (LW w aL cL f u) → va_S A s.heap H1 locs1 → W p l e R s m args below meth c H1 locs1 (cells + 1) (slots + 6) Q (F0 m x0.handlerPc ls [.ref x])) :
    W p l e R s m args below meth c H locs cells slots Q (F0 m pc ls st0) := by
  intro T hT X
  have hC2 : ([1, 2, 3, 4, 5, 6, 7, 8, 9, 10, 11, 12, 13, 14, 15, 16] : List Nat).map (fun i => (LW w aL cL f σ)[i]?) = (WW w σ).map some := rfl
  have hF := va_free (wc := WW w σ) hD hS hA _ hC2
  have hPW := LW.P hP
  have hown := S.2.2.2.1
  obtain ⟨o, st₀, t, T', L, g0, X', hL, e1, e2, ⟨hor, hz, hk⟩, hgo⟩ := x_run S hM (cw_V S.2.2.2.2 ok hR) ⟨blind_pc blind_xW, hrecv, fun U h1 h2 => ⟨rfl, gW_of hPW (LW.K hK) (LW.D hD) hC hS hF U h1 h2, by have h9 := hX.go (U := U) (B := va_A (WW w σ) H.size) hS h2 hF; rw [h1]; exact h9⟩⟩ rfl hn hsize hst (lv_room hroom) hdg hc T hT X
  rw [g0] at hz hk
  have hS' : va_S A s.heap T'.heap (locs ++ L) := ⟨Nat.le_trans hS.1 (by rw [e1]; exact hz), fun q h1 h2 => by rw [e1, hk q (Nat.lt_of_lt_of_le h1 hS.1) (fun z => h2 (hF q z))]; exact hS.2.1 q h1 h2, fun q hq => by
      rcases List.mem_append.mp hq with h | h
      · exact hS.2.2 q h
      · exact hF _ (hL q h)⟩
  have hj : ∀ u : PPS, mB (wG w) (WW w) (wI w) (va_A (WW w σ) H.size) u t → va_P (wG w) classes (LW w aL cL f u) T'.heap ∧ va_D A (LW w aL cL f u) := fun u hB => by
    have := va_join (w1 := WW w u) (H1 := T'.heap) (wr := [(aL, .inl (cL, 1, .inr (.inl f)))]) hP hD _ [0] hC2 rfl rfl (by decide) (fun q h1 h2 => by rw [e1]; exact hk q h1 h2) hF (by rw [e1]; exact hB.1) hB.2.2
    exact this
  rcases hor with ⟨r, u, rfl, hpost, hB⟩ | ⟨x, u, ce, rfl, hpost, hB, hx1, hx2, hx3, hx4⟩
  · rcases hgo with ⟨v, hv, st⟩ | ⟨x, hx, _⟩
    · cases hv
      obtain ⟨t2, a1, b1⟩ := kr r u T'.heap (locs ++ L) hpost (hj u hB).1 (hj u hB).2 hS' T' rfl X'
      exact ⟨t2, st _ a1, b1⟩
    · cases hx
  · rcases hgo with ⟨v, hv, st⟩ | ⟨x', hx, st⟩
    · cases hv
    · cases hx
      have hcT : s.vm.findClass cls = some ce.cls := by rw [← X'.warmed.alike.findClass, e2]; exact hx4
      obtain ⟨c1, c2, q1, q2, q3⟩ := Cond.castable_spec hcast
      cases hcT.symm.trans q1
      cases hcT.symm.trans q2
      obtain ⟨vm', XV, st2⟩ := X'.caughtLink x (g := { F0 m pc ls st0 with stack := rest }) rfl hown [] x0 [] htab (fun y h => by cases h) hcov h0 hlink hcT (by rw [e1]; exact hx2) (by rw [hx3]; rfl) q3
      obtain ⟨t2, a1, b1⟩ := kt x u T'.heap (locs ++ L) hpost (hj u hB).1 (hj u hB).2 hS' (T'.setVm vm') rfl XV
      refine ⟨t2, st _ ?_, b1⟩
      rw [X'.pushThrowing_eq]
      exact st2 _ a1
end XD
