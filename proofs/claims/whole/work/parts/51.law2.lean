section LL
variable {p : Program} {l : Launch} {e : Env} {R : Room} {s : State} {m : MethodId} {args : Array Value} {below : List Frame} {meth : Method} {c : Code} {H : Heap} {locs : List Loc} {cells slots : Nat} {Q : State → Prop}
variable {cc : ByteArray} {pc nL : Nat} {ls : Array Slot} {rest st0 As : List Value} {A : Nat → Prop} {d : LD} {σ : PPS} {τ : MPS} {f : Nat → Int64}
/-- what a static call of a method with handlers needs of the tables -/
def okSW (own : String) (index : Nat) (y : MethodName) (b : ByteArray) (ml : Nat) (rt : Option FieldType) (hh : List (Nat × Nat × Nat × Nat)) (n : Nat) : Prop :=
  Cond.methodLink own index y ∈ aW ∧ Cond.static y ∈ aW ∧ Cond.initialized y.cls ∈ aW ∧ Cond.codeWith y b ml rt hh ∈ aW ∧
  y.cls ≠ "java/lang/invoke/MethodHandle" ∧ y.cls ≠ "java/lang/invoke/VarHandle" ∧ (parseMethodDescriptor y.desc).map (fun d => d.parameters.length) = some n
theorem runSW {y : MethodName} {b : ByteArray} {ml mc ms n index fr lo : Nat} {rt : Option FieldType} {hh : List (Nat × Nat × Nat × Nat)} {Pc : Array Value → State → Prop} {Qc : Array Value → State → Outcome → State → Prop} {free : Addr → Prop} {own : String} {g : JFrame} (S : CallFix p m c cc nL s args aW own)
    (hM : Met l y (Cond.codeWith y b ml rt hh :: aW) { frames := fr, cells := mc, slots := ms, locals := lo } Pc Qc mc ms free) (ok : okSW own index y b ml rt hh n) (hR : roomy fr lo ml R) (hp : PreS s H Pc As)
    (hg : g.method = m) (hn : As.length = n) (hsize : g.locals.size = nL) (hstack : g.stack = As.reverse ++ rest) (hW : 2 * g.monitorRoom + (rest.map fun v => v.category).sum ≤ 8) (hdg : decode cc g.pc = .ok (.invokestatic index, 3)) (hf : cells + mc ≤ R.cells ∧ slots + ms ≤ R.slots) :
    va_Run p l e R s m args below meth c H locs cells slots mc ms g rest (Qc As.toArray) free := by
  obtain ⟨h1, h2, h3, h4, h5, h6, h7⟩ := ok
  obtain ⟨hx, hb, hml, ho, hta⟩ := S
  have hpay := aW_pay hta h4
  have hK : Back l R p e below s args y 3 8 (PreOf R mc ms Pc) (PostOf Qc mc ms free) := va_backW (bytes := b) (maxL := ml) (ret := rt) (hh := hh) hM hp.1 rfl rfl hR.1 hR.2 hpay List.mem_cons_self (fun a' U hW => hpay _ (List.mem_cons_of_mem _ h3) a' U hW)
  intro T hT X
  obtain ⟨mk, methM, cM, hnamed, hmethM, -, -, -, -, -, -, hsigM⟩ := Cond.codeWith_spec (hta _ h4)
  have hstatic : methM.isStatic = true := Cond.static_spec hnamed hmethM (hta _ h2)
  obtain ⟨kP, hkP, -⟩ := className_of_methodNamed hnamed
  have hinitP : kP.init = .initialized := Cond.initialized_spec (findClass_of_methodNamed hnamed) hkP (hta _ h3)
  have hlen : As.length = methM.sig.parameters.length := by
    rw [hsigM] at h7
    exact hn.trans (Option.some.inj h7).symm
  subst hb
  obtain ⟨vm₁, X₁, hstep₁⟩ := X.invokestatic hx ho (hta _ h1) hnamed hmethM hstatic hkP hinitP ⟨h5, h6⟩ (g := g) hg (argsL := As) (rest := rest) hlen hstack hdg
  obtain ⟨v, ⟨U', l2, c2, s2⟩, X', ⟨g', mk', t, L, e1, e2, hq, h11, hL, h12, h13⟩, hsteps⟩ := hK m meth c ⟨T.setVm vm₁, locs, cells, slots⟩ { g with stack := rest } (.invokestatic index) mk As.toArray X₁ hg (hsize.trans hml.symm) hdg hW (X₁.named hnamed) ⟨hf.1, hf.2, hp.2 (T.setVm vm₁) hT X₁.warmed⟩
  dsimp only [Pt.U, Pt.locs, Pt.cells, Pt.slots] at X' e1 e2 h11 h12 h13 hsteps
  subst h11; subst h12; subst h13
  exact ⟨v, (T.setVm vm₁).calling g' mk' As.toArray, t, U', L, hT, X', hL, e1, e2, hq, fun target h => hstep₁ _ fun acts => by rw [doInvoke_state]; exact hsteps.trans h⟩
/-- the law's call of a wrapper -/
theorem ll_i {index ml n fr lo : Nat} {y : MethodName} {b : ByteArray} {rt : Option FieldType} {hh : List (Nat × Nat × Nat × Nat)} {post : Int32 → PPS × (Nat → Int64) → Prop} (S : CallFix p m c cc nL s args aW "PlainPagesLaw")
    (hM : Met l y (Cond.codeWith y b ml rt hh :: aW) { frames := fr, cells := 1, slots := 6, locals := lo } (va_Pc As (lW (dW d) (dL d) (dC d) f σ H.size)) (va_Qi post (lB (dW d) (dL d) (dC d) (va_A (LW (dW d) (dL d) (dC d) f σ) H.size)) (va_A (LW (dW d) (dL d) (dC d) f σ) H.size)) 1 6 (va_A (LW (dW d) (dL d) (dC d) f σ) H.size))
    (ok : okSW "PlainPagesLaw" index y b ml rt hh n) (hR : roomy fr lo ml R) (hL : LST d A σ τ f H) (hC : LCT d A s) (hS : va_S A s.heap H locs)
    (hn : As.length = n) (hsize : ls.size = nL) (hst : st0 = As.reverse ++ rest) (hroom : (rest.map fun v => v.category).sum ≤ 8) (hdg : decode cc pc = .ok (.invokestatic index, 3)) (hc : cells + 1 ≤ R.cells ∧ slots + 6 ≤ R.slots)
    (kk : ∀ (r : Int32) (u : PPS × (Nat → Int64)) (H1 : Heap) (locs1 : List Loc), post r u → LST d A u.1 τ u.2 H1 → va_S A s.heap H1 locs1 → W p l e R s m args below meth c H1 locs1 (cells + 1) (slots + 6) Q (F0 m (pc + 3) ls (.int r :: rest))) : W p l e R s m args below meth c H locs cells slots Q (F0 m pc ls st0) := by
  have hC2 : ([0, 1, 2, 3, 4, 5, 6, 7, 8, 9, 10, 11, 12, 13, 14, 15, 16] : List Nat).map (fun i => (LW (dW d) (dL d) (dC d) f σ)[i]?) = (LW (dW d) (dL d) (dC d) f σ).map some := rfl
  have hF := va_free (wc := LW (dW d) (dL d) (dC d) f σ) hL.2.2.1 hS hC.2.2.2.2 _ hC2
  refine va_calli (runSW S hM ok hR ⟨blind_pc blind_lW, fun U h1 h2 => ⟨rfl, by rw [h1], by rw [h1]; exact hL.1, va_K.moved h2.alike hC.kL, hL.2.2.1.weaken (fun _ _ _ _ => trivial), by have := hC.2.1.go (U := U) hS h2 hF; rw [h1]; exact this, by have := hC.2.2.1.go (U := U) hS h2 hF; rw [h1]; exact this⟩⟩ rfl hn hsize hst (lv_room hroom) hdg hc) hS (fun q _ h => hF q h) hF (fun r u t H1 locs1 ht hvm hw hB hz1 hk1 hS1 => ?_)
  refine kk r u H1 locs1 hw ⟨by rw [← ht]; exact hB.1, va_stay hL.2.1 (fun x hx y hy => ?_) hk1, hB.2.2.weaken (fun _ q _ h => hF q.1 h), hL.2.2.2⟩ hS1
  rw [LW_ad] at hx
  rw [MW_ad] at hy
  exact hC.2.2.2.1 x hx y hy
end LL
