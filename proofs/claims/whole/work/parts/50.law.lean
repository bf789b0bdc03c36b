/-! The law's world: the class's, the law's array of one long, the reference's; calls from the law's body. -/
abbrev LD : Type := WD × (Nat → Nat) × ClassId × ClassId × Nat × ClassId
def dW (d : LD) : WD := d.1
def dM (d : LD) : MD := (wG d.1, d.2.1, wI d.1, d.2.2.1, d.2.2.2.1)
def dL (d : LD) : Nat := d.2.2.2.2.1
def dC (d : LD) : ClassId := d.2.2.2.2.2
def dT (d : LD) : List (ClassId × FieldType) := [(wI (dW d), .int), (mY (dM d), .byte), (mZ (dM d), .boolean), (dC d, .long)]
def apart (d : LD) : Prop := ∀ x ∈ dL d :: (List.range 16).map (wA (dW d)), ∀ y ∈ (List.range 19).map (mA (dM d)), x ≠ y
def LST (d : LD) (A : Nat → Prop) (σ : PPS) (τ : MPS) (f : Nat → Int64) (H : Heap) : Prop :=
  va_P (wG (dW d)) classes (LW (dW d) (dL d) (dC d) f σ) H ∧ va_P (mG (dM d)) classes (MW (dM d) τ) H ∧ va_D A (LW (dW d) (dL d) (dC d) f σ) ∧ va_D A (MW (dM d) τ)
def LCT (d : LD) (A : Nat → Prop) (s : State) : Prop := va_K (wG (dW d)) classes (dT d) s ∧ CST (dW d) A s s.heap ∧ EX A s s.heap ∧ apart d ∧ ∀ q : Nat, s.heap.size ≤ q → A q
theorem LW_ad {w : WD} {aL : Nat} {cL : ClassId} {f : Nat → Int64} {σ : PPS} : (LW w aL cL f σ).map (·.1) = aL :: (List.range 16).map (wA w) := rfl
theorem WW_ad {w : WD} {σ : PPS} : (WW w σ).map (·.1) = (List.range 16).map (wA w) := rfl
theorem MW_ad {md : MD} {τ : MPS} : (MW md τ).map (·.1) = (List.range 19).map (mA md) := rfl
theorem va_stay {D : va_G} {cl : List vw_C} {ws wo : va_W} {H H1 : Heap} (hP : va_P D cl wo H) (hap : ∀ x ∈ ws.map (·.1), ∀ y ∈ wo.map (·.1), x ≠ y) (hk : ∀ q : Nat, q < H.size → ¬ va_A ws H.size q → H1[q]? = H[q]?) : va_P D cl wo H1 := by
  intro k q hq
  have hl := (hP k q hq).lt
  refine (hP k q hq).kept (hk q.1 hl ?_)
  rintro (⟨k2, e, h⟩ | h)
  · exact hap q.1 (List.mem_map.mpr ⟨_, List.mem_of_getElem? h, rfl⟩) q.1 (List.mem_map.mpr ⟨_, List.mem_of_getElem? hq, rfl⟩) rfl
  · omega
section LR
variable {p : Program} {l : Launch} {e : Env} {R : Room} {s : State} {m : MethodId} {args : Array Value} {below : List Frame} {meth : Method} {c : Code} {H : Heap} {locs : List Loc} {cells slots : Nat} {Q : State → Prop}
variable {cc : ByteArray} {pc nL : Nat} {ls : Array Slot} {rest st0 As : List Value} {A : Nat → Prop} {d : LD} {σ : PPS} {τ : MPS} {f : Nat → Int64}
theorem LCT.kL (h : LCT d A s) : va_K (wG (dW d)) classes (lTy (dW d) (dC d)) s := ⟨h.1.1, fun k q hq => by
  match k with
  | 0 => exact h.1.2 0 q hq
  | 1 => exact h.1.2 3 q hq
  | k + 2 => cases hq⟩
theorem LCT.kX (h : LCT d A s) : va_K (wG (dW d)) classes [(wI (dW d), .int)] s := LW.K h.kL
theorem LCT.kM (h : LCT d A s) : va_K (mG (dM d)) classes (mT (dM d)) s := ⟨h.1.1, fun k q hq => by
  match k with
  | 0 => exact h.1.2 0 q hq
  | 1 => exact h.1.2 1 q hq
  | 2 => exact h.1.2 2 q hq
  | k + 3 => cases hq⟩
theorem LST.recvX (hL : LST d A σ τ f H) (hC : LCT d A s) : ∃ cell : Cell, H[wA (dW d) 0]? = some cell ∧ cell.vm.isStatics = false ∧ s.vm.findClass R_X = some cell.cls := va_recv hC.kX (LW.P hL.1) (ci := 0) (q0 := 0) rfl rfl
theorem LST.recvM (hL : LST d A σ τ f H) (hC : LCT d A s) : ∃ cell : Cell, H[mA (dM d) 0]? = some cell ∧ cell.vm.isStatics = false ∧ s.vm.findClass R_M = some cell.cls := va_recv hC.kM hL.2.1 (ci := 7) (q0 := 0) rfl rfl
/-- behind a call of the class -/
theorem LST.afterX {H1 : Heap} {u : PPS} (hL : LST d A σ τ f H) (hC : LCT d A s) (hF : ∀ q, va_A (WW (dW d) σ) H.size q → A q) (hk : ∀ q : Nat, q < H.size → ¬ va_A (WW (dW d) σ) H.size q → H1[q]? = H[q]?) (hP1 : va_P (wG (dW d)) classes (WW (dW d) u) H1) (hD1 : va_D (va_A (WW (dW d) σ) H.size) (WW (dW d) u)) : LST d A u τ f H1 := by
  have hC2 : ([1, 2, 3, 4, 5, 6, 7, 8, 9, 10, 11, 12, 13, 14, 15, 16] : List Nat).map (fun i => (LW (dW d) (dL d) (dC d) f σ)[i]?) = (WW (dW d) σ).map some := rfl
  have hj := va_join (w1 := WW (dW d) u) (H1 := H1) (wr := [(dL d, .inl (dC d, 1, .inr (.inl f)))]) hL.1 hL.2.2.1 _ [0] hC2 rfl rfl (by decide) hk hF hP1 hD1
  refine ⟨hj.1, va_stay hL.2.1 (fun x hx y hy => ?_) hk, hj.2, hL.2.2.2⟩
  rw [WW_ad] at hx
  rw [MW_ad] at hy
  exact hC.2.2.2.1 x (List.mem_cons_of_mem _ hx) y hy
/-- behind a call of the reference -/
theorem LST.afterM {H1 : Heap} {u : MPS} (hL : LST d A σ τ f H) (hC : LCT d A s) (hF : ∀ q, va_A (MW (dM d) τ) H.size q → A q) (hk : ∀ q : Nat, q < H.size → ¬ va_A (MW (dM d) τ) H.size q → H1[q]? = H[q]?) (hP1 : va_P (mG (dM d)) classes (MW (dM d) u) H1) (hD1 : va_D (va_A (MW (dM d) τ) H.size) (MW (dM d) u)) : LST d A σ u f H1 := by
  refine ⟨va_stay hL.1 (fun x hx y hy => ?_) hk, hP1, hL.2.2.1, hD1.weaken (fun _ q _ h => hF q.1 h)⟩
  rw [MW_ad] at hx
  rw [LW_ad] at hy
  exact (hC.2.2.2.1 y hy x hx).symm
theorem lx_i {index ml n fr lo : Nat} {y : MethodName} {b : ByteArray} {rt : Option FieldType} {post : Int32 → PPS → Prop} (S : CallFix p m c cc nL s args aW "PlainPagesLaw")
    (hM : Met l y (Cond.code y b ml rt :: aW) { frames := fr, cells := 0, slots := 0, locals := lo } (va_Pc (.ref (wA (dW d) 0) :: As) (gW (dW d) σ H.size)) (va_Qi post (mB (wG (dW d)) (WW (dW d)) (wI (dW d)) (va_A (WW (dW d) σ) H.size)) (va_A (WW (dW d) σ) H.size)) 0 0 (va_A (WW (dW d) σ) H.size))
    (ok : okV "PlainPagesLaw" index R_X y b ml rt n) (hR : roomy fr lo ml R) (hL : LST d A σ τ f H) (hC : LCT d A s) (hS : va_S A s.heap H locs)
    (hn : As.length = n) (hsize : ls.size = nL) (hst : st0 = As.reverse ++ .ref (wA (dW d) 0) :: rest) (hroom : (rest.map fun v => v.category).sum ≤ 8) (hdg : decode cc pc = .ok (.invokevirtual index, 3)) (hc : cells ≤ R.cells ∧ slots ≤ R.slots)
    (kk : ∀ (r : Int32) (u : PPS) (H1 : Heap) (locs1 : List Loc), post r u → LST d A u τ f H1 → va_S A s.heap H1 locs1 → W p l e R s m args below meth c H1 locs1 cells slots Q (F0 m (pc + 3) ls (.int r :: rest))) : W p l e R s m args below meth c H locs cells slots Q (F0 m pc ls st0) := by
  have hD := LW.D hL.2.2.1
  have hF := gW_free hD hS hC.2.2.2.2
  refine va_calli (va_runV S hM (cw_V S.2.2.2.2 ok hR) ⟨blind_pc blind_gW, hL.recvX hC, fun U h1 h2 => ⟨rfl, gW_of (LW.P hL.1) hC.kX hD hC.2.1 hS hF U h1 h2⟩⟩ rfl hn hsize hst (lv_room hroom) hdg hc) hS (fun q _ h => hF q h) hF (fun r u t H1 locs1 ht hvm hw hB hz1 hk1 hS1 => ?_)
  exact kk r u H1 locs1 hw (hL.afterX hC hF hk1 (by rw [← ht]; exact hB.1) hB.2.2) hS1
theorem lx_v {index ml n fr lo : Nat} {y : MethodName} {b : ByteArray} {rt : Option FieldType} {post : PPS → Prop} (S : CallFix p m c cc nL s args aW "PlainPagesLaw")
    (hM : Met l y (Cond.code y b ml rt :: aW) { frames := fr, cells := 0, slots := 0, locals := lo } (va_Pc (.ref (wA (dW d) 0) :: As) (gW (dW d) σ H.size)) (va_Qv post (mB (wG (dW d)) (WW (dW d)) (wI (dW d)) (va_A (WW (dW d) σ) H.size)) (va_A (WW (dW d) σ) H.size)) 0 0 (va_A (WW (dW d) σ) H.size))
    (ok : okV "PlainPagesLaw" index R_X y b ml rt n) (hR : roomy fr lo ml R) (hL : LST d A σ τ f H) (hC : LCT d A s) (hS : va_S A s.heap H locs)
    (hn : As.length = n) (hsize : ls.size = nL) (hst : st0 = As.reverse ++ .ref (wA (dW d) 0) :: rest) (hroom : (rest.map fun v => v.category).sum ≤ 8) (hdg : decode cc pc = .ok (.invokevirtual index, 3)) (hc : cells ≤ R.cells ∧ slots ≤ R.slots)
    (kk : ∀ (u : PPS) (H1 : Heap) (locs1 : List Loc), post u → LST d A u τ f H1 → va_S A s.heap H1 locs1 → W p l e R s m args below meth c H1 locs1 cells slots Q (F0 m (pc + 3) ls rest)) : W p l e R s m args below meth c H locs cells slots Q (F0 m pc ls st0) := by
  have hD := LW.D hL.2.2.1
  have hF := gW_free hD hS hC.2.2.2.2
  refine va_callv (va_runV S hM (cw_V S.2.2.2.2 ok hR) ⟨blind_pc blind_gW, hL.recvX hC, fun U h1 h2 => ⟨rfl, gW_of (LW.P hL.1) hC.kX hD hC.2.1 hS hF U h1 h2⟩⟩ rfl hn hsize hst (lv_room hroom) hdg hc) hS (fun q _ h => hF q h) hF (fun u t H1 locs1 ht hvm hw hB hz1 hk1 hS1 => ?_)
  exact kk u H1 locs1 hw (hL.afterX hC hF hk1 (by rw [← ht]; exact hB.1) hB.2.2) hS1
theorem lx_r {index ml n fr lo : Nat} {y : MethodName} {b : ByteArray} {rt : Option FieldType} {post : Int32 → Prop} (S : CallFix p m c cc nL s args aW "PlainPagesLaw")
    (hM : Met l y (Cond.code y b ml rt :: aW) { frames := fr, cells := 0, slots := 0, locals := lo } (va_Pc (.ref (wA (dW d) 0) :: As) (fW (dW d) σ)) (vp_Si post) 0 0 (fun _ => False))
    (ok : okV "PlainPagesLaw" index R_X y b ml rt n) (hR : roomy fr lo ml R) (hL : LST d A σ τ f H) (hC : LCT d A s) (hS : va_S A s.heap H locs)
    (hn : As.length = n) (hsize : ls.size = nL) (hst : st0 = As.reverse ++ .ref (wA (dW d) 0) :: rest) (hroom : (rest.map fun v => v.category).sum ≤ 8) (hdg : decode cc pc = .ok (.invokevirtual index, 3)) (hc : cells ≤ R.cells ∧ slots ≤ R.slots)
    (kk : ∀ r : Int32, post r → W p l e R s m args below meth c H locs cells slots Q (F0 m (pc + 3) ls (.int r :: rest))) : W p l e R s m args below meth c H locs cells slots Q (F0 m pc ls st0) :=
  ro_V S hM ok hR blind_fW (hL.recvX hC) (fW_of (LW.P hL.1) hC.kX hC.2.1 hS) hn hsize hst hroom hdg hc kk
theorem lm_i {index ml n fr lo : Nat} {y : MethodName} {b : ByteArray} {rt : Option FieldType} {post : Int32 → MPS → Prop} (S : CallFix p m c cc nL s args aW "PlainPagesLaw")
    (hM : Met l y (Cond.code y b ml rt :: aW) { frames := fr, cells := 0, slots := 0, locals := lo } (va_Pc (.ref (mA (dM d) 0) :: As) (gM (dM d) τ H.size)) (va_Qi post (eM (dM d) (va_A (MW (dM d) τ) H.size)) (va_A (MW (dM d) τ) H.size)) 0 0 (va_A (MW (dM d) τ) H.size))
    (ok : okV "PlainPagesLaw" index R_M y b ml rt n) (hR : roomy fr lo ml R) (hL : LST d A σ τ f H) (hC : LCT d A s) (hS : va_S A s.heap H locs)
    (hn : As.length = n) (hsize : ls.size = nL) (hst : st0 = As.reverse ++ .ref (mA (dM d) 0) :: rest) (hroom : (rest.map fun v => v.category).sum ≤ 8) (hdg : decode cc pc = .ok (.invokevirtual index, 3)) (hc : cells ≤ R.cells ∧ slots ≤ R.slots)
    (kk : ∀ (r : Int32) (u : MPS) (H1 : Heap) (locs1 : List Loc), post r u → LST d A σ u f H1 → va_S A s.heap H1 locs1 → W p l e R s m args below meth c H1 locs1 cells slots Q (F0 m (pc + 3) ls (.int r :: rest))) : W p l e R s m args below meth c H locs cells slots Q (F0 m pc ls st0) := by
  have hD := hL.2.2.2
  have hF := gM_free hD hS hC.2.2.2.2
  refine va_calli (va_runV S hM (cw_V S.2.2.2.2 ok hR) ⟨blind_pc blind_gM, hL.recvM hC, fun U h1 h2 => ⟨rfl, by rw [h1], by rw [h1]; exact hL.2.1, va_K.moved h2.alike hC.kM, hD.weaken (fun _ _ _ _ => trivial)⟩⟩ rfl hn hsize hst (lv_room hroom) hdg hc) hS (fun q _ h => hF q h) hF (fun r u t H1 locs1 ht hvm hw hB hz1 hk1 hS1 => ?_)
  exact kk r u H1 locs1 hw (hL.afterM hC hF hk1 (by rw [← ht]; exact hB.1) hB.2.2) hS1
theorem lm_v {index ml n fr lo : Nat} {y : MethodName} {b : ByteArray} {rt : Option FieldType} {post : MPS → Prop} (S : CallFix p m c cc nL s args aW "PlainPagesLaw")
    (hM : Met l y (Cond.code y b ml rt :: aW) { frames := fr, cells := 0, slots := 0, locals := lo } (va_Pc (.ref (mA (dM d) 0) :: As) (gM (dM d) τ H.size)) (va_Qv post (eM (dM d) (va_A (MW (dM d) τ) H.size)) (va_A (MW (dM d) τ) H.size)) 0 0 (va_A (MW (dM d) τ) H.size))
    (ok : okV "PlainPagesLaw" index R_M y b ml rt n) (hR : roomy fr lo ml R) (hL : LST d A σ τ f H) (hC : LCT d A s) (hS : va_S A s.heap H locs)
    (hn : As.length = n) (hsize : ls.size = nL) (hst : st0 = As.reverse ++ .ref (mA (dM d) 0) :: rest) (hroom : (rest.map fun v => v.category).sum ≤ 8) (hdg : decode cc pc = .ok (.invokevirtual index, 3)) (hc : cells ≤ R.cells ∧ slots ≤ R.slots)
    (kk : ∀ (u : MPS) (H1 : Heap) (locs1 : List Loc), post u → LST d A σ u f H1 → va_S A s.heap H1 locs1 → W p l e R s m args below meth c H1 locs1 cells slots Q (F0 m (pc + 3) ls rest)) : W p l e R s m args below meth c H locs cells slots Q (F0 m pc ls st0) := by
  have hD := hL.2.2.2
  have hF := gM_free hD hS hC.2.2.2.2
  refine va_callv (va_runV S hM (cw_V S.2.2.2.2 ok hR) ⟨blind_pc blind_gM, hL.recvM hC, fun U h1 h2 => ⟨rfl, by rw [h1], by rw [h1]; exact hL.2.1, va_K.moved h2.alike hC.kM, hD.weaken (fun _ _ _ _ => trivial)⟩⟩ rfl hn hsize hst (lv_room hroom) hdg hc) hS (fun q _ h => hF q h) hF (fun u t H1 locs1 ht hvm hw hB hz1 hk1 hS1 => ?_)
  exact kk u H1 locs1 hw (hL.afterM hC hF hk1 (by rw [← ht]; exact hB.1) hB.2.2) hS1
theorem lm_r {index ml n fr lo : Nat} {y : MethodName} {b : ByteArray} {rt : Option FieldType} {post : Int32 → Prop} (S : CallFix p m c cc nL s args aW "PlainPagesLaw")
    (hM : Met l y (Cond.code y b ml rt :: aW) { frames := fr, cells := 0, slots := 0, locals := lo } (va_Pc (.ref (mA (dM d) 0) :: As) (rM (dM d) τ)) (vp_Si post) 0 0 (fun _ => False))
    (ok : okV "PlainPagesLaw" index R_M y b ml rt n) (hR : roomy fr lo ml R) (hL : LST d A σ τ f H) (hC : LCT d A s)
    (hn : As.length = n) (hsize : ls.size = nL) (hst : st0 = As.reverse ++ .ref (mA (dM d) 0) :: rest) (hroom : (rest.map fun v => v.category).sum ≤ 8) (hdg : decode cc pc = .ok (.invokevirtual index, 3)) (hc : cells ≤ R.cells ∧ slots ≤ R.slots)
    (kk : ∀ r : Int32, post r → W p l e R s m args below meth c H locs cells slots Q (F0 m (pc + 3) ls (.int r :: rest))) : W p l e R s m args below meth c H locs cells slots Q (F0 m pc ls st0) :=
  ro_V S hM ok hR blind_rM (hL.recvM hC) (rM_of hL.2.1 hC.kM) hn hsize hst hroom hdg hc kk
end LR
