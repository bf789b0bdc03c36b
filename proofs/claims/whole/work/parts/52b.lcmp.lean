section LC
variable {p : Program} {l : Launch} {e : Env} {R : Room} {s : State} {m : MethodId} {args : Array Value} {below : List Frame} {meth : Method} {c : Code} {H : Heap} {locs : List Loc} {cells slots : Nat} {Q : State → Prop} {cc : ByteArray} {pc : Nat} {ls : Array Slot} {rest : List Value}
/-- two longs compared for being equal -/
theorem lv_lcmp_eq (hexec : p.tables.exec = Jvm.exec) (hb : c.code = cc) {x y : Int64} {off : Int} {tgt : Nat} (hd1 : decode cc pc = .ok (.lcmp, 1)) (hd2 : decode cc (pc + 1) = .ok (.ifCond .eq off, 3)) (ht : ((pc + 1 : Nat) : Int) + off = (tgt : Int))
    (kt : x = y → W p l e R s m args below meth c H locs cells slots Q (F0 m tgt ls rest)) (kf : ¬ x = y → W p l e R s m args below meth c H locs cells slots Q (F0 m (pc + 1 + 3) ls rest)) : W p l e R s m args below meth c H locs cells slots Q (F0 m pc ls (.long y :: .long x :: rest)) := by
  have key : ∀ r : Int32, (r = 0 ↔ x = y) → W p l e R s m args below meth c H locs cells slots Q (F0 m (pc + 1) ls (.int r :: rest)) := fun r hr =>
    lv_if_eq hexec hb hd2 ht (fun h => kt (hr.1 h)) (fun h => kf (fun q => h (hr.2 q)))
  intro T hT X
  by_cases h1 : x > y
  · have hne : ¬ x = y := fun q => by subst q; exact Int64.lt_irrefl h1
    obtain ⟨t, a, b⟩ := key 1 ⟨fun h => absurd h (by decide), fun h => absurd h hne⟩ T hT X
    refine ⟨t, ?_, b⟩
    jvm_step X.here [X.here.top, hexec, hb, hd1, h1]
    exact a
  · by_cases h2 : x = y
    · obtain ⟨t, a, b⟩ := key 0 ⟨fun _ => h2, fun _ => rfl⟩ T hT X
      refine ⟨t, ?_, b⟩
      jvm_step X.here [X.here.top, hexec, hb, hd1, h1, h2]
      exact a
    · obtain ⟨t, a, b⟩ := key (-1) ⟨fun h => absurd h (by decide), fun h => absurd h h2⟩ T hT X
      refine ⟨t, ?_, b⟩
      jvm_step X.here [X.here.top, hexec, hb, hd1, h1, h2]
      exact a
end LC
