/-! The reference: its state, its world (printed by wip/gen/world_m.py). -/
/-- the ints by their fields' numbers, the arrays by their cells' -/
abbrev MPS : Type := (Nat → Int32) × (Nat → Nat → Int32)
def mp_thrown (τ : MPS) : Int32 := τ.1 0
def ms_thrown (τ : MPS) (v : Int32) : MPS := (va_up τ.1 0 v, τ.2)
def mp_tape (τ : MPS) : Nat → Int32 := τ.2 1
def ms_tape (τ : MPS) (v : Nat → Int32) : MPS := (τ.1, va_up τ.2 1 v)
def mp_text (τ : MPS) : Nat → Int32 := τ.2 2
def ms_text (τ : MPS) (v : Nat → Int32) : MPS := (τ.1, va_up τ.2 2 v)
def mp_ready (τ : MPS) : Nat → Int32 := τ.2 3
def ms_ready (τ : MPS) (v : Nat → Int32) : MPS := (τ.1, va_up τ.2 3 v)
def mp_output (τ : MPS) : Nat → Int32 := τ.2 4
def ms_output (τ : MPS) (v : Nat → Int32) : MPS := (τ.1, va_up τ.2 4 v)
def mp_declaration (τ : MPS) : Nat → Int32 := τ.2 5
def ms_declaration (τ : MPS) (v : Nat → Int32) : MPS := (τ.1, va_up τ.2 5 v)
def mp_taped (τ : MPS) : Int32 := τ.1 6
def ms_taped (τ : MPS) (v : Int32) : MPS := (va_up τ.1 6 v, τ.2)
def mp_size (τ : MPS) : Int32 := τ.1 7
def ms_size (τ : MPS) (v : Int32) : MPS := (va_up τ.1 7 v, τ.2)
def mp_outs (τ : MPS) : Int32 := τ.1 8
def ms_outs (τ : MPS) (v : Int32) : MPS := (va_up τ.1 8 v, τ.2)
def mp_fault (τ : MPS) : Int32 := τ.1 9
def ms_fault (τ : MPS) (v : Int32) : MPS := (va_up τ.1 9 v, τ.2)
def mp_faultAt (τ : MPS) : Int32 := τ.1 10
def ms_faultAt (τ : MPS) (v : Int32) : MPS := (va_up τ.1 10 v, τ.2)
def mp_known (τ : MPS) : Int32 := τ.1 11
def ms_known (τ : MPS) (v : Int32) : MPS := (va_up τ.1 11 v, τ.2)
def mp_width (τ : MPS) : Int32 := τ.1 12
def ms_width (τ : MPS) (v : Int32) : MPS := (va_up τ.1 12 v, τ.2)
def mp_at (τ : MPS) : Int32 := τ.1 13
def ms_at (τ : MPS) (v : Int32) : MPS := (va_up τ.1 13 v, τ.2)
def mp_elements (τ : MPS) : Int32 := τ.1 14
def ms_elements (τ : MPS) (v : Int32) : MPS := (va_up τ.1 14 v, τ.2)
def mp_deep (τ : MPS) : Int32 := τ.1 15
def ms_deep (τ : MPS) (v : Int32) : MPS := (va_up τ.1 15 v, τ.2)
def mp_bad (τ : MPS) : Int32 := τ.1 16
def ms_bad (τ : MPS) (v : Int32) : MPS := (va_up τ.1 16 v, τ.2)
def mp_openAt (τ : MPS) : Nat → Int32 := τ.2 6
def ms_openAt (τ : MPS) (v : Nat → Int32) : MPS := (τ.1, va_up τ.2 6 v)
def mp_openMany (τ : MPS) : Nat → Int32 := τ.2 7
def ms_openMany (τ : MPS) (v : Nat → Int32) : MPS := (τ.1, va_up τ.2 7 v)
def mp_nameAt (τ : MPS) : Int32 := τ.1 19
def ms_nameAt (τ : MPS) (v : Int32) : MPS := (va_up τ.1 19 v, τ.2)
def mp_nameMany (τ : MPS) : Int32 := τ.1 20
def ms_nameMany (τ : MPS) (v : Int32) : MPS := (va_up τ.1 20 v, τ.2)
def mp_valueAt (τ : MPS) : Int32 := τ.1 21
def ms_valueAt (τ : MPS) (v : Int32) : MPS := (va_up τ.1 21 v, τ.2)
def mp_valueEnd (τ : MPS) : Int32 := τ.1 22
def ms_valueEnd (τ : MPS) (v : Int32) : MPS := (va_up τ.1 22 v, τ.2)
def mp_isElement (τ : MPS) : Nat → Int32 := τ.2 8
def ms_isElement (τ : MPS) (v : Nat → Int32) : MPS := (τ.1, va_up τ.2 8 v)
def mp_begins (τ : MPS) : Nat → Int32 := τ.2 9
def ms_begins (τ : MPS) (v : Nat → Int32) : MPS := (τ.1, va_up τ.2 9 v)
def mp_ends (τ : MPS) : Nat → Int32 := τ.2 10
def ms_ends (τ : MPS) (v : Nat → Int32) : MPS := (τ.1, va_up τ.2 10 v)
def mp_up (τ : MPS) : Nat → Int32 := τ.2 11
def ms_up (τ : MPS) (v : Nat → Int32) : MPS := (τ.1, va_up τ.2 11 v)
def mp_first (τ : MPS) : Nat → Int32 := τ.2 12
def ms_first (τ : MPS) (v : Nat → Int32) : MPS := (τ.1, va_up τ.2 12 v)
def mp_next (τ : MPS) : Nat → Int32 := τ.2 13
def ms_next (τ : MPS) (v : Nat → Int32) : MPS := (τ.1, va_up τ.2 13 v)
def mp_depth (τ : MPS) : Nat → Int32 := τ.2 14
def ms_depth (τ : MPS) (v : Nat → Int32) : MPS := (τ.1, va_up τ.2 14 v)
def mp_last (τ : MPS) : Nat → Int32 := τ.2 15
def ms_last (τ : MPS) (v : Nat → Int32) : MPS := (τ.1, va_up τ.2 15 v)
def mp_openNode (τ : MPS) : Nat → Int32 := τ.2 16
def ms_openNode (τ : MPS) (v : Nat → Int32) : MPS := (τ.1, va_up τ.2 16 v)
def mp_nodes (τ : MPS) : Int32 := τ.1 32
def ms_nodes (τ : MPS) (v : Int32) : MPS := (va_up τ.1 32 v, τ.2)
def mp_value (τ : MPS) : Nat → Int32 := τ.2 17
def ms_value (τ : MPS) (v : Nat → Int32) : MPS := (τ.1, va_up τ.2 17 v)
def mp_wanted (τ : MPS) : Nat → Int32 := τ.2 18
def ms_wanted (τ : MPS) (v : Nat → Int32) : MPS := (τ.1, va_up τ.2 18 v)
def mp_valueMany (τ : MPS) : Int32 := τ.1 35
def ms_valueMany (τ : MPS) (v : Int32) : MPS := (va_up τ.1 35 v, τ.2)
def mp_wantedMany (τ : MPS) : Int32 := τ.1 36
def ms_wantedMany (τ : MPS) (v : Int32) : MPS := (va_up τ.1 36 v, τ.2)
/-- (classes, slots), the cells, the classes of int[], byte[], boolean[] -/
abbrev MD : Type := va_G × (Nat → Nat) × ClassId × ClassId × ClassId
def mG (md : MD) : va_G := md.1
def mA (md : MD) : Nat → Nat := md.2.1
def mI (md : MD) : ClassId := md.2.2.1
def mY (md : MD) : ClassId := md.2.2.2.1
def mZ (md : MD) : ClassId := md.2.2.2.2
abbrev mT (md : MD) : List (ClassId × FieldType) := [(mI md, .int), (mY md, .byte), (mZ md, .boolean)]
def mFl (md : MD) (τ : MPS) : List Value := [.int (mp_thrown τ), .ref (mA md 1), .ref (mA md 2), .ref (mA md 3), .ref (mA md 4), .ref (mA md 5), .int (mp_taped τ), .int (mp_size τ), .int (mp_outs τ), .int (mp_fault τ), .int (mp_faultAt τ), .int (mp_known τ), .int (mp_width τ), .int (mp_at τ), .int (mp_elements τ), .int (mp_deep τ), .int (mp_bad τ), .ref (mA md 6), .ref (mA md 7), .int (mp_nameAt τ), .int (mp_nameMany τ), .int (mp_valueAt τ), .int (mp_valueEnd τ), .ref (mA md 8), .ref (mA md 9), .ref (mA md 10), .ref (mA md 11), .ref (mA md 12), .ref (mA md 13), .ref (mA md 14), .ref (mA md 15), .ref (mA md 16), .int (mp_nodes τ), .ref (mA md 17), .ref (mA md 18), .int (mp_valueMany τ), .int (mp_wantedMany τ)]
def MW (md : MD) (τ : MPS) : va_W := [
  (mA md 0, .inr (7, mFl md τ)),
  (mA md 1, .inl (mY md, 4000, .inl (mp_tape τ))),
  (mA md 2, .inl (mY md, 4000, .inl (mp_text τ))),
  (mA md 3, .inl (mY md, 20, .inl (mp_ready τ))),
  (mA md 4, .inl (mY md, 24000, .inl (mp_output τ))),
  (mA md 5, .inl (mY md, 38, .inl (mp_declaration τ))),
  (mA md 6, .inl (mI md, 41, .inl (mp_openAt τ))),
  (mA md 7, .inl (mI md, 41, .inl (mp_openMany τ))),
  (mA md 8, .inl (mZ md, 1000, .inl (mp_isElement τ))),
  (mA md 9, .inl (mI md, 1000, .inl (mp_begins τ))),
  (mA md 10, .inl (mI md, 1000, .inl (mp_ends τ))),
  (mA md 11, .inl (mI md, 1000, .inl (mp_up τ))),
  (mA md 12, .inl (mI md, 1000, .inl (mp_first τ))),
  (mA md 13, .inl (mI md, 1000, .inl (mp_next τ))),
  (mA md 14, .inl (mI md, 1000, .inl (mp_depth τ))),
  (mA md 15, .inl (mI md, 1000, .inl (mp_last τ))),
  (mA md 16, .inl (mI md, 42, .inl (mp_openNode τ))),
  (mA md 17, .inl (mI md, 4000, .inl (mp_value τ))),
  (mA md 18, .inl (mI md, 4000, .inl (mp_wanted τ)))]
set_option maxRecDepth 100000 in
theorem mw_thrown (md : MD) (τ : MPS) (v : Int32) : (MW md τ).set 0 (mA md 0, .inr (7, (mFl md τ).set 0 (.int v))) = MW md (ms_thrown τ v) := rfl
theorem mwP_thrown {md : MD} {τ : MPS} {v : Int32} {H : Heap} (h : va_P (mG md) classes ((MW md τ).set 0 (mA md 0, .inr (7, (mFl md τ).set 0 (.int v)))) H) : va_P (mG md) classes (MW md (ms_thrown τ v)) H := mw_thrown md τ v ▸ h
theorem mwD_thrown {md : MD} {τ : MPS} {v : Int32} {A : Nat → Prop} (h : va_D A ((MW md τ).set 0 (mA md 0, .inr (7, (mFl md τ).set 0 (.int v))))) : va_D A (MW md (ms_thrown τ v)) := mw_thrown md τ v ▸ h
set_option maxRecDepth 100000 in
theorem mw_tape (md : MD) (τ : MPS) (v : Nat → Int32) : (MW md τ).set 1 (mA md 1, .inl (mY md, 4000, .inl v)) = MW md (ms_tape τ v) := rfl
theorem mwP_tape {md : MD} {τ : MPS} {v : Nat → Int32} {H : Heap} (h : va_P (mG md) classes ((MW md τ).set 1 (mA md 1, .inl (mY md, 4000, .inl v))) H) : va_P (mG md) classes (MW md (ms_tape τ v)) H := mw_tape md τ v ▸ h
theorem mwD_tape {md : MD} {τ : MPS} {v : Nat → Int32} {A : Nat → Prop} (h : va_D A ((MW md τ).set 1 (mA md 1, .inl (mY md, 4000, .inl v)))) : va_D A (MW md (ms_tape τ v)) := mw_tape md τ v ▸ h
set_option maxRecDepth 100000 in
theorem mw_text (md : MD) (τ : MPS) (v : Nat → Int32) : (MW md τ).set 2 (mA md 2, .inl (mY md, 4000, .inl v)) = MW md (ms_text τ v) := rfl
theorem mwP_text {md : MD} {τ : MPS} {v : Nat → Int32} {H : Heap} (h : va_P (mG md) classes ((MW md τ).set 2 (mA md 2, .inl (mY md, 4000, .inl v))) H) : va_P (mG md) classes (MW md (ms_text τ v)) H := mw_text md τ v ▸ h
theorem mwD_text {md : MD} {τ : MPS} {v : Nat → Int32} {A : Nat → Prop} (h : va_D A ((MW md τ).set 2 (mA md 2, .inl (mY md, 4000, .inl v)))) : va_D A (MW md (ms_text τ v)) := mw_text md τ v ▸ h
set_option maxRecDepth 100000 in
theorem mw_ready (md : MD) (τ : MPS) (v : Nat → Int32) : (MW md τ).set 3 (mA md 3, .inl (mY md, 20, .inl v)) = MW md (ms_ready τ v) := rfl
theorem mwP_ready {md : MD} {τ : MPS} {v : Nat → Int32} {H : Heap} (h : va_P (mG md) classes ((MW md τ).set 3 (mA md 3, .inl (mY md, 20, .inl v))) H) : va_P (mG md) classes (MW md (ms_ready τ v)) H := mw_ready md τ v ▸ h
theorem mwD_ready {md : MD} {τ : MPS} {v : Nat → Int32} {A : Nat → Prop} (h : va_D A ((MW md τ).set 3 (mA md 3, .inl (mY md, 20, .inl v)))) : va_D A (MW md (ms_ready τ v)) := mw_ready md τ v ▸ h
set_option maxRecDepth 100000 in
theorem mw_output (md : MD) (τ : MPS) (v : Nat → Int32) : (MW md τ).set 4 (mA md 4, .inl (mY md, 24000, .inl v)) = MW md (ms_output τ v) := rfl
theorem mwP_output {md : MD} {τ : MPS} {v : Nat → Int32} {H : Heap} (h : va_P (mG md) classes ((MW md τ).set 4 (mA md 4, .inl (mY md, 24000, .inl v))) H) : va_P (mG md) classes (MW md (ms_output τ v)) H := mw_output md τ v ▸ h
theorem mwD_output {md : MD} {τ : MPS} {v : Nat → Int32} {A : Nat → Prop} (h : va_D A ((MW md τ).set 4 (mA md 4, .inl (mY md, 24000, .inl v)))) : va_D A (MW md (ms_output τ v)) := mw_output md τ v ▸ h
set_option maxRecDepth 100000 in
theorem mw_declaration (md : MD) (τ : MPS) (v : Nat → Int32) : (MW md τ).set 5 (mA md 5, .inl (mY md, 38, .inl v)) = MW md (ms_declaration τ v) := rfl
theorem mwP_declaration {md : MD} {τ : MPS} {v : Nat → Int32} {H : Heap} (h : va_P (mG md) classes ((MW md τ).set 5 (mA md 5, .inl (mY md, 38, .inl v))) H) : va_P (mG md) classes (MW md (ms_declaration τ v)) H := mw_declaration md τ v ▸ h
theorem mwD_declaration {md : MD} {τ : MPS} {v : Nat → Int32} {A : Nat → Prop} (h : va_D A ((MW md τ).set 5 (mA md 5, .inl (mY md, 38, .inl v)))) : va_D A (MW md (ms_declaration τ v)) := mw_declaration md τ v ▸ h
set_option maxRecDepth 100000 in
theorem mw_taped (md : MD) (τ : MPS) (v : Int32) : (MW md τ).set 0 (mA md 0, .inr (7, (mFl md τ).set 6 (.int v))) = MW md (ms_taped τ v) := rfl
theorem mwP_taped {md : MD} {τ : MPS} {v : Int32} {H : Heap} (h : va_P (mG md) classes ((MW md τ).set 0 (mA md 0, .inr (7, (mFl md τ).set 6 (.int v)))) H) : va_P (mG md) classes (MW md (ms_taped τ v)) H := mw_taped md τ v ▸ h
theorem mwD_taped {md : MD} {τ : MPS} {v : Int32} {A : Nat → Prop} (h : va_D A ((MW md τ).set 0 (mA md 0, .inr (7, (mFl md τ).set 6 (.int v))))) : va_D A (MW md (ms_taped τ v)) := mw_taped md τ v ▸ h
set_option maxRecDepth 100000 in
theorem mw_size (md : MD) (τ : MPS) (v : Int32) : (MW md τ).set 0 (mA md 0, .inr (7, (mFl md τ).set 7 (.int v))) = MW md (ms_size τ v) := rfl
theorem mwP_size {md : MD} {τ : MPS} {v : Int32} {H : Heap} (h : va_P (mG md) classes ((MW md τ).set 0 (mA md 0, .inr (7, (mFl md τ).set 7 (.int v)))) H) : va_P (mG md) classes (MW md (ms_size τ v)) H := mw_size md τ v ▸ h
theorem mwD_size {md : MD} {τ : MPS} {v : Int32} {A : Nat → Prop} (h : va_D A ((MW md τ).set 0 (mA md 0, .inr (7, (mFl md τ).set 7 (.int v))))) : va_D A (MW md (ms_size τ v)) := mw_size md τ v ▸ h
set_option maxRecDepth 100000 in
theorem mw_outs (md : MD) (τ : MPS) (v : Int32) : (MW md τ).set 0 (mA md 0, .inr (7, (mFl md τ).set 8 (.int v))) = MW md (ms_outs τ v) := rfl
theorem mwP_outs {md : MD} {τ : MPS} {v : Int32} {H : Heap} (h : va_P (mG md) classes ((MW md τ).set 0 (mA md 0, .inr (7, (mFl md τ).set 8 (.int v)))) H) : va_P (mG md) classes (MW md (ms_outs τ v)) H := mw_outs md τ v ▸ h
theorem mwD_outs {md : MD} {τ : MPS} {v : Int32} {A : Nat → Prop} (h : va_D A ((MW md τ).set 0 (mA md 0, .inr (7, (mFl md τ).set 8 (.int v))))) : va_D A (MW md (ms_outs τ v)) := mw_outs md τ v ▸ h
set_option maxRecDepth 100000 in
theorem mw_fault (md : MD) (τ : MPS) (v : Int32) : (MW md τ).set 0 (mA md 0, .inr (7, (mFl md τ).set 9 (.int v))) = MW md (ms_fault τ v) := rfl
theorem mwP_fault {md : MD} {τ : MPS} {v : Int32} {H : Heap} (h : va_P (mG md) classes ((MW md τ).set 0 (mA md 0, .inr (7, (mFl md τ).set 9 (.int v)))) H) : va_P (mG md) classes (MW md (ms_fault τ v)) H := mw_fault md τ v ▸ h
theorem mwD_fault {md : MD} {τ : MPS} {v : Int32} {A : Nat → Prop} (h : va_D A ((MW md τ).set 0 (mA md 0, .inr (7, (mFl md τ).set 9 (.int v))))) : va_D A (MW md (ms_fault τ v)) := mw_fault md τ v ▸ h
set_option maxRecDepth 100000 in
theorem mw_faultAt (md : MD) (τ : MPS) (v : Int32) : (MW md τ).set 0 (mA md 0, .inr (7, (mFl md τ).set 10 (.int v))) = MW md (ms_faultAt τ v) := rfl
theorem mwP_faultAt {md : MD} {τ : MPS} {v : Int32} {H : Heap} (h : va_P (mG md) classes ((MW md τ).set 0 (mA md 0, .inr (7, (mFl md τ).set 10 (.int v)))) H) : va_P (mG md) classes (MW md (ms_faultAt τ v)) H := mw_faultAt md τ v ▸ h
theorem mwD_faultAt {md : MD} {τ : MPS} {v : Int32} {A : Nat → Prop} (h : va_D A ((MW md τ).set 0 (mA md 0, .inr (7, (mFl md τ).set 10 (.int v))))) : va_D A (MW md (ms_faultAt τ v)) := mw_faultAt md τ v ▸ h
set_option maxRecDepth 100000 in
theorem mw_known (md : MD) (τ : MPS) (v : Int32) : (MW md τ).set 0 (mA md 0, .inr (7, (mFl md τ).set 11 (.int v))) = MW md (ms_known τ v) := rfl
theorem mwP_known {md : MD} {τ : MPS} {v : Int32} {H : Heap} (h : va_P (mG md) classes ((MW md τ).set 0 (mA md 0, .inr (7, (mFl md τ).set 11 (.int v)))) H) : va_P (mG md) classes (MW md (ms_known τ v)) H := mw_known md τ v ▸ h
theorem mwD_known {md : MD} {τ : MPS} {v : Int32} {A : Nat → Prop} (h : va_D A ((MW md τ).set 0 (mA md 0, .inr (7, (mFl md τ).set 11 (.int v))))) : va_D A (MW md (ms_known τ v)) := mw_known md τ v ▸ h
set_option maxRecDepth 100000 in
theorem mw_width (md : MD) (τ : MPS) (v : Int32) : (MW md τ).set 0 (mA md 0, .inr (7, (mFl md τ).set 12 (.int v))) = MW md (ms_width τ v) := rfl
theorem mwP_width {md : MD} {τ : MPS} {v : Int32} {H : Heap} (h : va_P (mG md) classes ((MW md τ).set 0 (mA md 0, .inr (7, (mFl md τ).set 12 (.int v)))) H) : va_P (mG md) classes (MW md (ms_width τ v)) H := mw_width md τ v ▸ h
theorem mwD_width {md : MD} {τ : MPS} {v : Int32} {A : Nat → Prop} (h : va_D A ((MW md τ).set 0 (mA md 0, .inr (7, (mFl md τ).set 12 (.int v))))) : va_D A (MW md (ms_width τ v)) := mw_width md τ v ▸ h
set_option maxRecDepth 100000 in
theorem mw_at (md : MD) (τ : MPS) (v : Int32) : (MW md τ).set 0 (mA md 0, .inr (7, (mFl md τ).set 13 (.int v))) = MW md (ms_at τ v) := rfl
theorem mwP_at {md : MD} {τ : MPS} {v : Int32} {H : Heap} (h : va_P (mG md) classes ((MW md τ).set 0 (mA md 0, .inr (7, (mFl md τ).set 13 (.int v)))) H) : va_P (mG md) classes (MW md (ms_at τ v)) H := mw_at md τ v ▸ h
theorem mwD_at {md : MD} {τ : MPS} {v : Int32} {A : Nat → Prop} (h : va_D A ((MW md τ).set 0 (mA md 0, .inr (7, (mFl md τ).set 13 (.int v))))) : va_D A (MW md (ms_at τ v)) := mw_at md τ v ▸ h
set_option maxRecDepth 100000 in
theorem mw_elements (md : MD) (τ : MPS) (v : Int32) : (MW md τ).set 0 (mA md 0, .inr (7, (mFl md τ).set 14 (.int v))) = MW md (ms_elements τ v) := rfl
theorem mwP_elements {md : MD} {τ : MPS} {v : Int32} {H : Heap} (h : va_P (mG md) classes ((MW md τ).set 0 (mA md 0, .inr (7, (mFl md τ).set 14 (.int v)))) H) : va_P (mG md) classes (MW md (ms_elements τ v)) H := mw_elements md τ v ▸ h
theorem mwD_elements {md : MD} {τ : MPS} {v : Int32} {A : Nat → Prop} (h : va_D A ((MW md τ).set 0 (mA md 0, .inr (7, (mFl md τ).set 14 (.int v))))) : va_D A (MW md (ms_elements τ v)) := mw_elements md τ v ▸ h
set_option maxRecDepth 100000 in
theorem mw_deep (md : MD) (τ : MPS) (v : Int32) : (MW md τ).set 0 (mA md 0, .inr (7, (mFl md τ).set 15 (.int v))) = MW md (ms_deep τ v) := rfl
theorem mwP_deep {md : MD} {τ : MPS} {v : Int32} {H : Heap} (h : va_P (mG md) classes ((MW md τ).set 0 (mA md 0, .inr (7, (mFl md τ).set 15 (.int v)))) H) : va_P (mG md) classes (MW md (ms_deep τ v)) H := mw_deep md τ v ▸ h
theorem mwD_deep {md : MD} {τ : MPS} {v : Int32} {A : Nat → Prop} (h : va_D A ((MW md τ).set 0 (mA md 0, .inr (7, (mFl md τ).set 15 (.int v))))) : va_D A (MW md (ms_deep τ v)) := mw_deep md τ v ▸ h
set_option maxRecDepth 100000 in
theorem mw_bad (md : MD) (τ : MPS) (v : Int32) : (MW md τ).set 0 (mA md 0, .inr (7, (mFl md τ).set 16 (.int v))) = MW md (ms_bad τ v) := rfl
theorem mwP_bad {md : MD} {τ : MPS} {v : Int32} {H : Heap} (h : va_P (mG md) classes ((MW md τ).set 0 (mA md 0, .inr (7, (mFl md τ).set 16 (.int v)))) H) : va_P (mG md) classes (MW md (ms_bad τ v)) H := mw_bad md τ v ▸ h
theorem mwD_bad {md : MD} {τ : MPS} {v : Int32} {A : Nat → Prop} (h : va_D A ((MW md τ).set 0 (mA md 0, .inr (7, (mFl md τ).set 16 (.int v))))) : va_D A (MW md (ms_bad τ v)) := mw_bad md τ v ▸ h
set_option maxRecDepth 100000 in
theorem mw_openAt (md : MD) (τ : MPS) (v : Nat → Int32) : (MW md τ).set 6 (mA md 6, .inl (mI md, 41, .inl v)) = MW md (ms_openAt τ v) := rfl
theorem mwP_openAt {md : MD} {τ : MPS} {v : Nat → Int32} {H : Heap} (h : va_P (mG md) classes ((MW md τ).set 6 (mA md 6, .inl (mI md, 41, .inl v))) H) : va_P (mG md) classes (MW md (ms_openAt τ v)) H := mw_openAt md τ v ▸ h
theorem mwD_openAt {md : MD} {τ : MPS} {v : Nat → Int32} {A : Nat → Prop} (h : va_D A ((MW md τ).set 6 (mA md 6, .inl (mI md, 41, .inl v)))) : va_D A (MW md (ms_openAt τ v)) := mw_openAt md τ v ▸ h
set_option maxRecDepth 100000 in
theorem mw_openMany (md : MD) (τ : MPS) (v : Nat → Int32) : (MW md τ).set 7 (mA md 7, .inl (mI md, 41, .inl v)) = MW md (ms_openMany τ v) := rfl
theorem mwP_openMany {md : MD} {τ : MPS} {v : Nat → Int32} {H : Heap} (h : va_P (mG md) classes ((MW md τ).set 7 (mA md 7, .inl (mI md, 41, .inl v))) H) : va_P (mG md) classes (MW md (ms_openMany τ v)) H := mw_openMany md τ v ▸ h
theorem mwD_openMany {md : MD} {τ : MPS} {v : Nat → Int32} {A : Nat → Prop} (h : va_D A ((MW md τ).set 7 (mA md 7, .inl (mI md, 41, .inl v)))) : va_D A (MW md (ms_openMany τ v)) := mw_openMany md τ v ▸ h
set_option maxRecDepth 100000 in
theorem mw_nameAt (md : MD) (τ : MPS) (v : Int32) : (MW md τ).set 0 (mA md 0, .inr (7, (mFl md τ).set 19 (.int v))) = MW md (ms_nameAt τ v) := rfl
theorem mwP_nameAt {md : MD} {τ : MPS} {v : Int32} {H : Heap} (h : va_P (mG md) classes ((MW md τ).set 0 (mA md 0, .inr (7, (mFl md τ).set 19 (.int v)))) H) : va_P (mG md) classes (MW md (ms_nameAt τ v)) H := mw_nameAt md τ v ▸ h
theorem mwD_nameAt {md : MD} {τ : MPS} {v : Int32} {A : Nat → Prop} (h : va_D A ((MW md τ).set 0 (mA md 0, .inr (7, (mFl md τ).set 19 (.int v))))) : va_D A (MW md (ms_nameAt τ v)) := mw_nameAt md τ v ▸ h
set_option maxRecDepth 100000 in
theorem mw_nameMany (md : MD) (τ : MPS) (v : Int32) : (MW md τ).set 0 (mA md 0, .inr (7, (mFl md τ).set 20 (.int v))) = MW md (ms_nameMany τ v) := rfl
theorem mwP_nameMany {md : MD} {τ : MPS} {v : Int32} {H : Heap} (h : va_P (mG md) classes ((MW md τ).set 0 (mA md 0, .inr (7, (mFl md τ).set 20 (.int v)))) H) : va_P (mG md) classes (MW md (ms_nameMany τ v)) H := mw_nameMany md τ v ▸ h
theorem mwD_nameMany {md : MD} {τ : MPS} {v : Int32} {A : Nat → Prop} (h : va_D A ((MW md τ).set 0 (mA md 0, .inr (7, (mFl md τ).set 20 (.int v))))) : va_D A (MW md (ms_nameMany τ v)) := mw_nameMany md τ v ▸ h
set_option maxRecDepth 100000 in
theorem mw_valueAt (md : MD) (τ : MPS) (v : Int32) : (MW md τ).set 0 (mA md 0, .inr (7, (mFl md τ).set 21 (.int v))) = MW md (ms_valueAt τ v) := rfl
theorem mwP_valueAt {md : MD} {τ : MPS} {v : Int32} {H : Heap} (h : va_P (mG md) classes ((MW md τ).set 0 (mA md 0, .inr (7, (mFl md τ).set 21 (.int v)))) H) : va_P (mG md) classes (MW md (ms_valueAt τ v)) H := mw_valueAt md τ v ▸ h
theorem mwD_valueAt {md : MD} {τ : MPS} {v : Int32} {A : Nat → Prop} (h : va_D A ((MW md τ).set 0 (mA md 0, .inr (7, (mFl md τ).set 21 (.int v))))) : va_D A (MW md (ms_valueAt τ v)) := mw_valueAt md τ v ▸ h
set_option maxRecDepth 100000 in
theorem mw_valueEnd (md : MD) (τ : MPS) (v : Int32) : (MW md τ).set 0 (mA md 0, .inr (7, (mFl md τ).set 22 (.int v))) = MW md (ms_valueEnd τ v) := rfl
theorem mwP_valueEnd {md : MD} {τ : MPS} {v : Int32} {H : Heap} (h : va_P (mG md) classes ((MW md τ).set 0 (mA md 0, .inr (7, (mFl md τ).set 22 (.int v)))) H) : va_P (mG md) classes (MW md (ms_valueEnd τ v)) H := mw_valueEnd md τ v ▸ h
theorem mwD_valueEnd {md : MD} {τ : MPS} {v : Int32} {A : Nat → Prop} (h : va_D A ((MW md τ).set 0 (mA md 0, .inr (7, (mFl md τ).set 22 (.int v))))) : va_D A (MW md (ms_valueEnd τ v)) := mw_valueEnd md τ v ▸ h
set_option maxRecDepth 100000 in
theorem mw_isElement (md : MD) (τ : MPS) (v : Nat → Int32) : (MW md τ).set 8 (mA md 8, .inl (mZ md, 1000, .inl v)) = MW md (ms_isElement τ v) := rfl
theorem mwP_isElement {md : MD} {τ : MPS} {v : Nat → Int32} {H : Heap} (h : va_P (mG md) classes ((MW md τ).set 8 (mA md 8, .inl (mZ md, 1000, .inl v))) H) : va_P (mG md) classes (MW md (ms_isElement τ v)) H := mw_isElement md τ v ▸ h
theorem mwD_isElement {md : MD} {τ : MPS} {v : Nat → Int32} {A : Nat → Prop} (h : va_D A ((MW md τ).set 8 (mA md 8, .inl (mZ md, 1000, .inl v)))) : va_D A (MW md (ms_isElement τ v)) := mw_isElement md τ v ▸ h
set_option maxRecDepth 100000 in
theorem mw_begins (md : MD) (τ : MPS) (v : Nat → Int32) : (MW md τ).set 9 (mA md 9, .inl (mI md, 1000, .inl v)) = MW md (ms_begins τ v) := rfl
theorem mwP_begins {md : MD} {τ : MPS} {v : Nat → Int32} {H : Heap} (h : va_P (mG md) classes ((MW md τ).set 9 (mA md 9, .inl (mI md, 1000, .inl v))) H) : va_P (mG md) classes (MW md (ms_begins τ v)) H := mw_begins md τ v ▸ h
theorem mwD_begins {md : MD} {τ : MPS} {v : Nat → Int32} {A : Nat → Prop} (h : va_D A ((MW md τ).set 9 (mA md 9, .inl (mI md, 1000, .inl v)))) : va_D A (MW md (ms_begins τ v)) := mw_begins md τ v ▸ h
set_option maxRecDepth 100000 in
theorem mw_ends (md : MD) (τ : MPS) (v : Nat → Int32) : (MW md τ).set 10 (mA md 10, .inl (mI md, 1000, .inl v)) = MW md (ms_ends τ v) := rfl
theorem mwP_ends {md : MD} {τ : MPS} {v : Nat → Int32} {H : Heap} (h : va_P (mG md) classes ((MW md τ).set 10 (mA md 10, .inl (mI md, 1000, .inl v))) H) : va_P (mG md) classes (MW md (ms_ends τ v)) H := mw_ends md τ v ▸ h
theorem mwD_ends {md : MD} {τ : MPS} {v : Nat → Int32} {A : Nat → Prop} (h : va_D A ((MW md τ).set 10 (mA md 10, .inl (mI md, 1000, .inl v)))) : va_D A (MW md (ms_ends τ v)) := mw_ends md τ v ▸ h
set_option maxRecDepth 100000 in
theorem mw_up (md : MD) (τ : MPS) (v : Nat → Int32) : (MW md τ).set 11 (mA md 11, .inl (mI md, 1000, .inl v)) = MW md (ms_up τ v) := rfl
theorem mwP_up {md : MD} {τ : MPS} {v : Nat → Int32} {H : Heap} (h : va_P (mG md) classes ((MW md τ).set 11 (mA md 11, .inl (mI md, 1000, .inl v))) H) : va_P (mG md) classes (MW md (ms_up τ v)) H := mw_up md τ v ▸ h
theorem mwD_up {md : MD} {τ : MPS} {v : Nat → Int32} {A : Nat → Prop} (h : va_D A ((MW md τ).set 11 (mA md 11, .inl (mI md, 1000, .inl v)))) : va_D A (MW md (ms_up τ v)) := mw_up md τ v ▸ h
set_option maxRecDepth 100000 in
theorem mw_first (md : MD) (τ : MPS) (v : Nat → Int32) : (MW md τ).set 12 (mA md 12, .inl (mI md, 1000, .inl v)) = MW md (ms_first τ v) := rfl
theorem mwP_first {md : MD} {τ : MPS} {v : Nat → Int32} {H : Heap} (h : va_P (mG md) classes ((MW md τ).set 12 (mA md 12, .inl (mI md, 1000, .inl v))) H) : va_P (mG md) classes (MW md (ms_first τ v)) H := mw_first md τ v ▸ h
theorem mwD_first {md : MD} {τ : MPS} {v : Nat → Int32} {A : Nat → Prop} (h : va_D A ((MW md τ).set 12 (mA md 12, .inl (mI md, 1000, .inl v)))) : va_D A (MW md (ms_first τ v)) := mw_first md τ v ▸ h
set_option maxRecDepth 100000 in
theorem mw_next (md : MD) (τ : MPS) (v : Nat → Int32) : (MW md τ).set 13 (mA md 13, .inl (mI md, 1000, .inl v)) = MW md (ms_next τ v) := rfl
theorem mwP_next {md : MD} {τ : MPS} {v : Nat → Int32} {H : Heap} (h : va_P (mG md) classes ((MW md τ).set 13 (mA md 13, .inl (mI md, 1000, .inl v))) H) : va_P (mG md) classes (MW md (ms_next τ v)) H := mw_next md τ v ▸ h
theorem mwD_next {md : MD} {τ : MPS} {v : Nat → Int32} {A : Nat → Prop} (h : va_D A ((MW md τ).set 13 (mA md 13, .inl (mI md, 1000, .inl v)))) : va_D A (MW md (ms_next τ v)) := mw_next md τ v ▸ h
set_option maxRecDepth 100000 in
theorem mw_depth (md : MD) (τ : MPS) (v : Nat → Int32) : (MW md τ).set 14 (mA md 14, .inl (mI md, 1000, .inl v)) = MW md (ms_depth τ v) := rfl
theorem mwP_depth {md : MD} {τ : MPS} {v : Nat → Int32} {H : Heap} (h : va_P (mG md) classes ((MW md τ).set 14 (mA md 14, .inl (mI md, 1000, .inl v))) H) : va_P (mG md) classes (MW md (ms_depth τ v)) H := mw_depth md τ v ▸ h
theorem mwD_depth {md : MD} {τ : MPS} {v : Nat → Int32} {A : Nat → Prop} (h : va_D A ((MW md τ).set 14 (mA md 14, .inl (mI md, 1000, .inl v)))) : va_D A (MW md (ms_depth τ v)) := mw_depth md τ v ▸ h
set_option maxRecDepth 100000 in
theorem mw_last (md : MD) (τ : MPS) (v : Nat → Int32) : (MW md τ).set 15 (mA md 15, .inl (mI md, 1000, .inl v)) = MW md (ms_last τ v) := rfl
theorem mwP_last {md : MD} {τ : MPS} {v : Nat → Int32} {H : Heap} (h : va_P (mG md) classes ((MW md τ).set 15 (mA md 15, .inl (mI md, 1000, .inl v))) H) : va_P (mG md) classes (MW md (ms_last τ v)) H := mw_last md τ v ▸ h
theorem mwD_last {md : MD} {τ : MPS} {v : Nat → Int32} {A : Nat → Prop} (h : va_D A ((MW md τ).set 15 (mA md 15, .inl (mI md, 1000, .inl v)))) : va_D A (MW md (ms_last τ v)) := mw_last md τ v ▸ h
set_option maxRecDepth 100000 in
theorem mw_openNode (md : MD) (τ : MPS) (v : Nat → Int32) : (MW md τ).set 16 (mA md 16, .inl (mI md, 42, .inl v)) = MW md (ms_openNode τ v) := rfl
theorem mwP_openNode {md : MD} {τ : MPS} {v : Nat → Int32} {H : Heap} (h : va_P (mG md) classes ((MW md τ).set 16 (mA md 16, .inl (mI md, 42, .inl v))) H) : va_P (mG md) classes (MW md (ms_openNode τ v)) H := mw_openNode md τ v ▸ h
theorem mwD_openNode {md : MD} {τ : MPS} {v : Nat → Int32} {A : Nat → Prop} (h : va_D A ((MW md τ).set 16 (mA md 16, .inl (mI md, 42, .inl v)))) : va_D A (MW md (ms_openNode τ v)) := mw_openNode md τ v ▸ h
set_option maxRecDepth 100000 in
theorem mw_nodes (md : MD) (τ : MPS) (v : Int32) : (MW md τ).set 0 (mA md 0, .inr (7, (mFl md τ).set 32 (.int v))) = MW md (ms_nodes τ v) := rfl
theorem mwP_nodes {md : MD} {τ : MPS} {v : Int32} {H : Heap} (h : va_P (mG md) classes ((MW md τ).set 0 (mA md 0, .inr (7, (mFl md τ).set 32 (.int v)))) H) : va_P (mG md) classes (MW md (ms_nodes τ v)) H := mw_nodes md τ v ▸ h
theorem mwD_nodes {md : MD} {τ : MPS} {v : Int32} {A : Nat → Prop} (h : va_D A ((MW md τ).set 0 (mA md 0, .inr (7, (mFl md τ).set 32 (.int v))))) : va_D A (MW md (ms_nodes τ v)) := mw_nodes md τ v ▸ h
set_option maxRecDepth 100000 in
theorem mw_value (md : MD) (τ : MPS) (v : Nat → Int32) : (MW md τ).set 17 (mA md 17, .inl (mI md, 4000, .inl v)) = MW md (ms_value τ v) := rfl
theorem mwP_value {md : MD} {τ : MPS} {v : Nat → Int32} {H : Heap} (h : va_P (mG md) classes ((MW md τ).set 17 (mA md 17, .inl (mI md, 4000, .inl v))) H) : va_P (mG md) classes (MW md (ms_value τ v)) H := mw_value md τ v ▸ h
theorem mwD_value {md : MD} {τ : MPS} {v : Nat → Int32} {A : Nat → Prop} (h : va_D A ((MW md τ).set 17 (mA md 17, .inl (mI md, 4000, .inl v)))) : va_D A (MW md (ms_value τ v)) := mw_value md τ v ▸ h
set_option maxRecDepth 100000 in
theorem mw_wanted (md : MD) (τ : MPS) (v : Nat → Int32) : (MW md τ).set 18 (mA md 18, .inl (mI md, 4000, .inl v)) = MW md (ms_wanted τ v) := rfl
theorem mwP_wanted {md : MD} {τ : MPS} {v : Nat → Int32} {H : Heap} (h : va_P (mG md) classes ((MW md τ).set 18 (mA md 18, .inl (mI md, 4000, .inl v))) H) : va_P (mG md) classes (MW md (ms_wanted τ v)) H := mw_wanted md τ v ▸ h
theorem mwD_wanted {md : MD} {τ : MPS} {v : Nat → Int32} {A : Nat → Prop} (h : va_D A ((MW md τ).set 18 (mA md 18, .inl (mI md, 4000, .inl v)))) : va_D A (MW md (ms_wanted τ v)) := mw_wanted md τ v ▸ h
set_option maxRecDepth 100000 in
theorem mw_valueMany (md : MD) (τ : MPS) (v : Int32) : (MW md τ).set 0 (mA md 0, .inr (7, (mFl md τ).set 35 (.int v))) = MW md (ms_valueMany τ v) := rfl
theorem mwP_valueMany {md : MD} {τ : MPS} {v : Int32} {H : Heap} (h : va_P (mG md) classes ((MW md τ).set 0 (mA md 0, .inr (7, (mFl md τ).set 35 (.int v)))) H) : va_P (mG md) classes (MW md (ms_valueMany τ v)) H := mw_valueMany md τ v ▸ h
theorem mwD_valueMany {md : MD} {τ : MPS} {v : Int32} {A : Nat → Prop} (h : va_D A ((MW md τ).set 0 (mA md 0, .inr (7, (mFl md τ).set 35 (.int v))))) : va_D A (MW md (ms_valueMany τ v)) := mw_valueMany md τ v ▸ h
set_option maxRecDepth 100000 in
theorem mw_wantedMany (md : MD) (τ : MPS) (v : Int32) : (MW md τ).set 0 (mA md 0, .inr (7, (mFl md τ).set 36 (.int v))) = MW md (ms_wantedMany τ v) := rfl
theorem mwP_wantedMany {md : MD} {τ : MPS} {v : Int32} {H : Heap} (h : va_P (mG md) classes ((MW md τ).set 0 (mA md 0, .inr (7, (mFl md τ).set 36 (.int v)))) H) : va_P (mG md) classes (MW md (ms_wantedMany τ v)) H := mw_wantedMany md τ v ▸ h
theorem mwD_wantedMany {md : MD} {τ : MPS} {v : Int32} {A : Nat → Prop} (h : va_D A ((MW md τ).set 0 (mA md 0, .inr (7, (mFl md τ).set 36 (.int v))))) : va_D A (MW md (ms_wantedMany τ v)) := mw_wantedMany md τ v ▸ h
theorem MW_is (md : MD) (τ : MPS) : ([0, 1, 2, 3, 4, 5, 6, 7, 8, 9, 10, 11, 12, 13, 14, 15, 16, 17, 18] : List Nat).map (fun i => (MW md τ)[i]?) = (MW md τ).map some := rfl
/-- the reference's world, read; written -/
def rM (md : MD) (τ : MPS) (U : State) : Prop := va_P (mG md) classes (MW md τ) U.heap ∧ va_K (mG md) classes (mT md) U
theorem blind_rM {md : MD} {τ : MPS} : Blind (rM md τ) := fun a U g mk q => ⟨q.1, va_K.moved (u := U) (U := U.calling g mk a) (Vm.Alike.refl U.vm) q.2⟩
theorem rM_of {md : MD} {τ : MPS} {s : State} {H : Heap} (hP : va_P (mG md) classes (MW md τ) H) (hK : va_K (mG md) classes (mT md) s) : ∀ U : State, U.heap = H → s.WarmedH U.vm → rM md τ U := by
  intro U h1 h2
  subst h1
  exact ⟨hP, va_K.moved h2.alike hK⟩
def gM (md : MD) (τ : MPS) (sz : Nat) (U : State) : Prop := U.heap.size = sz ∧ va_P (mG md) classes (MW md τ) U.heap ∧ va_K (mG md) classes (mT md) U ∧ va_D (fun _ => True) (MW md τ)
theorem blind_gM {md : MD} {τ : MPS} {sz : Nat} : Blind (gM md τ sz) := fun a U g mk q => ⟨q.1, q.2.1, va_K.moved (u := U) (U := U.calling g mk a) (Vm.Alike.refl U.vm) q.2.2.1, q.2.2.2⟩
def eM (md : MD) (A : Nat → Prop) (τ : MPS) (t : State) : Prop := va_P (mG md) classes (MW md τ) t.heap ∧ va_K (mG md) classes (mT md) t ∧ va_D A (MW md τ)
theorem gM_free {md : MD} {τ : MPS} {A : Nat → Prop} {H0 H : Heap} {locs : List Loc} (hD : va_D A (MW md τ)) (hS : va_S A H0 H locs) (hA : ∀ q, H0.size ≤ q → A q) : ∀ q, va_A (MW md τ) H.size q → A q :=
  va_free (wc := MW md τ) hD hS hA _ (MW_is md τ)
/-- an int that is told as a boolean -/
def isZ (v : Int32) : Prop := v = 0 ∨ v = 1
theorem isZ_n {v : Int32} (h : isZ v) : narrow .boolean (.int v) = .int v := by rcases h with rfl | rfl <;> rfl
theorem isZ_f {v : Int32} (h : isZ v) : fits .boolean (.int v) = true := by rcases h with rfl | rfl <;> rfl
section MM
variable {p : Program} {l : Launch} {e : Env} {R : Room} {s : State} {m : MethodId} {args : Array Value} {below : List Frame} {meth : Method} {c : Code} {H : Heap} {locs : List Loc} {cells slots : Nat} {Q : State → Prop}
variable {cc : ByteArray} {pc nL : Nat} {ls : Array Slot} {rest st0 As : List Value} {A : Nat → Prop} {md : MD} {τ : MPS}
theorem mm_i {own C : String} {index ml n fr lo b0 : Nat} {y : MethodName} {b : ByteArray} {rt : Option FieldType} {post : Int32 → MPS → Prop} (S : CallFix p m c cc nL s args aW own)
    (hM : Met l y (Cond.code y b ml rt :: aW) { frames := fr, cells := 0, slots := 0, locals := lo } (va_Pc (.ref b0 :: As) (gM md τ H.size)) (va_Qi post (eM md (va_A (MW md τ) H.size)) (va_A (MW md τ) H.size)) 0 0 (va_A (MW md τ) H.size))
    (ok : okV own index C y b ml rt n) (hR : roomy fr lo ml R) (hrecv : ∃ cell : Cell, H[b0]? = some cell ∧ cell.vm.isStatics = false ∧ s.vm.findClass C = some cell.cls)
    (hP : va_P (mG md) classes (MW md τ) H) (hK : va_K (mG md) classes (mT md) s) (hD : va_D A (MW md τ)) (hS : va_S A s.heap H locs) (hA : ∀ q, s.heap.size ≤ q → A q)
    (hn : As.length = n) (hsize : ls.size = nL) (hst : st0 = As.reverse ++ .ref b0 :: rest) (hroom : (rest.map fun v => v.category).sum ≤ 8) (hdg : decode cc pc = .ok (.invokevirtual index, 3)) (hc : cells ≤ R.cells ∧ slots ≤ R.slots)
    (kk : ∀ (r : Int32) (u : MPS) (H1 : Heap) (locs1 : List Loc), post r u → va_P (mG md) classes (MW md u) H1 → va_D A (MW md u) → va_S A s.heap H1 locs1 → W p l e R s m args below meth c H1 locs1 cells slots Q (F0 m (pc + 3) ls (.int r :: rest))) : W p l e R s m args below meth c H locs cells slots Q (F0 m pc ls st0) := by
  have hF := gM_free hD hS hA
  refine va_calli (va_runV S hM (cw_V S.2.2.2.2 ok hR) ⟨blind_pc blind_gM, hrecv, fun U h1 h2 => ⟨rfl, by rw [h1], by rw [h1]; exact hP, va_K.moved h2.alike hK, hD.weaken (fun _ _ _ _ => trivial)⟩⟩ rfl hn hsize hst (lv_room hroom) hdg hc) hS (fun q _ h => hF q h) hF (fun r u t H1 locs1 ht hvm hw hB hz1 hk1 hS1 => ?_)
  exact kk r u H1 locs1 hw (by rw [← ht]; exact hB.1) (hB.2.2.weaken (fun _ q _ h => hF q.1 h)) hS1
theorem mm_v {own C : String} {index ml n fr lo b0 : Nat} {y : MethodName} {b : ByteArray} {rt : Option FieldType} {post : MPS → Prop} (S : CallFix p m c cc nL s args aW own)
    (hM : Met l y (Cond.code y b ml rt :: aW) { frames := fr, cells := 0, slots := 0, locals := lo } (va_Pc (.ref b0 :: As) (gM md τ H.size)) (va_Qv post (eM md (va_A (MW md τ) H.size)) (va_A (MW md τ) H.size)) 0 0 (va_A (MW md τ) H.size))
    (ok : okV own index C y b ml rt n) (hR : roomy fr lo ml R) (hrecv : ∃ cell : Cell, H[b0]? = some cell ∧ cell.vm.isStatics = false ∧ s.vm.findClass C = some cell.cls)
    (hP : va_P (mG md) classes (MW md τ) H) (hK : va_K (mG md) classes (mT md) s) (hD : va_D A (MW md τ)) (hS : va_S A s.heap H locs) (hA : ∀ q, s.heap.size ≤ q → A q)
    (hn : As.length = n) (hsize : ls.size = nL) (hst : st0 = As.reverse ++ .ref b0 :: rest) (hroom : (rest.map fun v => v.category).sum ≤ 8) (hdg : decode cc pc = .ok (.invokevirtual index, 3)) (hc : cells ≤ R.cells ∧ slots ≤ R.slots)
    (kk : ∀ (u : MPS) (H1 : Heap) (locs1 : List Loc), post u → va_P (mG md) classes (MW md u) H1 → va_D A (MW md u) → va_S A s.heap H1 locs1 → W p l e R s m args below meth c H1 locs1 cells slots Q (F0 m (pc + 3) ls rest)) : W p l e R s m args below meth c H locs cells slots Q (F0 m pc ls st0) := by
  have hF := gM_free hD hS hA
  refine va_callv (va_runV S hM (cw_V S.2.2.2.2 ok hR) ⟨blind_pc blind_gM, hrecv, fun U h1 h2 => ⟨rfl, by rw [h1], by rw [h1]; exact hP, va_K.moved h2.alike hK, hD.weaken (fun _ _ _ _ => trivial)⟩⟩ rfl hn hsize hst (lv_room hroom) hdg hc) hS (fun q _ h => hF q h) hF (fun u t H1 locs1 ht hvm hw hB hz1 hk1 hS1 => ?_)
  exact kk u H1 locs1 hw (by rw [← ht]; exact hB.1) (hB.2.2.weaken (fun _ q _ h => hF q.1 h)) hS1
end MM
