/-! The state of the class, its world, its constants (printed by wip/gen/world.py). -/
abbrev PPS : Type := (Nat → Int32) × StS × StS × StS × StS × StS × Int32 × Int32 × Int32 × Int32 × Int32 × Int32 × Int32
def pRd (σ : PPS) : Nat → Int32 := σ.1
def pTp (σ : PPS) : StS := σ.2.1
def pSh (σ : PPS) : StS := σ.2.2.1
def pNd (σ : PPS) : StS := σ.2.2.2.1
def pAt (σ : PPS) : StS := σ.2.2.2.2.1
def pLe (σ : PPS) : StS := σ.2.2.2.2.2.1
def pEl (σ : PPS) : Int32 := σ.2.2.2.2.2.2.1
def pPs (σ : PPS) : Int32 := σ.2.2.2.2.2.2.2.1
def pOp (σ : PPS) : Int32 := σ.2.2.2.2.2.2.2.2.1
def pIn (σ : PPS) : Int32 := σ.2.2.2.2.2.2.2.2.2.1
def pWr (σ : PPS) : Int32 := σ.2.2.2.2.2.2.2.2.2.2.1
def pFs (σ : PPS) : Int32 := σ.2.2.2.2.2.2.2.2.2.2.2.1
def pFp (σ : PPS) : Int32 := σ.2.2.2.2.2.2.2.2.2.2.2.2
def sRd (σ : PPS) (v : Nat → Int32) : PPS := (v, pTp σ, pSh σ, pNd σ, pAt σ, pLe σ, pEl σ, pPs σ, pOp σ, pIn σ, pWr σ, pFs σ, pFp σ)
def sTp (σ : PPS) (v : StS) : PPS := (pRd σ, v, pSh σ, pNd σ, pAt σ, pLe σ, pEl σ, pPs σ, pOp σ, pIn σ, pWr σ, pFs σ, pFp σ)
def sSh (σ : PPS) (v : StS) : PPS := (pRd σ, pTp σ, v, pNd σ, pAt σ, pLe σ, pEl σ, pPs σ, pOp σ, pIn σ, pWr σ, pFs σ, pFp σ)
def sNd (σ : PPS) (v : StS) : PPS := (pRd σ, pTp σ, pSh σ, v, pAt σ, pLe σ, pEl σ, pPs σ, pOp σ, pIn σ, pWr σ, pFs σ, pFp σ)
def sAt (σ : PPS) (v : StS) : PPS := (pRd σ, pTp σ, pSh σ, pNd σ, v, pLe σ, pEl σ, pPs σ, pOp σ, pIn σ, pWr σ, pFs σ, pFp σ)
def sLe (σ : PPS) (v : StS) : PPS := (pRd σ, pTp σ, pSh σ, pNd σ, pAt σ, v, pEl σ, pPs σ, pOp σ, pIn σ, pWr σ, pFs σ, pFp σ)
def sEl (σ : PPS) (v : Int32) : PPS := (pRd σ, pTp σ, pSh σ, pNd σ, pAt σ, pLe σ, v, pPs σ, pOp σ, pIn σ, pWr σ, pFs σ, pFp σ)
def sPs (σ : PPS) (v : Int32) : PPS := (pRd σ, pTp σ, pSh σ, pNd σ, pAt σ, pLe σ, pEl σ, v, pOp σ, pIn σ, pWr σ, pFs σ, pFp σ)
def sOp (σ : PPS) (v : Int32) : PPS := (pRd σ, pTp σ, pSh σ, pNd σ, pAt σ, pLe σ, pEl σ, pPs σ, v, pIn σ, pWr σ, pFs σ, pFp σ)
def sIn (σ : PPS) (v : Int32) : PPS := (pRd σ, pTp σ, pSh σ, pNd σ, pAt σ, pLe σ, pEl σ, pPs σ, pOp σ, v, pWr σ, pFs σ, pFp σ)
def sWr (σ : PPS) (v : Int32) : PPS := (pRd σ, pTp σ, pSh σ, pNd σ, pAt σ, pLe σ, pEl σ, pPs σ, pOp σ, pIn σ, v, pFs σ, pFp σ)
def sFs (σ : PPS) (v : Int32) : PPS := (pRd σ, pTp σ, pSh σ, pNd σ, pAt σ, pLe σ, pEl σ, pPs σ, pOp σ, pIn σ, pWr σ, v, pFp σ)
def sFp (σ : PPS) (v : Int32) : PPS := (pRd σ, pTp σ, pSh σ, pNd σ, pAt σ, pLe σ, pEl σ, pPs σ, pOp σ, pIn σ, pWr σ, pFs σ, v)
/-- addresses and tables of a run: (classes, slots), the class's cells, the class of int[], the kinds, the texts and their bytes, the array of kinds -/
abbrev WD : Type := va_G × (Nat → Nat) × ClassId × (Nat → Nat) × (Nat → Nat) × (Nat → Nat) × Nat
def wG (w : WD) : va_G := w.1
def wA (w : WD) : Nat → Nat := w.2.1
def wI (w : WD) : ClassId := w.2.2.1
def wE (w : WD) : Nat → Nat := w.2.2.2.1
def wK (w : WD) : Nat → Nat := w.2.2.2.2.1
def wV (w : WD) : Nat → Nat := w.2.2.2.2.2.1
def wT (w : WD) : Nat := w.2.2.2.2.2.2
def WW (w : WD) (σ : PPS) : va_W := [
  (wA w 0, .inr (0, [.ref (wA w 1), .ref (wA w 2), .ref (wA w 4), .ref (wA w 6), .ref (wA w 13), .ref (wA w 14), .ref (wA w 15), .int (pFs σ), .int (pFp σ)])),
  (wA w 1, .inl (wI w, 20, .inl (pRd σ))),
  (wA w 2, .inr (1, [.ref (wA w 3), .int (pTp σ).1])), (wA w 3, .inl (wI w, 4000, .inl (pTp σ).2)),
  (wA w 4, .inr (1, [.ref (wA w 5), .int (pSh σ).1])), (wA w 5, .inl (wI w, 24000, .inl (pSh σ).2)),
  (wA w 6, .inr (3, [.ref (wA w 7), .ref (wA w 9), .ref (wA w 11), .int (pEl σ)])),
  (wA w 7, .inr (2, [.int 900, .int 14, .ref (wA w 8), .int (pNd σ).1])), (wA w 8, .inl (wI w, 12600, .inl (pNd σ).2)),
  (wA w 9, .inr (2, [.int 800, .int 5, .ref (wA w 10), .int (pAt σ).1])), (wA w 10, .inl (wI w, 4000, .inl (pAt σ).2)),
  (wA w 11, .inr (1, [.ref (wA w 12), .int (pLe σ).1])), (wA w 12, .inl (wI w, 4000, .inl (pLe σ).2)),
  (wA w 13, .inr (4, [.ref (wA w 2), .ref (wA w 6), .int (pPs σ), .int (pOp σ), .int (pIn σ), .int (pWr σ)])),
  (wA w 14, .inr (5, [.ref (wA w 6)])),
  (wA w 15, .inr (6, [.ref (wA w 6), .ref (wA w 4)]))]
-- the kinds
def kNm : List String := ["HTML", "HEAD", "TITLE_OF_PAGE", "BODY", "BLOCKQUOTE", "UL", "OL", "LI", "P", "H1", "H2", "H3", "H4", "H5", "H6", "EM", "STRONG", "A", "PRE", "CODE", "HR", "BR", "IMG"]
def kAs : List Int32 := [1, 2, 8, 4, 32, 32, 32, 64, 32, 32, 32, 32, 32, 32, 32, 128, 128, 128, 32, 144, 32, 128, 128]
def kHo : List Int32 := [1542, 1544, 256, 544, 544, 576, 576, 416, 384, 384, 384, 384, 384, 384, 384, 384, 384, 384, 1552, 256, 0, 0, 0]
def kMa : List Int32 := [0, 0, 0, 0, 0, 0, 64, 0, 0, 0, 0, 0, 0, 0, 0, 0, 0, 6, 0, 32, 0, 0, 28]
def kMu : List Int32 := [0, 0, 0, 0, 0, 0, 0, 0, 0, 0, 0, 0, 0, 0, 0, 0, 0, 2, 0, 0, 0, 0, 24]
def kLa : List Nat := [29, 30, 31, 32, 33, 34, 35, 36, 37, 38, 39, 40, 41, 42, 43, 44, 45, 26, 46, 47, 48, 27, 28]
def kF : List (String × String × String × List Int32) := [("PlainPages$Kind", "as", "I", kAs), ("PlainPages$Kind", "holding", "I", kHo), ("PlainPages$Kind", "mayHave", "I", kMa), ("PlainPages$Kind", "mustHave", "I", kMu)]
-- the texts: whose, which entry, what
def tOw : List (String × Nat × String) := [("PlainPages$Reader", 38, "<?xml version=\"1.0\" encoding=\"UTF-8\"?>"), ("PlainPages$Reader", 140, "id"), ("PlainPages$Reader", 196, "&amp;"), ("PlainPages$Reader", 198, "&lt;"), ("PlainPages$Reader", 200, "&gt;"), ("PlainPages$Reader", 202, "&quot;"), ("PlainPages$Reader", 204, "&apos;"), ("PlainPages", 89, "the tape is no XML"), ("PlainPages", 97, "nothing is read"), ("PlainPages$Inspector", 95, "id"), ("PlainPages$Inspector", 55, "href"), ("PlainPages$Inspector", 101, "title"), ("PlainPages$Inspector", 103, "src"), ("PlainPages$Inspector", 105, "alt"), ("PlainPages$Inspector", 107, "class"), ("PlainPages$Inspector", 109, "start"), ("PlainPages", 126, "there is no such node"), ("PlainPages$Scribe", 69, "alt"), ("PlainPages$Scribe", 91, "</"), ("PlainPages$Scribe", 81, "=\""), ("PlainPages$Scribe", 102, "&amp;"), ("PlainPages$Scribe", 104, "&lt;"), ("PlainPages$Scribe", 106, "&gt;"), ("PlainPages$Scribe", 108, "&quot;"), ("PlainPages$Scribe", 87, "/>"), ("PlainPages$Scribe", 89, ">"), ("PlainPages$Kind", 166, "a"), ("PlainPages$Kind", 178, "br"), ("PlainPages$Kind", 181, "img"), ("PlainPages$Kind", 112, "html"), ("PlainPages$Kind", 118, "head"), ("PlainPages$Kind", 121, "title"), ("PlainPages$Kind", 124, "body"), ("PlainPages$Kind", 127, "blockquote"), ("PlainPages$Kind", 130, "ul"), ("PlainPages$Kind", 133, "ol"), ("PlainPages$Kind", 136, "li"), ("PlainPages$Kind", 139, "p"), ("PlainPages$Kind", 142, "h1"), ("PlainPages$Kind", 145, "h2"), ("PlainPages$Kind", 148, "h3"), ("PlainPages$Kind", 151, "h4"), ("PlainPages$Kind", 154, "h5"), ("PlainPages$Kind", 157, "h6"), ("PlainPages$Kind", 160, "em"), ("PlainPages$Kind", 163, "strong"), ("PlainPages$Kind", 169, "pre"), ("PlainPages$Kind", 172, "code"), ("PlainPages$Kind", 175, "hr")]
def tLn : List Nat := [38, 2, 5, 4, 4, 6, 6, 18, 15, 2, 4, 5, 3, 3, 5, 5, 21, 3, 2, 2, 5, 4, 4, 6, 2, 1, 1, 2, 3, 4, 4, 5, 4, 10, 2, 2, 2, 1, 2, 2, 2, 2, 2, 2, 2, 6, 3, 4, 2]
def tBy : List (List Int32) := [[60, 63, 120, 109, 108, 32, 118, 101, 114, 115, 105, 111, 110, 61, 34, 49, 46, 48, 34, 32, 101, 110, 99, 111, 100, 105, 110, 103, 61, 34, 85, 84, 70, 45, 56, 34, 63, 62], [105, 100], [38, 97, 109, 112, 59], [38, 108, 116, 59], [38, 103, 116, 59], [38, 113, 117, 111, 116, 59], [38, 97, 112, 111, 115, 59], [116, 104, 101, 32, 116, 97, 112, 101, 32, 105, 115, 32, 110, 111, 32, 88, 77, 76], [110, 111, 116, 104, 105, 110, 103, 32, 105, 115, 32, 114, 101, 97, 100], [105, 100], [104, 114, 101, 102], [116, 105, 116, 108, 101], [115, 114, 99], [97, 108, 116], [99, 108, 97, 115, 115], [115, 116, 97, 114, 116], [116, 104, 101, 114, 101, 32, 105, 115, 32, 110, 111, 32, 115, 117, 99, 104, 32, 110, 111, 100, 101], [97, 108, 116], [60, 47], [61, 34], [38, 97, 109, 112, 59], [38, 108, 116, 59], [38, 103, 116, 59], [38, 113, 117, 111, 116, 59], [47, 62], [62], [97], [98, 114], [105, 109, 103], [104, 116, 109, 108], [104, 101, 97, 100], [116, 105, 116, 108, 101], [98, 111, 100, 121], [98, 108, 111, 99, 107, 113, 117, 111, 116, 101], [117, 108], [111, 108], [108, 105], [112], [104, 49], [104, 50], [104, 51], [104, 52], [104, 53], [104, 54], [101, 109], [115, 116, 114, 111, 110, 103], [112, 114, 101], [99, 111, 100, 101], [104, 114]]
/-- the texts stand as the Statement says them -/
def tS (adK adV : Nat → Nat) (A : Nat → Prop) (U : State) (H : Heap) : Prop := ∀ i : Nat, i < 49 → va_O "java/lang/String" (adK i) A U H ∧ va_OF "java/lang/String" "coder" "B" (.int 0) (adK i) A U H ∧ va_OF "java/lang/String" "value" "[B" (.ref (adV i)) (adK i) A U H ∧ va_T .byte (adV i) (tLn.getD i 0) (fun j => .int ((tBy.getD i []).getD j 0)) A U H
/-- all that is constant: kinds, their labels, the array of kinds, texts, entries resolved -/
def CST (w : WD) (A : Nat → Prop) (U : State) (H : Heap) : Prop :=
  va_En "PlainPages$Kind" "LPlainPages$Kind;" kNm kF (wE w) A U H ∧
  va_Ef 23 "PlainPages$Kind" "label" "Ljava/lang/String;" (fun i => .ref (wK w (kLa.getD i 0))) (wE w) A U H ∧
  va_Z "PlainPages" "KINDS" "[LPlainPages$Kind;" (.ref (wT w)) A U H ∧
  va_T (.object "PlainPages$Kind") (wT w) 23 (fun i => .ref (wE w i)) A U H ∧
  tS (wK w) (wV w) A U H ∧
  va_Z "java/lang/String" "COMPACT_STRINGS" "Z" (.int 1) A U H ∧
  (∀ i : Nat, i < 49 → vk_R (tOw.getD i ("", 0, "")).1 (tOw.getD i ("", 0, "")).2.1 (tOw.getD i ("", 0, "")).2.2 (wK w i) U) ∧
  va_Nw (.fieldLinkNest "PlainPages$Book" 51 "PlainPages" "KINDS" "[LPlainPages$Kind;" "PlainPages") U ∧
  va_Nw (.fieldLinkNest "PlainPages$Book" 90 "PlainPages$Kind" "label" "Ljava/lang/String;" "PlainPages") U ∧
  va_Nw (.fieldLinkNest "PlainPages$Inspector" 72 "PlainPages$Kind" "as" "I" "PlainPages") U ∧
  va_Nw (.fieldLinkNest "PlainPages$Inspector" 119 "PlainPages$Kind" "holding" "I" "PlainPages") U ∧
  (∃ r : Option Nat, va_Z "jdk/internal/util/Preconditions" "SIOOBE_FORMATTER" "Ljava/util/function/BiFunction;" (va_rf r) A U H)
theorem CST.go {w : WD} {A B : Nat → Prop} {s U : State} {H : Heap} {locs : List Loc} (h : CST w A s s.heap) (hS : va_S A s.heap H locs) (hW : s.WarmedH U.vm) (hAB : ∀ q, B q → A q) : CST w B U H := by
  obtain ⟨h1, h2, h3, h4, h5, h6, h7, h8, h9, h10, h11, r12, h12⟩ := h
  have v := hW.alike
  have k := hS.2.1
  exact ⟨((va_En.moved v h1).kept k).narrow hAB, ((va_Ef.moved v h2).kept k).narrow hAB, ((va_Z.moved v h3).kept k).narrow hAB, ((va_T.moved v h4).kept k).narrow hAB,
    fun i hi => ⟨((va_O.moved v (h5 i hi).1).kept k).narrow hAB, ((va_OF.moved v (h5 i hi).2.1).kept k).narrow hAB, ((va_OF.moved v (h5 i hi).2.2.1).kept k).narrow hAB, ((va_T.moved v (h5 i hi).2.2.2).kept k).narrow hAB⟩,
    ((va_Z.moved v h6).kept k).narrow hAB, fun i hi => (h7 i hi).warm hW, va_Nw.warmF hW h8, va_Nw.warmF hW h9, va_Nw.warmF hW h10, va_Nw.warmF hW h11, r12, ((va_Z.moved v h12).kept k).narrow hAB⟩
theorem CST.blind {w : WD} {A : Nat → Prop} {U : State} {g : JFrame} {mk : MethodId} {a : Array Value} (h : CST w A U U.heap) : CST w A (U.calling g mk a) (U.calling g mk a).heap := by
  have hv : U.vm.Alike (U.calling g mk a).vm := Vm.Alike.refl U.vm
  obtain ⟨h1, h2, h3, h4, h5, h6, h7, h8, h9, h10, h11, r12, h12⟩ := h
  exact ⟨va_En.moved hv h1, va_Ef.moved hv h2, va_Z.moved hv h3, va_T.moved hv h4, fun i hi => ⟨va_O.moved hv (h5 i hi).1, va_OF.moved hv (h5 i hi).2.1, va_OF.moved hv (h5 i hi).2.2.1, va_T.moved hv (h5 i hi).2.2.2⟩, va_Z.moved hv h6, fun i hi => vk_R.same rfl (h7 i hi), va_Nw.same rfl rfl h8, va_Nw.same rfl rfl h9, va_Nw.same rfl rfl h10, va_Nw.same rfl rfl h11, r12, va_Z.moved hv h12⟩
/-- the world, read alone -/
def fW (w : WD) (σ : PPS) (U : State) : Prop := va_P (wG w) classes (WW w σ) U.heap ∧ va_K (wG w) classes [(wI w, .int)] U ∧ CST w (fun _ => False) U U.heap
theorem blind_fW {w : WD} {σ : PPS} : Blind (fW w σ) := fun a U g mk q => ⟨q.1, va_K.moved (u := U) (U := U.calling g mk a) (Vm.Alike.refl U.vm) q.2.1, q.2.2.blind⟩
theorem fW_of {w : WD} {σ : PPS} {A : Nat → Prop} {s : State} {H : Heap} {locs : List Loc} (hP : va_P (wG w) classes (WW w σ) H) (hK : va_K (wG w) classes [(wI w, .int)] s) (hC : CST w A s s.heap) (hS : va_S A s.heap H locs) : ∀ U : State, U.heap = H → s.WarmedH U.vm → fW w σ U := by
  intro U h1 h2
  subst h1
  exact ⟨hP, va_K.moved h2.alike hK, hC.go hS h2 (fun _ h => h.elim)⟩
/-- the constants alone -/
def cW (w : WD) (U : State) : Prop := CST w (fun _ => False) U U.heap
theorem blind_cW {w : WD} : Blind (cW w) := fun _ _ _ _ q => CST.blind q
theorem cW_of {w : WD} {A : Nat → Prop} {s : State} {H : Heap} {locs : List Loc} (hC : CST w A s s.heap) (hS : va_S A s.heap H locs) : ∀ U : State, U.heap = H → s.WarmedH U.vm → cW w U := by
  intro U h1 h2
  subst h1
  exact hC.go hS h2 (fun _ h => h.elim)
/-- the world, written: sz cells stand -/
def gW (w : WD) (σ : PPS) (sz : Nat) (U : State) : Prop := U.heap.size = sz ∧ va_P (wG w) classes (WW w σ) U.heap ∧ va_K (wG w) classes [(wI w, .int)] U ∧ va_D (fun _ => True) (WW w σ) ∧ CST w (va_A (WW w σ) sz) U U.heap
theorem blind_gW {w : WD} {σ : PPS} {sz : Nat} : Blind (gW w σ sz) := fun a U g mk q => ⟨q.1, q.2.1, va_K.moved (u := U) (U := U.calling g mk a) (Vm.Alike.refl U.vm) q.2.2.1, q.2.2.2.1, q.2.2.2.2.blind⟩
theorem gW_of {w : WD} {σ : PPS} {A : Nat → Prop} {s : State} {H : Heap} {locs : List Loc} (hP : va_P (wG w) classes (WW w σ) H) (hK : va_K (wG w) classes [(wI w, .int)] s) (hD : va_D A (WW w σ)) (hC : CST w A s s.heap) (hS : va_S A s.heap H locs) (hF : ∀ q, va_A (WW w σ) H.size q → A q) : ∀ U : State, U.heap = H → s.WarmedH U.vm → gW w σ H.size U := by
  intro U h1 h2
  subst h1
  exact ⟨rfl, hP, va_K.moved h2.alike hK, hD.weaken (fun _ _ _ _ => trivial), hC.go hS h2 hF⟩
theorem gW_free {w : WD} {σ : PPS} {A : Nat → Prop} {H0 H : Heap} {locs : List Loc} (hD : va_D A (WW w σ)) (hS : va_S A H0 H locs) (hA : ∀ q, H0.size ≤ q → A q) : ∀ q, va_A (WW w σ) H.size q → A q :=
  va_free (wc := WW w σ) hD hS hA [0, 1, 2, 3, 4, 5, 6, 7, 8, 9, 10, 11, 12, 13, 14, 15] rfl
section MC
variable {p : Program} {l : Launch} {e : Env} {R : Room} {s : State} {m : MethodId} {args : Array Value} {below : List Frame} {meth : Method} {c : Code} {H : Heap} {locs : List Loc} {cells slots : Nat} {Q : State → Prop}
variable {cc : ByteArray} {pc nL : Nat} {ls : Array Slot} {rest st0 As : List Value} {A : Nat → Prop} {w : WD} {σ : PPS}
/-- a call that writes the class's world, and answers an int -/
theorem mc_i {own C : String} {index ml n fr lo b0 : Nat} {y : MethodName} {b : ByteArray} {rt : Option FieldType} {post : Int32 → PPS → Prop} (S : CallFix p m c cc nL s args aW own)
    (hM : Met l y (Cond.code y b ml rt :: aW) { frames := fr, cells := 0, slots := 0, locals := lo } (va_Pc (.ref b0 :: As) (gW w σ H.size)) (va_Qi post (mB (wG w) (WW w) (wI w) (va_A (WW w σ) H.size)) (va_A (WW w σ) H.size)) 0 0 (va_A (WW w σ) H.size))
    (ok : okV own index C y b ml rt n) (hR : roomy fr lo ml R) (hrecv : ∃ cell : Cell, H[b0]? = some cell ∧ cell.vm.isStatics = false ∧ s.vm.findClass C = some cell.cls)
    (hP : va_P (wG w) classes (WW w σ) H) (hK : va_K (wG w) classes [(wI w, .int)] s) (hD : va_D A (WW w σ)) (hS : va_S A s.heap H locs) (hA : ∀ q, s.heap.size ≤ q → A q) (hC : CST w A s s.heap)
    (hn : As.length = n) (hsize : ls.size = nL) (hst : st0 = As.reverse ++ .ref b0 :: rest) (hroom : (rest.map fun v => v.category).sum ≤ 8) (hdg : decode cc pc = .ok (.invokevirtual index, 3)) (hc : cells ≤ R.cells ∧ slots ≤ R.slots)
    (kk : ∀ (r : Int32) (u : PPS) (H1 : Heap) (locs1 : List Loc), post r u → va_P (wG w) classes (WW w u) H1 → va_D A (WW w u) → va_S A s.heap H1 locs1 → W p l e R s m args below meth c H1 locs1 cells slots Q (F0 m (pc + 3) ls (.int r :: rest))) : W p l e R s m args below meth c H locs cells slots Q (F0 m pc ls st0) := by
  have hF := gW_free hD hS hA
  refine va_calli (va_runV S hM (cw_V S.2.2.2.2 ok hR) ⟨blind_pc blind_gW, hrecv, fun U h1 h2 => ⟨rfl, gW_of hP hK hD hC hS hF U h1 h2⟩⟩ rfl hn hsize hst (lv_room hroom) hdg hc) hS (fun q _ h => hF q h) hF (fun r u t H1 locs1 ht hvm hw hB hz1 hk1 hS1 => ?_)
  exact kk r u H1 locs1 hw (by rw [← ht]; exact hB.1) (hB.2.2.weaken (fun _ q _ h => hF q.1 h)) hS1
/-- the same, void -/
theorem mc_v {own C : String} {index ml n fr lo b0 : Nat} {y : MethodName} {b : ByteArray} {rt : Option FieldType} {post : PPS → Prop} (S : CallFix p m c cc nL s args aW own)
    (hM : Met l y (Cond.code y b ml rt :: aW) { frames := fr, cells := 0, slots := 0, locals := lo } (va_Pc (.ref b0 :: As) (gW w σ H.size)) (va_Qv post (mB (wG w) (WW w) (wI w) (va_A (WW w σ) H.size)) (va_A (WW w σ) H.size)) 0 0 (va_A (WW w σ) H.size))
    (ok : okV own index C y b ml rt n) (hR : roomy fr lo ml R) (hrecv : ∃ cell : Cell, H[b0]? = some cell ∧ cell.vm.isStatics = false ∧ s.vm.findClass C = some cell.cls)
    (hP : va_P (wG w) classes (WW w σ) H) (hK : va_K (wG w) classes [(wI w, .int)] s) (hD : va_D A (WW w σ)) (hS : va_S A s.heap H locs) (hA : ∀ q, s.heap.size ≤ q → A q) (hC : CST w A s s.heap)
    (hn : As.length = n) (hsize : ls.size = nL) (hst : st0 = As.reverse ++ .ref b0 :: rest) (hroom : (rest.map fun v => v.category).sum ≤ 8) (hdg : decode cc pc = .ok (.invokevirtual index, 3)) (hc : cells ≤ R.cells ∧ slots ≤ R.slots)
    (kk : ∀ (u : PPS) (H1 : Heap) (locs1 : List Loc), post u → va_P (wG w) classes (WW w u) H1 → va_D A (WW w u) → va_S A s.heap H1 locs1 → W p l e R s m args below meth c H1 locs1 cells slots Q (F0 m (pc + 3) ls rest)) : W p l e R s m args below meth c H locs cells slots Q (F0 m pc ls st0) := by
  have hF := gW_free hD hS hA
  refine va_callv (va_runV S hM (cw_V S.2.2.2.2 ok hR) ⟨blind_pc blind_gW, hrecv, fun U h1 h2 => ⟨rfl, gW_of hP hK hD hC hS hF U h1 h2⟩⟩ rfl hn hsize hst (lv_room hroom) hdg hc) hS (fun q _ h => hF q h) hF (fun u t H1 locs1 ht hvm hw hB hz1 hk1 hS1 => ?_)
  exact kk u H1 locs1 hw (by rw [← ht]; exact hB.1) (hB.2.2.weaken (fun _ q _ h => hF q.1 h)) hS1
/-- a static call that writes the class's world, void -/
theorem mcS_v {own : String} {index ml n fr lo : Nat} {y : MethodName} {b : ByteArray} {rt : Option FieldType} {post : PPS → Prop} (S : CallFix p m c cc nL s args aW own)
    (hM : Met l y (Cond.code y b ml rt :: aW) { frames := fr, cells := 0, slots := 0, locals := lo } (va_Pc As (gW w σ H.size)) (va_Qv post (mB (wG w) (WW w) (wI w) (va_A (WW w σ) H.size)) (va_A (WW w σ) H.size)) 0 0 (va_A (WW w σ) H.size))
    (ok : okS own index y b ml rt n) (hR : roomy fr lo ml R)
    (hP : va_P (wG w) classes (WW w σ) H) (hK : va_K (wG w) classes [(wI w, .int)] s) (hD : va_D A (WW w σ)) (hS : va_S A s.heap H locs) (hA : ∀ q, s.heap.size ≤ q → A q) (hC : CST w A s s.heap)
    (hn : As.length = n) (hsize : ls.size = nL) (hst : st0 = As.reverse ++ rest) (hroom : (rest.map fun v => v.category).sum ≤ 8) (hdg : decode cc pc = .ok (.invokestatic index, 3)) (hc : cells ≤ R.cells ∧ slots ≤ R.slots)
    (kk : ∀ (u : PPS) (H1 : Heap) (locs1 : List Loc), post u → va_P (wG w) classes (WW w u) H1 → va_D A (WW w u) → va_S A s.heap H1 locs1 → W p l e R s m args below meth c H1 locs1 cells slots Q (F0 m (pc + 3) ls rest)) : W p l e R s m args below meth c H locs cells slots Q (F0 m pc ls st0) := by
  have hF := gW_free hD hS hA
  refine va_callv (va_runS S hM (cw_S S.2.2.2.2 ok hR) ⟨blind_pc blind_gW, fun U h1 h2 => ⟨rfl, gW_of hP hK hD hC hS hF U h1 h2⟩⟩ rfl hn hsize hst (lv_room hroom) hdg hc) hS (fun q _ h => hF q h) hF (fun u t H1 locs1 ht hvm hw hB hz1 hk1 hS1 => ?_)
  exact kk u H1 locs1 hw (by rw [← ht]; exact hB.1) (hB.2.2.weaken (fun _ q _ h => hF q.1 h)) hS1
/-- a call that writes a part of a world (a strip, a table), and what stands beside it stays -/
theorem sc_v {St : Type} {D : va_G} {cI : ClassId} {wt wn : St → va_W} {u0 : St} {ws wr : va_W} {own C : String} {index ml n fr lo b0 : Nat} {y : MethodName} {b : ByteArray} {rt : Option FieldType} {post : St → Prop} (S : CallFix p m c cc nL s args aW own)
    (hM : Met l y (Cond.code y b ml rt :: aW) { frames := fr, cells := 0, slots := 0, locals := lo } (va_Pc (.ref b0 :: As) (mW D (wt u0) cI H.size)) (va_Qv post (mB D wt cI (va_A (wt u0) H.size)) (va_A (wt u0) H.size)) 0 0 (va_A (wt u0) H.size))
    (ok : okV own index C y b ml rt n) (hR : roomy fr lo ml R) (hrecv : ∃ cell : Cell, H[b0]? = some cell ∧ cell.vm.isStatics = false ∧ s.vm.findClass C = some cell.cls)
    (hP : va_P D classes ws H) (hK : va_K D classes [(cI, .int)] s) (hD : va_D A ws) (hS : va_S A s.heap H locs) (hA : ∀ q, s.heap.size ≤ q → A q)
    (isC isR perm : List Nat) (hC1 : isC.filterMap (fun i => ws[i]?) = wt u0) (hC2 : isC.map (fun i => ws[i]?) = (wt u0).map some) (hnC : va_nd isC = true) (hR1 : isR.map (fun i => ws[i]?) = wr.map some) (hnR : va_nd isR = true) (hdis : ∀ i ∈ isR, i ∉ isC)
    (hp1 : ∀ u, perm.filterMap (fun i => (wr ++ wt u)[i]?) = wn u) (hp2 : ∀ u, perm.map (fun i => (wr ++ wt u)[i]?) = (wn u).map some) (hnp : va_nd perm = true)
    (hn : As.length = n) (hsize : ls.size = nL) (hst : st0 = As.reverse ++ .ref b0 :: rest) (hroom : (rest.map fun v => v.category).sum ≤ 8) (hdg : decode cc pc = .ok (.invokevirtual index, 3)) (hc : cells ≤ R.cells ∧ slots ≤ R.slots)
    (kk : ∀ (u : St) (H1 : Heap) (locs1 : List Loc), post u → va_P D classes (wn u) H1 → va_D A (wn u) → va_S A s.heap H1 locs1 → W p l e R s m args below meth c H1 locs1 cells slots Q (F0 m (pc + 3) ls rest)) : W p l e R s m args below meth c H locs cells slots Q (F0 m pc ls st0) := by
  have hF := va_free (wc := wt u0) hD hS hA isC hC2
  have hPc := hP.sub isC hC1
  have hDc := hD.sub isC hnC hC2
  refine va_callv (va_runV S hM (cw_V S.2.2.2.2 ok hR) ⟨blind_pc blind_mW, hrecv, fun U h1 h2 => ⟨rfl, by rw [h1], by rw [h1]; exact hPc, va_K.moved h2.alike hK, hDc.weaken (fun _ _ _ _ => trivial)⟩⟩ rfl hn hsize hst (lv_room hroom) hdg hc) hS (fun q _ h => hF q h) hF (fun u t H1 locs1 ht hvm hw hB hz1 hk1 hS1 => ?_)
  obtain ⟨hP1, hK1, hD1⟩ := hB
  rw [ht] at hP1
  obtain ⟨hP2, hD2⟩ := va_join (wr := wr) (w1 := wt u) hP hD isC isR hC2 hR1 hnR hdis hk1 hF hP1 hD1
  exact kk u H1 locs1 hw (hP2.sub perm (hp1 u)) (hD2.sub perm hnp (hp2 u)) hS1
theorem sc_i {St : Type} {D : va_G} {cI : ClassId} {wt wn : St → va_W} {u0 : St} {ws wr : va_W} {own C : String} {index ml n fr lo b0 : Nat} {y : MethodName} {b : ByteArray} {rt : Option FieldType} {post : Int32 → St → Prop} (S : CallFix p m c cc nL s args aW own)
    (hM : Met l y (Cond.code y b ml rt :: aW) { frames := fr, cells := 0, slots := 0, locals := lo } (va_Pc (.ref b0 :: As) (mW D (wt u0) cI H.size)) (va_Qi post (mB D wt cI (va_A (wt u0) H.size)) (va_A (wt u0) H.size)) 0 0 (va_A (wt u0) H.size))
    (ok : okV own index C y b ml rt n) (hR : roomy fr lo ml R) (hrecv : ∃ cell : Cell, H[b0]? = some cell ∧ cell.vm.isStatics = false ∧ s.vm.findClass C = some cell.cls)
    (hP : va_P D classes ws H) (hK : va_K D classes [(cI, .int)] s) (hD : va_D A ws) (hS : va_S A s.heap H locs) (hA : ∀ q, s.heap.size ≤ q → A q)
    (isC isR perm : List Nat) (hC1 : isC.filterMap (fun i => ws[i]?) = wt u0) (hC2 : isC.map (fun i => ws[i]?) = (wt u0).map some) (hnC : va_nd isC = true) (hR1 : isR.map (fun i => ws[i]?) = wr.map some) (hnR : va_nd isR = true) (hdis : ∀ i ∈ isR, i ∉ isC)
    (hp1 : ∀ u, perm.filterMap (fun i => (wr ++ wt u)[i]?) = wn u) (hp2 : ∀ u, perm.map (fun i => (wr ++ wt u)[i]?) = (wn u).map some) (hnp : va_nd perm = true)
    (hn : As.length = n) (hsize : ls.size = nL) (hst : st0 = As.reverse ++ .ref b0 :: rest) (hroom : (rest.map fun v => v.category).sum ≤ 8) (hdg : decode cc pc = .ok (.invokevirtual index, 3)) (hc : cells ≤ R.cells ∧ slots ≤ R.slots)
    (kk : ∀ (r : Int32) (u : St) (H1 : Heap) (locs1 : List Loc), post r u → va_P D classes (wn u) H1 → va_D A (wn u) → va_S A s.heap H1 locs1 → W p l e R s m args below meth c H1 locs1 cells slots Q (F0 m (pc + 3) ls (.int r :: rest))) : W p l e R s m args below meth c H locs cells slots Q (F0 m pc ls st0) := by
  have hF := va_free (wc := wt u0) hD hS hA isC hC2
  have hPc := hP.sub isC hC1
  have hDc := hD.sub isC hnC hC2
  refine va_calli (va_runV S hM (cw_V S.2.2.2.2 ok hR) ⟨blind_pc blind_mW, hrecv, fun U h1 h2 => ⟨rfl, by rw [h1], by rw [h1]; exact hPc, va_K.moved h2.alike hK, hDc.weaken (fun _ _ _ _ => trivial)⟩⟩ rfl hn hsize hst (lv_room hroom) hdg hc) hS (fun q _ h => hF q h) hF (fun r u t H1 locs1 ht hvm hw hB hz1 hk1 hS1 => ?_)
  obtain ⟨hP1, hK1, hD1⟩ := hB
  rw [ht] at hP1
  obtain ⟨hP2, hD2⟩ := va_join (wr := wr) (w1 := wt u) hP hD isC isR hC2 hR1 hnR hdis hk1 hF hP1 hD1
  exact kk r u H1 locs1 hw (hP2.sub perm (hp1 u)) (hD2.sub perm hnp (hp2 u)) hS1
end MC

