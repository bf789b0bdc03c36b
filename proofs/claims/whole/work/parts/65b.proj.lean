/-! PURE: the parts of what is read, after a step. -/
theorem add_K {S : GS} {e : Bool} {b nl en : Nat} {cs : List Int32} : (S.add e b nl en cs).K = (S.K + 1) := rfl
theorem add_el {S : GS} {e : Bool} {b nl en : Nat} {cs : List Int32} : (S.add e b nl en cs).el = (va_up S.el S.K e) := rfl
theorem add_bg {S : GS} {e : Bool} {b nl en : Nat} {cs : List Int32} : (S.add e b nl en cs).bg = (va_up S.bg S.K b) := rfl
theorem add_nl {S : GS} {e : Bool} {b nl en : Nat} {cs : List Int32} : (S.add e b nl en cs).nl = (va_up S.nl S.K nl) := rfl
theorem add_en {S : GS} {e : Bool} {b nl en : Nat} {cs : List Int32} : (S.add e b nl en cs).en = (va_up S.en S.K en) := rfl
theorem add_cs {S : GS} {e : Bool} {b nl en : Nat} {cs : List Int32} : (S.add e b nl en cs).cs = (va_up S.cs S.K cs) := rfl
theorem add_as {S : GS} {e : Bool} {b nl en : Nat} {cs : List Int32} : (S.add e b nl en cs).as = (va_up S.as S.K []) := rfl
theorem add_up {S : GS} {e : Bool} {b nl en : Nat} {cs : List Int32} : (S.add e b nl en cs).up = (va_up S.up S.K (hd S.op)) := rfl
theorem add_fs {S : GS} {e : Bool} {b nl en : Nat} {cs : List Int32} : (S.add e b nl en cs).fs = (va_up S.fs1 S.K (-1)) := rfl
theorem add_nx {S : GS} {e : Bool} {b nl en : Nat} {cs : List Int32} : (S.add e b nl en cs).nx = (va_up S.nx1 S.K (-1)) := rfl
theorem add_ls {S : GS} {e : Bool} {b nl en : Nat} {cs : List Int32} : (S.add e b nl en cs).ls = (va_up S.ls1 S.K (-1)) := rfl
theorem add_pa {S : GS} {e : Bool} {b nl en : Nat} {cs : List Int32} : (S.add e b nl en cs).pa = (va_up S.pa S.K (-1)) := rfl
theorem add_dp {S : GS} {e : Bool} {b nl en : Nat} {cs : List Int32} : (S.add e b nl en cs).dp = (va_up S.dp S.K (S.op.length + 1)) := rfl
theorem add_op {S : GS} {e : Bool} {b nl en : Nat} {cs : List Int32} : (S.add e b nl en cs).op = S.op := rfl
theorem add_at_ {S : GS} {e : Bool} {b nl en : Nat} {cs : List Int32} : (S.add e b nl en cs).at_ = S.at_ := rfl
theorem add_it {S : GS} {e : Bool} {b nl en : Nat} {cs : List Int32} : (S.add e b nl en cs).it = S.it := rfl
theorem add_E {S : GS} {e : Bool} {b nl en : Nat} {cs : List Int32} : (S.add e b nl en cs).E = S.E := rfl
theorem add_X {S : GS} {e : Bool} {b nl en : Nat} {cs : List Int32} : (S.add e b nl en cs).X = S.X := rfl
theorem add_F {S : GS} {e : Bool} {b nl en : Nat} {cs : List Int32} : (S.add e b nl en cs).F = S.F := rfl
theorem addEl_K {S : GS} {b nl p : Nat} : (S.addEl b nl p).K = (S.K + 1) := rfl
theorem addEl_el {S : GS} {b nl p : Nat} : (S.addEl b nl p).el = (va_up S.el S.K true) := rfl
theorem addEl_bg {S : GS} {b nl p : Nat} : (S.addEl b nl p).bg = (va_up S.bg S.K b) := rfl
theorem addEl_nl {S : GS} {b nl p : Nat} : (S.addEl b nl p).nl = (va_up S.nl S.K nl) := rfl
theorem addEl_en {S : GS} {b nl p : Nat} : (S.addEl b nl p).en = (va_up S.en S.K 0) := rfl
theorem addEl_cs {S : GS} {b nl p : Nat} : (S.addEl b nl p).cs = (va_up S.cs S.K []) := rfl
theorem addEl_as {S : GS} {b nl p : Nat} : (S.addEl b nl p).as = (va_up S.as S.K []) := rfl
theorem addEl_up {S : GS} {b nl p : Nat} : (S.addEl b nl p).up = (va_up S.up S.K (hd S.op)) := rfl
theorem addEl_fs {S : GS} {b nl p : Nat} : (S.addEl b nl p).fs = (va_up S.fs1 S.K (-1)) := rfl
theorem addEl_nx {S : GS} {b nl p : Nat} : (S.addEl b nl p).nx = (va_up S.nx1 S.K (-1)) := rfl
theorem addEl_ls {S : GS} {b nl p : Nat} : (S.addEl b nl p).ls = (va_up S.ls1 S.K (-1)) := rfl
theorem addEl_pa {S : GS} {b nl p : Nat} : (S.addEl b nl p).pa = (va_up S.pa S.K (-1)) := rfl
theorem addEl_dp {S : GS} {b nl p : Nat} : (S.addEl b nl p).dp = (va_up S.dp S.K (S.op.length + 1)) := rfl
theorem addEl_op {S : GS} {b nl p : Nat} : (S.addEl b nl p).op = (S.K :: S.op) := rfl
theorem addEl_at_ {S : GS} {b nl p : Nat} : (S.addEl b nl p).at_ = p := rfl
theorem addEl_it {S : GS} {b nl p : Nat} : (S.addEl b nl p).it = true := rfl
theorem addEl_E {S : GS} {b nl p : Nat} : (S.addEl b nl p).E = (S.E + 1) := rfl
theorem addEl_X {S : GS} {b nl p : Nat} : (S.addEl b nl p).X = S.X := rfl
theorem addEl_F {S : GS} {b nl p : Nat} : (S.addEl b nl p).F = S.F := rfl
theorem addTx_K {S : GS} {b e : Nat} {cs : List Int32} : (S.addTx b e cs).K = (S.K + 1) := rfl
theorem addTx_el {S : GS} {b e : Nat} {cs : List Int32} : (S.addTx b e cs).el = (va_up S.el S.K false) := rfl
theorem addTx_bg {S : GS} {b e : Nat} {cs : List Int32} : (S.addTx b e cs).bg = (va_up S.bg S.K b) := rfl
theorem addTx_nl {S : GS} {b e : Nat} {cs : List Int32} : (S.addTx b e cs).nl = (va_up S.nl S.K 0) := rfl
theorem addTx_en {S : GS} {b e : Nat} {cs : List Int32} : (S.addTx b e cs).en = (va_up S.en S.K e) := rfl
theorem addTx_cs {S : GS} {b e : Nat} {cs : List Int32} : (S.addTx b e cs).cs = (va_up S.cs S.K cs) := rfl
theorem addTx_as {S : GS} {b e : Nat} {cs : List Int32} : (S.addTx b e cs).as = (va_up S.as S.K []) := rfl
theorem addTx_up {S : GS} {b e : Nat} {cs : List Int32} : (S.addTx b e cs).up = (va_up S.up S.K (hd S.op)) := rfl
theorem addTx_fs {S : GS} {b e : Nat} {cs : List Int32} : (S.addTx b e cs).fs = (va_up S.fs1 S.K (-1)) := rfl
theorem addTx_nx {S : GS} {b e : Nat} {cs : List Int32} : (S.addTx b e cs).nx = (va_up S.nx1 S.K (-1)) := rfl
theorem addTx_ls {S : GS} {b e : Nat} {cs : List Int32} : (S.addTx b e cs).ls = (va_up S.ls1 S.K (-1)) := rfl
theorem addTx_pa {S : GS} {b e : Nat} {cs : List Int32} : (S.addTx b e cs).pa = (va_up S.pa S.K (nI (S.K + 1))) := rfl
theorem addTx_dp {S : GS} {b e : Nat} {cs : List Int32} : (S.addTx b e cs).dp = (va_up S.dp S.K (S.op.length + 1)) := rfl
theorem addTx_op {S : GS} {b e : Nat} {cs : List Int32} : (S.addTx b e cs).op = S.op := rfl
theorem addTx_at_ {S : GS} {b e : Nat} {cs : List Int32} : (S.addTx b e cs).at_ = e := rfl
theorem addTx_it {S : GS} {b e : Nat} {cs : List Int32} : (S.addTx b e cs).it = S.it := rfl
theorem addTx_E {S : GS} {b e : Nat} {cs : List Int32} : (S.addTx b e cs).E = S.E := rfl
theorem addTx_X {S : GS} {b e : Nat} {cs : List Int32} : (S.addTx b e cs).X = (S.X + 1) := rfl
theorem addTx_F {S : GS} {b e : Nat} {cs : List Int32} : (S.addTx b e cs).F = S.F := rfl
theorem addAt_K {S : GS} {k : Nat} {a : Att} : (S.addAt k a).K = S.K := rfl
theorem addAt_el {S : GS} {k : Nat} {a : Att} : (S.addAt k a).el = S.el := rfl
theorem addAt_bg {S : GS} {k : Nat} {a : Att} : (S.addAt k a).bg = S.bg := rfl
theorem addAt_nl {S : GS} {k : Nat} {a : Att} : (S.addAt k a).nl = S.nl := rfl
theorem addAt_en {S : GS} {k : Nat} {a : Att} : (S.addAt k a).en = S.en := rfl
theorem addAt_cs {S : GS} {k : Nat} {a : Att} : (S.addAt k a).cs = S.cs := rfl
theorem addAt_as {S : GS} {k : Nat} {a : Att} : (S.addAt k a).as = (va_up S.as k (S.as k ++ [a])) := rfl
theorem addAt_up {S : GS} {k : Nat} {a : Att} : (S.addAt k a).up = S.up := rfl
theorem addAt_fs {S : GS} {k : Nat} {a : Att} : (S.addAt k a).fs = S.fs := rfl
theorem addAt_nx {S : GS} {k : Nat} {a : Att} : (S.addAt k a).nx = S.nx := rfl
theorem addAt_ls {S : GS} {k : Nat} {a : Att} : (S.addAt k a).ls = S.ls := rfl
theorem addAt_pa {S : GS} {k : Nat} {a : Att} : (S.addAt k a).pa = S.pa := rfl
theorem addAt_dp {S : GS} {k : Nat} {a : Att} : (S.addAt k a).dp = S.dp := rfl
theorem addAt_op {S : GS} {k : Nat} {a : Att} : (S.addAt k a).op = S.op := rfl
theorem addAt_at_ {S : GS} {k : Nat} {a : Att} : (S.addAt k a).at_ = (a.ve + 1) := rfl
theorem addAt_it {S : GS} {k : Nat} {a : Att} : (S.addAt k a).it = S.it := rfl
theorem addAt_E {S : GS} {k : Nat} {a : Att} : (S.addAt k a).E = S.E := rfl
theorem addAt_X {S : GS} {k : Nat} {a : Att} : (S.addAt k a).X = S.X := rfl
theorem addAt_F {S : GS} {k : Nat} {a : Att} : (S.addAt k a).F = S.F := rfl
theorem tagEnd_K {S : GS} {p : Nat} : (S.tagEnd p).K = S.K := rfl
theorem tagEnd_el {S : GS} {p : Nat} : (S.tagEnd p).el = S.el := rfl
theorem tagEnd_bg {S : GS} {p : Nat} : (S.tagEnd p).bg = S.bg := rfl
theorem tagEnd_nl {S : GS} {p : Nat} : (S.tagEnd p).nl = S.nl := rfl
theorem tagEnd_en {S : GS} {p : Nat} : (S.tagEnd p).en = S.en := rfl
theorem tagEnd_cs {S : GS} {p : Nat} : (S.tagEnd p).cs = S.cs := rfl
theorem tagEnd_as {S : GS} {p : Nat} : (S.tagEnd p).as = S.as := rfl
theorem tagEnd_up {S : GS} {p : Nat} : (S.tagEnd p).up = S.up := rfl
theorem tagEnd_fs {S : GS} {p : Nat} : (S.tagEnd p).fs = S.fs := rfl
theorem tagEnd_nx {S : GS} {p : Nat} : (S.tagEnd p).nx = S.nx := rfl
theorem tagEnd_ls {S : GS} {p : Nat} : (S.tagEnd p).ls = S.ls := rfl
theorem tagEnd_pa {S : GS} {p : Nat} : (S.tagEnd p).pa = S.pa := rfl
theorem tagEnd_dp {S : GS} {p : Nat} : (S.tagEnd p).dp = S.dp := rfl
theorem tagEnd_op {S : GS} {p : Nat} : (S.tagEnd p).op = S.op := rfl
theorem tagEnd_at_ {S : GS} {p : Nat} : (S.tagEnd p).at_ = p := rfl
theorem tagEnd_it {S : GS} {p : Nat} : (S.tagEnd p).it = false := rfl
theorem tagEnd_E {S : GS} {p : Nat} : (S.tagEnd p).E = S.E := rfl
theorem tagEnd_X {S : GS} {p : Nat} : (S.tagEnd p).X = S.X := rfl
theorem tagEnd_F {S : GS} {p : Nat} : (S.tagEnd p).F = S.F := rfl
theorem shut_K {S : GS} {k p f : Nat} : (S.shut k p f).K = S.K := rfl
theorem shut_el {S : GS} {k p f : Nat} : (S.shut k p f).el = S.el := rfl
theorem shut_bg {S : GS} {k p f : Nat} : (S.shut k p f).bg = S.bg := rfl
theorem shut_nl {S : GS} {k p f : Nat} : (S.shut k p f).nl = S.nl := rfl
theorem shut_en {S : GS} {k p f : Nat} : (S.shut k p f).en = S.en := rfl
theorem shut_cs {S : GS} {k p f : Nat} : (S.shut k p f).cs = S.cs := rfl
theorem shut_as {S : GS} {k p f : Nat} : (S.shut k p f).as = S.as := rfl
theorem shut_up {S : GS} {k p f : Nat} : (S.shut k p f).up = S.up := rfl
theorem shut_fs {S : GS} {k p f : Nat} : (S.shut k p f).fs = S.fs := rfl
theorem shut_nx {S : GS} {k p f : Nat} : (S.shut k p f).nx = S.nx := rfl
theorem shut_ls {S : GS} {k p f : Nat} : (S.shut k p f).ls = S.ls := rfl
theorem shut_pa {S : GS} {k p f : Nat} : (S.shut k p f).pa = (va_up S.pa k (nI S.K)) := rfl
theorem shut_dp {S : GS} {k p f : Nat} : (S.shut k p f).dp = S.dp := rfl
theorem shut_op {S : GS} {k p f : Nat} : (S.shut k p f).op = S.op.tail := rfl
theorem shut_at_ {S : GS} {k p f : Nat} : (S.shut k p f).at_ = p := rfl
theorem shut_it {S : GS} {k p f : Nat} : (S.shut k p f).it = false := rfl
theorem shut_E {S : GS} {k p f : Nat} : (S.shut k p f).E = S.E := rfl
theorem shut_X {S : GS} {k p f : Nat} : (S.shut k p f).X = S.X := rfl
theorem shut_F {S : GS} {k p f : Nat} : (S.shut k p f).F = (S.F + f) := rfl
