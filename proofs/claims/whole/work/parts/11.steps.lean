def rd (w : Wd) (c : Nat) (i : Int32) : Int32 := w.1 c i.toNatClampNeg
def rdL (w : Wd) (c : Nat) (i : Int32) : Int64 := w.2 c i.toNatClampNeg
def wr (w : Wd) (c : Nat) (i v : Int32) : Wd := upI w c i.toNatClampNeg v
def wrL (w : Wd) (c : Nat) (i : Int32) (v : Int64) : Wd := upL w c i.toNatClampNeg v
def ro (c : Nat) (i : Int32) : Int32 := (roV.getD (c - 100) []).getD i.toNatClampNeg 0
def chS (c : Nat) (i : Int32) : Int32 := (sByt.getD (c - 200) []).getD i.toNatClampNeg 0
def cpy (w : Wd) (c : Nat) (f : Nat → Int32) (sp dp n : Int32) : Wd := cpI w c f sp.toNatClampNeg dp.toNatClampNeg n.toNatClampNeg
def cpyL (w : Wd) (c : Nat) (f : Nat → Int64) (sp dp n : Int32) : Wd := cpL w c f sp.toNatClampNeg dp.toNatClampNeg n.toNatClampNeg
theorem r_pushI {K : Kt} {l : List (Nat × (Op ⊕ Nat))} {pc nx : Nat} {L st : List Value} {w : Wd} {x : Int32} (ha : tl K l pc = o_pushI x nx) (h : RR (tl K l) nx L (.int x :: st) w) : RR (tl K l) pc L (st) w := RR.step ha (m_pushI x nx) h
theorem r_pushL {K : Kt} {l : List (Nat × (Op ⊕ Nat))} {pc nx : Nat} {L st : List Value} {w : Wd} {x : Int64} (ha : tl K l pc = o_pushL x nx) (h : RR (tl K l) nx L (.long x :: st) w) : RR (tl K l) pc L (st) w := RR.step ha (m_pushL x nx) h
theorem r_pushR {K : Kt} {l : List (Nat × (Op ⊕ Nat))} {pc nx : Nat} {L st : List Value} {w : Wd} {x : Nat} (ha : tl K l pc = o_pushR x nx) (h : RR (tl K l) nx L (.ref x :: st) w) : RR (tl K l) pc L (st) w := RR.step ha (m_pushR x nx) h
theorem r_iload {K : Kt} {l : List (Nat × (Op ⊕ Nat))} {pc nx : Nat} {L st : List Value} {w : Wd} {i : Nat} {x : Int32} (ha : tl K l pc = o_iload i nx) (hL : L.getD i .null = .int x) (h : RR (tl K l) nx L (.int x :: st) w) : RR (tl K l) pc L (st) w := RR.step ha (m_iload i nx) (by unfold o_iload; rw [hL]; exact h)
theorem r_lload {K : Kt} {l : List (Nat × (Op ⊕ Nat))} {pc nx : Nat} {L st : List Value} {w : Wd} {i : Nat} {x : Int64} (ha : tl K l pc = o_lload i nx) (hL : L.getD i .null = .long x) (h : RR (tl K l) nx L (.long x :: st) w) : RR (tl K l) pc L (st) w := RR.step ha (m_lload i nx) (by unfold o_lload; rw [hL]; exact h)
theorem r_aload {K : Kt} {l : List (Nat × (Op ⊕ Nat))} {pc nx : Nat} {L st : List Value} {w : Wd} {i : Nat} {x : Nat} (ha : tl K l pc = o_aload i nx) (hL : L.getD i .null = .ref x) (h : RR (tl K l) nx L (.ref x :: st) w) : RR (tl K l) pc L (st) w := RR.step ha (m_aload i nx) (by unfold o_aload; rw [hL]; exact h)
theorem r_istore {K : Kt} {l : List (Nat × (Op ⊕ Nat))} {pc nx : Nat} {L st : List Value} {w : Wd} {i : Nat} {x : Int32} {L1 : List Value} (ha : tl K l pc = o_istore i nx) (hL : stI L i (.int x) = L1) (h : RR (tl K l) nx L1 (st) w) : RR (tl K l) pc L (.int x :: st) w := RR.step ha (m_istore i nx) (by show RR (tl K l) nx (stI L i (.int x)) st w; rw [hL]; exact h)
theorem r_lstore {K : Kt} {l : List (Nat × (Op ⊕ Nat))} {pc nx : Nat} {L st : List Value} {w : Wd} {i : Nat} {x : Int64} {L1 : List Value} (ha : tl K l pc = o_lstore i nx) (hL : stL L i (.long x) = L1) (h : RR (tl K l) nx L1 (st) w) : RR (tl K l) pc L (.long x :: st) w := RR.step ha (m_lstore i nx) (by show RR (tl K l) nx (stL L i (.long x)) st w; rw [hL]; exact h)
theorem r_iinc {K : Kt} {l : List (Nat × (Op ⊕ Nat))} {pc nx : Nat} {L st : List Value} {w : Wd} {i : Nat} {a x : Int32} {L1 : List Value} (ha : tl K l pc = o_iinc i a nx) (hx : L.getD i .null = .int x) (hL : stI L i (.int (x + a)) = L1) (h : RR (tl K l) nx L1 (st) w) : RR (tl K l) pc L (st) w := RR.step ha (m_iinc i a nx) (by unfold o_iinc; rw [hx]; show RR (tl K l) nx (stI L i (.int (x + a))) st w; rw [hL]; exact h)
theorem r_iadd {K : Kt} {l : List (Nat × (Op ⊕ Nat))} {pc nx : Nat} {L st : List Value} {w : Wd} {x y : Int32} (ha : tl K l pc = o_iadd nx) (h : RR (tl K l) nx L (.int (x + y) :: st) w) : RR (tl K l) pc L (.int y :: .int x :: st) w := RR.step ha (m_iadd nx) h
theorem r_isub {K : Kt} {l : List (Nat × (Op ⊕ Nat))} {pc nx : Nat} {L st : List Value} {w : Wd} {x y : Int32} (ha : tl K l pc = o_isub nx) (h : RR (tl K l) nx L (.int (x - y) :: st) w) : RR (tl K l) pc L (.int y :: .int x :: st) w := RR.step ha (m_isub nx) h
theorem r_imul {K : Kt} {l : List (Nat × (Op ⊕ Nat))} {pc nx : Nat} {L st : List Value} {w : Wd} {x y : Int32} (ha : tl K l pc = o_imul nx) (h : RR (tl K l) nx L (.int (x * y) :: st) w) : RR (tl K l) pc L (.int y :: .int x :: st) w := RR.step ha (m_imul nx) h
theorem r_iand {K : Kt} {l : List (Nat × (Op ⊕ Nat))} {pc nx : Nat} {L st : List Value} {w : Wd} {x y : Int32} (ha : tl K l pc = o_iand nx) (h : RR (tl K l) nx L (.int (x &&& y) :: st) w) : RR (tl K l) pc L (.int y :: .int x :: st) w := RR.step ha (m_iand nx) h
theorem r_ior {K : Kt} {l : List (Nat × (Op ⊕ Nat))} {pc nx : Nat} {L st : List Value} {w : Wd} {x y : Int32} (ha : tl K l pc = o_ior nx) (h : RR (tl K l) nx L (.int (x ||| y) :: st) w) : RR (tl K l) pc L (.int y :: .int x :: st) w := RR.step ha (m_ior nx) h
theorem r_ixor {K : Kt} {l : List (Nat × (Op ⊕ Nat))} {pc nx : Nat} {L st : List Value} {w : Wd} {x y : Int32} (ha : tl K l pc = o_ixor nx) (h : RR (tl K l) nx L (.int (x ^^^ y) :: st) w) : RR (tl K l) pc L (.int y :: .int x :: st) w := RR.step ha (m_ixor nx) h
theorem r_ishl {K : Kt} {l : List (Nat × (Op ⊕ Nat))} {pc nx : Nat} {L st : List Value} {w : Wd} {x y : Int32} (ha : tl K l pc = o_ishl nx) (h : RR (tl K l) nx L (.int (x <<< (y &&& 31)) :: st) w) : RR (tl K l) pc L (.int y :: .int x :: st) w := RR.step ha (m_ishl nx) h
theorem r_ishr {K : Kt} {l : List (Nat × (Op ⊕ Nat))} {pc nx : Nat} {L st : List Value} {w : Wd} {x y : Int32} (ha : tl K l pc = o_ishr nx) (h : RR (tl K l) nx L (.int (x >>> (y &&& 31)) :: st) w) : RR (tl K l) pc L (.int y :: .int x :: st) w := RR.step ha (m_ishr nx) h
theorem r_iushr {K : Kt} {l : List (Nat × (Op ⊕ Nat))} {pc nx : Nat} {L st : List Value} {w : Wd} {x y : Int32} (ha : tl K l pc = o_iushr nx) (h : RR (tl K l) nx L (.int ((x.toUInt32 >>> (y.toUInt32 &&& Int32.toUInt32 31)).toInt32) :: st) w) : RR (tl K l) pc L (.int y :: .int x :: st) w := RR.step ha (m_iushr nx) h
theorem r_idiv {K : Kt} {l : List (Nat × (Op ⊕ Nat))} {pc nx : Nat} {L st : List Value} {w : Wd} {x y : Int32} (ha : tl K l pc = o_idiv nx) (hy : ¬ y = 0) (h : RR (tl K l) nx L (.int (x / y) :: st) w) : RR (tl K l) pc L (.int y :: .int x :: st) w := RR.step ha (m_idiv nx) ⟨hy, h⟩
theorem r_irem {K : Kt} {l : List (Nat × (Op ⊕ Nat))} {pc nx : Nat} {L st : List Value} {w : Wd} {x y : Int32} (ha : tl K l pc = o_irem nx) (hy : ¬ y = 0) (h : RR (tl K l) nx L (.int (x - x / y * y) :: st) w) : RR (tl K l) pc L (.int y :: .int x :: st) w := RR.step ha (m_irem nx) ⟨hy, h⟩
theorem r_lmul {K : Kt} {l : List (Nat × (Op ⊕ Nat))} {pc nx : Nat} {L st : List Value} {w : Wd} {x y : Int64} (ha : tl K l pc = o_lmul nx) (h : RR (tl K l) nx L (.long (x * y) :: st) w) : RR (tl K l) pc L (.long y :: .long x :: st) w := RR.step ha (m_lmul nx) h
theorem r_lor {K : Kt} {l : List (Nat × (Op ⊕ Nat))} {pc nx : Nat} {L st : List Value} {w : Wd} {x y : Int64} (ha : tl K l pc = o_lor nx) (h : RR (tl K l) nx L (.long (x ||| y) :: st) w) : RR (tl K l) pc L (.long y :: .long x :: st) w := RR.step ha (m_lor nx) h
theorem r_ldiv {K : Kt} {l : List (Nat × (Op ⊕ Nat))} {pc nx : Nat} {L st : List Value} {w : Wd} {x y : Int64} (ha : tl K l pc = o_ldiv nx) (hy : ¬ y = 0) (h : RR (tl K l) nx L (.long (x / y) :: st) w) : RR (tl K l) pc L (.long y :: .long x :: st) w := RR.step ha (m_ldiv nx) ⟨hy, h⟩
theorem r_lrem {K : Kt} {l : List (Nat × (Op ⊕ Nat))} {pc nx : Nat} {L st : List Value} {w : Wd} {x y : Int64} (ha : tl K l pc = o_lrem nx) (hy : ¬ y = 0) (h : RR (tl K l) nx L (.long (x - x / y * y) :: st) w) : RR (tl K l) pc L (.long y :: .long x :: st) w := RR.step ha (m_lrem nx) ⟨hy, h⟩
theorem r_lshl {K : Kt} {l : List (Nat × (Op ⊕ Nat))} {pc nx : Nat} {L st : List Value} {w : Wd} {x : Int64} {y : Int32} (ha : tl K l pc = o_lshl nx) (h : RR (tl K l) nx L (.long (x <<< (y.toInt64 &&& 63)) :: st) w) : RR (tl K l) pc L (.int y :: .long x :: st) w := RR.step ha (m_lshl nx) h
theorem r_lcmp {K : Kt} {l : List (Nat × (Op ⊕ Nat))} {pc nx : Nat} {L st : List Value} {w : Wd} {x y : Int64} (ha : tl K l pc = o_lcmp nx) (h : RR (tl K l) nx L (.int (lg_cmp x y) :: st) w) : RR (tl K l) pc L (.long y :: .long x :: st) w := RR.step ha (m_lcmp nx) h
theorem r_i2l {K : Kt} {l : List (Nat × (Op ⊕ Nat))} {pc nx : Nat} {L st : List Value} {w : Wd} {x : Int32} (ha : tl K l pc = o_i2l nx) (h : RR (tl K l) nx L (.long x.toInt64 :: st) w) : RR (tl K l) pc L (.int x :: st) w := RR.step ha (m_i2l nx) h
theorem r_i2b {K : Kt} {l : List (Nat × (Op ⊕ Nat))} {pc nx : Nat} {L st : List Value} {w : Wd} {x : Int32} (ha : tl K l pc = o_i2b nx) (h : RR (tl K l) nx L (.int x.toInt8.toInt32 :: st) w) : RR (tl K l) pc L (.int x :: st) w := RR.step ha (m_i2b nx) h
theorem r_dupI {K : Kt} {l : List (Nat × (Op ⊕ Nat))} {pc nx : Nat} {L st : List Value} {w : Wd} {x : Int32} (ha : tl K l pc = o_dup nx) (h : RR (tl K l) nx L (.int x :: .int x :: st) w) : RR (tl K l) pc L (.int x :: st) w := RR.step ha (m_dup nx) h
theorem r_dupR {K : Kt} {l : List (Nat × (Op ⊕ Nat))} {pc nx : Nat} {L st : List Value} {w : Wd} {x : Nat} (ha : tl K l pc = o_dup nx) (h : RR (tl K l) nx L (.ref x :: .ref x :: st) w) : RR (tl K l) pc L (.ref x :: st) w := RR.step ha (m_dup nx) h
theorem r_pop {K : Kt} {l : List (Nat × (Op ⊕ Nat))} {pc nx : Nat} {L st : List Value} {w : Wd} {x : Int32} (ha : tl K l pc = o_pop nx) (h : RR (tl K l) nx L (st) w) : RR (tl K l) pc L (.int x :: st) w := RR.step ha (m_pop nx) h
theorem r_dup2 {K : Kt} {l : List (Nat × (Op ⊕ Nat))} {pc nx : Nat} {L st : List Value} {w : Wd} {y : Int32} {x : Nat} (ha : tl K l pc = o_dup2 nx) (h : RR (tl K l) nx L (.int y :: .ref x :: .int y :: .ref x :: st) w) : RR (tl K l) pc L (.int y :: .ref x :: st) w := RR.step ha (m_dup2 nx) h
theorem r_if_eq {K : Kt} {l : List (Nat × (Op ⊕ Nat))} {pc nx : Nat} {L st : List Value} {w : Wd} {tg : Nat} {x : Int32} (ha : tl K l pc = o_if_eq tg nx) (h1 : x = 0 → RR (tl K l) tg L st w) (h2 : ¬ (x = 0) → RR (tl K l) nx L st w) : RR (tl K l) pc L (.int x :: st) w := RR.step ha (m_if_eq tg nx) ⟨h1, h2⟩
theorem r_if_ne {K : Kt} {l : List (Nat × (Op ⊕ Nat))} {pc nx : Nat} {L st : List Value} {w : Wd} {tg : Nat} {x : Int32} (ha : tl K l pc = o_if_ne tg nx) (h1 : ¬ x = 0 → RR (tl K l) tg L st w) (h2 : x = 0 → RR (tl K l) nx L st w) : RR (tl K l) pc L (.int x :: st) w := RR.step ha (m_if_ne tg nx) ⟨h1, h2⟩
theorem r_if_lt {K : Kt} {l : List (Nat × (Op ⊕ Nat))} {pc nx : Nat} {L st : List Value} {w : Wd} {tg : Nat} {x : Int32} (ha : tl K l pc = o_if_lt tg nx) (h1 : x < 0 → RR (tl K l) tg L st w) (h2 : ¬ (x < 0) → RR (tl K l) nx L st w) : RR (tl K l) pc L (.int x :: st) w := RR.step ha (m_if_lt tg nx) ⟨h1, h2⟩
theorem r_if_ge {K : Kt} {l : List (Nat × (Op ⊕ Nat))} {pc nx : Nat} {L st : List Value} {w : Wd} {tg : Nat} {x : Int32} (ha : tl K l pc = o_if_ge tg nx) (h1 : 0 ≤ x → RR (tl K l) tg L st w) (h2 : ¬ (0 ≤ x) → RR (tl K l) nx L st w) : RR (tl K l) pc L (.int x :: st) w := RR.step ha (m_if_ge tg nx) ⟨h1, h2⟩
theorem r_if_gt {K : Kt} {l : List (Nat × (Op ⊕ Nat))} {pc nx : Nat} {L st : List Value} {w : Wd} {tg : Nat} {x : Int32} (ha : tl K l pc = o_if_gt tg nx) (h1 : 0 < x → RR (tl K l) tg L st w) (h2 : ¬ (0 < x) → RR (tl K l) nx L st w) : RR (tl K l) pc L (.int x :: st) w := RR.step ha (m_if_gt tg nx) ⟨h1, h2⟩
theorem r_if_le {K : Kt} {l : List (Nat × (Op ⊕ Nat))} {pc nx : Nat} {L st : List Value} {w : Wd} {tg : Nat} {x : Int32} (ha : tl K l pc = o_if_le tg nx) (h1 : x ≤ 0 → RR (tl K l) tg L st w) (h2 : ¬ (x ≤ 0) → RR (tl K l) nx L st w) : RR (tl K l) pc L (.int x :: st) w := RR.step ha (m_if_le tg nx) ⟨h1, h2⟩
theorem r_icmp_eq {K : Kt} {l : List (Nat × (Op ⊕ Nat))} {pc nx : Nat} {L st : List Value} {w : Wd} {tg : Nat} {x y : Int32} (ha : tl K l pc = o_icmp_eq tg nx) (h1 : x = y → RR (tl K l) tg L st w) (h2 : ¬ (x = y) → RR (tl K l) nx L st w) : RR (tl K l) pc L (.int y :: .int x :: st) w := RR.step ha (m_icmp_eq tg nx) ⟨h1, h2⟩
theorem r_icmp_ne {K : Kt} {l : List (Nat × (Op ⊕ Nat))} {pc nx : Nat} {L st : List Value} {w : Wd} {tg : Nat} {x y : Int32} (ha : tl K l pc = o_icmp_ne tg nx) (h1 : ¬ x = y → RR (tl K l) tg L st w) (h2 : x = y → RR (tl K l) nx L st w) : RR (tl K l) pc L (.int y :: .int x :: st) w := RR.step ha (m_icmp_ne tg nx) ⟨h1, h2⟩
theorem r_icmp_lt {K : Kt} {l : List (Nat × (Op ⊕ Nat))} {pc nx : Nat} {L st : List Value} {w : Wd} {tg : Nat} {x y : Int32} (ha : tl K l pc = o_icmp_lt tg nx) (h1 : x < y → RR (tl K l) tg L st w) (h2 : ¬ (x < y) → RR (tl K l) nx L st w) : RR (tl K l) pc L (.int y :: .int x :: st) w := RR.step ha (m_icmp_lt tg nx) ⟨h1, h2⟩
theorem r_icmp_ge {K : Kt} {l : List (Nat × (Op ⊕ Nat))} {pc nx : Nat} {L st : List Value} {w : Wd} {tg : Nat} {x y : Int32} (ha : tl K l pc = o_icmp_ge tg nx) (h1 : y ≤ x → RR (tl K l) tg L st w) (h2 : ¬ (y ≤ x) → RR (tl K l) nx L st w) : RR (tl K l) pc L (.int y :: .int x :: st) w := RR.step ha (m_icmp_ge tg nx) ⟨h1, h2⟩
theorem r_icmp_gt {K : Kt} {l : List (Nat × (Op ⊕ Nat))} {pc nx : Nat} {L st : List Value} {w : Wd} {tg : Nat} {x y : Int32} (ha : tl K l pc = o_icmp_gt tg nx) (h1 : y < x → RR (tl K l) tg L st w) (h2 : ¬ (y < x) → RR (tl K l) nx L st w) : RR (tl K l) pc L (.int y :: .int x :: st) w := RR.step ha (m_icmp_gt tg nx) ⟨h1, h2⟩
theorem r_icmp_le {K : Kt} {l : List (Nat × (Op ⊕ Nat))} {pc nx : Nat} {L st : List Value} {w : Wd} {tg : Nat} {x y : Int32} (ha : tl K l pc = o_icmp_le tg nx) (h1 : x ≤ y → RR (tl K l) tg L st w) (h2 : ¬ (x ≤ y) → RR (tl K l) nx L st w) : RR (tl K l) pc L (.int y :: .int x :: st) w := RR.step ha (m_icmp_le tg nx) ⟨h1, h2⟩
theorem r_goto {K : Kt} {l : List (Nat × (Op ⊕ Nat))} {pc tg : Nat} {L st : List Value} {w : Wd} (ha : tl K l pc = o_goto tg) (h : RR (tl K l) tg L st w) : RR (tl K l) pc L st w := RR.step ha (m_goto tg) h
theorem r_table {K : Kt} {l : List (Nat × (Op ⊕ Nat))} {pc df : Nat} {lo hi : Int} {tg : List Nat} {x : Int32} {L st : List Value} {w : Wd} (ha : tl K l pc = o_table lo hi df tg) (h1 : x.toInt < lo ∨ hi < x.toInt → RR (tl K l) df L st w) (h2 : ∀ (k t : Nat), tg[k]? = some t → x.toInt = lo + k → RR (tl K l) t L st w) : RR (tl K l) pc L (.int x :: st) w := RR.step ha (m_table lo hi df tg) ⟨h1, h2⟩
def gv (w : Wd) (x ci k : Nat) : Option Value := match shp[x]? with
  | some (.inr q) => bif q.1 == ci then (match q.2[k]? with
    | some kd => some (fvA w x k kd)
    | none => none) else none
  | _ => none
def isF (x ci k kd : Nat) : Bool := match shp[x]? with
  | some (.inr q) => q.1 == ci && q.2[k]? == some kd
  | _ => false
theorem r_get {K : Kt} {l : List (Nat × (Op ⊕ Nat))} {pc nx : Nat} {L st : List Value} {w : Wd} {x ci k : Nat} {v : Value} (ha : tl K l pc = o_get ci k nx) (hv : gv w x ci k = some v) (h : RR (tl K l) nx L (v :: st) w) : RR (tl K l) pc L (.ref x :: st) w := RR.step ha (m_get ci k nx) (by
  unfold gv at hv
  show (match shp[x]? with
    | some (.inr q) => bif q.1 == ci then (match q.2[k]? with
      | some kd => RR (tl K l) nx L (fvA w x k kd :: st) w
      | none => False) else False
    | _ => False)
  revert hv
  cases shp[x]? with
  | none => intro hv; cases hv
  | some q =>
    cases q with
    | inl a => intro hv; cases hv
    | inr q =>
      show (bif q.1 == ci then _ else _) = some v → (bif q.1 == ci then _ else _)
      cases (q.1 == ci)
      · intro hv; cases hv
      · show (match q.2[k]? with | some kd => some (fvA w x k kd) | none => none) = some v → (match q.2[k]? with | some kd => RR (tl K l) nx L (fvA w x k kd :: st) w | none => False)
        cases q.2[k]? with
        | none => intro hv; cases hv
        | some kd => intro hv; cases hv; exact h)
theorem r_putI {K : Kt} {l : List (Nat × (Op ⊕ Nat))} {pc nx : Nat} {L st : List Value} {w : Wd} {x ci k : Nat} {v : Int32} (ha : tl K l pc = o_putI ci k nx) (hv : isF x ci k 0 = true) (h : RR (tl K l) nx L (st) (upI w x k v)) : RR (tl K l) pc L (.int v :: .ref x :: st) w := RR.step ha (m_putI ci k nx) (by
  unfold isF at hv
  show (match shp[x]? with
    | some (.inr q) => bif q.1 == ci && q.2[k]? == some 0 then RR (tl K l) nx L st (upI w x k v) else False
    | _ => False)
  revert hv
  cases shp[x]? with
  | none => intro hv; cases hv
  | some q =>
    cases q with
    | inl a => intro hv; cases hv
    | inr q =>
      show (q.1 == ci && q.2[k]? == some 0) = true → (bif q.1 == ci && q.2[k]? == some 0 then _ else _)
      cases (q.1 == ci && q.2[k]? == some 0)
      · intro hv; cases hv
      · intro hv; exact h)
theorem r_putL {K : Kt} {l : List (Nat × (Op ⊕ Nat))} {pc nx : Nat} {L st : List Value} {w : Wd} {x ci k : Nat} {v : Int64} (ha : tl K l pc = o_putL ci k nx) (hv : isF x ci k 1 = true) (h : RR (tl K l) nx L (st) (upL w x k v)) : RR (tl K l) pc L (.long v :: .ref x :: st) w := RR.step ha (m_putL ci k nx) (by
  unfold isF at hv
  show (match shp[x]? with
    | some (.inr q) => bif q.1 == ci && q.2[k]? == some 1 then RR (tl K l) nx L st (upL w x k v) else False
    | _ => False)
  revert hv
  cases shp[x]? with
  | none => intro hv; cases hv
  | some q =>
    cases q with
    | inl a => intro hv; cases hv
    | inr q =>
      show (q.1 == ci && q.2[k]? == some 1) = true → (bif q.1 == ci && q.2[k]? == some 1 then _ else _)
      cases (q.1 == ci && q.2[k]? == some 1)
      · intro hv; cases hv
      · intro hv; exact h)
theorem r_putZ {K : Kt} {l : List (Nat × (Op ⊕ Nat))} {pc nx : Nat} {L st : List Value} {w : Wd} {x ci k : Nat} {v : Int32} (ha : tl K l pc = o_putZ ci k nx) (hv : isF x ci k 0 = true) (hz : v = 0 ∨ v = 1) (h : RR (tl K l) nx L (st) (upI w x k v)) : RR (tl K l) pc L (.int v :: .ref x :: st) w := RR.step ha (m_putZ ci k nx) (by
  unfold isF at hv
  show (match shp[x]? with
    | some (.inr q) => bif q.1 == ci && q.2[k]? == some 0 then (v = 0 ∨ v = 1) ∧ RR (tl K l) nx L st (upI w x k v) else False
    | _ => False)
  revert hv
  cases shp[x]? with
  | none => intro hv; cases hv
  | some q =>
    cases q with
    | inl a => intro hv; cases hv
    | inr q =>
      show (q.1 == ci && q.2[k]? == some 0) = true → (bif q.1 == ci && q.2[k]? == some 0 then _ else _)
      cases (q.1 == ci && q.2[k]? == some 0)
      · intro hv; cases hv
      · intro hv; exact ⟨hz, h⟩)
theorem r_iald {K : Kt} {l : List (Nat × (Op ⊕ Nat))} {pc nx : Nat} {L st : List Value} {w : Wd} {x n : Nat} {i : Int32} (ha : tl K l pc = o_iald nx) (hn : arL 0 x = some n) (hi : vp_in i n) (h : RR (tl K l) nx L (.int (rd w x i) :: st) w) : RR (tl K l) pc L (.int i :: .ref x :: st) w := RR.step ha (m_iald nx) (by
  have e := arL_of hn
  show (match shp[x]? with
    | some (.inl q) => bif q.1 == 0 then vp_in i q.2 ∧ RR (tl K l) nx L (.int (rd w x i) :: st) w else False
    | _ => False)
  rw [e]
  exact ⟨hi, h⟩)
theorem r_lald {K : Kt} {l : List (Nat × (Op ⊕ Nat))} {pc nx : Nat} {L st : List Value} {w : Wd} {x n : Nat} {i : Int32} (ha : tl K l pc = o_lald nx) (hn : arL 1 x = some n) (hi : vp_in i n) (h : RR (tl K l) nx L (.long (rdL w x i) :: st) w) : RR (tl K l) pc L (.int i :: .ref x :: st) w := RR.step ha (m_lald nx) (by
  have e := arL_of hn
  show (match shp[x]? with
    | some (.inl q) => bif q.1 == 1 then vp_in i q.2 ∧ RR (tl K l) nx L (.long (rdL w x i) :: st) w else False
    | _ => False)
  rw [e]
  exact ⟨hi, h⟩)
theorem r_bald {K : Kt} {l : List (Nat × (Op ⊕ Nat))} {pc nx : Nat} {L st : List Value} {w : Wd} {x n : Nat} {i : Int32} (ha : tl K l pc = o_bald nx) (hn : arL 2 x = some n) (hi : vp_in i n) (h : RR (tl K l) nx L (.int (rd w x i) :: st) w) : RR (tl K l) pc L (.int i :: .ref x :: st) w := RR.step ha (m_bald nx) (by
  have e := arL_of hn
  show (match shp[x]? with
    | some (.inl q) => bif q.1 == 2 then vp_in i q.2 ∧ RR (tl K l) nx L (.int (rd w x i) :: st) w else False
    | _ => False)
  rw [e]
  exact ⟨hi, h⟩)
theorem r_zald {K : Kt} {l : List (Nat × (Op ⊕ Nat))} {pc nx : Nat} {L st : List Value} {w : Wd} {x n : Nat} {i : Int32} (ha : tl K l pc = o_zald nx) (hn : arL 3 x = some n) (hi : vp_in i n) (h : RR (tl K l) nx L (.int (rd w x i) :: st) w) : RR (tl K l) pc L (.int i :: .ref x :: st) w := RR.step ha (m_zald nx) (by
  have e := arL_of hn
  show (match shp[x]? with
    | some (.inl q) => bif q.1 == 3 then vp_in i q.2 ∧ RR (tl K l) nx L (.int (rd w x i) :: st) w else False
    | _ => False)
  rw [e]
  exact ⟨hi, h⟩)
theorem r_iast {K : Kt} {l : List (Nat × (Op ⊕ Nat))} {pc nx : Nat} {L st : List Value} {w : Wd} {x n : Nat} {i : Int32} {v : Int32} (ha : tl K l pc = o_iast nx) (hn : arL 0 x = some n) (hi : vp_in i n) (h : RR (tl K l) nx L (st) (wr w x i v)) : RR (tl K l) pc L (.int v :: .int i :: .ref x :: st) w := RR.step ha (m_iast nx) (by
  have e := arL_of hn
  show (match shp[x]? with
    | some (.inl q) => bif q.1 == 0 then vp_in i q.2 ∧ RR (tl K l) nx L (st) (wr w x i v) else False
    | _ => False)
  rw [e]
  exact ⟨hi, h⟩)
theorem r_last {K : Kt} {l : List (Nat × (Op ⊕ Nat))} {pc nx : Nat} {L st : List Value} {w : Wd} {x n : Nat} {i : Int32} {v : Int64} (ha : tl K l pc = o_last nx) (hn : arL 1 x = some n) (hi : vp_in i n) (h : RR (tl K l) nx L (st) (wrL w x i v)) : RR (tl K l) pc L (.long v :: .int i :: .ref x :: st) w := RR.step ha (m_last nx) (by
  have e := arL_of hn
  show (match shp[x]? with
    | some (.inl q) => bif q.1 == 1 then vp_in i q.2 ∧ RR (tl K l) nx L (st) (wrL w x i v) else False
    | _ => False)
  rw [e]
  exact ⟨hi, h⟩)
theorem r_bast {K : Kt} {l : List (Nat × (Op ⊕ Nat))} {pc nx : Nat} {L st : List Value} {w : Wd} {x n : Nat} {i : Int32} {v : Int32} (ha : tl K l pc = o_bast nx) (hn : arL 2 x = some n) (hi : vp_in i n) (h : RR (tl K l) nx L (st) (wr w x i (vp_nar .byte v))) : RR (tl K l) pc L (.int v :: .int i :: .ref x :: st) w := RR.step ha (m_bast nx) (by
  have e := arL_of hn
  show (match shp[x]? with
    | some (.inl q) => bif q.1 == 2 then vp_in i q.2 ∧ RR (tl K l) nx L (st) (wr w x i (vp_nar .byte v)) else False
    | _ => False)
  rw [e]
  exact ⟨hi, h⟩)
theorem r_zast {K : Kt} {l : List (Nat × (Op ⊕ Nat))} {pc nx : Nat} {L st : List Value} {w : Wd} {x n : Nat} {i : Int32} {v : Int32} (ha : tl K l pc = o_zast nx) (hn : arL 3 x = some n) (hi : vp_in i n) (h : RR (tl K l) nx L (st) (wr w x i (vp_nar .boolean v))) : RR (tl K l) pc L (.int v :: .int i :: .ref x :: st) w := RR.step ha (m_zast nx) (by
  have e := arL_of hn
  show (match shp[x]? with
    | some (.inl q) => bif q.1 == 3 then vp_in i q.2 ∧ RR (tl K l) nx L (st) (wr w x i (vp_nar .boolean v)) else False
    | _ => False)
  rw [e]
  exact ⟨hi, h⟩)
theorem r_iaro {K : Kt} {l : List (Nat × (Op ⊕ Nat))} {pc nx : Nat} {L st : List Value} {w : Wd} {x n : Nat} {i : Int32} (ha : tl K l pc = o_iaro nx) (hn : roL x = some n) (hi : vp_in i n) (h : RR (tl K l) nx L (.int (ro x i) :: st) w) : RR (tl K l) pc L (.int i :: .ref x :: st) w := RR.step ha (m_iaro nx) (by
  unfold roL at hn
  show (bif Nat.ble 100 x && Nat.ble x 106 then vp_in i (roV.getD (x - 100) []).length ∧ RR (tl K l) nx L (.int ((roV.getD (x - 100) []).getD i.toNatClampNeg 0) :: st) w else False)
  revert hn
  cases (Nat.ble 100 x && Nat.ble x 106)
  · intro hn; cases hn
  · intro hn; cases hn; exact ⟨hi, h⟩)
theorem r_copyI {K : Kt} {l : List (Nat × (Op ⊕ Nat))} {pc nx : Nat} {L st : List Value} {w : Wd} {x y n0 n1 : Nat} {sp dp n : Int32} (ha : tl K l pc = o_copyI nx) (h0 : arL 0 y = some n0) (h1 : arL 0 x = some n1) (hr : rmok st = true) (hc : cpOk sp dp n n0 n1) (h : RR (tl K l) nx L (st) (cpy w x (w.1 y) sp dp n)) : RR (tl K l) pc L (.int n :: .int dp :: .ref x :: .int sp :: .ref y :: st) w := RR.step ha (m_copyI nx) (by
  show (match arL 0 y, arL 0 x, rmok st with | some n0, some n1, true => cpOk sp dp n n0 n1 ∧ RR (tl K l) nx L st (cpy w x (w.1 y) sp dp n) | _, _, _ => False)
  rw [h0, h1, hr]
  exact ⟨hc, h⟩)
theorem r_copyL {K : Kt} {l : List (Nat × (Op ⊕ Nat))} {pc nx : Nat} {L st : List Value} {w : Wd} {x y n0 n1 : Nat} {sp dp n : Int32} (ha : tl K l pc = o_copyL nx) (h0 : arL 1 y = some n0) (h1 : arL 1 x = some n1) (hr : rmok st = true) (hc : cpOk sp dp n n0 n1) (h : RR (tl K l) nx L (st) (cpyL w x (w.2 y) sp dp n)) : RR (tl K l) pc L (.int n :: .int dp :: .ref x :: .int sp :: .ref y :: st) w := RR.step ha (m_copyL nx) (by
  show (match arL 1 y, arL 1 x, rmok st with | some n0, some n1, true => cpOk sp dp n n0 n1 ∧ RR (tl K l) nx L st (cpyL w x (w.2 y) sp dp n) | _, _, _ => False)
  rw [h0, h1, hr]
  exact ⟨hc, h⟩)
theorem r_copyR {K : Kt} {l : List (Nat × (Op ⊕ Nat))} {pc nx : Nat} {L st : List Value} {w : Wd} {x y n0 n1 : Nat} {sp dp n : Int32} (ha : tl K l pc = o_copyR nx) (h0 : roL y = some n0) (h1 : arL 0 x = some n1) (hr : rmok st = true) (hc : cpOk sp dp n n0 n1) (h : RR (tl K l) nx L (st) (cpy w x (fun j => (roV.getD (y - 100) []).getD j 0) sp dp n)) : RR (tl K l) pc L (.int n :: .int dp :: .ref x :: .int sp :: .ref y :: st) w := RR.step ha (m_copyR nx) (by
  show (match roL y, arL 0 x, rmok st with | some n0, some n1, true => cpOk sp dp n n0 n1 ∧ RR (tl K l) nx L st (cpy w x (fun j => (roV.getD (y - 100) []).getD j 0) sp dp n) | _, _, _ => False)
  rw [h0, h1, hr]
  exact ⟨hc, h⟩)
theorem r_max {K : Kt} {l : List (Nat × (Op ⊕ Nat))} {pc nx : Nat} {L st : List Value} {w : Wd} {x y : Int32} (ha : tl K l pc = o_max nx) (hr : rmok st = true) (h : RR (tl K l) nx L (.int (if x < y then y else x) :: st) w) : RR (tl K l) pc L (.int y :: .int x :: st) w := RR.step ha (m_max nx) (by show (match rmok st with | true => RR (tl K l) nx L (.int (if x < y then y else x) :: st) w | false => False); rw [hr]; exact h)
theorem r_min {K : Kt} {l : List (Nat × (Op ⊕ Nat))} {pc nx : Nat} {L st : List Value} {w : Wd} {x y : Int32} (ha : tl K l pc = o_min nx) (hr : rmok st = true) (h : RR (tl K l) nx L (.int (if y < x then y else x) :: st) w) : RR (tl K l) pc L (.int y :: .int x :: st) w := RR.step ha (m_min nx) (by show (match rmok st with | true => RR (tl K l) nx L (.int (if y < x then y else x) :: st) w | false => False); rw [hr]; exact h)
theorem r_iret {K : Kt} {l : List (Nat × (Op ⊕ Nat))} {pc : Nat} {L : List Value} {w : Wd} {x : Int32} (ha : tl K l pc = o_iret K) (h : K (some (.int x)) w) : RR (tl K l) pc L [.int x] w := RR.step ha (m_iret K) h
theorem r_zret {K : Kt} {l : List (Nat × (Op ⊕ Nat))} {pc : Nat} {L : List Value} {w : Wd} {x : Int32} (ha : tl K l pc = o_zret K) (hz : x = 0 ∨ x = 1) (h : K (some (.int x)) w) : RR (tl K l) pc L [.int x] w := RR.step ha (m_zret K) ⟨hz, h⟩
theorem r_lret {K : Kt} {l : List (Nat × (Op ⊕ Nat))} {pc : Nat} {L : List Value} {w : Wd} {x : Int64} (ha : tl K l pc = o_lret K) (h : K (some (.long x)) w) : RR (tl K l) pc L [.long x] w := RR.step ha (m_lret K) h
theorem r_vret {K : Kt} {l : List (Nat × (Op ⊕ Nat))} {pc : Nat} {L : List Value} {w : Wd} (ha : tl K l pc = o_vret K) (h : K none w) : RR (tl K l) pc L [] w := RR.step ha (m_vret K) h
def psh (v : Option Value) (r : List Value) : List Value := match v with
  | none => r
  | some a => a :: r
theorem psh_eq (v : Option Value) (r : List Value) : v.toList ++ r = psh v r := by cases v <;> rfl
theorem r_callV0 {K : Kt} {l : List (Nat × (Op ⊕ Nat))} {pc nx : Nat} {L st : List Value} {w : Wd} {f : Mf} {x ci : Nat} (ha : tl K l pc = o_callV f 0 ci nx) (hf : MonoF f) (hk : okV x ci 0 (.ref x :: st) st = true) (h : f [.ref x] w (fun v w1 => RR (tl K l) nx L (psh v st) w1)) : RR (tl K l) pc L (.ref x :: st) w := RR.step ha (m_callV hf 0 ci nx) (by
  show (match okV x ci 0 (.ref x :: st) st with | true => f [.ref x] w (fun v w1 => RR (tl K l) nx L (v.toList ++ st) w1) | false => False)
  rw [hk]
  simp only [psh_eq]
  exact h)
theorem r_callT0 {K : Kt} {l : List (Nat × (Op ⊕ Nat))} {pc nx : Nat} {L st : List Value} {w : Wd} {f : Mf} {x : Nat} (ha : tl K l pc = o_callT f 0 nx) (hf : MonoF f) (hk : okT x 0 (.ref x :: st) st = true) (h : f [.ref x] w (fun v w1 => RR (tl K l) nx L (psh v st) w1)) : RR (tl K l) pc L (.ref x :: st) w := RR.step ha (m_callT hf 0 nx) (by
  show (match okT x 0 (.ref x :: st) st with | true => f [.ref x] w (fun v w1 => RR (tl K l) nx L (v.toList ++ st) w1) | false => False)
  rw [hk]
  simp only [psh_eq]
  exact h)
theorem r_callS0 {K : Kt} {l : List (Nat × (Op ⊕ Nat))} {pc nx : Nat} {L st : List Value} {w : Wd} {f : Mf} (ha : tl K l pc = o_callS f 0 nx) (hf : MonoF f) (hk : okS 0 (st) st = true) (h : f [] w (fun v w1 => RR (tl K l) nx L (psh v st) w1)) : RR (tl K l) pc L (st) w := RR.step ha (m_callS hf 0 nx) (by
  show (match okS 0 (st) st with | true => f [] w (fun v w1 => RR (tl K l) nx L (v.toList ++ st) w1) | false => False)
  rw [hk]
  simp only [psh_eq]
  exact h)
theorem r_callV1 {K : Kt} {l : List (Nat × (Op ⊕ Nat))} {pc nx : Nat} {L st : List Value} {w : Wd} {f : Mf} {x ci : Nat} {a0 : Value} (ha : tl K l pc = o_callV f 1 ci nx) (hf : MonoF f) (hk : okV x ci 1 (a0 :: .ref x :: st) st = true) (h : f [.ref x, a0] w (fun v w1 => RR (tl K l) nx L (psh v st) w1)) : RR (tl K l) pc L (a0 :: .ref x :: st) w := RR.step ha (m_callV hf 1 ci nx) (by
  show (match okV x ci 1 (a0 :: .ref x :: st) st with | true => f [.ref x, a0] w (fun v w1 => RR (tl K l) nx L (v.toList ++ st) w1) | false => False)
  rw [hk]
  simp only [psh_eq]
  exact h)
theorem r_callT1 {K : Kt} {l : List (Nat × (Op ⊕ Nat))} {pc nx : Nat} {L st : List Value} {w : Wd} {f : Mf} {x : Nat} {a0 : Value} (ha : tl K l pc = o_callT f 1 nx) (hf : MonoF f) (hk : okT x 1 (a0 :: .ref x :: st) st = true) (h : f [.ref x, a0] w (fun v w1 => RR (tl K l) nx L (psh v st) w1)) : RR (tl K l) pc L (a0 :: .ref x :: st) w := RR.step ha (m_callT hf 1 nx) (by
  show (match okT x 1 (a0 :: .ref x :: st) st with | true => f [.ref x, a0] w (fun v w1 => RR (tl K l) nx L (v.toList ++ st) w1) | false => False)
  rw [hk]
  simp only [psh_eq]
  exact h)
theorem r_callS1 {K : Kt} {l : List (Nat × (Op ⊕ Nat))} {pc nx : Nat} {L st : List Value} {w : Wd} {f : Mf} {a0 : Value} (ha : tl K l pc = o_callS f 1 nx) (hf : MonoF f) (hk : okS 1 (a0 :: st) st = true) (h : f [a0] w (fun v w1 => RR (tl K l) nx L (psh v st) w1)) : RR (tl K l) pc L (a0 :: st) w := RR.step ha (m_callS hf 1 nx) (by
  show (match okS 1 (a0 :: st) st with | true => f [a0] w (fun v w1 => RR (tl K l) nx L (v.toList ++ st) w1) | false => False)
  rw [hk]
  simp only [psh_eq]
  exact h)
theorem r_callV2 {K : Kt} {l : List (Nat × (Op ⊕ Nat))} {pc nx : Nat} {L st : List Value} {w : Wd} {f : Mf} {x ci : Nat} {a0 a1 : Value} (ha : tl K l pc = o_callV f 2 ci nx) (hf : MonoF f) (hk : okV x ci 2 (a1 :: a0 :: .ref x :: st) st = true) (h : f [.ref x, a0, a1] w (fun v w1 => RR (tl K l) nx L (psh v st) w1)) : RR (tl K l) pc L (a1 :: a0 :: .ref x :: st) w := RR.step ha (m_callV hf 2 ci nx) (by
  show (match okV x ci 2 (a1 :: a0 :: .ref x :: st) st with | true => f [.ref x, a0, a1] w (fun v w1 => RR (tl K l) nx L (v.toList ++ st) w1) | false => False)
  rw [hk]
  simp only [psh_eq]
  exact h)
theorem r_callS2 {K : Kt} {l : List (Nat × (Op ⊕ Nat))} {pc nx : Nat} {L st : List Value} {w : Wd} {f : Mf} {a0 a1 : Value} (ha : tl K l pc = o_callS f 2 nx) (hf : MonoF f) (hk : okS 2 (a1 :: a0 :: st) st = true) (h : f [a0, a1] w (fun v w1 => RR (tl K l) nx L (psh v st) w1)) : RR (tl K l) pc L (a1 :: a0 :: st) w := RR.step ha (m_callS hf 2 nx) (by
  show (match okS 2 (a1 :: a0 :: st) st with | true => f [a0, a1] w (fun v w1 => RR (tl K l) nx L (v.toList ++ st) w1) | false => False)
  rw [hk]
  simp only [psh_eq]
  exact h)
theorem r_callV3 {K : Kt} {l : List (Nat × (Op ⊕ Nat))} {pc nx : Nat} {L st : List Value} {w : Wd} {f : Mf} {x ci : Nat} {a0 a1 a2 : Value} (ha : tl K l pc = o_callV f 3 ci nx) (hf : MonoF f) (hk : okV x ci 3 (a2 :: a1 :: a0 :: .ref x :: st) st = true) (h : f [.ref x, a0, a1, a2] w (fun v w1 => RR (tl K l) nx L (psh v st) w1)) : RR (tl K l) pc L (a2 :: a1 :: a0 :: .ref x :: st) w := RR.step ha (m_callV hf 3 ci nx) (by
  show (match okV x ci 3 (a2 :: a1 :: a0 :: .ref x :: st) st with | true => f [.ref x, a0, a1, a2] w (fun v w1 => RR (tl K l) nx L (v.toList ++ st) w1) | false => False)
  rw [hk]
  simp only [psh_eq]
  exact h)
theorem r_callS3 {K : Kt} {l : List (Nat × (Op ⊕ Nat))} {pc nx : Nat} {L st : List Value} {w : Wd} {f : Mf} {a0 a1 a2 : Value} (ha : tl K l pc = o_callS f 3 nx) (hf : MonoF f) (hk : okS 3 (a2 :: a1 :: a0 :: st) st = true) (h : f [a0, a1, a2] w (fun v w1 => RR (tl K l) nx L (psh v st) w1)) : RR (tl K l) pc L (a2 :: a1 :: a0 :: st) w := RR.step ha (m_callS hf 3 nx) (by
  show (match okS 3 (a2 :: a1 :: a0 :: st) st with | true => f [a0, a1, a2] w (fun v w1 => RR (tl K l) nx L (v.toList ++ st) w1) | false => False)
  rw [hk]
  simp only [psh_eq]
  exact h)
theorem r_callV4 {K : Kt} {l : List (Nat × (Op ⊕ Nat))} {pc nx : Nat} {L st : List Value} {w : Wd} {f : Mf} {x ci : Nat} {a0 a1 a2 a3 : Value} (ha : tl K l pc = o_callV f 4 ci nx) (hf : MonoF f) (hk : okV x ci 4 (a3 :: a2 :: a1 :: a0 :: .ref x :: st) st = true) (h : f [.ref x, a0, a1, a2, a3] w (fun v w1 => RR (tl K l) nx L (psh v st) w1)) : RR (tl K l) pc L (a3 :: a2 :: a1 :: a0 :: .ref x :: st) w := RR.step ha (m_callV hf 4 ci nx) (by
  show (match okV x ci 4 (a3 :: a2 :: a1 :: a0 :: .ref x :: st) st with | true => f [.ref x, a0, a1, a2, a3] w (fun v w1 => RR (tl K l) nx L (v.toList ++ st) w1) | false => False)
  rw [hk]
  simp only [psh_eq]
  exact h)
theorem r_callS4 {K : Kt} {l : List (Nat × (Op ⊕ Nat))} {pc nx : Nat} {L st : List Value} {w : Wd} {f : Mf} {a0 a1 a2 a3 : Value} (ha : tl K l pc = o_callS f 4 nx) (hf : MonoF f) (hk : okS 4 (a3 :: a2 :: a1 :: a0 :: st) st = true) (h : f [a0, a1, a2, a3] w (fun v w1 => RR (tl K l) nx L (psh v st) w1)) : RR (tl K l) pc L (a3 :: a2 :: a1 :: a0 :: st) w := RR.step ha (m_callS hf 4 nx) (by
  show (match okS 4 (a3 :: a2 :: a1 :: a0 :: st) st with | true => f [a0, a1, a2, a3] w (fun v w1 => RR (tl K l) nx L (v.toList ++ st) w1) | false => False)
  rw [hk]
  simp only [psh_eq]
  exact h)
theorem r_callV5 {K : Kt} {l : List (Nat × (Op ⊕ Nat))} {pc nx : Nat} {L st : List Value} {w : Wd} {f : Mf} {x ci : Nat} {a0 a1 a2 a3 a4 : Value} (ha : tl K l pc = o_callV f 5 ci nx) (hf : MonoF f) (hk : okV x ci 5 (a4 :: a3 :: a2 :: a1 :: a0 :: .ref x :: st) st = true) (h : f [.ref x, a0, a1, a2, a3, a4] w (fun v w1 => RR (tl K l) nx L (psh v st) w1)) : RR (tl K l) pc L (a4 :: a3 :: a2 :: a1 :: a0 :: .ref x :: st) w := RR.step ha (m_callV hf 5 ci nx) (by
  show (match okV x ci 5 (a4 :: a3 :: a2 :: a1 :: a0 :: .ref x :: st) st with | true => f [.ref x, a0, a1, a2, a3, a4] w (fun v w1 => RR (tl K l) nx L (v.toList ++ st) w1) | false => False)
  rw [hk]
  simp only [psh_eq]
  exact h)
theorem r_callS5 {K : Kt} {l : List (Nat × (Op ⊕ Nat))} {pc nx : Nat} {L st : List Value} {w : Wd} {f : Mf} {a0 a1 a2 a3 a4 : Value} (ha : tl K l pc = o_callS f 5 nx) (hf : MonoF f) (hk : okS 5 (a4 :: a3 :: a2 :: a1 :: a0 :: st) st = true) (h : f [a0, a1, a2, a3, a4] w (fun v w1 => RR (tl K l) nx L (psh v st) w1)) : RR (tl K l) pc L (a4 :: a3 :: a2 :: a1 :: a0 :: st) w := RR.step ha (m_callS hf 5 nx) (by
  show (match okS 5 (a4 :: a3 :: a2 :: a1 :: a0 :: st) st with | true => f [a0, a1, a2, a3, a4] w (fun v w1 => RR (tl K l) nx L (v.toList ++ st) w1) | false => False)
  rw [hk]
  simp only [psh_eq]
  exact h)
