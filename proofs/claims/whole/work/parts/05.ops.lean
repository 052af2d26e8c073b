def o_pushI (x : Int32) (nx : Nat) : Op := fun P L st w => P nx L (.int x :: st) w
def o_pushL (x : Int64) (nx : Nat) : Op := fun P L st w => P nx L (.long x :: st) w
def o_pushR (x : Nat) (nx : Nat) : Op := fun P L st w => P nx L (.ref x :: st) w
def o_iload (i nx : Nat) : Op := fun P L st w => match L.getD i .null with
  | .int x => P nx L (.int x :: st) w
  | _ => False
def o_lload (i nx : Nat) : Op := fun P L st w => match L.getD i .null with
  | .long x => P nx L (.long x :: st) w
  | _ => False
def o_aload (i nx : Nat) : Op := fun P L st w => match L.getD i .null with
  | .ref x => P nx L (.ref x :: st) w
  | _ => False
def o_istore (i nx : Nat) : Op := fun P L st w => match st with
  | .int x :: r => P nx (stI L i (.int x)) r w
  | _ => False
def o_lstore (i nx : Nat) : Op := fun P L st w => match st with
  | .long x :: r => P nx (stL L i (.long x)) r w
  | _ => False
def o_iinc (i : Nat) (a : Int32) (nx : Nat) : Op := fun P L st w => match L.getD i .null with
  | .int x => P nx (stI L i (.int (x + a))) st w
  | _ => False
def o_iadd (nx : Nat) : Op := fun P L st w => match st with
  | .int y :: .int x :: r => P nx L (.int (x + y) :: r) w
  | _ => False
def o_isub (nx : Nat) : Op := fun P L st w => match st with
  | .int y :: .int x :: r => P nx L (.int (x - y) :: r) w
  | _ => False
def o_imul (nx : Nat) : Op := fun P L st w => match st with
  | .int y :: .int x :: r => P nx L (.int (x * y) :: r) w
  | _ => False
def o_iand (nx : Nat) : Op := fun P L st w => match st with
  | .int y :: .int x :: r => P nx L (.int (x &&& y) :: r) w
  | _ => False
def o_ior (nx : Nat) : Op := fun P L st w => match st with
  | .int y :: .int x :: r => P nx L (.int (x ||| y) :: r) w
  | _ => False
def o_ixor (nx : Nat) : Op := fun P L st w => match st with
  | .int y :: .int x :: r => P nx L (.int (x ^^^ y) :: r) w
  | _ => False
def o_ishl (nx : Nat) : Op := fun P L st w => match st with
  | .int y :: .int x :: r => P nx L (.int (x <<< (y &&& 31)) :: r) w
  | _ => False
def o_ishr (nx : Nat) : Op := fun P L st w => match st with
  | .int y :: .int x :: r => P nx L (.int (x >>> (y &&& 31)) :: r) w
  | _ => False
def o_iushr (nx : Nat) : Op := fun P L st w => match st with
  | .int y :: .int x :: r => P nx L (.int ((x.toUInt32 >>> (y.toUInt32 &&& Int32.toUInt32 31)).toInt32) :: r) w
  | _ => False
def o_idiv (nx : Nat) : Op := fun P L st w => match st with
  | .int y :: .int x :: r => ¬ y = 0 ∧ P nx L (.int (x / y) :: r) w
  | _ => False
def o_irem (nx : Nat) : Op := fun P L st w => match st with
  | .int y :: .int x :: r => ¬ y = 0 ∧ P nx L (.int (x - x / y * y) :: r) w
  | _ => False
def o_lmul (nx : Nat) : Op := fun P L st w => match st with
  | .long y :: .long x :: r => P nx L (.long (x * y) :: r) w
  | _ => False
def o_lor (nx : Nat) : Op := fun P L st w => match st with
  | .long y :: .long x :: r => P nx L (.long (x ||| y) :: r) w
  | _ => False
def o_ldiv (nx : Nat) : Op := fun P L st w => match st with
  | .long y :: .long x :: r => ¬ y = 0 ∧ P nx L (.long (x / y) :: r) w
  | _ => False
def o_lrem (nx : Nat) : Op := fun P L st w => match st with
  | .long y :: .long x :: r => ¬ y = 0 ∧ P nx L (.long (x - x / y * y) :: r) w
  | _ => False
def o_lshl (nx : Nat) : Op := fun P L st w => match st with
  | .int y :: .long x :: r => P nx L (.long (x <<< (y.toInt64 &&& 63)) :: r) w
  | _ => False
def o_lcmp (nx : Nat) : Op := fun P L st w => match st with
  | .long y :: .long x :: r => P nx L (.int (lg_cmp x y) :: r) w
  | _ => False
def o_i2l (nx : Nat) : Op := fun P L st w => match st with
  | .int x :: r => P nx L (.long x.toInt64 :: r) w
  | _ => False
def o_i2b (nx : Nat) : Op := fun P L st w => match st with
  | .int x :: r => P nx L (.int x.toInt8.toInt32 :: r) w
  | _ => False
def o_dup (nx : Nat) : Op := fun P L st w => match st with
  | .int x :: r => P nx L (.int x :: .int x :: r) w
  | .ref x :: r => P nx L (.ref x :: .ref x :: r) w
  | _ => False
def o_pop (nx : Nat) : Op := fun P L st w => match st with
  | .int _ :: r => P nx L r w
  | _ => False
def o_dup2 (nx : Nat) : Op := fun P L st w => match st with
  | .int y :: .ref x :: r => P nx L (.int y :: .ref x :: .int y :: .ref x :: r) w
  | _ => False
def o_if_eq (tg nx : Nat) : Op := fun P L st w => match st with
  | .int x :: r => (x = 0 → P tg L r w) ∧ (¬ (x = 0) → P nx L r w)
  | _ => False
def o_if_ne (tg nx : Nat) : Op := fun P L st w => match st with
  | .int x :: r => (¬ x = 0 → P tg L r w) ∧ (x = 0 → P nx L r w)
  | _ => False
def o_if_lt (tg nx : Nat) : Op := fun P L st w => match st with
  | .int x :: r => (x < 0 → P tg L r w) ∧ (¬ (x < 0) → P nx L r w)
  | _ => False
def o_if_ge (tg nx : Nat) : Op := fun P L st w => match st with
  | .int x :: r => (0 ≤ x → P tg L r w) ∧ (¬ (0 ≤ x) → P nx L r w)
  | _ => False
def o_if_gt (tg nx : Nat) : Op := fun P L st w => match st with
  | .int x :: r => (0 < x → P tg L r w) ∧ (¬ (0 < x) → P nx L r w)
  | _ => False
def o_if_le (tg nx : Nat) : Op := fun P L st w => match st with
  | .int x :: r => (x ≤ 0 → P tg L r w) ∧ (¬ (x ≤ 0) → P nx L r w)
  | _ => False
def o_icmp_eq (tg nx : Nat) : Op := fun P L st w => match st with
  | .int y :: .int x :: r => (x = y → P tg L r w) ∧ (¬ (x = y) → P nx L r w)
  | _ => False
def o_icmp_ne (tg nx : Nat) : Op := fun P L st w => match st with
  | .int y :: .int x :: r => (¬ x = y → P tg L r w) ∧ (x = y → P nx L r w)
  | _ => False
def o_icmp_lt (tg nx : Nat) : Op := fun P L st w => match st with
  | .int y :: .int x :: r => (x < y → P tg L r w) ∧ (¬ (x < y) → P nx L r w)
  | _ => False
def o_icmp_ge (tg nx : Nat) : Op := fun P L st w => match st with
  | .int y :: .int x :: r => (y ≤ x → P tg L r w) ∧ (¬ (y ≤ x) → P nx L r w)
  | _ => False
def o_icmp_gt (tg nx : Nat) : Op := fun P L st w => match st with
  | .int y :: .int x :: r => (y < x → P tg L r w) ∧ (¬ (y < x) → P nx L r w)
  | _ => False
def o_icmp_le (tg nx : Nat) : Op := fun P L st w => match st with
  | .int y :: .int x :: r => (x ≤ y → P tg L r w) ∧ (¬ (x ≤ y) → P nx L r w)
  | _ => False
def o_goto (tg : Nat) : Op := fun P L st w => P tg L st w
def o_table (lo hi : Int) (df : Nat) (tg : List Nat) : Op := fun P L st w => match st with
  | .int x :: r => (x.toInt < lo ∨ hi < x.toInt → P df L r w) ∧ ∀ (k t : Nat), tg[k]? = some t → x.toInt = lo + k → P t L r w
  | _ => False
def o_get (ci k nx : Nat) : Op := fun P L st w => match st with
  | .ref x :: r => match shp[x]? with
    | some (.inr q) => bif q.1 == ci then (match q.2[k]? with
      | some kd => P nx L (fvA w x k kd :: r) w
      | none => False) else False
    | _ => False
  | _ => False
def o_putI (ci k nx : Nat) : Op := fun P L st w => match st with
  | .int v :: .ref x :: r => match shp[x]? with
    | some (.inr q) => bif q.1 == ci && q.2[k]? == some 0 then P nx L r (upI w x k v) else False
    | _ => False
  | _ => False
def o_putL (ci k nx : Nat) : Op := fun P L st w => match st with
  | .long v :: .ref x :: r => match shp[x]? with
    | some (.inr q) => bif q.1 == ci && q.2[k]? == some 1 then P nx L r (upL w x k v) else False
    | _ => False
  | _ => False
theorem m_pushI (x : Int32) (nx : Nat) : Mono (o_pushI x nx) := by
  intro P Q hpq L st w h
  exact hpq _ _ _ _ h
theorem m_pushL (x : Int64) (nx : Nat) : Mono (o_pushL x nx) := by
  intro P Q hpq L st w h
  exact hpq _ _ _ _ h
theorem m_pushR (x : Nat) (nx : Nat) : Mono (o_pushR x nx) := by
  intro P Q hpq L st w h
  exact hpq _ _ _ _ h
theorem m_iload (i nx : Nat) : Mono (o_iload i nx) := by
  intro P Q hpq L st w h
  unfold o_iload at h ⊢
  split at h
  · exact hpq _ _ _ _ h
  · exact h.elim
theorem m_lload (i nx : Nat) : Mono (o_lload i nx) := by
  intro P Q hpq L st w h
  unfold o_lload at h ⊢
  split at h
  · exact hpq _ _ _ _ h
  · exact h.elim
theorem m_aload (i nx : Nat) : Mono (o_aload i nx) := by
  intro P Q hpq L st w h
  unfold o_aload at h ⊢
  split at h
  · exact hpq _ _ _ _ h
  · exact h.elim
theorem m_istore (i nx : Nat) : Mono (o_istore i nx) := by
  intro P Q hpq L st w h
  unfold o_istore at h ⊢
  split at h
  · exact hpq _ _ _ _ h
  · exact h.elim
theorem m_lstore (i nx : Nat) : Mono (o_lstore i nx) := by
  intro P Q hpq L st w h
  unfold o_lstore at h ⊢
  split at h
  · exact hpq _ _ _ _ h
  · exact h.elim
theorem m_iinc (i : Nat) (a : Int32) (nx : Nat) : Mono (o_iinc i a nx) := by
  intro P Q hpq L st w h
  unfold o_iinc at h ⊢
  split at h
  · exact hpq _ _ _ _ h
  · exact h.elim
theorem m_iadd (nx : Nat) : Mono (o_iadd nx) := by
  intro P Q hpq L st w h
  unfold o_iadd at h ⊢
  split at h
  · exact hpq _ _ _ _ h
  · exact h.elim
theorem m_isub (nx : Nat) : Mono (o_isub nx) := by
  intro P Q hpq L st w h
  unfold o_isub at h ⊢
  split at h
  · exact hpq _ _ _ _ h
  · exact h.elim
theorem m_imul (nx : Nat) : Mono (o_imul nx) := by
  intro P Q hpq L st w h
  unfold o_imul at h ⊢
  split at h
  · exact hpq _ _ _ _ h
  · exact h.elim
theorem m_iand (nx : Nat) : Mono (o_iand nx) := by
  intro P Q hpq L st w h
  unfold o_iand at h ⊢
  split at h
  · exact hpq _ _ _ _ h
  · exact h.elim
theorem m_ior (nx : Nat) : Mono (o_ior nx) := by
  intro P Q hpq L st w h
  unfold o_ior at h ⊢
  split at h
  · exact hpq _ _ _ _ h
  · exact h.elim
theorem m_ixor (nx : Nat) : Mono (o_ixor nx) := by
  intro P Q hpq L st w h
  unfold o_ixor at h ⊢
  split at h
  · exact hpq _ _ _ _ h
  · exact h.elim
theorem m_ishl (nx : Nat) : Mono (o_ishl nx) := by
  intro P Q hpq L st w h
  unfold o_ishl at h ⊢
  split at h
  · exact hpq _ _ _ _ h
  · exact h.elim
theorem m_ishr (nx : Nat) : Mono (o_ishr nx) := by
  intro P Q hpq L st w h
  unfold o_ishr at h ⊢
  split at h
  · exact hpq _ _ _ _ h
  · exact h.elim
theorem m_iushr (nx : Nat) : Mono (o_iushr nx) := by
  intro P Q hpq L st w h
  unfold o_iushr at h ⊢
  split at h
  · exact hpq _ _ _ _ h
  · exact h.elim
theorem m_idiv (nx : Nat) : Mono (o_idiv nx) := by
  intro P Q hpq L st w h
  unfold o_idiv at h ⊢
  split at h
  · exact ⟨h.1, hpq _ _ _ _ h.2⟩
  · exact h.elim
theorem m_irem (nx : Nat) : Mono (o_irem nx) := by
  intro P Q hpq L st w h
  unfold o_irem at h ⊢
  split at h
  · exact ⟨h.1, hpq _ _ _ _ h.2⟩
  · exact h.elim
theorem m_lmul (nx : Nat) : Mono (o_lmul nx) := by
  intro P Q hpq L st w h
  unfold o_lmul at h ⊢
  split at h
  · exact hpq _ _ _ _ h
  · exact h.elim
theorem m_lor (nx : Nat) : Mono (o_lor nx) := by
  intro P Q hpq L st w h
  unfold o_lor at h ⊢
  split at h
  · exact hpq _ _ _ _ h
  · exact h.elim
theorem m_ldiv (nx : Nat) : Mono (o_ldiv nx) := by
  intro P Q hpq L st w h
  unfold o_ldiv at h ⊢
  split at h
  · exact ⟨h.1, hpq _ _ _ _ h.2⟩
  · exact h.elim
theorem m_lrem (nx : Nat) : Mono (o_lrem nx) := by
  intro P Q hpq L st w h
  unfold o_lrem at h ⊢
  split at h
  · exact ⟨h.1, hpq _ _ _ _ h.2⟩
  · exact h.elim
theorem m_lshl (nx : Nat) : Mono (o_lshl nx) := by
  intro P Q hpq L st w h
  unfold o_lshl at h ⊢
  split at h
  · exact hpq _ _ _ _ h
  · exact h.elim
theorem m_lcmp (nx : Nat) : Mono (o_lcmp nx) := by
  intro P Q hpq L st w h
  unfold o_lcmp at h ⊢
  split at h
  · exact hpq _ _ _ _ h
  · exact h.elim
theorem m_i2l (nx : Nat) : Mono (o_i2l nx) := by
  intro P Q hpq L st w h
  unfold o_i2l at h ⊢
  split at h
  · exact hpq _ _ _ _ h
  · exact h.elim
theorem m_i2b (nx : Nat) : Mono (o_i2b nx) := by
  intro P Q hpq L st w h
  unfold o_i2b at h ⊢
  split at h
  · exact hpq _ _ _ _ h
  · exact h.elim
theorem m_dup (nx : Nat) : Mono (o_dup nx) := by
  intro P Q hpq L st w h
  unfold o_dup at h ⊢
  split at h
  · exact hpq _ _ _ _ h
  · exact hpq _ _ _ _ h
  · exact h.elim
theorem m_pop (nx : Nat) : Mono (o_pop nx) := by
  intro P Q hpq L st w h
  unfold o_pop at h ⊢
  split at h
  · exact hpq _ _ _ _ h
  · exact h.elim
theorem m_dup2 (nx : Nat) : Mono (o_dup2 nx) := by
  intro P Q hpq L st w h
  unfold o_dup2 at h ⊢
  split at h
  · exact hpq _ _ _ _ h
  · exact h.elim
theorem m_if_eq (tg nx : Nat) : Mono (o_if_eq tg nx) := by
  intro P Q hpq L st w h
  unfold o_if_eq at h ⊢
  split at h
  · exact ⟨fun z => hpq _ _ _ _ (h.1 z), fun z => hpq _ _ _ _ (h.2 z)⟩
  · exact h.elim
theorem m_if_ne (tg nx : Nat) : Mono (o_if_ne tg nx) := by
  intro P Q hpq L st w h
  unfold o_if_ne at h ⊢
  split at h
  · exact ⟨fun z => hpq _ _ _ _ (h.1 z), fun z => hpq _ _ _ _ (h.2 z)⟩
  · exact h.elim
theorem m_if_lt (tg nx : Nat) : Mono (o_if_lt tg nx) := by
  intro P Q hpq L st w h
  unfold o_if_lt at h ⊢
  split at h
  · exact ⟨fun z => hpq _ _ _ _ (h.1 z), fun z => hpq _ _ _ _ (h.2 z)⟩
  · exact h.elim
theorem m_if_ge (tg nx : Nat) : Mono (o_if_ge tg nx) := by
  intro P Q hpq L st w h
  unfold o_if_ge at h ⊢
  split at h
  · exact ⟨fun z => hpq _ _ _ _ (h.1 z), fun z => hpq _ _ _ _ (h.2 z)⟩
  · exact h.elim
theorem m_if_gt (tg nx : Nat) : Mono (o_if_gt tg nx) := by
  intro P Q hpq L st w h
  unfold o_if_gt at h ⊢
  split at h
  · exact ⟨fun z => hpq _ _ _ _ (h.1 z), fun z => hpq _ _ _ _ (h.2 z)⟩
  · exact h.elim
theorem m_if_le (tg nx : Nat) : Mono (o_if_le tg nx) := by
  intro P Q hpq L st w h
  unfold o_if_le at h ⊢
  split at h
  · exact ⟨fun z => hpq _ _ _ _ (h.1 z), fun z => hpq _ _ _ _ (h.2 z)⟩
  · exact h.elim
theorem m_icmp_eq (tg nx : Nat) : Mono (o_icmp_eq tg nx) := by
  intro P Q hpq L st w h
  unfold o_icmp_eq at h ⊢
  split at h
  · exact ⟨fun z => hpq _ _ _ _ (h.1 z), fun z => hpq _ _ _ _ (h.2 z)⟩
  · exact h.elim
theorem m_icmp_ne (tg nx : Nat) : Mono (o_icmp_ne tg nx) := by
  intro P Q hpq L st w h
  unfold o_icmp_ne at h ⊢
  split at h
  · exact ⟨fun z => hpq _ _ _ _ (h.1 z), fun z => hpq _ _ _ _ (h.2 z)⟩
  · exact h.elim
theorem m_icmp_lt (tg nx : Nat) : Mono (o_icmp_lt tg nx) := by
  intro P Q hpq L st w h
  unfold o_icmp_lt at h ⊢
  split at h
  · exact ⟨fun z => hpq _ _ _ _ (h.1 z), fun z => hpq _ _ _ _ (h.2 z)⟩
  · exact h.elim
theorem m_icmp_ge (tg nx : Nat) : Mono (o_icmp_ge tg nx) := by
  intro P Q hpq L st w h
  unfold o_icmp_ge at h ⊢
  split at h
  · exact ⟨fun z => hpq _ _ _ _ (h.1 z), fun z => hpq _ _ _ _ (h.2 z)⟩
  · exact h.elim
theorem m_icmp_gt (tg nx : Nat) : Mono (o_icmp_gt tg nx) := by
  intro P Q hpq L st w h
  unfold o_icmp_gt at h ⊢
  split at h
  · exact ⟨fun z => hpq _ _ _ _ (h.1 z), fun z => hpq _ _ _ _ (h.2 z)⟩
  · exact h.elim
theorem m_icmp_le (tg nx : Nat) : Mono (o_icmp_le tg nx) := by
  intro P Q hpq L st w h
  unfold o_icmp_le at h ⊢
  split at h
  · exact ⟨fun z => hpq _ _ _ _ (h.1 z), fun z => hpq _ _ _ _ (h.2 z)⟩
  · exact h.elim
theorem m_goto (tg : Nat) : Mono (o_goto tg) := by
  intro P Q hpq L st w h
  exact hpq _ _ _ _ h
theorem m_table (lo hi : Int) (df : Nat) (tg : List Nat) : Mono (o_table lo hi df tg) := by
  intro P Q hpq L st w h
  unfold o_table at h ⊢
  split at h
  · exact ⟨fun z => hpq _ _ _ _ (h.1 z), fun k t z1 z2 => hpq _ _ _ _ (h.2 k t z1 z2)⟩
  · exact h.elim
theorem m_get (ci k nx : Nat) : Mono (o_get ci k nx) := by
  intro P Q hpq L st w h
  unfold o_get at h ⊢
  split at h
  · split at h
    · rename_i q hq
      cases hc : (q.1 == ci) with
      | true =>
        simp only [hc, cond_true] at h ⊢
        split at h
        · exact hpq _ _ _ _ h
        · exact h.elim
      | false => simp only [hc, cond_false] at h
    · exact h.elim
  · exact h.elim
theorem m_putI (ci k nx : Nat) : Mono (o_putI ci k nx) := by
  intro P Q hpq L st w h
  unfold o_putI at h ⊢
  split at h
  · split at h
    · rename_i q hq
      cases hc : (q.1 == ci && q.2[k]? == some 0) with
      | true =>
        simp only [hc, cond_true] at h ⊢
        exact hpq _ _ _ _ h
      | false => simp only [hc, cond_false] at h
    · exact h.elim
  · exact h.elim
theorem m_putL (ci k nx : Nat) : Mono (o_putL ci k nx) := by
  intro P Q hpq L st w h
  unfold o_putL at h ⊢
  split at h
  · split at h
    · rename_i q hq
      cases hc : (q.1 == ci && q.2[k]? == some 1) with
      | true =>
        simp only [hc, cond_true] at h ⊢
        exact hpq _ _ _ _ h
      | false => simp only [hc, cond_false] at h
    · exact h.elim
  · exact h.elim
section OPS
variable {p : Program} {l : Launch} {e : Env} {R : Room} {s : State} {m : MethodId} {args : Array Value} {below : List Frame} {meth : Method} {c : Code} {Q : State → Prop} {D : va_G} {ad adV : Nat → Nat} {cA : Nat → ClassId} {cc : ByteArray} {nL : Nat} {own : String}
theorem s_iconst (C0 : Cx p s m args meth c D ad adV cA cc nL own) {pc : Nat} {n : Int} {v : Int32} (d : decode cc pc = .ok (.iconst n, 1)) (hv : Int32.ofInt n = v) : Sd p l e R s m args below meth c Q D ad cA nL pc (o_pushI v (pc + 1)) := by
  intro L st w h H locs ls hP hS hL
  exact lv_iconst C0.1 C0.2.1 d hv (h H locs ls hP hS hL)
theorem s_bipush (C0 : Cx p s m args meth c D ad adV cA cc nL own) {pc : Nat} {n : Int} {v : Int32} (d : decode cc pc = .ok (.bipush n, 2)) (hv : (Int8.ofInt n).toInt32 = v) : Sd p l e R s m args below meth c Q D ad cA nL pc (o_pushI v (pc + 2)) := by
  intro L st w h H locs ls hP hS hL
  exact lv_bipush C0.1 C0.2.1 d hv (h H locs ls hP hS hL)
theorem s_sipush (C0 : Cx p s m args meth c D ad adV cA cc nL own) {pc : Nat} {n : Int} {v : Int32} (d : decode cc pc = .ok (.sipush n, 3)) (hv : (Int16.ofInt n).toInt32 = v) : Sd p l e R s m args below meth c Q D ad cA nL pc (o_pushI v (pc + 3)) := by
  intro L st w h H locs ls hP hS hL
  exact lv_sipush C0.1 C0.2.1 d hv (h H locs ls hP hS hL)
theorem s_ldc (C0 : Cx p s m args meth c D ad adV cA cc nL own) {pc : Nat} {index : Nat} {v : Int32} (d : decode cc pc = .ok (.ldc index, 2)) (ht : Cond.constant own index v ∈ TT) : Sd p l e R s m args below meth c Q D ad cA nL pc (o_pushI v (pc + 2)) := by
  intro L st w h H locs ls hP hS hL
  exact lv_ldc C0.1 C0.2.1 C0.2.2.2.1 (C0.2.2.2.2.1 _ ht) d (h H locs ls hP hS hL)
theorem s_ldcw (C0 : Cx p s m args meth c D ad adV cA cc nL own) {pc : Nat} {index : Nat} {v : Int32} (d : decode cc pc = .ok (.ldc_w index, 3)) (ht : Cond.constant own index v ∈ TT) : Sd p l e R s m args below meth c Q D ad cA nL pc (o_pushI v (pc + 3)) := by
  intro L st w h H locs ls hP hS hL
  exact lv_ldcw C0.1 C0.2.1 C0.2.2.2.1 (C0.2.2.2.2.1 _ ht) d (h H locs ls hP hS hL)
theorem s_lconst (C0 : Cx p s m args meth c D ad adV cA cc nL own) {pc : Nat} {n : Fin 2} {v : Int64} (d : decode cc pc = .ok (.lconst n, 1)) (hv : Int64.ofNat (n : Nat) = v) : Sd p l e R s m args below meth c Q D ad cA nL pc (o_pushL v (pc + 1)) := by
  intro L st w h H locs ls hP hS hL
  exact lv_lconst C0.1 C0.2.1 d hv (h H locs ls hP hS hL)
theorem s_ldc2 (C0 : Cx p s m args meth c D ad adV cA cc nL own) {pc : Nat} {index : Nat} {v : Int64} (d : decode cc pc = .ok (.ldc2_w index, 3)) (ht : Cond.constantLong own index v ∈ TT) : Sd p l e R s m args below meth c Q D ad cA nL pc (o_pushL v (pc + 3)) := by
  intro L st w h H locs ls hP hS hL
  exact lv_ldc2 C0.1 C0.2.1 C0.2.2.2.1 (C0.2.2.2.2.1 _ ht) d (h H locs ls hP hS hL)
theorem s_ldcS (C0 : Cx p s m args meth c D ad adV cA cc nL own) {pc : Nat} {index : Nat} {tx : String} {k : Nat} (d : decode cc pc = .ok (.ldc index, 2)) (ht : (own, index, tx, k) ∈ sRef) : Sd p l e R s m args below meth c Q D ad cA nL pc (o_pushR (200 + k) (pc + 2)) := by
  intro L st w h H locs ls hP hS hL
  exact va_ldcS C0.1 C0.2.1 C0.2.2.2.1 (C0.2.2.2.2.2.2.2.1.2.2.1 _ ht) d (h H locs ls hP hS hL)
theorem s_gets (C0 : Cx p s m args meth c D ad adV cA cc nL own) {pc : Nat} {index : Nat} {nm : String} {k : Nat} (d : decode cc pc = .ok (.getstatic index, 3)) (ht : Cond.fieldLink own index "ThrowArms" nm "[I" ∈ TT) (hk : k < 7) (hn : roN.getD k "" = nm) : Sd p l e R s m args below meth c Q D ad cA nL pc (o_pushR (100 + k) (pc + 3)) := by
  intro L st w h H locs ls hP hS hL
  subst hn
  exact va_gets C0.1 C0.2.1 (C0.2.2.2.2.2.2.2.1.1 k hk).1 hS C0.2.2.2.1 (C0.2.2.2.2.1 _ ht) (fun _ h => h) d (h H locs ls hP hS hL)
theorem s_getsN (C0 : Cx p s m args meth c D ad adV cA cc nL own) {pc : Nat} {index : Nat} {nm host : String} {k : Nat} (d : decode cc pc = .ok (.getstatic index, 3)) (ht : (own, index, "ThrowArms", nm, "[I", host) ∈ nFld) (hk : k < 7) (hn : roN.getD k "" = nm) : Sd p l e R s m args below meth c Q D ad cA nL pc (o_pushR (100 + k) (pc + 3)) := by
  intro L st w h H locs ls hP hS hL
  subst hn
  exact va_getsN C0.1 C0.2.1 (C0.2.2.2.2.2.2.2.1.1 k hk).1 hS C0.2.2.2.1 (va_Nw.use rfl (C0.2.2.2.2.2.2.2.1.2.2.2.1 _ ht)) (fun _ h => h) d (h H locs ls hP hS hL)
theorem s_iload_n (C0 : Cx p s m args meth c D ad adV cA cc nL own) {pc : Nat} {k : Fin 4} {i : Nat} (d : decode cc pc = .ok (.iload_n k, 1)) (hi : (k : Nat) = i) : Sd p l e R s m args below meth c Q D ad cA nL pc (o_iload i (pc + 1)) := by
  intro L st w h H locs ls hP hS hL
  unfold o_iload at h
  split at h
  · exact lv_iload_n C0.1 C0.2.1 d hi (hasL_get hL ‹_› (by simp)) (h H locs ls hP hS hL)
  · exact h.elim
theorem s_iload (C0 : Cx p s m args meth c D ad adV cA cc nL own) {pc : Nat} {i : Nat} (d : decode cc pc = .ok (.iload i, 2)) : Sd p l e R s m args below meth c Q D ad cA nL pc (o_iload i (pc + 2)) := by
  intro L st w h H locs ls hP hS hL
  unfold o_iload at h
  split at h
  · exact lv_iload C0.1 C0.2.1 d (hasL_get hL ‹_› (by simp)) (h H locs ls hP hS hL)
  · exact h.elim
theorem s_lload_n (C0 : Cx p s m args meth c D ad adV cA cc nL own) {pc : Nat} {k : Fin 4} {i : Nat} (d : decode cc pc = .ok (.lload_n k, 1)) (hi : (k : Nat) = i) : Sd p l e R s m args below meth c Q D ad cA nL pc (o_lload i (pc + 1)) := by
  intro L st w h H locs ls hP hS hL
  unfold o_lload at h
  split at h
  · exact lv_lload_n C0.1 C0.2.1 d hi (hasL_get hL ‹_› (by simp)) (h H locs ls hP hS hL)
  · exact h.elim
theorem s_lload (C0 : Cx p s m args meth c D ad adV cA cc nL own) {pc : Nat} {i : Nat} (d : decode cc pc = .ok (.lload i, 2)) : Sd p l e R s m args below meth c Q D ad cA nL pc (o_lload i (pc + 2)) := by
  intro L st w h H locs ls hP hS hL
  unfold o_lload at h
  split at h
  · exact lv_lload C0.1 C0.2.1 d (hasL_get hL ‹_› (by simp)) (h H locs ls hP hS hL)
  · exact h.elim
theorem s_aload_n (C0 : Cx p s m args meth c D ad adV cA cc nL own) {pc : Nat} {k : Fin 4} {i : Nat} (d : decode cc pc = .ok (.aload_n k, 1)) (hi : (k : Nat) = i) : Sd p l e R s m args below meth c Q D ad cA nL pc (o_aload i (pc + 1)) := by
  intro L st w h H locs ls hP hS hL
  unfold o_aload at h
  split at h
  · exact lv_aload_n C0.1 C0.2.1 d hi (hasL_get hL ‹_› (by simp)) (h H locs ls hP hS hL)
  · exact h.elim
theorem s_aload (C0 : Cx p s m args meth c D ad adV cA cc nL own) {pc : Nat} {i : Nat} (d : decode cc pc = .ok (.aload i, 2)) : Sd p l e R s m args below meth c Q D ad cA nL pc (o_aload i (pc + 2)) := by
  intro L st w h H locs ls hP hS hL
  unfold o_aload at h
  split at h
  · exact lv_aload C0.1 C0.2.1 d (hasL_get hL ‹_› (by simp)) (h H locs ls hP hS hL)
  · exact h.elim
theorem s_istore_n (C0 : Cx p s m args meth c D ad adV cA cc nL own) {pc : Nat} {k : Fin 4} {i : Nat} (d : decode cc pc = .ok (.istore_n k, 1)) (hi : (k : Nat) = i) (hn : i < nL) : Sd p l e R s m args below meth c Q D ad cA nL pc (o_istore i (pc + 1)) := by
  intro L st w h H locs ls hP hS hL
  unfold o_istore at h
  split at h
  · exact lv_istore_n C0.1 C0.2.1 d hi (hasL_lv hL) hn rfl (fun ls1 h1 => h H locs ls1 hP hS (hasL_stI h1))
  · exact h.elim
theorem s_istore (C0 : Cx p s m args meth c D ad adV cA cc nL own) {pc : Nat} {i : Nat} (d : decode cc pc = .ok (.istore i, 2)) (hn : i < nL) : Sd p l e R s m args below meth c Q D ad cA nL pc (o_istore i (pc + 2)) := by
  intro L st w h H locs ls hP hS hL
  unfold o_istore at h
  split at h
  · exact lv_istore C0.1 C0.2.1 d (hasL_lv hL) hn rfl (fun ls1 h1 => h H locs ls1 hP hS (hasL_stI h1))
  · exact h.elim
theorem s_lstore_n (C0 : Cx p s m args meth c D ad adV cA cc nL own) {pc : Nat} {k : Fin 4} {i : Nat} (d : decode cc pc = .ok (.lstore_n k, 1)) (hi : (k : Nat) = i) (hn : i + 1 < nL) : Sd p l e R s m args below meth c Q D ad cA nL pc (o_lstore i (pc + 1)) := by
  intro L st w h H locs ls hP hS hL
  unfold o_lstore at h
  split at h
  · exact lv_lstore_n C0.1 C0.2.1 d hi (hasL_lv hL) hn rfl (fun ls1 h1 => h H locs ls1 hP hS (hasL_stL h1))
  · exact h.elim
theorem s_lstore (C0 : Cx p s m args meth c D ad adV cA cc nL own) {pc : Nat} {i : Nat} (d : decode cc pc = .ok (.lstore i, 2)) (hn : i + 1 < nL) : Sd p l e R s m args below meth c Q D ad cA nL pc (o_lstore i (pc + 2)) := by
  intro L st w h H locs ls hP hS hL
  unfold o_lstore at h
  split at h
  · exact lv_lstore C0.1 C0.2.1 d (hasL_lv hL) hn rfl (fun ls1 h1 => h H locs ls1 hP hS (hasL_stL h1))
  · exact h.elim
theorem s_iinc (C0 : Cx p s m args meth c D ad adV cA cc nL own) {pc : Nat} {i : Nat} {n : Int} {a : Int32} (d : decode cc pc = .ok (.iinc i n, 3)) (ha : Int32.ofInt n = a) (hn : i < nL) : Sd p l e R s m args below meth c Q D ad cA nL pc (o_iinc i a (pc + 3)) := by
  intro L st w h H locs ls hP hS hL
  unfold o_iinc at h
  split at h
  · rename_i x hx
    have hm : (i, vl ad (.int x)) ∈ lvs ad L := lvs_mem.mpr ⟨.int x, by
      show L[i]? = some (.int x)
      rw [List.getD_eq_getElem?_getD] at hx
      cases hs : L[i]? with
      | none => rw [hs] at hx; cases hx
      | some u => rw [hs] at hx; simpa using hx, by simp, rfl⟩
    obtain ⟨k, hk⟩ := List.getElem?_of_mem hm
    exact lv_iinc (k := k) C0.1 C0.2.1 d (hasL_lv hL) hk (by rw [ha]) hn rfl (fun ls1 h1 => h H locs ls1 hP hS (hasL_stI (v := .int (x + a)) h1))
  · exact h.elim
theorem s_iadd (C0 : Cx p s m args meth c D ad adV cA cc nL own) {pc : Nat} (d : decode cc pc = .ok (.iadd, 1)) : Sd p l e R s m args below meth c Q D ad cA nL pc (o_iadd (pc + 1)) := by
  intro L st w h H locs ls hP hS hL
  unfold o_iadd at h
  split at h
  · exact lv_iadd C0.1 C0.2.1 d (h H locs ls hP hS hL)
  · exact h.elim
theorem s_isub (C0 : Cx p s m args meth c D ad adV cA cc nL own) {pc : Nat} (d : decode cc pc = .ok (.isub, 1)) : Sd p l e R s m args below meth c Q D ad cA nL pc (o_isub (pc + 1)) := by
  intro L st w h H locs ls hP hS hL
  unfold o_isub at h
  split at h
  · exact lv_isub C0.1 C0.2.1 d (h H locs ls hP hS hL)
  · exact h.elim
theorem s_imul (C0 : Cx p s m args meth c D ad adV cA cc nL own) {pc : Nat} (d : decode cc pc = .ok (.imul, 1)) : Sd p l e R s m args below meth c Q D ad cA nL pc (o_imul (pc + 1)) := by
  intro L st w h H locs ls hP hS hL
  unfold o_imul at h
  split at h
  · exact lv_imul C0.1 C0.2.1 d (h H locs ls hP hS hL)
  · exact h.elim
theorem s_iand (C0 : Cx p s m args meth c D ad adV cA cc nL own) {pc : Nat} (d : decode cc pc = .ok (.iand, 1)) : Sd p l e R s m args below meth c Q D ad cA nL pc (o_iand (pc + 1)) := by
  intro L st w h H locs ls hP hS hL
  unfold o_iand at h
  split at h
  · exact lv_iand C0.1 C0.2.1 d (h H locs ls hP hS hL)
  · exact h.elim
theorem s_ior (C0 : Cx p s m args meth c D ad adV cA cc nL own) {pc : Nat} (d : decode cc pc = .ok (.ior, 1)) : Sd p l e R s m args below meth c Q D ad cA nL pc (o_ior (pc + 1)) := by
  intro L st w h H locs ls hP hS hL
  unfold o_ior at h
  split at h
  · exact lv_ior C0.1 C0.2.1 d (h H locs ls hP hS hL)
  · exact h.elim
theorem s_ixor (C0 : Cx p s m args meth c D ad adV cA cc nL own) {pc : Nat} (d : decode cc pc = .ok (.ixor, 1)) : Sd p l e R s m args below meth c Q D ad cA nL pc (o_ixor (pc + 1)) := by
  intro L st w h H locs ls hP hS hL
  unfold o_ixor at h
  split at h
  · exact lv_ixor C0.1 C0.2.1 d (h H locs ls hP hS hL)
  · exact h.elim
theorem s_ishl (C0 : Cx p s m args meth c D ad adV cA cc nL own) {pc : Nat} (d : decode cc pc = .ok (.ishl, 1)) : Sd p l e R s m args below meth c Q D ad cA nL pc (o_ishl (pc + 1)) := by
  intro L st w h H locs ls hP hS hL
  unfold o_ishl at h
  split at h
  · exact lv_ishl C0.1 C0.2.1 d (h H locs ls hP hS hL)
  · exact h.elim
theorem s_ishr (C0 : Cx p s m args meth c D ad adV cA cc nL own) {pc : Nat} (d : decode cc pc = .ok (.ishr, 1)) : Sd p l e R s m args below meth c Q D ad cA nL pc (o_ishr (pc + 1)) := by
  intro L st w h H locs ls hP hS hL
  unfold o_ishr at h
  split at h
  · exact lv_ishr C0.1 C0.2.1 d (h H locs ls hP hS hL)
  · exact h.elim
theorem s_iushr (C0 : Cx p s m args meth c D ad adV cA cc nL own) {pc : Nat} (d : decode cc pc = .ok (.iushr, 1)) : Sd p l e R s m args below meth c Q D ad cA nL pc (o_iushr (pc + 1)) := by
  intro L st w h H locs ls hP hS hL
  unfold o_iushr at h
  split at h
  · exact lv_iushr C0.1 C0.2.1 d rfl (h H locs ls hP hS hL)
  · exact h.elim
theorem s_idiv (C0 : Cx p s m args meth c D ad adV cA cc nL own) {pc : Nat} (d : decode cc pc = .ok (.idiv, 1)) : Sd p l e R s m args below meth c Q D ad cA nL pc (o_idiv (pc + 1)) := by
  intro L st w h H locs ls hP hS hL
  unfold o_idiv at h
  split at h
  · exact lv_idiv C0.1 C0.2.1 d h.1 (h.2 H locs ls hP hS hL)
  · exact h.elim
theorem s_irem (C0 : Cx p s m args meth c D ad adV cA cc nL own) {pc : Nat} (d : decode cc pc = .ok (.irem, 1)) : Sd p l e R s m args below meth c Q D ad cA nL pc (o_irem (pc + 1)) := by
  intro L st w h H locs ls hP hS hL
  unfold o_irem at h
  split at h
  · exact lv_irem C0.1 C0.2.1 d h.1 (h.2 H locs ls hP hS hL)
  · exact h.elim
theorem s_lmul (C0 : Cx p s m args meth c D ad adV cA cc nL own) {pc : Nat} (d : decode cc pc = .ok (.lmul, 1)) : Sd p l e R s m args below meth c Q D ad cA nL pc (o_lmul (pc + 1)) := by
  intro L st w h H locs ls hP hS hL
  unfold o_lmul at h
  split at h
  · exact lv_lmul C0.1 C0.2.1 d (h H locs ls hP hS hL)
  · exact h.elim
theorem s_lor (C0 : Cx p s m args meth c D ad adV cA cc nL own) {pc : Nat} (d : decode cc pc = .ok (.lor, 1)) : Sd p l e R s m args below meth c Q D ad cA nL pc (o_lor (pc + 1)) := by
  intro L st w h H locs ls hP hS hL
  unfold o_lor at h
  split at h
  · exact lv_lor C0.1 C0.2.1 d (h H locs ls hP hS hL)
  · exact h.elim
theorem s_ldiv (C0 : Cx p s m args meth c D ad adV cA cc nL own) {pc : Nat} (d : decode cc pc = .ok (.ldiv, 1)) : Sd p l e R s m args below meth c Q D ad cA nL pc (o_ldiv (pc + 1)) := by
  intro L st w h H locs ls hP hS hL
  unfold o_ldiv at h
  split at h
  · exact lv_ldiv C0.1 C0.2.1 d h.1 (h.2 H locs ls hP hS hL)
  · exact h.elim
theorem s_lrem (C0 : Cx p s m args meth c D ad adV cA cc nL own) {pc : Nat} (d : decode cc pc = .ok (.lrem, 1)) : Sd p l e R s m args below meth c Q D ad cA nL pc (o_lrem (pc + 1)) := by
  intro L st w h H locs ls hP hS hL
  unfold o_lrem at h
  split at h
  · exact lv_lrem C0.1 C0.2.1 d h.1 (h.2 H locs ls hP hS hL)
  · exact h.elim
theorem s_lshl (C0 : Cx p s m args meth c D ad adV cA cc nL own) {pc : Nat} (d : decode cc pc = .ok (.lshl, 1)) : Sd p l e R s m args below meth c Q D ad cA nL pc (o_lshl (pc + 1)) := by
  intro L st w h H locs ls hP hS hL
  unfold o_lshl at h
  split at h
  · exact lv_lshl C0.1 C0.2.1 d rfl (h H locs ls hP hS hL)
  · exact h.elim
theorem s_lcmp (C0 : Cx p s m args meth c D ad adV cA cc nL own) {pc : Nat} (d : decode cc pc = .ok (.lcmp, 1)) : Sd p l e R s m args below meth c Q D ad cA nL pc (o_lcmp (pc + 1)) := by
  intro L st w h H locs ls hP hS hL
  unfold o_lcmp at h
  split at h
  · exact W.lcmp C0.1 C0.2.1 d (h H locs ls hP hS hL)
  · exact h.elim
theorem s_i2l (C0 : Cx p s m args meth c D ad adV cA cc nL own) {pc : Nat} (d : decode cc pc = .ok (.i2l, 1)) : Sd p l e R s m args below meth c Q D ad cA nL pc (o_i2l (pc + 1)) := by
  intro L st w h H locs ls hP hS hL
  unfold o_i2l at h
  split at h
  · exact lv_i2l C0.1 C0.2.1 d rfl (h H locs ls hP hS hL)
  · exact h.elim
theorem s_i2b (C0 : Cx p s m args meth c D ad adV cA cc nL own) {pc : Nat} (d : decode cc pc = .ok (.i2b, 1)) : Sd p l e R s m args below meth c Q D ad cA nL pc (o_i2b (pc + 1)) := by
  intro L st w h H locs ls hP hS hL
  unfold o_i2b at h
  split at h
  · exact lv_i2b C0.1 C0.2.1 d rfl (h H locs ls hP hS hL)
  · exact h.elim
theorem s_dup (C0 : Cx p s m args meth c D ad adV cA cc nL own) {pc : Nat} (d : decode cc pc = .ok (.dup, 1)) : Sd p l e R s m args below meth c Q D ad cA nL pc (o_dup (pc + 1)) := by
  intro L st w h H locs ls hP hS hL
  unfold o_dup at h
  split at h
  · exact lv_dup C0.1 C0.2.1 d rfl (h H locs ls hP hS hL)
  · exact lv_dup C0.1 C0.2.1 d rfl (h H locs ls hP hS hL)
  · exact h.elim
theorem s_pop (C0 : Cx p s m args meth c D ad adV cA cc nL own) {pc : Nat} (d : decode cc pc = .ok (.pop, 1)) : Sd p l e R s m args below meth c Q D ad cA nL pc (o_pop (pc + 1)) := by
  intro L st w h H locs ls hP hS hL
  unfold o_pop at h
  split at h
  · exact lv_pop C0.1 C0.2.1 d rfl (h H locs ls hP hS hL)
  · exact h.elim
theorem s_dup2 (C0 : Cx p s m args meth c D ad adV cA cc nL own) {pc : Nat} (d : decode cc pc = .ok (.dup2, 1)) : Sd p l e R s m args below meth c Q D ad cA nL pc (o_dup2 (pc + 1)) := by
  intro L st w h H locs ls hP hS hL
  unfold o_dup2 at h
  split at h
  · exact lv_dup2_11 C0.1 C0.2.1 d rfl rfl (h H locs ls hP hS hL)
  · exact h.elim
theorem s_if_eq (C0 : Cx p s m args meth c D ad adV cA cc nL own) {pc : Nat} {off : Int} {tg : Nat} (d : decode cc pc = .ok (.ifCond .eq off, 3)) (ht : (pc : Int) + off = (tg : Int)) : Sd p l e R s m args below meth c Q D ad cA nL pc (o_if_eq tg (pc + 3)) := by
  intro L st w h H locs ls hP hS hL
  unfold o_if_eq at h
  split at h
  · exact lv_if_eq C0.1 C0.2.1 d ht (fun z => h.1 z H locs ls hP hS hL) (fun z => h.2 z H locs ls hP hS hL)
  · exact h.elim
theorem s_if_ne (C0 : Cx p s m args meth c D ad adV cA cc nL own) {pc : Nat} {off : Int} {tg : Nat} (d : decode cc pc = .ok (.ifCond .ne off, 3)) (ht : (pc : Int) + off = (tg : Int)) : Sd p l e R s m args below meth c Q D ad cA nL pc (o_if_ne tg (pc + 3)) := by
  intro L st w h H locs ls hP hS hL
  unfold o_if_ne at h
  split at h
  · exact lv_if_ne C0.1 C0.2.1 d ht (fun z => h.1 z H locs ls hP hS hL) (fun z => h.2 z H locs ls hP hS hL)
  · exact h.elim
theorem s_if_lt (C0 : Cx p s m args meth c D ad adV cA cc nL own) {pc : Nat} {off : Int} {tg : Nat} (d : decode cc pc = .ok (.ifCond .lt off, 3)) (ht : (pc : Int) + off = (tg : Int)) : Sd p l e R s m args below meth c Q D ad cA nL pc (o_if_lt tg (pc + 3)) := by
  intro L st w h H locs ls hP hS hL
  unfold o_if_lt at h
  split at h
  · exact lv_if_lt C0.1 C0.2.1 d ht (fun z => h.1 z H locs ls hP hS hL) (fun z => h.2 z H locs ls hP hS hL)
  · exact h.elim
theorem s_if_ge (C0 : Cx p s m args meth c D ad adV cA cc nL own) {pc : Nat} {off : Int} {tg : Nat} (d : decode cc pc = .ok (.ifCond .ge off, 3)) (ht : (pc : Int) + off = (tg : Int)) : Sd p l e R s m args below meth c Q D ad cA nL pc (o_if_ge tg (pc + 3)) := by
  intro L st w h H locs ls hP hS hL
  unfold o_if_ge at h
  split at h
  · exact lv_if_ge C0.1 C0.2.1 d ht (fun z => h.1 z H locs ls hP hS hL) (fun z => h.2 z H locs ls hP hS hL)
  · exact h.elim
theorem s_if_gt (C0 : Cx p s m args meth c D ad adV cA cc nL own) {pc : Nat} {off : Int} {tg : Nat} (d : decode cc pc = .ok (.ifCond .gt off, 3)) (ht : (pc : Int) + off = (tg : Int)) : Sd p l e R s m args below meth c Q D ad cA nL pc (o_if_gt tg (pc + 3)) := by
  intro L st w h H locs ls hP hS hL
  unfold o_if_gt at h
  split at h
  · exact lv_if_gt C0.1 C0.2.1 d ht (fun z => h.1 z H locs ls hP hS hL) (fun z => h.2 z H locs ls hP hS hL)
  · exact h.elim
theorem s_if_le (C0 : Cx p s m args meth c D ad adV cA cc nL own) {pc : Nat} {off : Int} {tg : Nat} (d : decode cc pc = .ok (.ifCond .le off, 3)) (ht : (pc : Int) + off = (tg : Int)) : Sd p l e R s m args below meth c Q D ad cA nL pc (o_if_le tg (pc + 3)) := by
  intro L st w h H locs ls hP hS hL
  unfold o_if_le at h
  split at h
  · exact lv_if_le C0.1 C0.2.1 d ht (fun z => h.1 z H locs ls hP hS hL) (fun z => h.2 z H locs ls hP hS hL)
  · exact h.elim
theorem s_icmp_eq (C0 : Cx p s m args meth c D ad adV cA cc nL own) {pc : Nat} {off : Int} {tg : Nat} (d : decode cc pc = .ok (.if_icmp .eq off, 3)) (ht : (pc : Int) + off = (tg : Int)) : Sd p l e R s m args below meth c Q D ad cA nL pc (o_icmp_eq tg (pc + 3)) := by
  intro L st w h H locs ls hP hS hL
  unfold o_icmp_eq at h
  split at h
  · exact lv_icmp_eq C0.1 C0.2.1 d ht (fun z => h.1 z H locs ls hP hS hL) (fun z => h.2 z H locs ls hP hS hL)
  · exact h.elim
theorem s_icmp_ne (C0 : Cx p s m args meth c D ad adV cA cc nL own) {pc : Nat} {off : Int} {tg : Nat} (d : decode cc pc = .ok (.if_icmp .ne off, 3)) (ht : (pc : Int) + off = (tg : Int)) : Sd p l e R s m args below meth c Q D ad cA nL pc (o_icmp_ne tg (pc + 3)) := by
  intro L st w h H locs ls hP hS hL
  unfold o_icmp_ne at h
  split at h
  · exact lv_icmp_ne C0.1 C0.2.1 d ht (fun z => h.1 z H locs ls hP hS hL) (fun z => h.2 z H locs ls hP hS hL)
  · exact h.elim
theorem s_icmp_lt (C0 : Cx p s m args meth c D ad adV cA cc nL own) {pc : Nat} {off : Int} {tg : Nat} (d : decode cc pc = .ok (.if_icmp .lt off, 3)) (ht : (pc : Int) + off = (tg : Int)) : Sd p l e R s m args below meth c Q D ad cA nL pc (o_icmp_lt tg (pc + 3)) := by
  intro L st w h H locs ls hP hS hL
  unfold o_icmp_lt at h
  split at h
  · exact lv_icmp_lt C0.1 C0.2.1 d ht (fun z => h.1 z H locs ls hP hS hL) (fun z => h.2 z H locs ls hP hS hL)
  · exact h.elim
theorem s_icmp_ge (C0 : Cx p s m args meth c D ad adV cA cc nL own) {pc : Nat} {off : Int} {tg : Nat} (d : decode cc pc = .ok (.if_icmp .ge off, 3)) (ht : (pc : Int) + off = (tg : Int)) : Sd p l e R s m args below meth c Q D ad cA nL pc (o_icmp_ge tg (pc + 3)) := by
  intro L st w h H locs ls hP hS hL
  unfold o_icmp_ge at h
  split at h
  · exact lv_icmp_ge C0.1 C0.2.1 d ht (fun z => h.1 z H locs ls hP hS hL) (fun z => h.2 z H locs ls hP hS hL)
  · exact h.elim
theorem s_icmp_gt (C0 : Cx p s m args meth c D ad adV cA cc nL own) {pc : Nat} {off : Int} {tg : Nat} (d : decode cc pc = .ok (.if_icmp .gt off, 3)) (ht : (pc : Int) + off = (tg : Int)) : Sd p l e R s m args below meth c Q D ad cA nL pc (o_icmp_gt tg (pc + 3)) := by
  intro L st w h H locs ls hP hS hL
  unfold o_icmp_gt at h
  split at h
  · exact lv_icmp_gt C0.1 C0.2.1 d ht (fun z => h.1 z H locs ls hP hS hL) (fun z => h.2 z H locs ls hP hS hL)
  · exact h.elim
theorem s_icmp_le (C0 : Cx p s m args meth c D ad adV cA cc nL own) {pc : Nat} {off : Int} {tg : Nat} (d : decode cc pc = .ok (.if_icmp .le off, 3)) (ht : (pc : Int) + off = (tg : Int)) : Sd p l e R s m args below meth c Q D ad cA nL pc (o_icmp_le tg (pc + 3)) := by
  intro L st w h H locs ls hP hS hL
  unfold o_icmp_le at h
  split at h
  · exact lv_icmp_le C0.1 C0.2.1 d ht (fun z => h.1 z H locs ls hP hS hL) (fun z => h.2 z H locs ls hP hS hL)
  · exact h.elim
theorem s_goto (C0 : Cx p s m args meth c D ad adV cA cc nL own) {pc : Nat} {off : Int} {tg : Nat} (d : decode cc pc = .ok (.goto off, 3)) (ht : (pc : Int) + off = (tg : Int)) : Sd p l e R s m args below meth c Q D ad cA nL pc (o_goto tg) := by
  intro L st w h H locs ls hP hS hL
  exact lv_goto C0.1 C0.2.1 d ht (h H locs ls hP hS hL)
theorem s_table (C0 : Cx p s m args meth c D ad adV cA cc nL own) {pc : Nat} {df lo hi : Int} {offs : Array Int} {len dt : Nat} {tg : List Nat} (d : decode cc pc = .ok (.tableswitch df lo hi offs, len)) (hd : (pc : Int) + df = (dt : Int)) (hl : lo + (offs.size : Int) = hi + 1) (hg : offs.toList.map (fun x => (pc : Int) + x) = tg.map (fun (x : Nat) => (x : Int))) : Sd p l e R s m args below meth c Q D ad cA nL pc (o_table lo hi dt tg) := by
  intro L st w h H locs ls hP hS hL
  unfold o_table at h
  split at h
  · rename_i x r
    by_cases z : x.toInt < lo ∨ hi < x.toInt
    · exact lv_tableOut C0.1 C0.2.1 d z hd (h.1 z H locs ls hP hS hL)
    · have z1 : ¬ x.toInt < lo := fun q => z (Or.inl q)
      have z2 : ¬ hi < x.toInt := fun q => z (Or.inr q)
      have hk : (x.toInt - lo).toNat < offs.size := by omega
      obtain ⟨off, ho⟩ : ∃ off, offs[(x.toInt - lo).toNat]? = some off := ⟨_, Array.getElem?_eq_getElem hk⟩
      have e1 : (offs.toList.map (fun x => (pc : Int) + x))[(x.toInt - lo).toNat]? = some ((pc : Int) + off) := by
        rw [List.getElem?_map, Array.getElem?_toList, ho]
        rfl
      rw [hg, List.getElem?_map] at e1
      cases ht : tg[(x.toInt - lo).toNat]? with
      | none => rw [ht] at e1; cases e1
      | some t =>
        rw [ht] at e1
        have e2 : (t : Int) = (pc : Int) + off := Option.some.inj e1
        exact lv_tableIn C0.1 C0.2.1 d z1 z2 ho e2.symm (h.2 _ t ht (by omega) H locs ls hP hS hL)
  · exact h.elim
theorem s_get (C0 : Cx p s m args meth c D ad adV cA cc nL own) {pc : Nat} {C : String} {T : u_T} {N ci k index : Nat} (d : decode cc pc = .ok (.getfield index, 3)) (hin : ∀ w ∈ u_ws C T N, w ∈ TT) (hc : vwCl[ci]? = some (C, T, N)) (hk : k < N) (ht : Cond.fieldLink own index (T k).1 (T k).2.1 (T k).2.2.1 ∈ TT) : Sd p l e R s m args below meth c Q D ad cA nL pc (o_get ci k (pc + 3)) := by
  intro L st w h H locs ls hP hS hL
  unfold o_get at h
  split at h
  · split at h
    · rename_i x r _ q hq
      cases hz : (q.1 == ci) with
      | true =>
        simp only [hz, cond_true] at h
        split at h
        · rename_i kd hkd
          have e : ci = q.1 := by simpa using (beq_iff_eq.mp hz).symm
          subst e
          exact va_get C0.1 C0.2.1 C0.2.2.2.2.1 hin C0.2.2.2.1 C0.2.2.2.2.2.1 hP x (fs := q.2.mapIdx (fun j k => vl ad (fvA w x j k))) (Cells_get hq) hc k hk (C0.2.2.2.2.1 _ ht) (fun _ h => h) (v := vl ad (fvA w x k kd)) (by rw [List.getElem?_mapIdx, hkd]; rfl) d (h H locs ls hP hS hL)
        · exact h.elim
      | false => simp only [hz, cond_false] at h
    · exact h.elim
  · exact h.elim
theorem s_putI (C0 : Cx p s m args meth c D ad adV cA cc nL own) {pc : Nat} {C : String} {T : u_T} {N ci k index : Nat} {ty0 : Nat → FieldType} (d : decode cc pc = .ok (.putfield index, 3)) (hin : ∀ w ∈ u_ws C T N, w ∈ TT) (hty : ∀ k, k < N → parseFieldDescriptor (T k).2.2.1 = some (ty0 k)) (hnm : ∀ a, a < N → ∀ b, b < N → a ≠ b → (T a).2.1 ≠ (T b).2.1) (hc : vwCl[ci]? = some (C, T, N)) (hk : k < N) (hfin : (T k).2.2.2 = false) (hd : ty0 k = .int) (ht : Cond.fieldLink own index (T k).1 (T k).2.1 (T k).2.2.1 ∈ TT) : Sd p l e R s m args below meth c Q D ad cA nL pc (o_putI ci k (pc + 3)) := by
  intro L st w h H locs ls hP hS hL
  unfold o_putI at h
  split at h
  · split at h
    · rename_i v x r _ q hq
      cases hz : (q.1 == ci && q.2[k]? == some 0) with
      | true =>
        simp only [hz, cond_true] at h
        simp only [Bool.and_eq_true, beq_iff_eq] at hz
        obtain ⟨e, hkd⟩ := hz
        subst e
        have hl : k < (q.2.mapIdx (fun j k => vl ad (fvA w x j k))).length := by rw [List.length_mapIdx]; exact (List.getElem?_eq_some_iff.mp hkd).1
        refine va_put C0.1 C0.2.1 C0.2.2.2.2.1 hin ty0 hty hnm C0.2.2.2.1 C0.2.2.2.2.2.1 hP (Cells_D C0.2.2.2.2.2.2.1) hS x (fs := q.2.mapIdx (fun j k => vl ad (fvA w x j k))) (Cells_get hq) hc k hk (C0.2.2.2.2.1 _ ht) (fun _ h => h) hfin (ty := .int) (v := .int v) (by rw [hty k hk, hd]) rfl rfl hl d (fun H1 locs1 hP1 _ hS1 => ?_)
        rw [Cells_set (w' := upI w x k v) hq] at hP1
        · exact h H1 locs1 ls hP1 hS1 hL
        · intro a ha
          exact ⟨by funext b; simp [upI, ha], by funext b; simp [upI, ha]⟩
        · show (Sum.inr (q.1, _) : va_E) = Sum.inr (q.1, _)
          congr 2
          apply List.ext_getElem?
          intro j
          rw [List.getElem?_set]
          by_cases hj : k = j
          · subst hj
            rw [if_pos rfl, if_pos hl, List.getElem?_mapIdx, hkd]
            simp [fvA, vl, upI]
          · rw [if_neg hj, List.getElem?_mapIdx, List.getElem?_mapIdx]
            cases q.2[j]? with
            | none => rfl
            | some kd =>
              have : fvA (upI w x k v) x j kd = fvA w x j kd := by
                unfold fvA
                split <;> simp [upI, Ne.symm hj]
              simp [this]
      | false => simp only [hz, cond_false] at h
    · exact h.elim
  · exact h.elim
theorem s_putL (C0 : Cx p s m args meth c D ad adV cA cc nL own) {pc : Nat} {C : String} {T : u_T} {N ci k index : Nat} {ty0 : Nat → FieldType} (d : decode cc pc = .ok (.putfield index, 3)) (hin : ∀ w ∈ u_ws C T N, w ∈ TT) (hty : ∀ k, k < N → parseFieldDescriptor (T k).2.2.1 = some (ty0 k)) (hnm : ∀ a, a < N → ∀ b, b < N → a ≠ b → (T a).2.1 ≠ (T b).2.1) (hc : vwCl[ci]? = some (C, T, N)) (hk : k < N) (hfin : (T k).2.2.2 = false) (hd : ty0 k = .long) (ht : Cond.fieldLink own index (T k).1 (T k).2.1 (T k).2.2.1 ∈ TT) : Sd p l e R s m args below meth c Q D ad cA nL pc (o_putL ci k (pc + 3)) := by
  intro L st w h H locs ls hP hS hL
  unfold o_putL at h
  split at h
  · split at h
    · rename_i v x r _ q hq
      cases hz : (q.1 == ci && q.2[k]? == some 1) with
      | true =>
        simp only [hz, cond_true] at h
        simp only [Bool.and_eq_true, beq_iff_eq] at hz
        obtain ⟨e, hkd⟩ := hz
        subst e
        have hl : k < (q.2.mapIdx (fun j k => vl ad (fvA w x j k))).length := by rw [List.length_mapIdx]; exact (List.getElem?_eq_some_iff.mp hkd).1
        refine va_put C0.1 C0.2.1 C0.2.2.2.2.1 hin ty0 hty hnm C0.2.2.2.1 C0.2.2.2.2.2.1 hP (Cells_D C0.2.2.2.2.2.2.1) hS x (fs := q.2.mapIdx (fun j k => vl ad (fvA w x j k))) (Cells_get hq) hc k hk (C0.2.2.2.2.1 _ ht) (fun _ h => h) hfin (ty := .long) (v := .long v) (by rw [hty k hk, hd]) rfl rfl hl d (fun H1 locs1 hP1 _ hS1 => ?_)
        rw [Cells_set (w' := upL w x k v) hq] at hP1
        · exact h H1 locs1 ls hP1 hS1 hL
        · intro a ha
          exact ⟨by funext b; simp [upL, ha], by funext b; simp [upL, ha]⟩
        · show (Sum.inr (q.1, _) : va_E) = Sum.inr (q.1, _)
          congr 2
          apply List.ext_getElem?
          intro j
          rw [List.getElem?_set]
          by_cases hj : k = j
          · subst hj
            rw [if_pos rfl, if_pos hl, List.getElem?_mapIdx, hkd]
            simp [fvA, vl, upL]
          · rw [if_neg hj, List.getElem?_mapIdx, List.getElem?_mapIdx]
            cases q.2[j]? with
            | none => rfl
            | some kd =>
              have : fvA (upL w x k v) x j kd = fvA w x j kd := by
                unfold fvA
                split <;> simp [upL, Ne.symm hj]
              simp [this]
      | false => simp only [hz, cond_false] at h
    · exact h.elim
  · exact h.elim
end OPS
