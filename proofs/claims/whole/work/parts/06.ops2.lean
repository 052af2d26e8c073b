def o_iald (nx : Nat) : Op := fun P L st w => match st with
  | .int i :: .ref x :: r => match shp[x]? with
    | some (.inl q) => bif q.1 == 0 then vp_in i q.2 ∧ P nx L (.int (w.1 x i.toNatClampNeg) :: r) w else False
    | _ => False
  | _ => False
theorem m_iald (nx : Nat) : Mono (o_iald nx) := by
  intro P Q hpq L st w h
  unfold o_iald at h ⊢
  split at h
  · split at h
    · rename_i q hq
      cases hc : (q.1 == 0) with
      | true =>
        simp only [hc, cond_true] at h ⊢
        exact ⟨h.1, hpq _ _ _ _ h.2⟩
      | false => simp only [hc, cond_false] at h
    · exact h.elim
  · exact h.elim
def o_lald (nx : Nat) : Op := fun P L st w => match st with
  | .int i :: .ref x :: r => match shp[x]? with
    | some (.inl q) => bif q.1 == 1 then vp_in i q.2 ∧ P nx L (.long (w.2 x i.toNatClampNeg) :: r) w else False
    | _ => False
  | _ => False
theorem m_lald (nx : Nat) : Mono (o_lald nx) := by
  intro P Q hpq L st w h
  unfold o_lald at h ⊢
  split at h
  · split at h
    · rename_i q hq
      cases hc : (q.1 == 1) with
      | true =>
        simp only [hc, cond_true] at h ⊢
        exact ⟨h.1, hpq _ _ _ _ h.2⟩
      | false => simp only [hc, cond_false] at h
    · exact h.elim
  · exact h.elim
def o_bald (nx : Nat) : Op := fun P L st w => match st with
  | .int i :: .ref x :: r => match shp[x]? with
    | some (.inl q) => bif q.1 == 2 then vp_in i q.2 ∧ P nx L (.int (w.1 x i.toNatClampNeg) :: r) w else False
    | _ => False
  | _ => False
theorem m_bald (nx : Nat) : Mono (o_bald nx) := by
  intro P Q hpq L st w h
  unfold o_bald at h ⊢
  split at h
  · split at h
    · rename_i q hq
      cases hc : (q.1 == 2) with
      | true =>
        simp only [hc, cond_true] at h ⊢
        exact ⟨h.1, hpq _ _ _ _ h.2⟩
      | false => simp only [hc, cond_false] at h
    · exact h.elim
  · exact h.elim
def o_zald (nx : Nat) : Op := fun P L st w => match st with
  | .int i :: .ref x :: r => match shp[x]? with
    | some (.inl q) => bif q.1 == 3 then vp_in i q.2 ∧ P nx L (.int (w.1 x i.toNatClampNeg) :: r) w else False
    | _ => False
  | _ => False
theorem m_zald (nx : Nat) : Mono (o_zald nx) := by
  intro P Q hpq L st w h
  unfold o_zald at h ⊢
  split at h
  · split at h
    · rename_i q hq
      cases hc : (q.1 == 3) with
      | true =>
        simp only [hc, cond_true] at h ⊢
        exact ⟨h.1, hpq _ _ _ _ h.2⟩
      | false => simp only [hc, cond_false] at h
    · exact h.elim
  · exact h.elim
def o_iast (nx : Nat) : Op := fun P L st w => match st with
  | .int v :: .int i :: .ref x :: r => match shp[x]? with
    | some (.inl q) => bif q.1 == 0 then vp_in i q.2 ∧ P nx L r (upI w x i.toNatClampNeg v) else False
    | _ => False
  | _ => False
theorem m_iast (nx : Nat) : Mono (o_iast nx) := by
  intro P Q hpq L st w h
  unfold o_iast at h ⊢
  split at h
  · split at h
    · rename_i q hq
      cases hc : (q.1 == 0) with
      | true =>
        simp only [hc, cond_true] at h ⊢
        exact ⟨h.1, hpq _ _ _ _ h.2⟩
      | false => simp only [hc, cond_false] at h
    · exact h.elim
  · exact h.elim
def o_last (nx : Nat) : Op := fun P L st w => match st with
  | .long v :: .int i :: .ref x :: r => match shp[x]? with
    | some (.inl q) => bif q.1 == 1 then vp_in i q.2 ∧ P nx L r (upL w x i.toNatClampNeg v) else False
    | _ => False
  | _ => False
theorem m_last (nx : Nat) : Mono (o_last nx) := by
  intro P Q hpq L st w h
  unfold o_last at h ⊢
  split at h
  · split at h
    · rename_i q hq
      cases hc : (q.1 == 1) with
      | true =>
        simp only [hc, cond_true] at h ⊢
        exact ⟨h.1, hpq _ _ _ _ h.2⟩
      | false => simp only [hc, cond_false] at h
    · exact h.elim
  · exact h.elim
def o_bast (nx : Nat) : Op := fun P L st w => match st with
  | .int v :: .int i :: .ref x :: r => match shp[x]? with
    | some (.inl q) => bif q.1 == 2 then vp_in i q.2 ∧ P nx L r (upI w x i.toNatClampNeg (vp_nar .byte v)) else False
    | _ => False
  | _ => False
theorem m_bast (nx : Nat) : Mono (o_bast nx) := by
  intro P Q hpq L st w h
  unfold o_bast at h ⊢
  split at h
  · split at h
    · rename_i q hq
      cases hc : (q.1 == 2) with
      | true =>
        simp only [hc, cond_true] at h ⊢
        exact ⟨h.1, hpq _ _ _ _ h.2⟩
      | false => simp only [hc, cond_false] at h
    · exact h.elim
  · exact h.elim
def o_zast (nx : Nat) : Op := fun P L st w => match st with
  | .int v :: .int i :: .ref x :: r => match shp[x]? with
    | some (.inl q) => bif q.1 == 3 then vp_in i q.2 ∧ P nx L r (upI w x i.toNatClampNeg (vp_nar .boolean v)) else False
    | _ => False
  | _ => False
theorem m_zast (nx : Nat) : Mono (o_zast nx) := by
  intro P Q hpq L st w h
  unfold o_zast at h ⊢
  split at h
  · split at h
    · rename_i q hq
      cases hc : (q.1 == 3) with
      | true =>
        simp only [hc, cond_true] at h ⊢
        exact ⟨h.1, hpq _ _ _ _ h.2⟩
      | false => simp only [hc, cond_false] at h
    · exact h.elim
  · exact h.elim
def o_iaro (nx : Nat) : Op := fun P L st w => match st with
  | .int i :: .ref x :: r => bif Nat.ble 100 x && Nat.ble x 106 then vp_in i (roV.getD (x - 100) []).length ∧ P nx L (.int ((roV.getD (x - 100) []).getD i.toNatClampNeg 0) :: r) w else False
  | _ => False
def rmok (r : List Value) : Bool := Nat.ble ((r.map fun v => v.category).sum) 8
def cpOk (sp dp n : Int32) (n0 n1 : Nat) : Prop := ¬ sp < 0 ∧ ¬ dp < 0 ∧ ¬ n < 0 ∧ sp.toNatClampNeg + n.toNatClampNeg ≤ n0 ∧ dp.toNatClampNeg + n.toNatClampNeg ≤ n1
/-- the length of an array of a kind -/
def arL (t x : Nat) : Option Nat := match shp[x]? with
  | some (.inl q) => bif q.1 == t then some q.2 else none
  | _ => none
def roL (x : Nat) : Option Nat := bif Nat.ble 100 x && Nat.ble x 106 then some (roV.getD (x - 100) []).length else none
theorem arL_of {t x n : Nat} (h : arL t x = some n) : shp[x]? = some (.inl (t, n)) := by
  unfold arL at h
  split at h
  · rename_i q hq
    cases hc : (q.1 == t) with
    | true =>
      rw [hc] at h
      have e : q.2 = n := Option.some.inj h
      have e2 : q.1 = t := by simpa using hc
      rw [hq, ← e, ← e2]
    | false => rw [hc] at h; cases h
  · cases h
theorem roL_of {x n : Nat} (h : roL x = some n) : ∃ k, k < 7 ∧ x = 100 + k ∧ n = (roV.getD k []).length := by
  unfold roL at h
  cases hc : (Nat.ble 100 x && Nat.ble x 106) with
  | true =>
    rw [hc] at h
    simp only [Bool.and_eq_true] at hc
    have h1 := Nat.le_of_ble_eq_true hc.1
    have h2 := Nat.le_of_ble_eq_true hc.2
    exact ⟨x - 100, by omega, by omega, (Option.some.inj h).symm⟩
  | false => rw [hc] at h; cases h
def o_copyI (nx : Nat) : Op := fun P L st w => match st with
  | .int n :: .int dp :: .ref x :: .int sp :: .ref y :: r => match arL 0 y, arL 0 x, rmok r with
    | some n0, some n1, true => cpOk sp dp n n0 n1 ∧ P nx L r (cpI w x (w.1 y) sp.toNatClampNeg dp.toNatClampNeg n.toNatClampNeg)
    | _, _, _ => False
  | _ => False
def o_copyL (nx : Nat) : Op := fun P L st w => match st with
  | .int n :: .int dp :: .ref x :: .int sp :: .ref y :: r => match arL 1 y, arL 1 x, rmok r with
    | some n0, some n1, true => cpOk sp dp n n0 n1 ∧ P nx L r (cpL w x (w.2 y) sp.toNatClampNeg dp.toNatClampNeg n.toNatClampNeg)
    | _, _, _ => False
  | _ => False
def o_copyR (nx : Nat) : Op := fun P L st w => match st with
  | .int n :: .int dp :: .ref x :: .int sp :: .ref y :: r => match roL y, arL 0 x, rmok r with
    | some n0, some n1, true => cpOk sp dp n n0 n1 ∧ P nx L r (cpI w x (fun j => (roV.getD (y - 100) []).getD j 0) sp.toNatClampNeg dp.toNatClampNeg n.toNatClampNeg)
    | _, _, _ => False
  | _ => False
def o_max (nx : Nat) : Op := fun P L st w => match st with
  | .int y :: .int x :: r => match rmok r with
    | true => P nx L (.int (if x < y then y else x) :: r) w
    | false => False
  | _ => False
def o_min (nx : Nat) : Op := fun P L st w => match st with
  | .int y :: .int x :: r => match rmok r with
    | true => P nx L (.int (if y < x then y else x) :: r) w
    | false => False
  | _ => False
def clsOf (x : Nat) : Option Nat := match shp[x]? with
  | some (.inr q) => some q.1
  | _ => none
def okV (x ci n : Nat) (st r : List Value) : Bool := clsOf x == some ci && rmok r && (st.take n).length == n
def okT (x n : Nat) (st r : List Value) : Bool := Nat.ble 200 x && Nat.ble x 207 && rmok r && (st.take n).length == n
def okS (n : Nat) (st r : List Value) : Bool := rmok r && (st.take n).length == n
def o_callV (f : Mf) (n ci nx : Nat) : Op := fun P L st w => match st.drop n with
  | .ref x :: r => match okV x ci n st r with
    | true => f (.ref x :: (st.take n).reverse) w (fun v w1 => P nx L (v.toList ++ r) w1)
    | false => False
  | _ => False
def o_callT (f : Mf) (n nx : Nat) : Op := fun P L st w => match st.drop n with
  | .ref x :: r => match okT x n st r with
    | true => f (.ref x :: (st.take n).reverse) w (fun v w1 => P nx L (v.toList ++ r) w1)
    | false => False
  | _ => False
def o_callS (f : Mf) (n nx : Nat) : Op := fun P L st w => match okS n st (st.drop n) with
  | true => f (st.take n).reverse w (fun v w1 => P nx L (v.toList ++ st.drop n) w1)
  | false => False
def o_iret (K : Kt) : Op := fun _ _ st w => match st with
  | [.int x] => K (some (.int x)) w
  | _ => False
def o_zret (K : Kt) : Op := fun _ _ st w => match st with
  | [.int x] => (x = 0 ∨ x = 1) ∧ K (some (.int x)) w
  | _ => False
def o_lret (K : Kt) : Op := fun _ _ st w => match st with
  | [.long x] => K (some (.long x)) w
  | _ => False
def o_vret (K : Kt) : Op := fun _ _ st w => match st with
  | [] => K none w
  | _ => False
def o_bot : Op := fun _ _ _ _ => False
/-- a meaning that may be used behind a weaker end -/
def MonoF (f : Mf) : Prop := ∀ (As : List Value) (w : Wd) (K K1 : Kt), (∀ r w1, K r w1 → K1 r w1) → f As w K → f As w K1
theorem m_bot : Mono o_bot := fun _ _ _ _ _ _ h => h
theorem m_iret (K : Kt) : Mono (o_iret K) := fun _ _ _ _ _ _ h => h
theorem m_zret (K : Kt) : Mono (o_zret K) := fun _ _ _ _ _ _ h => h
theorem m_lret (K : Kt) : Mono (o_lret K) := fun _ _ _ _ _ _ h => h
theorem m_vret (K : Kt) : Mono (o_vret K) := fun _ _ _ _ _ _ h => h
theorem m_iaro (nx : Nat) : Mono (o_iaro nx) := by
  intro P Q hpq L st w h
  unfold o_iaro at h ⊢
  split at h
  · rename_i i x r
    cases hc : (Nat.ble 100 x && Nat.ble x 106) with
    | true =>
      simp only [hc, cond_true] at h ⊢
      exact ⟨h.1, hpq _ _ _ _ h.2⟩
    | false => simp only [hc, cond_false] at h
  · exact h.elim
theorem m_max (nx : Nat) : Mono (o_max nx) := by
  intro P Q hpq L st w h
  unfold o_max at h ⊢
  split at h
  · rename_i y x r
    revert h
    cases rmok r
    · exact False.elim
    · exact hpq _ _ _ _
  · exact False.elim h
theorem m_min (nx : Nat) : Mono (o_min nx) := by
  intro P Q hpq L st w h
  unfold o_min at h ⊢
  split at h
  · rename_i y x r
    revert h
    cases rmok r
    · exact False.elim
    · exact hpq _ _ _ _
  · exact False.elim h
theorem m_copyI (nx : Nat) : Mono (o_copyI nx) := by
  intro P Q hpq L st w h
  unfold o_copyI at h ⊢
  split at h
  · rename_i n dp x sp y r
    revert h
    cases arL 0 y <;> cases arL 0 x <;> cases rmok r <;> intro h <;> first | exact False.elim h | exact ⟨h.1, hpq _ _ _ _ h.2⟩
  · exact False.elim h
theorem m_copyL (nx : Nat) : Mono (o_copyL nx) := by
  intro P Q hpq L st w h
  unfold o_copyL at h ⊢
  split at h
  · rename_i n dp x sp y r
    revert h
    cases arL 1 y <;> cases arL 1 x <;> cases rmok r <;> intro h <;> first | exact False.elim h | exact ⟨h.1, hpq _ _ _ _ h.2⟩
  · exact False.elim h
theorem m_copyR (nx : Nat) : Mono (o_copyR nx) := by
  intro P Q hpq L st w h
  unfold o_copyR at h ⊢
  split at h
  · rename_i n dp x sp y r
    revert h
    cases roL y <;> cases arL 0 x <;> cases rmok r <;> intro h <;> first | exact False.elim h | exact ⟨h.1, hpq _ _ _ _ h.2⟩
  · exact False.elim h
theorem m_callV {f : Mf} (hf : MonoF f) (n ci nx : Nat) : Mono (o_callV f n ci nx) := by
  intro P Q hpq L st w h
  unfold o_callV at h ⊢
  revert h
  generalize st.drop n = dr
  intro h
  split at h
  · rename_i x r
    revert h
    cases okV x ci n st r
    · exact False.elim
    · exact hf _ _ _ _ (fun r w1 z => hpq _ _ _ _ z)
  · exact False.elim h
theorem m_callT {f : Mf} (hf : MonoF f) (n nx : Nat) : Mono (o_callT f n nx) := by
  intro P Q hpq L st w h
  unfold o_callT at h ⊢
  revert h
  generalize st.drop n = dr
  intro h
  split at h
  · rename_i x r
    revert h
    cases okT x n st r
    · exact False.elim
    · exact hf _ _ _ _ (fun r w1 z => hpq _ _ _ _ z)
  · exact False.elim h
theorem m_callS {f : Mf} (hf : MonoF f) (n nx : Nat) : Mono (o_callS f n nx) := by
  intro P Q hpq L st w h
  unfold o_callS at h ⊢
  revert h
  cases okS n st (st.drop n)
  · exact False.elim
  · exact hf _ _ _ _ (fun r w1 z => hpq _ _ _ _ z)
section OPA
variable {p : Program} {l : Launch} {e : Env} {R : Room} {s : State} {m : MethodId} {args : Array Value} {below : List Frame} {meth : Method} {c : Code} {Q : State → Prop} {D : va_G} {ad adV : Nat → Nat} {cA : Nat → ClassId} {cc : ByteArray} {nL : Nat} {own : String}
theorem s_iald (C0 : Cx p s m args meth c D ad adV cA cc nL own) {pc : Nat} (d : decode cc pc = .ok (.iaload, 1)) : Sd p l e R s m args below meth c Q D ad cA nL pc (o_iald (pc + 1)) := by
  intro L st w h H locs ls hP hS hL
  unfold o_iald at h
  split at h
  · split at h
    · rename_i i x r _ q hq
      cases hz : (q.1 == 0) with
      | true =>
        simp only [hz, cond_true] at h
        obtain ⟨t, n⟩ := q
        have e : t = 0 := by simpa using hz
        subst e
        exact va_iald C0.1 C0.2.1 C0.2.2.2.2.2.1 hP x 0 (Cells_get hq) rfl h.1 d (h.2 H locs ls hP hS hL)
      | false => simp only [hz, cond_false] at h
    · exact h.elim
  · exact h.elim
theorem s_lald (C0 : Cx p s m args meth c D ad adV cA cc nL own) {pc : Nat} (d : decode cc pc = .ok (.laload, 1)) : Sd p l e R s m args below meth c Q D ad cA nL pc (o_lald (pc + 1)) := by
  intro L st w h H locs ls hP hS hL
  unfold o_lald at h
  split at h
  · split at h
    · rename_i i x r _ q hq
      cases hz : (q.1 == 1) with
      | true =>
        simp only [hz, cond_true] at h
        obtain ⟨t, n⟩ := q
        have e : t = 1 := by simpa using hz
        subst e
        exact va_lald C0.1 C0.2.1 C0.2.2.2.2.2.1 hP x 1 (Cells_get hq) rfl h.1 d (h.2 H locs ls hP hS hL)
      | false => simp only [hz, cond_false] at h
    · exact h.elim
  · exact h.elim
theorem s_bald (C0 : Cx p s m args meth c D ad adV cA cc nL own) {pc : Nat} (d : decode cc pc = .ok (.baload, 1)) : Sd p l e R s m args below meth c Q D ad cA nL pc (o_bald (pc + 1)) := by
  intro L st w h H locs ls hP hS hL
  unfold o_bald at h
  split at h
  · split at h
    · rename_i i x r _ q hq
      cases hz : (q.1 == 2) with
      | true =>
        simp only [hz, cond_true] at h
        obtain ⟨t, n⟩ := q
        have e : t = 2 := by simpa using hz
        subst e
        exact va_bald C0.1 C0.2.1 C0.2.2.2.2.2.1 hP x 2 (Cells_get hq) rfl h.1 d (h.2 H locs ls hP hS hL)
      | false => simp only [hz, cond_false] at h
    · exact h.elim
  · exact h.elim
theorem s_zald (C0 : Cx p s m args meth c D ad adV cA cc nL own) {pc : Nat} (d : decode cc pc = .ok (.baload, 1)) : Sd p l e R s m args below meth c Q D ad cA nL pc (o_zald (pc + 1)) := by
  intro L st w h H locs ls hP hS hL
  unfold o_zald at h
  split at h
  · split at h
    · rename_i i x r _ q hq
      cases hz : (q.1 == 3) with
      | true =>
        simp only [hz, cond_true] at h
        obtain ⟨t, n⟩ := q
        have e : t = 3 := by simpa using hz
        subst e
        exact va_zald C0.1 C0.2.1 C0.2.2.2.2.2.1 hP x 3 (Cells_get hq) rfl h.1 d (h.2 H locs ls hP hS hL)
      | false => simp only [hz, cond_false] at h
    · exact h.elim
  · exact h.elim
theorem s_iast (C0 : Cx p s m args meth c D ad adV cA cc nL own) {pc : Nat} (d : decode cc pc = .ok (.iastore, 1)) : Sd p l e R s m args below meth c Q D ad cA nL pc (o_iast (pc + 1)) := by
  intro L st w h H locs ls hP hS hL
  unfold o_iast at h
  split at h
  · split at h
    · rename_i v i x r _ q hq
      cases hz : (q.1 == 0) with
      | true =>
        simp only [hz, cond_true] at h
        obtain ⟨t, n⟩ := q
        have e : t = 0 := by simpa using hz
        subst e
        refine va_iast C0.1 C0.2.1 C0.2.2.2.2.2.1 hP (Cells_D C0.2.2.2.2.2.2.1) hS x 0 (Cells_get hq) rfl h.1 d (fun H1 locs1 hP1 _ hS1 => ?_)
        rw [Cells_set (w' := upI w x i.toNatClampNeg v) hq] at hP1
        · exact h.2 H1 locs1 ls hP1 hS1 hL
        · intro a ha
          exact ⟨by funext b; simp [upI, ha], by funext b; simp [upI, ha]⟩
        · simp only [cellE, arE]
          congr 5
          all_goals (try (funext b; simp [upI, upd, vp_updL]))
      | false => simp only [hz, cond_false] at h
    · exact h.elim
  · exact h.elim
theorem s_last (C0 : Cx p s m args meth c D ad adV cA cc nL own) {pc : Nat} (d : decode cc pc = .ok (.lastore, 1)) : Sd p l e R s m args below meth c Q D ad cA nL pc (o_last (pc + 1)) := by
  intro L st w h H locs ls hP hS hL
  unfold o_last at h
  split at h
  · split at h
    · rename_i v i x r _ q hq
      cases hz : (q.1 == 1) with
      | true =>
        simp only [hz, cond_true] at h
        obtain ⟨t, n⟩ := q
        have e : t = 1 := by simpa using hz
        subst e
        refine va_last C0.1 C0.2.1 C0.2.2.2.2.2.1 hP (Cells_D C0.2.2.2.2.2.2.1) hS x 1 (Cells_get hq) rfl h.1 d (fun H1 locs1 hP1 _ hS1 => ?_)
        rw [Cells_set (w' := upL w x i.toNatClampNeg v) hq] at hP1
        · exact h.2 H1 locs1 ls hP1 hS1 hL
        · intro a ha
          exact ⟨by funext b; simp [upL, ha], by funext b; simp [upL, ha]⟩
        · simp only [cellE, arE]
          congr 5
          all_goals (try (funext b; simp [upL, upd, vp_updL]))
      | false => simp only [hz, cond_false] at h
    · exact h.elim
  · exact h.elim
theorem s_bast (C0 : Cx p s m args meth c D ad adV cA cc nL own) {pc : Nat} (d : decode cc pc = .ok (.bastore, 1)) : Sd p l e R s m args below meth c Q D ad cA nL pc (o_bast (pc + 1)) := by
  intro L st w h H locs ls hP hS hL
  unfold o_bast at h
  split at h
  · split at h
    · rename_i v i x r _ q hq
      cases hz : (q.1 == 2) with
      | true =>
        simp only [hz, cond_true] at h
        obtain ⟨t, n⟩ := q
        have e : t = 2 := by simpa using hz
        subst e
        refine va_bast C0.1 C0.2.1 C0.2.2.2.2.2.1 hP (Cells_D C0.2.2.2.2.2.2.1) hS x 2 (Cells_get hq) rfl h.1 d (fun H1 locs1 hP1 _ hS1 => ?_)
        rw [Cells_set (w' := upI w x i.toNatClampNeg (vp_nar .byte v)) hq] at hP1
        · exact h.2 H1 locs1 ls hP1 hS1 hL
        · intro a ha
          exact ⟨by funext b; simp [upI, ha], by funext b; simp [upI, ha]⟩
        · simp only [cellE, arE]
          congr 5
          all_goals (try (funext b; simp [upI, upd, vp_updL]))
      | false => simp only [hz, cond_false] at h
    · exact h.elim
  · exact h.elim
theorem s_zast (C0 : Cx p s m args meth c D ad adV cA cc nL own) {pc : Nat} (d : decode cc pc = .ok (.bastore, 1)) : Sd p l e R s m args below meth c Q D ad cA nL pc (o_zast (pc + 1)) := by
  intro L st w h H locs ls hP hS hL
  unfold o_zast at h
  split at h
  · split at h
    · rename_i v i x r _ q hq
      cases hz : (q.1 == 3) with
      | true =>
        simp only [hz, cond_true] at h
        obtain ⟨t, n⟩ := q
        have e : t = 3 := by simpa using hz
        subst e
        refine va_zast C0.1 C0.2.1 C0.2.2.2.2.2.1 hP (Cells_D C0.2.2.2.2.2.2.1) hS x 3 (Cells_get hq) rfl h.1 d (fun H1 locs1 hP1 _ hS1 => ?_)
        rw [Cells_set (w' := upI w x i.toNatClampNeg (vp_nar .boolean v)) hq] at hP1
        · exact h.2 H1 locs1 ls hP1 hS1 hL
        · intro a ha
          exact ⟨by funext b; simp [upI, ha], by funext b; simp [upI, ha]⟩
        · simp only [cellE, arE]
          congr 5
          all_goals (try (funext b; simp [upI, upd, vp_updL]))
      | false => simp only [hz, cond_false] at h
    · exact h.elim
  · exact h.elim
theorem s_iaro (C0 : Cx p s m args meth c D ad adV cA cc nL own) {pc : Nat} (d : decode cc pc = .ok (.iaload, 1)) : Sd p l e R s m args below meth c Q D ad cA nL pc (o_iaro (pc + 1)) := by
  intro L st w h H locs ls hP hS hL
  unfold o_iaro at h
  split at h
  · rename_i i x r
    cases hz : (Nat.ble 100 x && Nat.ble x 106) with
    | true =>
      simp only [hz, cond_true] at h
      simp only [Bool.and_eq_true] at hz
      have h1 := Nat.le_of_ble_eq_true hz.1
      have h2 := Nat.le_of_ble_eq_true hz.2
      obtain ⟨k, hk⟩ := Nat.exists_eq_add_of_le h1
      subst hk
      rw [Nat.add_sub_cancel_left] at h
      exact va_ti C0.1 C0.2.1 (C0.2.2.2.2.2.2.2.1.1 k (by omega)).2 hS h.1 rfl d (h.2 H locs ls hP hS hL)
    | false => simp only [hz, cond_false] at h
  · exact h.elim
theorem rm_vl (ad : Nat → Nat) (r : List Value) : ((r.map (vl ad)).map fun v => v.category).sum = (r.map fun v => v.category).sum := by
  rw [List.map_map]
  congr 1
  apply List.map_congr_left
  intro a _
  exact vl_cat ad a
theorem rm_le {ad : Nat → Nat} {r : List Value} (h : rmok r = true) : ((r.map (vl ad)).map fun v => v.category).sum ≤ 8 := by
  rw [rm_vl]
  exact Nat.le_of_ble_eq_true h
theorem s_max (C0 : Cx p s m args meth c D ad adV cA cc nL own) {pc index dd : Nat} (d : decode cc pc = .ok (.invokestatic index, 3)) (t1 : Cond.methodLink own index Lib.Math.max.name ∈ TT) (t2 : Cond.static Lib.Math.max.name ∈ TT) (t3 : Cond.initialized "java/lang/Math" ∈ TT) (t4 : Cond.code Lib.Math.max.name Lib.Math.max.code 2 (some .int) ∈ TT) (hR : R = rmd dd) (hd : 1 ≤ dd) : Sd p l e R s m args below meth c Q D ad cA nL pc (o_max (pc + 3)) := by
  intro L st w h H locs ls hP hS hL
  unfold o_max at h
  split at h
  · split at h
    · rename_i hr
      have hz := rm_le (ad := ad) hr
      have hl : R.locals = 40 * dd := by rw [hR]; rfl
      have hf : R.frames = dd := by rw [hR]; rfl
      exact va_mmax C0.1 C0.2.1 (by rw [C0.2.2.1]; exact hL.1.symm) C0.2.2.2.1 (C0.2.2.2.2.1 _ t1) (C0.2.2.2.2.1 _ t2) (C0.2.2.2.2.1 _ t3) (C0.2.2.2.2.1 _ t4) (by omega) (by omega) (Nat.zero_le _) (Nat.zero_le _) d (h H locs ls hP hS hL)
    · exact h.elim
  · exact h.elim
theorem s_min (C0 : Cx p s m args meth c D ad adV cA cc nL own) {pc index dd : Nat} (d : decode cc pc = .ok (.invokestatic index, 3)) (t1 : Cond.methodLink own index Lib.Math.min.name ∈ TT) (t2 : Cond.static Lib.Math.min.name ∈ TT) (t3 : Cond.initialized "java/lang/Math" ∈ TT) (t4 : Cond.code Lib.Math.min.name Lib.Math.min.code 2 (some .int) ∈ TT) (hR : R = rmd dd) (hd : 1 ≤ dd) : Sd p l e R s m args below meth c Q D ad cA nL pc (o_min (pc + 3)) := by
  intro L st w h H locs ls hP hS hL
  unfold o_min at h
  split at h
  · split at h
    · rename_i hr
      have hz := rm_le (ad := ad) hr
      have hl : R.locals = 40 * dd := by rw [hR]; rfl
      have hf : R.frames = dd := by rw [hR]; rfl
      exact va_mmin C0.1 C0.2.1 (by rw [C0.2.2.1]; exact hL.1.symm) C0.2.2.2.1 (C0.2.2.2.2.1 _ t1) (C0.2.2.2.2.1 _ t2) (C0.2.2.2.2.1 _ t3) (C0.2.2.2.2.1 _ t4) (by omega) (by omega) (Nat.zero_le _) (Nat.zero_le _) d (h H locs ls hP hS hL)
    · exact h.elim
  · exact h.elim
theorem s_copyI (C0 : Cx p s m args meth c D ad adV cA cc nL own) {pc index dd : Nat} (d : decode cc pc = .ok (.invokestatic index, 3)) (t1 : Cond.methodLink own index arraycopyName ∈ TT) (t2 : Cond.native arraycopyName ∈ TT) (t3 : Cond.static arraycopyName ∈ TT) (t4 : Cond.initialized "java/lang/System" ∈ TT) (hR : R = rmd dd) (hd : 1 ≤ dd) : Sd p l e R s m args below meth c Q D ad cA nL pc (o_copyI (pc + 3)) := by
  intro L st w h H locs ls hP hS hL
  unfold o_copyI at h
  split at h
  · rename_i n dp x sp y r
    revert h
    cases h1 : arL 0 y <;> cases h2 : arL 0 x <;> cases hr : rmok r <;> intro h <;> try exact False.elim h
    · rename_i n0 n1
      have hz := rm_le (ad := ad) hr
      have hl : R.locals = 40 * dd := by rw [hR]; rfl
      have hf : R.frames = dd := by rw [hR]; rfl
      have hw : nativeFrameWords "java/lang/System" "arraycopy" 5 + 11 = 18 := by decide +kernel
      refine va_copyi C0.1 C0.2.1 (by rw [C0.2.2.1]; exact hL.1.symm) C0.2.2.2.1 (C0.2.2.2.2.1 _ t1) (C0.2.2.2.2.1 _ t2) (C0.2.2.2.2.1 _ t3) (C0.2.2.2.2.1 _ t4) C0.2.2.2.2.2.1 hP (Cells_D C0.2.2.2.2.2.2.1) hS y x 0 0 (Cells_get (arL_of h1)) (Cells_get (arL_of h2)) rfl rfl rfl h.1.1 h.1.2.1 h.1.2.2.1 h.1.2.2.2.1 h.1.2.2.2.2 (fun _ _ => rfl) (by omega) (by omega) d (fun H1 locs1 hP1 _ hS1 => ?_)
      rw [Cells_set (w' := cpI w x (w.1 y) sp.toNatClampNeg dp.toNatClampNeg n.toNatClampNeg) (arL_of h2)] at hP1
      · exact h.2 H1 locs1 ls hP1 hS1 hL
      · intro a ha
        exact ⟨by funext b; simp [cpI, ha], by funext b; simp [cpI, ha]⟩
      · simp only [cellE, arE]
        congr 5
        all_goals (try (funext b; simp [cpI]))
  · exact False.elim h
theorem s_copyL (C0 : Cx p s m args meth c D ad adV cA cc nL own) {pc index dd : Nat} (d : decode cc pc = .ok (.invokestatic index, 3)) (t1 : Cond.methodLink own index arraycopyName ∈ TT) (t2 : Cond.native arraycopyName ∈ TT) (t3 : Cond.static arraycopyName ∈ TT) (t4 : Cond.initialized "java/lang/System" ∈ TT) (hR : R = rmd dd) (hd : 1 ≤ dd) : Sd p l e R s m args below meth c Q D ad cA nL pc (o_copyL (pc + 3)) := by
  intro L st w h H locs ls hP hS hL
  unfold o_copyL at h
  split at h
  · rename_i n dp x sp y r
    revert h
    cases h1 : arL 1 y <;> cases h2 : arL 1 x <;> cases hr : rmok r <;> intro h <;> try exact False.elim h
    · rename_i n0 n1
      have hz := rm_le (ad := ad) hr
      have hl : R.locals = 40 * dd := by rw [hR]; rfl
      have hf : R.frames = dd := by rw [hR]; rfl
      have hw : nativeFrameWords "java/lang/System" "arraycopy" 5 + 11 = 18 := by decide +kernel
      refine va_copyl C0.1 C0.2.1 (by rw [C0.2.2.1]; exact hL.1.symm) C0.2.2.2.1 (C0.2.2.2.2.1 _ t1) (C0.2.2.2.2.1 _ t2) (C0.2.2.2.2.1 _ t3) (C0.2.2.2.2.1 _ t4) C0.2.2.2.2.2.1 hP (Cells_D C0.2.2.2.2.2.2.1) hS y x 1 1 (Cells_get (arL_of h1)) (Cells_get (arL_of h2)) rfl rfl rfl h.1.1 h.1.2.1 h.1.2.2.1 h.1.2.2.2.1 h.1.2.2.2.2 (fun _ _ => rfl) (by omega) (by omega) d (fun H1 locs1 hP1 _ hS1 => ?_)
      rw [Cells_set (w' := cpL w x (w.2 y) sp.toNatClampNeg dp.toNatClampNeg n.toNatClampNeg) (arL_of h2)] at hP1
      · exact h.2 H1 locs1 ls hP1 hS1 hL
      · intro a ha
        exact ⟨by funext b; simp [cpL, ha], by funext b; simp [cpL, ha]⟩
      · simp only [cellE, arE]
        congr 5
        all_goals (try (funext b; simp [cpL]))
  · exact False.elim h
end OPA
