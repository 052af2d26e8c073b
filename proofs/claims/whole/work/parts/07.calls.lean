section OPC
variable {p : Program} {l : Launch} {e : Env} {R : Room} {s : State} {m : MethodId} {args : Array Value} {below : List Frame} {meth : Method} {c : Code} {Q : State → Prop} {D : va_G} {ad adV : Nat → Nat} {cA : Nat → ClassId} {cc : ByteArray} {nL : Nat} {own : String}
/-- behind a call: its end, and the world that it left -/
theorem W_run {H : Heap} {locs : List Loc} {pc : Nat} {ls : Array Slot} {st0 rest : List Value} {a : Array Value} {K : Kt} (hr : va_Run p l e R s m args below meth c H locs 0 0 0 0 (F0 m pc ls st0) rest (QQ D ad cA K a) (AA ad)) (hS : va_S (AA ad) s.heap H locs)
    (kk : ∀ (r : Option Value) (w1 : Wd) (H1 : Heap) (locs1 : List Loc), K r w1 → va_P D vwCl (Cells ad cA w1) H1 → va_S (AA ad) s.heap H1 locs1 → W p l e R s m args below meth c H1 locs1 0 0 Q (F0 m (pc + 3) ls ((r.map (vl ad)).toList ++ rest))) : W p l e R s m args below meth c H locs 0 0 Q (F0 m pc ls st0) := by
  intro T hT X
  obtain ⟨v, st₀, t, T', L, h0, X', hL, e1, e2, ⟨r, w1, hK, hv, hP1, hz, hk⟩, st⟩ := hr T hT X
  have hv2 : v = r.map (vl ad) := by
    injection hv
  subst hv2
  rw [h0] at hz hk
  obtain ⟨t2, a1, b1⟩ := kk r w1 T'.heap (locs ++ L) hK (by rw [e1]; exact hP1)
    ⟨Nat.le_trans hS.1 (by rw [e1]; exact hz), fun q h1 h2 => by rw [e1, hk q (Nat.lt_of_lt_of_le h1 hS.1) h2]; exact hS.2.1 q h1 h2, fun q hq => by
      rcases List.mem_append.mp hq with h | h
      · exact hS.2.2 q h
      · exact hL q h⟩ T' rfl X'
  exact ⟨t2, st t2 a1, b1⟩
theorem blind_P {av : List Value} {w : Wd} : FrameBlind (va_Pc av (Inv D ad adV cA w)) := by
  intro a U g mk h
  exact ⟨h.1, h.2.1, va_K.moved (u := U) (U := U.calling g mk a) (Vm.Alike.refl U.vm) h.2.2.1, h.2.2.2.1, RO.same (u := U) (U := U.calling g mk a) rfl (Vm.Alike.refl U.vm) h.2.2.2.2⟩
theorem inv_call {H : Heap} {locs : List Loc} {w : Wd} (C0 : Cx p s m args meth c D ad adV cA cc nL own) (hP : va_P D vwCl (Cells ad cA w) H) (hS : va_S (AA ad) s.heap H locs) {U : State} (hU : U.heap = H) (hW : s.WarmedH U.vm) : Inv D ad adV cA w U := by
  refine ⟨by rw [hU]; exact hP, va_K.moved hW.alike C0.2.2.2.2.2.1, C0.2.2.2.2.2.2.1, ?_⟩
  rw [hU]
  exact RO.warm hW (RO.kept hS.2.1 C0.2.2.2.2.2.2.2.1)
theorem good_c {y : MethodName} {cc2 : ByteArray} {maxL : Nat} {ret : Option FieldType} (t5 : Cond.code y cc2 maxL ret ∈ TT) : GoodIn TT (Cond.code y cc2 maxL ret :: TT) := fun w h => (List.mem_cons.mp h).elim (fun e => e ▸ TT_TT _ t5) (fun h => TT_TT w h)
theorem good_V {y : MethodName} {cc2 : ByteArray} {maxL index : Nat} {ret : Option FieldType} {C : String} (t1 : Cond.methodLink own index y ∈ TT) (t2 : Cond.instanceMethod y ∈ TT) (t3 : Cond.selects C y y ∈ TT) (t4 : Cond.initialized C ∈ TT) (t5 : Cond.code y cc2 maxL ret ∈ TT) : GoodIn TT (wsV own index C y (Cond.code y cc2 maxL ret :: TT)) := by
  intro w h
  rcases List.mem_append.mp h with h | h
  · simp only [List.mem_cons, List.not_mem_nil, or_false] at h
    rcases h with h | h | h | h
    · rw [h]; exact TT_TT _ t1
    · rw [h]; exact TT_TT _ t2
    · rw [h]; exact TT_TT _ t3
    · rw [h]; exact TT_TT _ t4
  · exact good_c t5 w h
theorem good_S {y : MethodName} {cc2 : ByteArray} {maxL index : Nat} {ret : Option FieldType} (t1 : Cond.methodLink own index y ∈ TT) (t2 : Cond.static y ∈ TT) (t4 : Cond.initialized y.cls ∈ TT) (t5 : Cond.code y cc2 maxL ret ∈ TT) : GoodIn TT (va_wsS own index y (Cond.code y cc2 maxL ret :: TT)) := by
  intro w h
  rcases List.mem_append.mp h with h | h
  · simp only [List.mem_cons, List.not_mem_nil, or_false] at h
    rcases h with h | h | h
    · rw [h]; exact TT_TT _ t1
    · rw [h]; exact TT_TT _ t2
    · rw [h]; exact TT_TT _ t4
  · exact good_c t5 w h
theorem stack_V {n x : Nat} {st r : List Value} (hd : st.drop n = .ref x :: r) : st.map (vl ad) = (((st.take n).reverse).map (vl ad)).reverse ++ .ref (ad x) :: r.map (vl ad) := by
  conv => lhs; rw [← List.take_append_drop n st, hd]
  rw [List.map_append, List.map_reverse, List.reverse_reverse]
  rfl
theorem stack_S {n : Nat} {st : List Value} : st.map (vl ad) = (((st.take n).reverse).map (vl ad)).reverse ++ (st.drop n).map (vl ad) := by
  conv => lhs; rw [← List.take_append_drop n st]
  rw [List.map_append, List.map_reverse, List.reverse_reverse]
theorem opt_l (r : Option Value) (rest : List Value) : (r.map (vl ad)).toList ++ rest.map (vl ad) = (r.toList ++ rest).map (vl ad) := by
  cases r <;> rfl
theorem room_c {dd d2 maxL : Nat} (hR : R = rmd dd) (hlt : d2 + 1 ≤ dd) (hm : maxL ≤ 21) : (rmd d2).frames + 1 ≤ R.frames ∧ 8 + (maxL + 11) + (rmd d2).locals ≤ R.locals := by
  subst hR
  show d2 + 1 ≤ dd ∧ 8 + (maxL + 11) + 40 * d2 ≤ 40 * dd
  omega
theorem s_callV (C0 : Cx p s m args meth c D ad adV cA cc nL own) {pc index n ci dd d2 maxL N : Nat} {y : MethodName} {cc2 : ByteArray} {ret : Option FieldType} {f : Mf} {C : String} {T : u_T} (hM : Okm l y cc2 maxL ret d2 f) (d : decode cc pc = .ok (.invokevirtual index, 3)) (hc : vwCl[ci]? = some (C, T, N))
    (hy : y.cls = C ∧ y.cls ≠ "java/lang/invoke/MethodHandle" ∧ y.cls ≠ "java/lang/invoke/VarHandle" ∧ (parseMethodDescriptor y.desc).map (fun d => d.parameters.length) = some n)
    (t1 : Cond.methodLink own index y ∈ TT) (t2 : Cond.instanceMethod y ∈ TT) (t3 : Cond.selects C y y ∈ TT) (t4 : Cond.initialized C ∈ TT) (t5 : Cond.code y cc2 maxL ret ∈ TT) (hR : R = rmd dd) (hlt : d2 + 1 ≤ dd) (hm : maxL ≤ 21) : Sd p l e R s m args below meth c Q D ad cA nL pc (o_callV f n ci (pc + 3)) := by
  intro L st w h H locs ls hP hS hL
  unfold o_callV at h
  split at h
  · rename_i x r hd
    revert h
    cases hk : okV x ci n st r
    · exact False.elim
    · intro h
      simp only [okV, Bool.and_eq_true, beq_iff_eq] at hk
      obtain ⟨⟨hk1, hk2⟩, hk3⟩ := hk
      have hz := rm_le (ad := ad) hk2
      have hsh : ∃ fs : List Nat, shp[x]? = some (.inr (ci, fs)) := by
        unfold clsOf at hk1
        split at hk1
        · rename_i q hq
          obtain ⟨a, b⟩ := q
          cases hk1
          exact ⟨b, hq⟩
        · cases hk1
      obtain ⟨fs, hfs⟩ := hsh
      have hrun := va_runV (As := ((st.take n).reverse).map (vl ad)) (rest := r.map (vl ad)) (b := ad x) (H := H) (locs := locs) (cells := 0) (slots := 0) (g := F0 m pc ls (st.map (vl ad))) (e := e) (R := R) (below := below) (meth := meth) ⟨C0.1, C0.2.1, C0.2.2.1, C0.2.2.2.1, C0.2.2.2.2.1⟩ (hM D ad adV cA (.ref x :: (st.take n).reverse) w _ h) (cwV n C0.2.2.2.2.1 (good_V t1 t2 t3 t4 t5) rfl rfl rfl hy (room_c hR hlt hm)) ⟨blind_P, va_recv C0.2.2.2.2.2.1 hP hc (Cells_get hfs), fun U hU hW => ⟨rfl, inv_call C0 hP hS hU hW⟩⟩ rfl (by rw [List.length_map, List.length_reverse]; exact hk3) hL.1 (stack_V hd) (by show 2 * 0 + _ ≤ 8; omega) d ⟨Nat.zero_le _, Nat.zero_le _⟩
      refine W_run hrun hS (fun r2 w1 H1 locs1 hK hP1 hS1 => ?_)
      rw [opt_l]
      exact hK H1 locs1 ls hP1 hS1 hL
  · exact False.elim h
theorem s_callT (C0 : Cx p s m args meth c D ad adV cA cc nL own) {pc index n dd d2 maxL : Nat} {y : MethodName} {cc2 : ByteArray} {ret : Option FieldType} {f : Mf} (hM : Okm l y cc2 maxL ret d2 f) (d : decode cc pc = .ok (.invokevirtual index, 3))
    (hy : y.cls = "java/lang/String" ∧ y.cls ≠ "java/lang/invoke/MethodHandle" ∧ y.cls ≠ "java/lang/invoke/VarHandle" ∧ (parseMethodDescriptor y.desc).map (fun d => d.parameters.length) = some n)
    (t1 : Cond.methodLink own index y ∈ TT) (t2 : Cond.instanceMethod y ∈ TT) (t3 : Cond.selects "java/lang/String" y y ∈ TT) (t4 : Cond.initialized "java/lang/String" ∈ TT) (t5 : Cond.code y cc2 maxL ret ∈ TT) (hR : R = rmd dd) (hlt : d2 + 1 ≤ dd) (hm : maxL ≤ 21) : Sd p l e R s m args below meth c Q D ad cA nL pc (o_callT f n (pc + 3)) := by
  intro L st w h H locs ls hP hS hL
  unfold o_callT at h
  split at h
  · rename_i x r hd
    revert h
    cases hk : okT x n st r
    · exact False.elim
    · intro h
      simp only [okT, Bool.and_eq_true, beq_iff_eq] at hk
      obtain ⟨⟨⟨hk0, hk1⟩, hk2⟩, hk3⟩ := hk
      have hz := rm_le (ad := ad) hk2
      have h1 := Nat.le_of_ble_eq_true hk0
      have h2 := Nat.le_of_ble_eq_true hk1
      obtain ⟨k, hk4⟩ := Nat.exists_eq_add_of_le h1
      subst hk4
      have hrun := va_runV (As := ((st.take n).reverse).map (vl ad)) (rest := r.map (vl ad)) (b := ad (200 + k)) (H := H) (locs := locs) (cells := 0) (slots := 0) (g := F0 m pc ls (st.map (vl ad))) (e := e) (R := R) (below := below) (meth := meth) ⟨C0.1, C0.2.1, C0.2.2.1, C0.2.2.2.1, C0.2.2.2.2.1⟩ (hM D ad adV cA (.ref (200 + k) :: (st.take n).reverse) w _ h) (cwV n C0.2.2.2.2.1 (good_V t1 t2 t3 t4 t5) rfl rfl rfl hy (room_c hR hlt hm)) ⟨blind_P, vk_recv C0.2.2.2.2.2.2.2.1.2.1 (i := k) (by omega) hS, fun U hU hW => ⟨rfl, inv_call C0 hP hS hU hW⟩⟩ rfl (by rw [List.length_map, List.length_reverse]; exact hk3) hL.1 (stack_V hd) (by show 2 * 0 + _ ≤ 8; omega) d ⟨Nat.zero_le _, Nat.zero_le _⟩
      refine W_run hrun hS (fun r2 w1 H1 locs1 hK hP1 hS1 => ?_)
      rw [opt_l]
      exact hK H1 locs1 ls hP1 hS1 hL
  · exact False.elim h
theorem s_callS (C0 : Cx p s m args meth c D ad adV cA cc nL own) {pc index n dd d2 maxL : Nat} {y : MethodName} {cc2 : ByteArray} {ret : Option FieldType} {f : Mf} (hM : Okm l y cc2 maxL ret d2 f) (d : decode cc pc = .ok (.invokestatic index, 3))
    (hy : y.cls ≠ "java/lang/invoke/MethodHandle" ∧ y.cls ≠ "java/lang/invoke/VarHandle" ∧ (parseMethodDescriptor y.desc).map (fun d => d.parameters.length) = some n)
    (t1 : Cond.methodLink own index y ∈ TT) (t2 : Cond.static y ∈ TT) (t4 : Cond.initialized y.cls ∈ TT) (t5 : Cond.code y cc2 maxL ret ∈ TT) (hR : R = rmd dd) (hlt : d2 + 1 ≤ dd) (hm : maxL ≤ 21) : Sd p l e R s m args below meth c Q D ad cA nL pc (o_callS f n (pc + 3)) := by
  intro L st w h H locs ls hP hS hL
  unfold o_callS at h
  revert h
  cases hk : okS n st (st.drop n)
  · exact False.elim
  · intro h
    simp only [okS, Bool.and_eq_true, beq_iff_eq] at hk
    have hz := rm_le (ad := ad) hk.1
    have hrun := va_runS (As := ((st.take n).reverse).map (vl ad)) (rest := (st.drop n).map (vl ad)) (H := H) (locs := locs) (cells := 0) (slots := 0) (g := F0 m pc ls (st.map (vl ad))) (e := e) (R := R) (below := below) (meth := meth) ⟨C0.1, C0.2.1, C0.2.2.1, C0.2.2.2.1, C0.2.2.2.2.1⟩ (hM D ad adV cA (st.take n).reverse w _ h) (va_cwS n C0.2.2.2.2.1 (good_S t1 t2 t4 t5) rfl rfl rfl hy (room_c hR hlt hm)) ⟨blind_P, fun U hU hW => ⟨rfl, inv_call C0 hP hS hU hW⟩⟩ rfl (by rw [List.length_map, List.length_reverse]; exact hk.2) hL.1 stack_S (by show 2 * 0 + _ ≤ 8; omega) d ⟨Nat.zero_le _, Nat.zero_le _⟩
    refine W_run hrun hS (fun r2 w1 H1 locs1 hK hP1 hS1 => ?_)
    rw [opt_l]
    exact hK H1 locs1 ls hP1 hS1 hL
theorem s_callN (C0 : Cx p s m args meth c D ad adV cA cc nL own) {pc index n dd d2 maxL : Nat} {y : MethodName} {host : String} {cc2 : ByteArray} {ret : Option FieldType} {f : Mf} (hM : Okm l y cc2 maxL ret d2 f) (d : decode cc pc = .ok (.invokestatic index, 3))
    (hy : y.cls ≠ "java/lang/invoke/MethodHandle" ∧ y.cls ≠ "java/lang/invoke/VarHandle" ∧ (parseMethodDescriptor y.desc).map (fun d => d.parameters.length) = some n)
    (t1 : (own, index, y, host) ∈ nMth) (t2 : Cond.static y ∈ TT) (t4 : Cond.initialized y.cls ∈ TT) (t5 : Cond.code y cc2 maxL ret ∈ TT) (hR : R = rmd dd) (hlt : d2 + 1 ≤ dd) (hm : maxL ≤ 21) : Sd p l e R s m args below meth c Q D ad cA nL pc (o_callS f n (pc + 3)) := by
  intro L st w h H locs ls hP hS hL
  unfold o_callS at h
  revert h
  cases hk : okS n st (st.drop n)
  · exact False.elim
  · intro h
    simp only [okS, Bool.and_eq_true, beq_iff_eq] at hk
    have hz := rm_le (ad := ad) hk.1
    have hrun := va_runSN (As := ((st.take n).reverse).map (vl ad)) (rest := (st.drop n).map (vl ad)) (H := H) (locs := locs) (cells := 0) (slots := 0) (g := F0 m pc ls (st.map (vl ad))) (e := e) (R := R) (below := below) (meth := meth) ⟨C0.1, C0.2.1, C0.2.2.1, C0.2.2.2.1, C0.2.2.2.2.1⟩ (hM D ad adV cA (st.take n).reverse w _ h) ⟨va_cnB n C0.2.2.2.2.1 (good_c t5) rfl rfl rfl (C0.2.2.2.2.2.2.2.1.2.2.2.2.1 _ t1) (C0.2.2.2.2.1 _ t4) hy (room_c hR hlt hm), C0.2.2.2.2.1 _ t2, trivial⟩ ⟨blind_P, fun U hU hW => ⟨rfl, inv_call C0 hP hS hU hW⟩⟩ rfl (by rw [List.length_map, List.length_reverse]; exact hk.2) hL.1 stack_S (by show 2 * 0 + _ ≤ 8; omega) d ⟨Nat.zero_le _, Nat.zero_le _⟩
    refine W_run hrun hS (fun r2 w1 H1 locs1 hK hP1 hS1 => ?_)
    rw [opt_l]
    exact hK H1 locs1 ls hP1 hS1 hL
theorem s_bot (C0 : Cx p s m args meth c D ad adV cA cc nL own) {pc : Nat} : Sd p l e R s m args below meth c Q D ad cA nL pc o_bot := fun _ _ _ h => False.elim h
theorem s_iret (C0 : Cx p s m args meth c D ad adV cA cc nL own) {pc : Nat} {K : Kt} (hr : meth.sig.returnType = some .int) (d : decode cc pc = .ok (.ireturn, 1)) : Sd p l e R s m args below meth c (MQ below (QQ D ad cA K) args s 0 0 (AA ad)) D ad cA nL pc (o_iret K) := by
  intro L st w h H locs ls hP hS hL
  unfold o_iret at h
  split at h
  · exact W.iret C0.1 C0.2.1 hr (fun t ht hW => ⟨some _, w, h, rfl, by rw [ht]; exact hP, hS.F ht⟩) hS.2.2 d C0.2.2.2.2.2.2.2.2
  · exact False.elim h
theorem s_zret (C0 : Cx p s m args meth c D ad adV cA cc nL own) {pc : Nat} {K : Kt} (hr : meth.sig.returnType = some .boolean) (d : decode cc pc = .ok (.ireturn, 1)) : Sd p l e R s m args below meth c (MQ below (QQ D ad cA K) args s 0 0 (AA ad)) D ad cA nL pc (o_zret K) := by
  intro L st w h H locs ls hP hS hL
  unfold o_zret at h
  split at h
  · refine W.zret C0.1 C0.2.1 hr ?_ (fun t ht hW => ⟨some _, w, h.2, rfl, by rw [ht]; exact hP, hS.F ht⟩) hS.2.2 d C0.2.2.2.2.2.2.2.2
    rcases h.1 with h | h <;> rw [h] <;> decide
  · exact False.elim h
theorem s_lret (C0 : Cx p s m args meth c D ad adV cA cc nL own) {pc : Nat} {K : Kt} (hr : meth.sig.returnType = some .long) (d : decode cc pc = .ok (.lreturn, 1)) : Sd p l e R s m args below meth c (MQ below (QQ D ad cA K) args s 0 0 (AA ad)) D ad cA nL pc (o_lret K) := by
  intro L st w h H locs ls hP hS hL
  unfold o_lret at h
  split at h
  · exact W.lret C0.1 C0.2.1 hr (fun t ht hW => ⟨some _, w, h, rfl, by rw [ht]; exact hP, hS.F ht⟩) hS.2.2 d C0.2.2.2.2.2.2.2.2
  · exact False.elim h
theorem s_vret (C0 : Cx p s m args meth c D ad adV cA cc nL own) {pc : Nat} {K : Kt} (hr : meth.sig.returnType = none) (d : decode cc pc = .ok (.return_, 1)) : Sd p l e R s m args below meth c (MQ below (QQ D ad cA K) args s 0 0 (AA ad)) D ad cA nL pc (o_vret K) := by
  intro L st w h H locs ls hP hS hL
  unfold o_vret at h
  split at h
  · exact W.vret C0.1 C0.2.1 hr (fun t ht hW => ⟨none, w, h, rfl, by rw [ht]; exact hP, hS.F ht⟩) hS.2.2 d C0.2.2.2.2.2.2.2.2
  · exact False.elim h
end OPC
/-! a method out of its table -/
def wds (As : List Value) : Nat := (As.map fun v => v.category).sum
def entL : List Value → List Value
  | [] => []
  | v :: r => bif v.category == 2 then v :: .null :: entL r else v :: entL r
def ent (n : Nat) (As : List Value) : List Value := entL As ++ List.replicate (n - wds As) .null
/-- a method's meaning: the least predicate that its table closes, from its entry -/
def mf (n : Nat) (tab : Kt → Nat → Op) : Mf := fun As w K => wds As ≤ n ∧ RR (tab K) 0 (ent n As) [] w
theorem lg_len (vs : List Value) : (lg_sl vs).length = wds vs := by
  induction vs with
  | nil => rfl
  | cons v r ih =>
    show (lg_sl (v :: r)).length = v.category + wds r
    have e : lg_sl (v :: r) = (if v.category = 2 then [Slot.val v, Slot.second] else [Slot.val v]) ++ lg_sl r := by simp [lg_sl]
    rw [e, List.length_append, ih]
    rcases lv_cat v with h | h
    · rw [if_neg (by omega), h]; rfl
    · rw [if_pos h, h]; rfl
theorem entL_args (ad : Nat → Nat) : ∀ (As : List Value) (i j : Nat) (v : Value), (entL As)[j]? = some v → v ≠ .null → (i + j, vl ad v) ∈ lv_args i (As.map (vl ad)) := by
  intro As
  induction As with
  | nil => intro i j v h; cases h
  | cons a r ih =>
    intro i j v h hn
    show (i + j, vl ad v) ∈ (i, vl ad a) :: lv_args (if (vl ad a).category = 2 then i + 2 else i + 1) (r.map (vl ad))
    rw [vl_cat]
    have e : entL (a :: r) = bif a.category == 2 then a :: .null :: entL r else a :: entL r := rfl
    rw [e] at h
    cases hc : (a.category == 2) with
    | true =>
      rw [hc] at h
      simp only [cond_true] at h
      have h2 : a.category = 2 := by simpa using hc
      rw [if_pos h2]
      match j, h with
      | 0, h => cases h; exact List.mem_cons_self
      | 1, h => cases h; exact absurd rfl hn
      | j + 2, h =>
        refine List.mem_cons_of_mem _ ?_
        have := ih (i + 2) j v h hn
        rw [show i + (j + 2) = i + 2 + j by omega]
        exact this
    | false =>
      rw [hc] at h
      simp only [cond_false] at h
      have h2 : ¬ a.category = 2 := by simpa using hc
      rw [if_neg h2]
      match j, h with
      | 0, h => cases h; exact List.mem_cons_self
      | j + 1, h =>
        refine List.mem_cons_of_mem _ ?_
        have := ih (i + 1) j v h hn
        rw [show i + (j + 1) = i + 1 + j by omega]
        exact this
theorem ent_has {ad : Nat → Nat} {As : List Value} {n : Nat} (h : wds As ≤ n) : hasL ad ((lg_sl (As.map (vl ad)) ++ List.replicate (n - (lg_sl (As.map (vl ad))).length) Slot.unset).toArray) n (ent n As) := by
  have hw : (lg_sl (As.map (vl ad))).length = wds As := by
    rw [lg_len]
    exact rm_vl ad As
  obtain ⟨h1, h2, h3⟩ := lv_entry (As.map (vl ad)) (n := n) (by rw [hw]; exact h)
  refine ⟨h1, h2, fun i v hi hn => ?_⟩
  unfold ent at hi
  rw [List.getElem?_append] at hi
  split at hi
  · have := entL_args ad As 0 i v hi hn
    rw [Nat.zero_add] at this
    exact h3 _ this
  · rw [List.getElem?_replicate] at hi
    split at hi
    · exact absurd (Option.some.inj hi).symm hn
    · cases hi
theorem mf_mono {n : Nat} {tab : Kt → Nat → Op} (h : ∀ (K K1 : Kt), (∀ r w1, K r w1 → K1 r w1) → ∀ pc (P : Fr) L st w, tab K pc P L st w → tab K1 pc P L st w) : MonoF (mf n tab) := by
  intro As w K K1 hk hf
  exact ⟨hf.1, fun P hP => hf.2 P (fun pc L st w z => hP pc L st w (h K K1 hk pc P L st w z))⟩
theorem Okm_of {l : Launch} {y : MethodName} {cc : ByteArray} {maxL d : Nat} {ret : Option FieldType} {tab : Kt → Nat → Op} {own : String} (hy : plainName y.cls = true) (ho : y.cls = own)
    (hs : ∀ (p : Program) (e : Env) (s : State) (m : MethodId) (args : Array Value) (below : List Frame) (meth : Method) (c : Code) (D : va_G) (ad adV : Nat → Nat) (cA : Nat → ClassId) (K : Kt), Cx p s m args meth c D ad adV cA cc maxL own → meth.sig.returnType = ret → ∀ pc, Sd p l e (rmd d) s m args below meth c (MQ below (QQ D ad cA K) args s 0 0 (AA ad)) D ad cA maxL pc (tab K pc)) : Okm l y cc maxL ret d (mf maxL tab) := by
  intro D ad adV cA As w K hf
  refine Met.ofW (cc := cc) (maxL := maxL) (ret := ret) hy rfl ?_
  intro p e s m args below meth c s₁ B hml hv
  obtain ⟨rfl, hP, hK, hI, hR⟩ := hv
  have hts := atoms_spec (ws := Cond.code y cc maxL ret :: TT) B.pre
  have hown : s.vm.findClass own = some m.cls := by rw [← ho]; exact findClass_of_methodNamed B.named
  have C0 : Cx p s m (As.map (vl ad)).toArray meth c D ad adV cA cc maxL own := ⟨B.exec, B.bytes, hml, hown, fun w h => hts w (List.mem_cons_of_mem _ h), hK, hI, hR, B.notSynchronized⟩
  have hG := hf.2 (Gd p l e (rmd d) s m (As.map (vl ad)).toArray below meth c (MQ below (QQ D ad cA K) (As.map (vl ad)).toArray s 0 0 (AA ad)) D ad cA maxL) (fun pc L st w h => hs p e s m _ below meth c D ad adV cA K C0 B.returns pc L st w h)
  rw [lg_entry_eq]
  exact hG s.heap [] _ hP va_S.rf (ent_has hf.1)
