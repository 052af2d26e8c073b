def o_putZ (ci k nx : Nat) : Op := fun P L st w => match st with
  | .int v :: .ref x :: r => match shp[x]? with
    | some (.inr q) => bif q.1 == ci && q.2[k]? == some 0 then (v = 0 ∨ v = 1) ∧ P nx L r (upI w x k v) else False
    | _ => False
  | _ => False
theorem m_putZ (ci k nx : Nat) : Mono (o_putZ ci k nx) := by
  intro P Q hpq L st w h
  unfold o_putZ at h ⊢
  split at h
  · split at h
    · rename_i q hq
      cases hc : (q.1 == ci && q.2[k]? == some 0) with
      | true =>
        simp only [hc, cond_true] at h ⊢
        exact ⟨h.1, hpq _ _ _ _ h.2⟩
      | false => simp only [hc, cond_false] at h
    · exact h.elim
  · exact h.elim
section OPM
variable {p : Program} {l : Launch} {e : Env} {R : Room} {s : State} {m : MethodId} {args : Array Value} {below : List Frame} {meth : Method} {c : Code} {Q : State → Prop} {D : va_G} {ad adV : Nat → Nat} {cA : Nat → ClassId} {cc : ByteArray} {nL : Nat} {own : String}
theorem s_putZ (C0 : Cx p s m args meth c D ad adV cA cc nL own) {pc : Nat} {C : String} {T : u_T} {N ci k index : Nat} {ty0 : Nat → FieldType} (d : decode cc pc = .ok (.putfield index, 3)) (hin : ∀ w ∈ u_ws C T N, w ∈ TT) (hty : ∀ k, k < N → parseFieldDescriptor (T k).2.2.1 = some (ty0 k)) (hnm : ∀ a, a < N → ∀ b, b < N → a ≠ b → (T a).2.1 ≠ (T b).2.1) (hc : vwCl[ci]? = some (C, T, N)) (hk : k < N) (hfin : (T k).2.2.2 = false) (hd : ty0 k = .boolean) (ht : Cond.fieldLink own index (T k).1 (T k).2.1 (T k).2.2.1 ∈ TT) : Sd p l e R s m args below meth c Q D ad cA nL pc (o_putZ ci k (pc + 3)) := by
  intro L st w h H locs ls hP hS hL
  unfold o_putZ at h
  split at h
  · split at h
    · rename_i v x r _ q hq
      cases hz : (q.1 == ci && q.2[k]? == some 0) with
      | true =>
        simp only [hz, cond_true] at h
        simp only [Bool.and_eq_true, beq_iff_eq] at hz
        obtain ⟨e, hkd⟩ := hz
        subst e
        obtain ⟨hv, h⟩ := h
        have hl : k < (q.2.mapIdx (fun j k => vl ad (fvA w x j k))).length := by rw [List.length_mapIdx]; exact (List.getElem?_eq_some_iff.mp hkd).1
        refine va_put C0.1 C0.2.1 C0.2.2.2.2.1 hin ty0 hty hnm C0.2.2.2.1 C0.2.2.2.2.2.1 hP (Cells_D C0.2.2.2.2.2.2.1) hS x (fs := q.2.mapIdx (fun j k => vl ad (fvA w x j k))) (Cells_get hq) hc k hk (C0.2.2.2.2.1 _ ht) (fun _ h => h) hfin (ty := .boolean) (v := .int v) (by rw [hty k hk, hd]) (by rcases hv with hv | hv <;> rw [hv] <;> decide) (by rcases hv with hv | hv <;> rw [hv] <;> decide) hl d (fun H1 locs1 hP1 _ hS1 => ?_)
        rw [Cells_set (w' := upI w x k v) hq] at hP1
        · exact h H1 locs1 ls hP1 hS1 hL
        · intro a ha
          exact ⟨by funext b; simp [upI, ha], by funext b; simp [upI, ha]⟩
        · show (Sum.inr (q.1, _) : va_E) = Sum.inr (q.1, _)
          congr 2
          apply List.ext_getElem?
          intro j
          rw [List.getElem?_set]
          by_cases hj : k = j
          · subst hj
            rw [if_pos rfl, if_pos hl, List.getElem?_mapIdx, hkd]
            simp [fvA, vl, upI]
          · rw [if_neg hj, List.getElem?_mapIdx, List.getElem?_mapIdx]
            cases q.2[j]? with
            | none => rfl
            | some kd =>
              have : fvA (upI w x k v) x j kd = fvA w x j kd := by
                unfold fvA
                split <;> simp [upI, Ne.symm hj]
              simp [this]
      | false => simp only [hz, cond_false] at h
    · exact h.elim
  · exact h.elim
/-- a copy out of a static array of ints -/
theorem s_copyR (C0 : Cx p s m args meth c D ad adV cA cc nL own) {pc index dd : Nat} (d : decode cc pc = .ok (.invokestatic index, 3)) (t1 : Cond.methodLink own index arraycopyName ∈ TT) (t2 : Cond.native arraycopyName ∈ TT) (t3 : Cond.static arraycopyName ∈ TT) (t4 : Cond.initialized "java/lang/System" ∈ TT) (hR : R = rmd dd) (hd : 1 ≤ dd) : Sd p l e R s m args below meth c Q D ad cA nL pc (o_copyR (pc + 3)) := by
  intro L st w h H locs ls hP hS hL
  unfold o_copyR at h
  split at h
  · rename_i n dp x sp y r
    revert h
    cases h1 : roL y <;> cases h2 : arL 0 x <;> cases hr : rmok r <;> intro h <;> try exact False.elim h
    · rename_i n0 n1
      have hz := rm_le (ad := ad) hr
      have hl : R.locals = 40 * dd := by rw [hR]; rfl
      have hf : R.frames = dd := by rw [hR]; rfl
      have hw : nativeFrameWords "java/lang/System" "arraycopy" 5 + 11 = 18 := by decide +kernel
      obtain ⟨k, hk, rfl, hn0⟩ := roL_of h1
      rw [Nat.add_sub_cancel_left] at h
      subst hn0
      obtain ⟨⟨g1, g2, g3, g4, g5⟩, h⟩ := h
      have hX := (C0.2.2.2.2.2.2.2.1.1 k hk).2
      have nn : ∀ z : Int32, ¬ z < 0 → z.toInt = (z.toNatClampNeg : Int) := by
        intro z hz
        have hz0 : (0 : Int) ≤ z.toInt := by
          have := Int32.not_lt.mp hz
          simpa using Int32.le_iff_toInt_le.mp this
        show z.toInt = ((z.toInt.toNat : Nat) : Int)
        omega
      have ha1 := Cells_get (ad := ad) (cA := cA) (w := w) (arL_of h2)
      intro T hT X
      obtain ⟨scr, hs1, hs2, hs3, hs4, -, hs5, hs7⟩ := hX
      have hc0 : H[ad (100 + k)]? = some scr := by rw [hS.2.1 _ (Array.getElem?_eq_some_iff.mp hs1).1 hs7]; exact hs1
      have hc1 : H[ad x]? = some (vp_cell (cA 0) (n1, .inl (w.1 x))) := hP x _ ha1
      obtain ⟨hs6, k0, hk0, cm0, hkk0⟩ := hs2
      obtain ⟨-, k1, hk1, cm1, hkk1⟩ := (C0.2.2.2.2.2.1.2 0 (cA 0, .int) rfl).1 n1 (fun j => .int (w.1 x j))
      have hD := Cells_D (cA := cA) (w := w) C0.2.2.2.2.2.2.1
      obtain ⟨vm', X', step⟩ := X.arraycopy C0.1 C0.2.2.2.1 (C0.2.2.2.2.1 _ t1) (C0.2.2.2.2.1 _ t2) (C0.2.2.2.2.1 _ t3) (C0.2.2.2.2.1 _ t4) (src := ad (100 + k)) (dst := ad x) (cs := scr) (cd := vp_cell (cA 0) (n1, .inl (w.1 x))) (srcPos := sp) (destPos := dp) (n := n) (by rw [hT]; exact hc0) (by rw [hT]; exact hc1)
        hs6 (fun _ h => by cases h) hs3 (fun h => by cases h) hk0 hk1 hkk0 hkk1 (by simp [refKind]) g1 g2 g3
        (by rw [nn sp g1, nn n g3]; omega)
        (by rw [nn dp g2, nn n g3]; show ¬ _ > ((arrV (cA 0) n1 (fun j => .int (w.1 x j))).slots.size : Int); rw [arrV_size]; omega)
        (fun vm₁ _ i hi => by
          have e : scr.slots.getD (sp.toNatClampNeg + i) .null = .int ((roV.getD k []).getD (sp.toNatClampNeg + i) 0) := by
            rw [Array.getD_eq_getD_getElem?, hs5 _ (by omega)]
            rfl
          refine ⟨?_, ?_⟩
          · rw [e]
            rfl
          · rw [e]
            exact trivial)
        (g := F0 m pc ls (.int n :: .int dp :: .ref (ad x) :: .int sp :: .ref (ad (100 + k)) :: r.map (vl ad))) rfl (by rw [C0.2.2.1]; exact hL.1) (rest := r.map (vl ad)) rfl (by rw [C0.2.1]; exact d) (by omega) (by show 2 * 0 + _ + _ ≤ _; omega)
      have e1 : copied scr (vp_cell (cA 0) (n1, .inl (w.1 x))) sp dp n = vp_cell (cA 0) (n1, .inl (va_cpy (fun j => (roV.getD k []).getD j 0) (w.1 x) sp.toNatClampNeg dp.toNatClampNeg n.toNatClampNeg)) := va_copiedX (fun z => .int z) scr (cA 0) (fun j => (roV.getD k []).getD j 0) (w.1 x) hs5 g4
      rw [e1] at X' step
      have hl : ad x < H.size := (Array.getElem?_eq_some_iff.mp hc1).1
      generalize hE : vp_cell (cA 0) (n1, .inl (va_cpy (fun j => (roV.getD k []).getD j 0) (w.1 x) sp.toNatClampNeg dp.toNatClampNeg n.toNatClampNeg)) = E at X' step
      have hheap : ((T.setVm vm').setCell (ad x) E).heap = H.setIfInBounds (ad x) E := by rw [← hT]; rfl
      have oq : ∀ q : Nat, q ≠ ad x → (H.setIfInBounds (ad x) E)[q]? = H[q]? := fun q hq => by simp [Array.getElem?_setIfInBounds, Ne.symm hq]
      have hP1 := hP.set (e := .inl (cA 0, n1, .inl (va_cpy (fun j => (roV.getD k []).getD j 0) (w.1 x) sp.toNatClampNeg dp.toNatClampNeg n.toNatClampNeg))) (H1 := H.setIfInBounds (ad x) E) hD ha1 (show (H.setIfInBounds (ad x) E)[ad x]? = some (vp_cell _ _) by rw [← hE]; simp [Array.getElem?_setIfInBounds, hl]) oq
      rw [Cells_set (w' := cpI w x (fun j => (roV.getD k []).getD j 0) sp.toNatClampNeg dp.toNatClampNeg n.toNatClampNeg) (arL_of h2)] at hP1
      · obtain ⟨t, a1, b1⟩ := h _ _ ls hP1 ⟨by simp; exact hS.1, fun q g1 g2 => by
            rw [oq q (fun e => g2 (by rw [e]; exact hD.2 x _ ha1))]
            exact hS.2.1 q g1 g2, fun q hq => by
            rcases List.mem_append.mp hq with h | h
            · exact hS.2.2 q h
            · obtain ⟨z, -, hz⟩ := List.mem_map.mp h
              rw [← hz]
              exact hD.2 x _ ha1⟩ hL _ hheap X'
        exact ⟨t, step t a1, b1⟩
      · intro a ha
        exact ⟨by funext b; simp [cpI, ha], by funext b; simp [cpI, ha]⟩
      · have ee : (cpI w x (fun j => (roV.getD k []).getD j 0) sp.toNatClampNeg dp.toNatClampNeg n.toNatClampNeg).1 x = va_cpy (fun j => (roV.getD k []).getD j 0) (w.1 x) sp.toNatClampNeg dp.toNatClampNeg n.toNatClampNeg := by
          funext b
          simp [cpI]
        show _ = (Sum.inl (cA 0, n1, Sum.inl ((cpI w x (fun j => (roV.getD k []).getD j 0) sp.toNatClampNeg dp.toNatClampNeg n.toNatClampNeg).1 x)) : va_E)
        rw [ee]
  · exact False.elim h
end OPM
/-! texts: their meanings -/
def isS (x : Nat) : Bool := Nat.ble 200 x && Nat.ble x 207
def fJ0_length_8abf5 : Mf := fun As w K => match As with
  | [.ref x] => match isS x with
    | true => K (some (.int (nI (sLen.getD (x - 200) 0)))) w
    | false => False
  | _ => False
def fJ0_charAt_5068e : Mf := fun As w K => match As with
  | [.ref x, .int i] => match isS x with
    | true => vp_in i (sLen.getD (x - 200) 0) ∧ K (some (.int ((sByt.getD (x - 200) []).getD i.toNatClampNeg 0))) w
    | false => False
  | _ => False
theorem qJ0_length_8abf5 : yJ0_length_8abf5.cls = "java/lang/String" ∧ yJ0_length_8abf5.cls ≠ "java/lang/invoke/MethodHandle" ∧ yJ0_length_8abf5.cls ≠ "java/lang/invoke/VarHandle" ∧ (parseMethodDescriptor yJ0_length_8abf5.desc).map (fun d => d.parameters.length) = some 0 := by decide +kernel
theorem qJ0_charAt_5068e : yJ0_charAt_5068e.cls = "java/lang/String" ∧ yJ0_charAt_5068e.cls ≠ "java/lang/invoke/MethodHandle" ∧ yJ0_charAt_5068e.cls ≠ "java/lang/invoke/VarHandle" ∧ (parseMethodDescriptor yJ0_charAt_5068e.desc).map (fun d => d.parameters.length) = some 1 := by decide +kernel
theorem kJ0_length_8abf5 (l : Launch) : Okm l yJ0_length_8abf5 cJ0_length_8abf5 1 (some .int) 4 fJ0_length_8abf5 := sorry
theorem kJ0_charAt_5068e (l : Launch) : Okm l yJ0_charAt_5068e cJ0_charAt_5068e 2 (some .char) 4 fJ0_charAt_5068e := sorry
