def o_putZ (ci k nx : Nat) : Op := fun P L st w => match st with
  | .int v :: .ref x :: r => match shp[x]? with
    | some (.inr q) => bif q.1 == ci && q.2[k]? == some 0 then (v = 0 ∨ v = 1) ∧ P nx L r (upI w x k v) else False
    | _ => False
  | _ => False
theorem m_putZ (ci k nx : Nat) : Mono (o_putZ ci k nx) := by
  intro P Q hpq L st w h
  unfold o_putZ at h ⊢
  split at h
  · split at h
    · rename_i q hq
      cases hc : (q.1 == ci && q.2[k]? == some 0) with
      | true =>
        simp only [hc, cond_true] at h ⊢
        exact ⟨h.1, hpq _ _ _ _ h.2⟩
      | false => simp only [hc, cond_false] at h
    · exact h.elim
  · exact h.elim
section OPM
variable {p : Program} {l : Launch} {e : Env} {R : Room} {s : State} {m : MethodId} {args : Array Value} {below : List Frame} {meth : Method} {c : Code} {Q : State → Prop} {D : va_G} {ad adV : Nat → Nat} {cA : Nat → ClassId} {cc : ByteArray} {nL : Nat} {own : String}
theorem s_putZ (C0 : Cx p s m args meth c D ad adV cA cc nL own) {pc : Nat} {C : String} {T : u_T} {N ci k index : Nat} {ty0 : Nat → FieldType} (d : decode cc pc = .ok (.putfield index, 3)) (hin : ∀ w ∈ u_ws C T N, w ∈ TT) (hty : ∀ k, k < N → parseFieldDescriptor (T k).2.2.1 = some (ty0 k)) (hnm : ∀ a, a < N → ∀ b, b < N → a ≠ b → (T a).2.1 ≠ (T b).2.1) (hc : vwCl[ci]? = some (C, T, N)) (hk : k < N) (hfin : (T k).2.2.2 = false) (hd : ty0 k = .boolean) (ht : Cond.fieldLink own index (T k).1 (T k).2.1 (T k).2.2.1 ∈ TT) : Sd p l e R s m args below meth c Q D ad cA nL pc (o_putZ ci k (pc + 3)) := by
  intro L st w h H locs ls hP hS hL
  unfold o_putZ at h
  split at h
  · split at h
    · rename_i v x r _ q hq
      cases hz : (q.1 == ci && q.2[k]? == some 0) with
      | true =>
        simp only [hz, cond_true] at h
        simp only [Bool.and_eq_true, beq_iff_eq] at hz
        obtain ⟨e, hkd⟩ := hz
        subst e
        obtain ⟨hv, h⟩ := h
        have hl : k < (q.2.mapIdx (fun j k => vl ad (fvA w x j k))).length := by rw [List.length_mapIdx]; exact (List.getElem?_eq_some_iff.mp hkd).1
        refine va_put C0.1 C0.2.1 C0.2.2.2.2.1 hin ty0 hty hnm C0.2.2.2.1 C0.2.2.2.2.2.1 hP (Cells_D C0.2.2.2.2.2.2.1) hS x (fs := q.2.mapIdx (fun j k => vl ad (fvA w x j k))) (Cells_get hq) hc k hk (C0.2.2.2.2.1 _ ht) (fun _ h => h) hfin (ty := .boolean) (v := .int v) (by rw [hty k hk, hd]) (by rcases hv with hv | hv <;> rw [hv] <;> decide) (by rcases hv with hv | hv <;> rw [hv] <;> decide) hl d (fun H1 locs1 hP1 _ hS1 => ?_)
        rw [Cells_set (w' := upI w x k v) hq] at hP1
        · exact h H1 locs1 ls hP1 hS1 hL
        · intro a ha
          exact ⟨by funext b; simp [upI, ha], by funext b; simp [upI, ha]⟩
        · show (Sum.inr (q.1, _) : va_E) = Sum.inr (q.1, _)
          congr 2
          apply List.ext_getElem?
          intro j
          rw [List.getElem?_set]
          by_cases hj : k = j
          · subst hj
            rw [if_pos rfl, if_pos hl, List.getElem?_mapIdx, hkd]
            simp [fvA, vl, upI]
          · rw [if_neg hj, List.getElem?_mapIdx, List.getElem?_mapIdx]
            cases q.2[j]? with
            | none => rfl
            | some kd =>
              have : fvA (upI w x k v) x j kd = fvA w x j kd := by
                unfold fvA
                split <;> simp [upI, Ne.symm hj]
              simp [this]
      | false => simp only [hz, cond_false] at h
    · exact h.elim
  · exact h.elim
/-- a copy out of a static array of ints -/
theorem s_copyR (C0 : Cx p s m args meth c D ad adV cA cc nL own) {pc index dd : Nat} (d : decode cc pc = .ok (.invokestatic index, 3)) (t1 : Cond.methodLink own index arraycopyName ∈ TT) (t2 : Cond.native arraycopyName ∈ TT) (t3 : Cond.static arraycopyName ∈ TT) (t4 : Cond.initialized "java/lang/System" ∈ TT) (hR : R = rmd dd) (hd : 1 ≤ dd) : Sd p l e R s m args below meth c Q D ad cA nL pc (o_copyR (pc + 3)) := by
  intro L st w h H locs ls hP hS hL
  unfold o_copyR at h
  split at h
  · rename_i n dp x sp y r
    revert h
    cases h1 : roL y <;> cases h2 : arL 0 x <;> cases hr : rmok r <;> intro h <;> try exact False.elim h
    · rename_i n0 n1
      have hz := rm_le (ad := ad) hr
      have hl : R.locals = 40 * dd := by rw [hR]; rfl
      have hf : R.frames = dd := by rw [hR]; rfl
      have hw : nativeFrameWords "java/lang/System" "arraycopy" 5 + 11 = 18 := by decide +kernel
      obtain ⟨k, hk, rfl, hn0⟩ := roL_of h1
      rw [Nat.add_sub_cancel_left] at h
      subst hn0
      obtain ⟨⟨g1, g2, g3, g4, g5⟩, h⟩ := h
      have hX := (C0.2.2.2.2.2.2.2.1.1 k hk).2
      have nn : ∀ z : Int32, ¬ z < 0 → z.toInt = (z.toNatClampNeg : Int) := by
        intro z hz
        have hz0 : (0 : Int) ≤ z.toInt := by
          have := Int32.not_lt.mp hz
          simpa using Int32.le_iff_toInt_le.mp this
        show z.toInt = ((z.toInt.toNat : Nat) : Int)
        omega
      have ha1 := Cells_get (ad := ad) (cA := cA) (w := w) (arL_of h2)
      intro T hT X
      obtain ⟨scr, hs1, hs2, hs3, hs4, -, hs5, hs7⟩ := hX
      have hc0 : H[ad (100 + k)]? = some scr := by rw [hS.2.1 _ (Array.getElem?_eq_some_iff.mp hs1).1 hs7]; exact hs1
      have hc1 : H[ad x]? = some (vp_cell (cA 0) (n1, .inl (w.1 x))) := hP x _ ha1
      obtain ⟨hs6, k0, hk0, cm0, hkk0⟩ := hs2
      obtain ⟨-, k1, hk1, cm1, hkk1⟩ := (C0.2.2.2.2.2.1.2 0 (cA 0, .int) rfl).1 n1 (fun j => .int (w.1 x j))
      have hD := Cells_D (cA := cA) (w := w) C0.2.2.2.2.2.2.1
      obtain ⟨vm', X', step⟩ := X.arraycopy C0.1 C0.2.2.2.1 (C0.2.2.2.2.1 _ t1) (C0.2.2.2.2.1 _ t2) (C0.2.2.2.2.1 _ t3) (C0.2.2.2.2.1 _ t4) (src := ad (100 + k)) (dst := ad x) (cs := scr) (cd := vp_cell (cA 0) (n1, .inl (w.1 x))) (srcPos := sp) (destPos := dp) (n := n) (by rw [hT]; exact hc0) (by rw [hT]; exact hc1)
        hs6 (fun _ h => by cases h) hs3 (fun h => by cases h) hk0 hk1 hkk0 hkk1 (by simp [refKind]) g1 g2 g3
        (by rw [nn sp g1, nn n g3]; omega)
        (by rw [nn dp g2, nn n g3]; show ¬ _ > ((arrV (cA 0) n1 (fun j => .int (w.1 x j))).slots.size : Int); rw [arrV_size]; omega)
        (fun vm₁ _ i hi => by
          have e : scr.slots.getD (sp.toNatClampNeg + i) .null = .int ((roV.getD k []).getD (sp.toNatClampNeg + i) 0) := by
            rw [Array.getD_eq_getD_getElem?, hs5 _ (by omega)]
            rfl
          refine ⟨?_, ?_⟩
          · rw [e]
            rfl
          · rw [e]
            exact trivial)
        (g := F0 m pc ls (.int n :: .int dp :: .ref (ad x) :: .int sp :: .ref (ad (100 + k)) :: r.map (vl ad))) rfl (by rw [C0.2.2.1]; exact hL.1) (rest := r.map (vl ad)) rfl (by rw [C0.2.1]; exact d) (by omega) (by show 2 * 0 + _ + _ ≤ _; omega)
      have e1 : copied scr (vp_cell (cA 0) (n1, .inl (w.1 x))) sp dp n = vp_cell (cA 0) (n1, .inl (va_cpy (fun j => (roV.getD k []).getD j 0) (w.1 x) sp.toNatClampNeg dp.toNatClampNeg n.toNatClampNeg)) := va_copiedX (fun z => .int z) scr (cA 0) (fun j => (roV.getD k []).getD j 0) (w.1 x) hs5 g4
      rw [e1] at X' step
      have hl : ad x < H.size := (Array.getElem?_eq_some_iff.mp hc1).1
      generalize hE : vp_cell (cA 0) (n1, .inl (va_cpy (fun j => (roV.getD k []).getD j 0) (w.1 x) sp.toNatClampNeg dp.toNatClampNeg n.toNatClampNeg)) = E at X' step
      have hheap : ((T.setVm vm').setCell (ad x) E).heap = H.setIfInBounds (ad x) E := by rw [← hT]; rfl
      have oq : ∀ q : Nat, q ≠ ad x → (H.setIfInBounds (ad x) E)[q]? = H[q]? := fun q hq => by simp [Array.getElem?_setIfInBounds, Ne.symm hq]
      have hP1 := hP.set (e := .inl (cA 0, n1, .inl (va_cpy (fun j => (roV.getD k []).getD j 0) (w.1 x) sp.toNatClampNeg dp.toNatClampNeg n.toNatClampNeg))) (H1 := H.setIfInBounds (ad x) E) hD ha1 (show (H.setIfInBounds (ad x) E)[ad x]? = some (vp_cell _ _) by rw [← hE]; simp [Array.getElem?_setIfInBounds, hl]) oq
      rw [Cells_set (w' := cpI w x (fun j => (roV.getD k []).getD j 0) sp.toNatClampNeg dp.toNatClampNeg n.toNatClampNeg) (arL_of h2)] at hP1
      · obtain ⟨t, a1, b1⟩ := h _ _ ls hP1 ⟨by simp; exact hS.1, fun q g1 g2 => by
            rw [oq q (fun e => g2 (by rw [e]; exact hD.2 x _ ha1))]
            exact hS.2.1 q g1 g2, fun q hq => by
            rcases List.mem_append.mp hq with h | h
            · exact hS.2.2 q h
            · obtain ⟨z, -, hz⟩ := List.mem_map.mp h
              rw [← hz]
              exact hD.2 x _ ha1⟩ hL _ hheap X'
        exact ⟨t, step t a1, b1⟩
      · intro a ha
        exact ⟨by funext b; simp [cpI, ha], by funext b; simp [cpI, ha]⟩
      · have ee : (cpI w x (fun j => (roV.getD k []).getD j 0) sp.toNatClampNeg dp.toNatClampNeg n.toNatClampNeg).1 x = va_cpy (fun j => (roV.getD k []).getD j 0) (w.1 x) sp.toNatClampNeg dp.toNatClampNeg n.toNatClampNeg := by
          funext b
          simp [cpI]
        show _ = (Sum.inl (cA 0, n1, Sum.inl ((cpI w x (fun j => (roV.getD k []).getD j 0) sp.toNatClampNeg dp.toNatClampNeg n.toNatClampNeg).1 x)) : va_E)
        rw [ee]
  · exact False.elim h
end OPM
/-! texts: their meanings -/
def isS (x : Nat) : Bool := Nat.ble 200 x && Nat.ble x 207
def fJ0_length_8abf5 : Mf := fun As w K => match As with
  | [.ref x] => match isS x with
    | true => K (some (.int (nI (sLen.getD (x - 200) 0)))) w
    | false => False
  | _ => False
def fJ0_charAt_5068e : Mf := fun As w K => match As with
  | [.ref x, .int i] => match isS x with
    | true => vp_in i (sLen.getD (x - 200) 0) ∧ K (some (.int ((sByt.getD (x - 200) []).getD i.toNatClampNeg 0))) w
    | false => False
  | _ => False
theorem qJ0_length_8abf5 : yJ0_length_8abf5.cls = "java/lang/String" ∧ yJ0_length_8abf5.cls ≠ "java/lang/invoke/MethodHandle" ∧ yJ0_length_8abf5.cls ≠ "java/lang/invoke/VarHandle" ∧ (parseMethodDescriptor yJ0_length_8abf5.desc).map (fun d => d.parameters.length) = some 0 := by decide +kernel
theorem qJ0_charAt_5068e : yJ0_charAt_5068e.cls = "java/lang/String" ∧ yJ0_charAt_5068e.cls ≠ "java/lang/invoke/MethodHandle" ∧ yJ0_charAt_5068e.cls ≠ "java/lang/invoke/VarHandle" ∧ (parseMethodDescriptor yJ0_charAt_5068e.desc).map (fun d => d.parameters.length) = some 1 := by decide +kernel
/-! String.length and charAt of the JDK over the texts of the class: walks with plain values (a text's bytes lie outside the world) -/
section JDK
variable {p : Program} {l : Launch} {e : Env} {R : Room} {s : State} {m : MethodId} {args : Array Value} {below : List Frame} {meth : Method} {c : Code} {Q : State → Prop} {D : va_G} {ad adV : Nat → Nat} {cA : Nat → ClassId} {cc : ByteArray} {nL : Nat} {own : String}
theorem raw_of {y : MethodName} {maxL d : Nat} {ret : Option FieldType} {As : List Value} {w : Wd} {K : Kt} (hy : plainName y.cls = true) (ho : y.cls = own) (hw : (lg_sl As).length ≤ maxL)
    (h : ∀ (p : Program) (e : Env) (s : State) (m : MethodId) (below : List Frame) (meth : Method) (c : Code), Cx p s m As.toArray meth c D ad adV cA cc maxL own → meth.sig.returnType = ret → va_P D vwCl (Cells ad cA w) s.heap → ∀ ls : Array Slot, lv_has ls maxL (lv_args 0 As) → W p l e (rmd d) s m As.toArray below meth c s.heap [] 0 0 (MQ below (QQ D ad cA K) As.toArray s 0 0 (AA ad)) (F0 m 0 ls [])) :
    Met l y (.code y cc maxL ret :: TT) (rmd d) (va_Pc As (Inv D ad adV cA w)) (QQ D ad cA K) 0 0 (AA ad) := by
  refine Met.ofW (cc := cc) (maxL := maxL) (ret := ret) hy rfl ?_
  intro p e s m args below meth c s₁ B hml hv
  obtain ⟨rfl, hP, hK, hI, hR⟩ := hv
  have hts := atoms_spec (ws := Cond.code y cc maxL ret :: TT) B.pre
  have hown : s.vm.findClass own = some m.cls := by rw [← ho]; exact findClass_of_methodNamed B.named
  have C0 : Cx p s m As.toArray meth c D ad adV cA cc maxL own := ⟨B.exec, B.bytes, hml, hown, fun w h => hts w (List.mem_cons_of_mem _ h), hK, hI, hR, B.notSynchronized⟩
  rw [lg_entry_eq]
  exact h p e s m below meth c C0 B.returns hP _ (lv_entry As (n := maxL) hw)
theorem j_callT (C0 : Cx p s m args meth c D ad adV cA cc nL own) {pc index n dd d2 maxL k : Nat} {y : MethodName} {cc2 : ByteArray} {ret : Option FieldType} {K : Kt} {w : Wd} {H : Heap} {locs : List Loc} {ls : Array Slot} {As rest : List Value} (hk : k < 8)
    (hM : Met l y (Cond.code y cc2 maxL ret :: TT) (rmd d2) (va_Pc (.ref (ad (200 + k)) :: As) (Inv D ad adV cA w)) (QQ D ad cA K) 0 0 (AA ad)) (d : decode cc pc = .ok (.invokevirtual index, 3))
    (hy : y.cls = "java/lang/String" ∧ y.cls ≠ "java/lang/invoke/MethodHandle" ∧ y.cls ≠ "java/lang/invoke/VarHandle" ∧ (parseMethodDescriptor y.desc).map (fun d => d.parameters.length) = some n)
    (t1 : Cond.methodLink own index y ∈ TT) (t2 : Cond.instanceMethod y ∈ TT) (t3 : Cond.selects "java/lang/String" y y ∈ TT) (t4 : Cond.initialized "java/lang/String" ∈ TT) (t5 : Cond.code y cc2 maxL ret ∈ TT) (hR : R = rmd dd) (hlt : d2 + 1 ≤ dd) (hm : maxL ≤ 21)
    (hn : As.length = n) (hz : (rest.map fun v => v.category).sum ≤ 8) (hL : ls.size = nL) (hP : va_P D vwCl (Cells ad cA w) H) (hS : va_S (AA ad) s.heap H locs)
    (kk : ∀ (r : Option Value) (w1 : Wd) (H1 : Heap) (locs1 : List Loc), K r w1 → va_P D vwCl (Cells ad cA w1) H1 → va_S (AA ad) s.heap H1 locs1 → W p l e R s m args below meth c H1 locs1 0 0 Q (F0 m (pc + 3) ls ((r.map (vl ad)).toList ++ rest))) : W p l e R s m args below meth c H locs 0 0 Q (F0 m pc ls (As.reverse ++ .ref (ad (200 + k)) :: rest)) := by
  have hrun := va_runV (As := As) (rest := rest) (b := ad (200 + k)) (H := H) (locs := locs) (cells := 0) (slots := 0) (g := F0 m pc ls (As.reverse ++ .ref (ad (200 + k)) :: rest)) (e := e) (R := R) (below := below) (meth := meth) ⟨C0.1, C0.2.1, C0.2.2.1, C0.2.2.2.1, C0.2.2.2.2.1⟩ hM (cwV n C0.2.2.2.2.1 (good_V t1 t2 t3 t4 t5) rfl rfl rfl hy (room_c hR hlt hm)) ⟨blind_P, vk_recv C0.2.2.2.2.2.2.2.1.2.1 (i := k) hk hS, fun U hU hW => ⟨rfl, inv_call C0 hP hS hU hW⟩⟩ rfl hn hL rfl (by show 2 * 0 + _ ≤ 8; omega) d ⟨Nat.zero_le _, Nat.zero_le _⟩
  exact W_run hrun hS kk
theorem j_callS (C0 : Cx p s m args meth c D ad adV cA cc nL own) {pc index n dd d2 maxL : Nat} {y : MethodName} {cc2 : ByteArray} {ret : Option FieldType} {K : Kt} {w : Wd} {H : Heap} {locs : List Loc} {ls : Array Slot} {As rest : List Value}
    (hM : Met l y (Cond.code y cc2 maxL ret :: TT) (rmd d2) (va_Pc As (Inv D ad adV cA w)) (QQ D ad cA K) 0 0 (AA ad)) (d : decode cc pc = .ok (.invokestatic index, 3))
    (hy : y.cls ≠ "java/lang/invoke/MethodHandle" ∧ y.cls ≠ "java/lang/invoke/VarHandle" ∧ (parseMethodDescriptor y.desc).map (fun d => d.parameters.length) = some n)
    (t1 : Cond.methodLink own index y ∈ TT) (t2 : Cond.static y ∈ TT) (t4 : Cond.initialized y.cls ∈ TT) (t5 : Cond.code y cc2 maxL ret ∈ TT) (hR : R = rmd dd) (hlt : d2 + 1 ≤ dd) (hm : maxL ≤ 21)
    (hn : As.length = n) (hz : (rest.map fun v => v.category).sum ≤ 8) (hL : ls.size = nL) (hP : va_P D vwCl (Cells ad cA w) H) (hS : va_S (AA ad) s.heap H locs)
    (kk : ∀ (r : Option Value) (w1 : Wd) (H1 : Heap) (locs1 : List Loc), K r w1 → va_P D vwCl (Cells ad cA w1) H1 → va_S (AA ad) s.heap H1 locs1 → W p l e R s m args below meth c H1 locs1 0 0 Q (F0 m (pc + 3) ls ((r.map (vl ad)).toList ++ rest))) : W p l e R s m args below meth c H locs 0 0 Q (F0 m pc ls (As.reverse ++ rest)) := by
  have hrun := va_runS (As := As) (rest := rest) (H := H) (locs := locs) (cells := 0) (slots := 0) (g := F0 m pc ls (As.reverse ++ rest)) (e := e) (R := R) (below := below) (meth := meth) ⟨C0.1, C0.2.1, C0.2.2.1, C0.2.2.2.1, C0.2.2.2.2.1⟩ hM (va_cwS n C0.2.2.2.2.1 (good_S t1 t2 t4 t5) rfl rfl rfl hy (room_c hR hlt hm)) ⟨blind_P, fun U hU hW => ⟨rfl, inv_call C0 hP hS hU hW⟩⟩ rfl hn hL rfl (by show 2 * 0 + _ ≤ 8; omega) d ⟨Nat.zero_le _, Nat.zero_le _⟩
  exact W_run hrun hS kk
end JDK
theorem getD_in {l : List Int32} {n : Nat} (h : n < l.length) : l.getD n 0 ∈ l := by
  rw [List.getD_eq_getElem?_getD, List.getElem?_eq_getElem h]
  exact List.getElem_mem _
theorem sLen5 : ∀ k, k < 8 → sLen.getD k 0 ≤ 5 := by decide +kernel
def KV (v : Option Value) (w : Wd) : Kt := fun r w1 => r = v ∧ w1 = w
theorem sc_all : ∀ k, k < 8 → (sLen.getD k 0 = (sByt.getD k []).length ∧ ∀ b ∈ sByt.getD k [], ((b &&& 255).toUInt32 % 65536).toInt32 = b ∧ narrow .char (.int b) = .int b) := by decide +kernel
theorem jm_coder (l : Launch) (D : va_G) (ad adV : Nat → Nat) (cA : Nat → ClassId) (w : Wd) (k : Nat) (hk : k < 8) : Met l yJ0_coder_7d493 (.code yJ0_coder_7d493 cJ0_coder_7d493 1 (some .byte) :: TT) (rmd 0) (va_Pc [.ref (ad (200 + k))] (Inv D ad adV cA w)) (QQ D ad cA (KV (some (.int 0)) w)) 0 0 (AA ad) := by
  refine raw_of (own := "java/lang/String") (by decide +kernel) rfl (Nat.le_of_ble_eq_true rfl) ?_
  intro p e s m below meth c C0 hr hP ls hl
  have hl : lv_has ls 1 [(0, .ref (ad (200 + k)))] := hl
  have hS : va_S (AA ad) s.heap s.heap [] := va_S.rf
  have hZ := C0.2.2.2.2.2.2.2.1.2.2.2.2.2.1
  have hF := (C0.2.2.2.2.2.2.2.1.2.1.1 k hk).2.1
  refine va_gets C0.1 C0.2.1 hZ hS C0.2.2.2.1 (C0.2.2.2.2.1 _ tw2_235) (fun _ h => h) (by decide +kernel : decode cJ0_coder_7d493 0 = .ok (.getstatic 38, 3)) ?_
  refine lv_if_eq (tgt := 13) C0.1 C0.2.1 (by decide +kernel : decode cJ0_coder_7d493 3 = .ok (.ifCond .eq 10, 3)) (by decide) (fun z => absurd z (by decide)) (fun _ => ?_)
  refine lv_aload_n C0.1 C0.2.1 (by decide +kernel : decode cJ0_coder_7d493 6 = .ok (.aload_n 0, 1)) rfl (lv_at hl 0 rfl) ?_
  refine vk_getf C0.1 C0.2.1 hF hS C0.2.2.2.1 (C0.2.2.2.2.1 _ tw8_66) (fun _ h => h) (by decide +kernel : decode cJ0_coder_7d493 7 = .ok (.getfield 15, 3)) ?_
  refine lv_goto (tgt := 14) C0.1 C0.2.1 (by decide +kernel : decode cJ0_coder_7d493 10 = .ok (.goto 4, 3)) (by decide) ?_
  exact W.zret C0.1 C0.2.1 hr (by decide) (fun t ht hW => ⟨some (.int 0), w, ⟨rfl, rfl⟩, rfl, by rw [ht]; exact hP, hS.F ht⟩) hS.2.2 (by decide +kernel) C0.2.2.2.2.2.2.2.2
theorem jm_isLatin1 (l : Launch) (D : va_G) (ad adV : Nat → Nat) (cA : Nat → ClassId) (w : Wd) (k : Nat) (hk : k < 8) : Met l yJ0_isLatin1_aae02 (.code yJ0_isLatin1_aae02 cJ0_isLatin1_aae02 1 (some .boolean) :: TT) (rmd 0) (va_Pc [.ref (ad (200 + k))] (Inv D ad adV cA w)) (QQ D ad cA (KV (some (.int 1)) w)) 0 0 (AA ad) := by
  refine raw_of (own := "java/lang/String") (by decide +kernel) rfl (Nat.le_of_ble_eq_true rfl) ?_
  intro p e s m below meth c C0 hr hP ls hl
  have hl : lv_has ls 1 [(0, .ref (ad (200 + k)))] := hl
  have hS : va_S (AA ad) s.heap s.heap [] := va_S.rf
  have hZ := C0.2.2.2.2.2.2.2.1.2.2.2.2.2.1
  have hF := (C0.2.2.2.2.2.2.2.1.2.1.1 k hk).2.1
  refine va_gets C0.1 C0.2.1 hZ hS C0.2.2.2.1 (C0.2.2.2.2.1 _ tw2_235) (fun _ h => h) (by decide +kernel : decode cJ0_isLatin1_aae02 0 = .ok (.getstatic 38, 3)) ?_
  refine lv_if_eq (tgt := 17) C0.1 C0.2.1 (by decide +kernel : decode cJ0_isLatin1_aae02 3 = .ok (.ifCond .eq 14, 3)) (by decide) (fun z => absurd z (by decide)) (fun _ => ?_)
  refine lv_aload_n C0.1 C0.2.1 (by decide +kernel : decode cJ0_isLatin1_aae02 6 = .ok (.aload_n 0, 1)) rfl (lv_at hl 0 rfl) ?_
  refine vk_getf C0.1 C0.2.1 hF hS C0.2.2.2.1 (C0.2.2.2.2.1 _ tw8_66) (fun _ h => h) (by decide +kernel : decode cJ0_isLatin1_aae02 7 = .ok (.getfield 15, 3)) ?_
  refine lv_if_ne (tgt := 17) C0.1 C0.2.1 (by decide +kernel : decode cJ0_isLatin1_aae02 10 = .ok (.ifCond .ne 7, 3)) (by decide) (fun z => absurd rfl z) (fun _ => ?_)
  refine lv_iconst (v := 1) C0.1 C0.2.1 (by decide +kernel : decode cJ0_isLatin1_aae02 13 = .ok (.iconst 1, 1)) (by decide) ?_
  refine lv_goto (tgt := 18) C0.1 C0.2.1 (by decide +kernel : decode cJ0_isLatin1_aae02 14 = .ok (.goto 4, 3)) (by decide) ?_
  exact W.zret C0.1 C0.2.1 hr (by decide) (fun t ht hW => ⟨some (.int 1), w, ⟨rfl, rfl⟩, rfl, by rw [ht]; exact hP, hS.F ht⟩) hS.2.2 (by decide +kernel) C0.2.2.2.2.2.2.2.2
theorem jm_check0 (l : Launch) (D : va_G) (ad adV : Nat → Nat) (cA : Nat → ClassId) (w : Wd) (i n : Int32) (v : Value) (hv : v.category = 1) (h0 : ¬ i < 0) (h1 : i < n) : Met l yJ3_checkIndex_8e157 (.code yJ3_checkIndex_8e157 cJ3_checkIndex_8e157 3 (some .int) :: TT) (rmd 0) (va_Pc [.int i, .int n, v] (Inv D ad adV cA w)) (QQ D ad cA (KV (some (.int i)) w)) 0 0 (AA ad) := by
  have hs : (lg_sl [.int i, .int n, v]).length = 3 := by
    rw [lg_len]
    show 1 + (1 + (v.category + 0)) = 3
    omega
  refine raw_of (own := "jdk/internal/util/Preconditions") (by decide +kernel) rfl (by omega) ?_
  intro p e s m below meth c C0 hr hP ls hl
  have hS : va_S (AA ad) s.heap s.heap [] := va_S.rf
  have hl : lv_has ls 3 [(0, .int i), (1, .int n), (2, v)] := hl
  refine lv_iload_n C0.1 C0.2.1 (by decide +kernel : decode cJ3_checkIndex_8e157 0 = .ok (.iload_n 0, 1)) rfl (lv_at hl 0 rfl) ?_
  refine lv_if_lt (tgt := 9) C0.1 C0.2.1 (by decide +kernel : decode cJ3_checkIndex_8e157 1 = .ok (.ifCond .lt 8, 3)) (by decide) (fun z => absurd z h0) (fun _ => ?_)
  refine lv_iload_n C0.1 C0.2.1 (by decide +kernel : decode cJ3_checkIndex_8e157 4 = .ok (.iload_n 0, 1)) rfl (lv_at hl 0 rfl) ?_
  refine lv_iload_n C0.1 C0.2.1 (by decide +kernel : decode cJ3_checkIndex_8e157 5 = .ok (.iload_n 1, 1)) rfl (lv_at hl 1 rfl) ?_
  refine lv_icmp_lt (tgt := 16) C0.1 C0.2.1 (by decide +kernel : decode cJ3_checkIndex_8e157 6 = .ok (.if_icmp .lt 10, 3)) (by decide) (fun _ => ?_) (fun z => absurd h1 z)
  refine lv_iload_n C0.1 C0.2.1 (by decide +kernel : decode cJ3_checkIndex_8e157 16 = .ok (.iload_n 0, 1)) rfl (lv_at hl 0 rfl) ?_
  exact W.iret C0.1 C0.2.1 hr (fun t ht hW => ⟨some (.int i), w, ⟨rfl, rfl⟩, rfl, by rw [ht]; exact hP, hS.F ht⟩) hS.2.2 (by decide +kernel) C0.2.2.2.2.2.2.2.2
theorem jm_check1 (l : Launch) (D : va_G) (ad adV : Nat → Nat) (cA : Nat → ClassId) (w : Wd) (i n : Int32) (h0 : ¬ i < 0) (h1 : i < n) : Met l yJ0_checkIndex_df160 (.code yJ0_checkIndex_df160 cJ0_checkIndex_df160 2 none :: TT) (rmd 1) (va_Pc [.int i, .int n] (Inv D ad adV cA w)) (QQ D ad cA (KV none w)) 0 0 (AA ad) := by
  refine raw_of (own := "java/lang/String") (by decide +kernel) rfl (Nat.le_of_ble_eq_true rfl) ?_
  intro p e s m below meth c C0 hr hP ls hl
  have hS : va_S (AA ad) s.heap s.heap [] := va_S.rf
  have hl : lv_has ls 2 [(0, .int i), (1, .int n)] := hl
  refine lv_iload_n C0.1 C0.2.1 (by decide +kernel : decode cJ0_checkIndex_df160 0 = .ok (.iload_n 0, 1)) rfl (lv_at hl 0 rfl) ?_
  refine lv_iload_n C0.1 C0.2.1 (by decide +kernel : decode cJ0_checkIndex_df160 1 = .ok (.iload_n 1, 1)) rfl (lv_at hl 1 rfl) ?_
  have core : ∀ v : Value, v.category = 1 → W p l e (rmd 1) s m [Value.int i, .int n].toArray below meth c s.heap [] 0 0 (MQ below (QQ D ad cA (KV none w)) [Value.int i, .int n].toArray s 0 0 (AA ad)) (F0 m 5 ls [v, .int n, .int i]) := by
    intro v hv
    refine j_callS (As := [.int i, .int n, v]) (rest := []) C0 (jm_check0 l D ad adV cA w i n v hv h0 h1) (by decide +kernel : decode cJ0_checkIndex_df160 5 = .ok (.invokestatic 1059, 3)) (n := 3) (by decide +kernel) tw3_13 tw3_14 tw1_17 tw3_15 (dd := 1) rfl (by decide) (by decide) rfl (by decide) hl.1 hP hS (fun r w1 H1 locs1 hK hP1 hS1 => ?_)
    obtain ⟨rfl, rfl⟩ := hK
    refine lv_pop C0.1 C0.2.1 (by decide +kernel : decode cJ0_checkIndex_df160 8 = .ok (.pop, 1)) rfl ?_
    exact W.vret C0.1 C0.2.1 hr (fun t ht hW => ⟨none, w1, ⟨rfl, rfl⟩, rfl, by rw [ht]; exact hP1, hS1.F ht⟩) hS1.2.2 (by decide +kernel) C0.2.2.2.2.2.2.2.2
  rcases C0.2.2.2.2.2.2.2.1.2.2.2.2.2.2 with hZ | ⟨t, hZ⟩
  · exact va_gets C0.1 C0.2.1 hZ hS C0.2.2.2.1 (C0.2.2.2.2.1 _ tw3_11) (fun _ h => h) (by decide +kernel : decode cJ0_checkIndex_df160 2 = .ok (.getstatic 1053, 3)) (core _ rfl)
  · exact va_gets C0.1 C0.2.1 hZ hS C0.2.2.2.1 (C0.2.2.2.2.1 _ tw3_11) (fun _ h => h) (by decide +kernel : decode cJ0_checkIndex_df160 2 = .ok (.getstatic 1053, 3)) (core _ rfl)
theorem jm_latin (l : Launch) (D : va_G) (ad adV : Nat → Nat) (cA : Nat → ClassId) (w : Wd) (k : Nat) (hk : k < 8) (i : Int32) (hi : vp_in i (sLen.getD k 0)) : Met l yJ1_charAt_3b067 (.code yJ1_charAt_3b067 cJ1_charAt_3b067 2 (some .char) :: TT) (rmd 2) (va_Pc [.ref (adV k), .int i] (Inv D ad adV cA w)) (QQ D ad cA (KV (some (.int ((sByt.getD k []).getD i.toNatClampNeg 0))) w)) 0 0 (AA ad) := by
  refine raw_of (own := "java/lang/StringLatin1") (by decide +kernel) rfl (Nat.le_of_ble_eq_true rfl) ?_
  intro p e s m below meth c C0 hr hP ls hl
  have hS : va_S (AA ad) s.heap s.heap [] := va_S.rf
  have hl : lv_has ls 2 [(0, .ref (adV k)), (1, .int i)] := hl
  have hT := (C0.2.2.2.2.2.2.2.1.2.1.1 k hk).2.2.2
  have hlen := sLen5 k hk
  have h0 : ¬ i < 0 := fun z => hi (Or.inl z)
  have hlt : i.toNatClampNeg < sLen.getD k 0 := Nat.not_le.mp fun q => hi (Or.inr q)
  obtain ⟨n, hn, rfl⟩ := nI_of h0
  rw [nI_clamp hn] at hlt
  have h1 : nI n < Int32.ofNat (sLen.getD k 0) := nI_lt hlt (by omega)
  obtain ⟨ha, hb⟩ := sc_all k hk
  have hmem : (sByt.getD k []).getD n 0 ∈ sByt.getD k [] := getD_in (by omega)
  obtain ⟨hb1, hb2⟩ := hb _ hmem
  refine lv_iload_n C0.1 C0.2.1 (by decide +kernel : decode cJ1_charAt_3b067 0 = .ok (.iload_n 1, 1)) rfl (lv_at hl 1 rfl) ?_
  refine lv_aload_n C0.1 C0.2.1 (by decide +kernel : decode cJ1_charAt_3b067 1 = .ok (.aload_n 0, 1)) rfl (lv_at hl 0 rfl) ?_
  refine va_tlen C0.1 C0.2.1 hT hS rfl (by decide +kernel : decode cJ1_charAt_3b067 2 = .ok (.arraylength, 1)) ?_
  refine j_callS (As := [.int (nI n), .int (Int32.ofNat (sLen.getD k 0))]) (rest := []) C0 (jm_check1 l D ad adV cA w (nI n) _ h0 h1) (by decide +kernel : decode cJ1_charAt_3b067 3 = .ok (.invokestatic 9, 3)) (n := 2) (by decide +kernel) tw3_8 tw3_9 tw1_15 tw3_10 (dd := 2) rfl (by decide) (by decide) rfl (by decide) hl.1 hP hS (fun r w1 H1 locs1 hK hP1 hS1 => ?_)
  obtain ⟨rfl, rfl⟩ := hK
  refine lv_aload_n C0.1 C0.2.1 (by decide +kernel : decode cJ1_charAt_3b067 6 = .ok (.aload_n 0, 1)) rfl (lv_at hl 0 rfl) ?_
  refine lv_iload_n C0.1 C0.2.1 (by decide +kernel : decode cJ1_charAt_3b067 7 = .ok (.iload_n 1, 1)) rfl (lv_at hl 1 rfl) ?_
  refine va_tb C0.1 C0.2.1 hT hS1 hi rfl (by decide +kernel : decode cJ1_charAt_3b067 8 = .ok (.baload, 1)) ?_
  refine lv_sipush (v := 255) C0.1 C0.2.1 (by decide +kernel : decode cJ1_charAt_3b067 9 = .ok (.sipush 255, 3)) (by decide) ?_
  refine lv_iand C0.1 C0.2.1 (by decide +kernel : decode cJ1_charAt_3b067 12 = .ok (.iand, 1)) ?_
  rw [nI_clamp hn]
  refine lv_i2c (v := (sByt.getD k []).getD n 0) C0.1 C0.2.1 (by decide +kernel : decode cJ1_charAt_3b067 13 = .ok (.i2c, 1)) hb1 ?_
  exact W.zret C0.1 C0.2.1 hr hb2 (fun t ht hW => ⟨some (.int _), w1, ⟨rfl, rfl⟩, rfl, by rw [ht]; exact hP1, hS1.F ht⟩) hS1.2.2 (by decide +kernel) C0.2.2.2.2.2.2.2.2
theorem shr0_N {n : Nat} (hn : n < 2147483648) : nI n >>> ((0 : Int32) &&& 31) = nI n := sc_shr0 hn
theorem kJ0_length_8abf5 (l : Launch) : Okm l yJ0_length_8abf5 cJ0_length_8abf5 1 (some .int) 4 fJ0_length_8abf5 := by
  intro D ad adV cA As w K hf
  match As, hf with
  | [.ref x], hf =>
    have hf : (match isS x with | true => K (some (.int (nI (sLen.getD (x - 200) 0)))) w | false => False) := hf
    cases hx : isS x with
    | false => rw [hx] at hf; exact hf.elim
    | true =>
      rw [hx] at hf
      simp only [isS, Bool.and_eq_true] at hx
      have h1 := Nat.le_of_ble_eq_true hx.1
      have h2 := Nat.le_of_ble_eq_true hx.2
      obtain ⟨k, rfl⟩ := Nat.exists_eq_add_of_le h1
      have hk : k < 8 := by omega
      rw [Nat.add_sub_cancel_left] at hf
      have hlen := sLen5 k hk
      refine raw_of (own := "java/lang/String") (by decide +kernel) rfl (Nat.le_of_ble_eq_true rfl) ?_
      intro p e s m below meth c C0 hr hP ls hl
      have hS : va_S (AA ad) s.heap s.heap [] := va_S.rf
      have hl : lv_has ls 1 [(0, .ref (ad (200 + k)))] := hl
      have hE := C0.2.2.2.2.2.2.2.1.2.1.1 k hk
      refine lv_aload_n C0.1 C0.2.1 (by decide +kernel : decode cJ0_length_8abf5 0 = .ok (.aload_n 0, 1)) rfl (lv_at hl 0 rfl) ?_
      refine vk_getf C0.1 C0.2.1 hE.2.2.1 hS C0.2.2.2.1 (C0.2.2.2.2.1 _ tw8_65) (fun _ h => h) (by decide +kernel : decode cJ0_length_8abf5 1 = .ok (.getfield 9, 3)) ?_
      refine va_tlen C0.1 C0.2.1 hE.2.2.2 hS rfl (by decide +kernel : decode cJ0_length_8abf5 4 = .ok (.arraylength, 1)) ?_
      refine lv_aload_n C0.1 C0.2.1 (by decide +kernel : decode cJ0_length_8abf5 5 = .ok (.aload_n 0, 1)) rfl (lv_at hl 0 rfl) ?_
      refine j_callT (As := []) (rest := [.int (Int32.ofNat (sLen.getD k 0))]) (k := k) C0 hk (jm_coder l D ad adV cA w k hk) (by decide +kernel : decode cJ0_length_8abf5 6 = .ok (.invokevirtual 335, 3)) (n := 0) (by decide +kernel) tw2_231 tw2_232 tw2_233 tw1_15 tw2_234 (dd := 4) rfl (by decide) (by decide) rfl (Nat.le_of_ble_eq_true rfl) hl.1 hP hS (fun r w1 H1 locs1 hK hP1 hS1 => ?_)
      obtain ⟨rfl, rfl⟩ := hK
      refine lv_ishr C0.1 C0.2.1 (by decide +kernel : decode cJ0_length_8abf5 9 = .ok (.ishr, 1)) ?_
      have e1 : Int32.ofNat (sLen.getD k 0) >>> ((0 : Int32) &&& 31) = nI (sLen.getD k 0) := sc_shr0 (by omega)
      rw [e1]
      exact W.iret C0.1 C0.2.1 hr (fun t ht hW => ⟨some (.int _), w1, hf, rfl, by rw [ht]; exact hP1, hS1.F ht⟩) hS1.2.2 (by decide +kernel) C0.2.2.2.2.2.2.2.2
theorem kJ0_charAt_5068e (l : Launch) : Okm l yJ0_charAt_5068e cJ0_charAt_5068e 2 (some .char) 4 fJ0_charAt_5068e := by
  intro D ad adV cA As w K hf
  match As, hf with
  | [.ref x, .int i], hf =>
    have hf : (match isS x with | true => vp_in i (sLen.getD (x - 200) 0) ∧ K (some (.int ((sByt.getD (x - 200) []).getD i.toNatClampNeg 0))) w | false => False) := hf
    cases hx : isS x with
    | false => rw [hx] at hf; exact hf.elim
    | true =>
      rw [hx] at hf
      simp only [isS, Bool.and_eq_true] at hx
      have h1 := Nat.le_of_ble_eq_true hx.1
      have h2 := Nat.le_of_ble_eq_true hx.2
      obtain ⟨k, rfl⟩ := Nat.exists_eq_add_of_le h1
      have hk : k < 8 := by omega
      rw [Nat.add_sub_cancel_left] at hf
      obtain ⟨hin, hf⟩ := hf
      refine raw_of (own := "java/lang/String") (by decide +kernel) rfl (Nat.le_of_ble_eq_true rfl) ?_
      intro p e s m below meth c C0 hr hP ls hl
      have hS : va_S (AA ad) s.heap s.heap [] := va_S.rf
      have hl : lv_has ls 2 [(0, .ref (ad (200 + k))), (1, .int i)] := hl
      have hE := C0.2.2.2.2.2.2.2.1.2.1.1 k hk
      refine lv_aload_n C0.1 C0.2.1 (by decide +kernel : decode cJ0_charAt_5068e 0 = .ok (.aload_n 0, 1)) rfl (lv_at hl 0 rfl) ?_
      refine j_callT (As := []) (rest := []) (k := k) C0 hk (jm_isLatin1 l D ad adV cA w k hk) (by decide +kernel : decode cJ0_charAt_5068e 1 = .ok (.invokevirtual 492, 3)) (n := 0) (by decide +kernel) tw3_1 tw3_2 tw3_3 tw1_15 tw3_4 (dd := 4) rfl (by decide) (by decide) rfl (by decide) hl.1 hP hS (fun r w1 H1 locs1 hK hP1 hS1 => ?_)
      obtain ⟨rfl, rfl⟩ := hK
      refine lv_if_eq (tgt := 16) C0.1 C0.2.1 (by decide +kernel : decode cJ0_charAt_5068e 4 = .ok (.ifCond .eq 12, 3)) (by decide) (fun z => absurd z (by decide)) (fun _ => ?_)
      refine lv_aload_n C0.1 C0.2.1 (by decide +kernel : decode cJ0_charAt_5068e 7 = .ok (.aload_n 0, 1)) rfl (lv_at hl 0 rfl) ?_
      refine vk_getf C0.1 C0.2.1 hE.2.2.1 hS1 C0.2.2.2.1 (C0.2.2.2.2.1 _ tw8_65) (fun _ h => h) (by decide +kernel : decode cJ0_charAt_5068e 8 = .ok (.getfield 9, 3)) ?_
      refine lv_iload_n C0.1 C0.2.1 (by decide +kernel : decode cJ0_charAt_5068e 11 = .ok (.iload_n 1, 1)) rfl (lv_at hl 1 rfl) ?_
      refine j_callS (As := [.ref (adV k), .int i]) (rest := []) C0 (jm_latin l D ad adV cA w1 k hk i hin) (by decide +kernel : decode cJ0_charAt_5068e 12 = .ok (.invokestatic 495, 3)) (n := 2) (by decide +kernel) tw3_5 tw3_6 tw1_16 tw3_7 (dd := 4) rfl (by decide) (by decide) rfl (by decide) hl.1 hP1 hS1 (fun r w2 H2 locs2 hK hP2 hS2 => ?_)
      obtain ⟨rfl, rfl⟩ := hK
      have hb2 : narrow .char (.int ((sByt.getD k []).getD i.toNatClampNeg 0)) = .int ((sByt.getD k []).getD i.toNatClampNeg 0) := by
        obtain ⟨ha, hb⟩ := sc_all k hk
        have hlt : i.toNatClampNeg < sLen.getD k 0 := Nat.not_le.mp fun q => hin (Or.inr q)
        exact (hb _ (getD_in (by omega))).2
      exact W.zret C0.1 C0.2.1 hr hb2 (fun t ht hW => ⟨some (.int _), w2, hf, rfl, by rw [ht]; exact hP2, hS2.F ht⟩) hS2.2.2 (by decide +kernel) C0.2.2.2.2.2.2.2.2
