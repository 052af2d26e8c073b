/-! calls and fields with any room and any count of new cells: for methods that throw, and for the law -/
def stays (ad : Nat → Nat) (H H1 : Heap) : Prop := H.size ≤ H1.size ∧ ∀ q : Nat, q < H.size → ¬ AA ad q → H1[q]? = H[q]?
theorem stays.rf {ad : Nat → Nat} {H : Heap} : stays ad H H := ⟨Nat.le_refl _, fun _ _ _ => rfl⟩
theorem stays.tr {ad : Nat → Nat} {H H1 H2 : Heap} (h : stays ad H H1) (g : stays ad H1 H2) : stays ad H H2 := ⟨Nat.le_trans h.1 g.1, fun q a b => (g.2 q (Nat.lt_of_lt_of_le a h.1) b).trans (h.2 q a b)⟩
section GC
variable {p : Program} {l : Launch} {e : Env} {R : Room} {s : State} {m : MethodId} {args : Array Value} {below : List Frame} {meth : Method} {c : Code} {Q : State → Prop} {D : va_G} {ad adV : Nat → Nat} {cA : Nat → ClassId} {cc : ByteArray} {nL : Nat} {own : String} {cells slots : Nat}
theorem G_run {H : Heap} {locs : List Loc} {pc : Nat} {ls : Array Slot} {st0 rest : List Value} {a : Array Value} {K : Kt} (hr : va_Run p l e R s m args below meth c H locs cells slots 0 0 (F0 m pc ls st0) rest (QQ D ad cA K a) (AA ad)) (hS : va_S (AA ad) s.heap H locs)
    (kk : ∀ (r : Option Value) (w1 : Wd) (H1 : Heap) (locs1 : List Loc), K r w1 → va_P D vwCl (Cells ad cA w1) H1 → va_S (AA ad) s.heap H1 locs1 → stays ad H H1 → W p l e R s m args below meth c H1 locs1 cells slots Q (F0 m (pc + 3) ls ((r.map (vl ad)).toList ++ rest))) : W p l e R s m args below meth c H locs cells slots Q (F0 m pc ls st0) := by
  intro T hT X
  obtain ⟨v, st₀, t, T', L, h0, X', hL, e1, e2, ⟨r, w1, hK, hv, hP1, hz, hk⟩, st⟩ := hr T hT X
  have hv2 : v = r.map (vl ad) := by
    injection hv
  subst hv2
  rw [h0] at hz hk
  obtain ⟨t2, a1, b1⟩ := kk r w1 T'.heap (locs ++ L) hK (by rw [e1]; exact hP1)
    ⟨Nat.le_trans hS.1 (by rw [e1]; exact hz), fun q h1 h2 => by rw [e1, hk q (Nat.lt_of_lt_of_le h1 hS.1) h2]; exact hS.2.1 q h1 h2, fun q hq => by
      rcases List.mem_append.mp hq with h | h
      · exact hS.2.2 q h
      · exact hL q h⟩ ⟨by rw [e1]; exact hz, fun q h1 h2 => by rw [e1]; exact hk q h1 h2⟩ T' rfl X'
  exact ⟨t2, st t2 a1, b1⟩
theorem gc_V (C0 : Cx p s m args meth c D ad adV cA cc nL own) {pc index n ci d2 maxL N x : Nat} {y : MethodName} {cc2 : ByteArray} {ret : Option FieldType} {f : Mf} {C : String} {T : u_T} {K : Kt} {w : Wd} {H : Heap} {locs : List Loc} {ls : Array Slot} {As rest : List Value} (hM : Okm l y cc2 maxL ret d2 f) (d : decode cc pc = .ok (.invokevirtual index, 3)) (hc : vwCl[ci]? = some (C, T, N))
    (hy : y.cls = C ∧ y.cls ≠ "java/lang/invoke/MethodHandle" ∧ y.cls ≠ "java/lang/invoke/VarHandle" ∧ (parseMethodDescriptor y.desc).map (fun d => d.parameters.length) = some n)
    (t1 : Cond.methodLink own index y ∈ TT) (t2 : Cond.instanceMethod y ∈ TT) (t3 : Cond.selects C y y ∈ TT) (t4 : Cond.initialized C ∈ TT) (t5 : Cond.code y cc2 maxL ret ∈ TT)
    (hR : d2 + 1 ≤ R.frames ∧ 8 + (maxL + 11) + 40 * d2 ≤ R.locals) (hRc : cells ≤ R.cells ∧ slots ≤ R.slots) {fs : List Nat} (hfs : shp[x]? = some (.inr (ci, fs))) (hn : As.length = n) (hz : (rest.map fun v => v.category).sum ≤ 8) (hL : ls.size = nL) (hP : va_P D vwCl (Cells ad cA w) H) (hS : va_S (AA ad) s.heap H locs) (hf : f (.ref x :: As) w K)
    (kk : ∀ (r : Option Value) (w1 : Wd) (H1 : Heap) (locs1 : List Loc), K r w1 → va_P D vwCl (Cells ad cA w1) H1 → va_S (AA ad) s.heap H1 locs1 → stays ad H H1 → W p l e R s m args below meth c H1 locs1 cells slots Q (F0 m (pc + 3) ls ((r.map (vl ad)).toList ++ rest))) : W p l e R s m args below meth c H locs cells slots Q (F0 m pc ls ((As.map (vl ad)).reverse ++ .ref (ad x) :: rest)) := by
  have hrun := va_runV (As := As.map (vl ad)) (rest := rest) (b := ad x) (H := H) (locs := locs) (cells := cells) (slots := slots) (g := F0 m pc ls ((As.map (vl ad)).reverse ++ .ref (ad x) :: rest)) (e := e) (R := R) (below := below) (meth := meth) ⟨C0.1, C0.2.1, C0.2.2.1, C0.2.2.2.1, C0.2.2.2.2.1⟩ (hM D ad adV cA (.ref x :: As) w _ hf) (cwV n C0.2.2.2.2.1 (good_V t1 t2 t3 t4 t5) rfl rfl rfl hy hR) ⟨blind_P, va_recv C0.2.2.2.2.2.1 hP hc (Cells_get hfs), fun U hU hW => ⟨rfl, inv_call C0 hP hS hU hW⟩⟩ rfl (by rw [List.length_map]; exact hn) hL rfl (by show 2 * 0 + _ ≤ 8; omega) d hRc
  exact G_run hrun hS kk
theorem gc_S (C0 : Cx p s m args meth c D ad adV cA cc nL own) {pc index n d2 maxL : Nat} {y : MethodName} {cc2 : ByteArray} {ret : Option FieldType} {f : Mf} {K : Kt} {w : Wd} {H : Heap} {locs : List Loc} {ls : Array Slot} {As rest : List Value} (hM : Okm l y cc2 maxL ret d2 f) (d : decode cc pc = .ok (.invokestatic index, 3))
    (hy : y.cls ≠ "java/lang/invoke/MethodHandle" ∧ y.cls ≠ "java/lang/invoke/VarHandle" ∧ (parseMethodDescriptor y.desc).map (fun d => d.parameters.length) = some n)
    (t1 : Cond.methodLink own index y ∈ TT) (t2 : Cond.static y ∈ TT) (t4 : Cond.initialized y.cls ∈ TT) (t5 : Cond.code y cc2 maxL ret ∈ TT)
    (hR : d2 + 1 ≤ R.frames ∧ 8 + (maxL + 11) + 40 * d2 ≤ R.locals) (hRc : cells ≤ R.cells ∧ slots ≤ R.slots) (hn : As.length = n) (hz : (rest.map fun v => v.category).sum ≤ 8) (hL : ls.size = nL) (hP : va_P D vwCl (Cells ad cA w) H) (hS : va_S (AA ad) s.heap H locs) (hf : f As w K)
    (kk : ∀ (r : Option Value) (w1 : Wd) (H1 : Heap) (locs1 : List Loc), K r w1 → va_P D vwCl (Cells ad cA w1) H1 → va_S (AA ad) s.heap H1 locs1 → stays ad H H1 → W p l e R s m args below meth c H1 locs1 cells slots Q (F0 m (pc + 3) ls ((r.map (vl ad)).toList ++ rest))) : W p l e R s m args below meth c H locs cells slots Q (F0 m pc ls ((As.map (vl ad)).reverse ++ rest)) := by
  have hrun := va_runS (As := As.map (vl ad)) (rest := rest) (H := H) (locs := locs) (cells := cells) (slots := slots) (g := F0 m pc ls ((As.map (vl ad)).reverse ++ rest)) (e := e) (R := R) (below := below) (meth := meth) ⟨C0.1, C0.2.1, C0.2.2.1, C0.2.2.2.1, C0.2.2.2.2.1⟩ (hM D ad adV cA As w _ hf) (va_cwS n C0.2.2.2.2.1 (good_S t1 t2 t4 t5) rfl rfl rfl hy hR) ⟨blind_P, fun U hU hW => ⟨rfl, inv_call C0 hP hS hU hW⟩⟩ rfl (by rw [List.length_map]; exact hn) hL rfl (by show 2 * 0 + _ ≤ 8; omega) d hRc
  exact G_run hrun hS kk
theorem gc_get (C0 : Cx p s m args meth c D ad adV cA cc nL own) {pc : Nat} {C : String} {T : u_T} {N ci k index x kd : Nat} {fs : List Nat} {w : Wd} {H : Heap} {locs : List Loc} {ls : Array Slot} {rest : List Value} (d : decode cc pc = .ok (.getfield index, 3)) (hin : ∀ w ∈ u_ws C T N, w ∈ TT) (hc : vwCl[ci]? = some (C, T, N)) (hk : k < N) (ht : Cond.fieldLink own index (T k).1 (T k).2.1 (T k).2.2.1 ∈ TT)
    (hq : shp[x]? = some (.inr (ci, fs))) (hkd : fs[k]? = some kd) (hP : va_P D vwCl (Cells ad cA w) H) (kk : W p l e R s m args below meth c H locs cells slots Q (F0 m (pc + 3) ls (vl ad (fvA w x k kd) :: rest))) : W p l e R s m args below meth c H locs cells slots Q (F0 m pc ls (.ref (ad x) :: rest)) :=
  va_get C0.1 C0.2.1 C0.2.2.2.2.1 hin C0.2.2.2.1 C0.2.2.2.2.2.1 hP x (fs := fs.mapIdx (fun j k => vl ad (fvA w x j k))) (Cells_get hq) hc k hk (C0.2.2.2.2.1 _ ht) (fun _ h => h) (v := vl ad (fvA w x k kd)) (by rw [List.getElem?_mapIdx, hkd]; rfl) d kk
end GC
/-! ThrowArms.named -/
def txtN : String := "no thrower has that name"
def XI (ad : Nat → Nat) (sa : Nat) (U : State) : Prop := vx_Zq Bundle.tN "UNASSIGNED_STACK" Bundle.steD (AA ad) U U.heap ∧ vx_Zq Bundle.tN "SUPPRESSED_SENTINEL" Bundle.listD (AA ad) U U.heap ∧ vk_R "ThrowArms" 393 txtN sa U ∧ ∀ w ∈ nxB, va_Nw w U
def InvX (D : va_G) (ad adV : Nat → Nat) (cA : Nat → ClassId) (sa : Nat) (w : Wd) (U : State) : Prop := Inv D ad adV cA w U ∧ XI ad sa U
/-- what named does: an answer, or nothing -/
def fNm (x1 : Int32) (w : Wd) (K : Int32 → Wd → Prop) (KX : Wd → Prop) : Prop :=
  fX10_within [.int x1, .int 0, .int (w.1 1 1)] w (fun v w0 => ∃ z : Int32, v = some (.int z) ∧ (z = 0 → KX w0) ∧ (¬ z = 0 → fX8_onlyWord [.ref 1, .int x1] w0 (fun v w1 => ∃ z : Int64, v = some (.long z) ∧ fX9_armNamed [.ref 13, .long z] w1 (fun v w2 => ∃ y : Int32, v = some (.int y) ∧ (y = -1 → KX w2) ∧ (¬ y = -1 → K y w2)))))
def XQ (D : va_G) (ad : Nat → Nat) (cA : Nat → ClassId) (KX : Wd → Prop) : String → State → State → Prop := fun E st t => E = nNS ∧ ∃ w1, KX w1 ∧ va_P D vwCl (Cells ad cA w1) t.heap ∧ va_F (AA ad) st t
def rmN : Room := { frames := 10, cells := 1, slots := 6, locals := 400 }
theorem XI.blind {ad : Nat → Nat} {sa : Nat} {U : State} {g : JFrame} {mk : MethodId} {a : Array Value} (h : XI ad sa U) : XI ad sa (U.calling g mk a) := ⟨vx_Zq.moved (u := U) (U := U.calling g mk a) (Vm.Alike.refl U.vm) h.1, vx_Zq.moved (u := U) (U := U.calling g mk a) (Vm.Alike.refl U.vm) h.2.1, vk_R.same (u := U) (U := U.calling g mk a) rfl h.2.2.1, nxB_same (u := U) (U := U.calling g mk a) rfl h.2.2.2⟩
theorem XI.call {ad : Nat → Nat} {sa : Nat} {s U : State} {H : Heap} {locs : List Loc} (h : XI ad sa s) (hS : va_S (AA ad) s.heap H locs) (hU : U.heap = H) (hW : s.WarmedH U.vm) : XI ad sa U := by
  refine ⟨?_, ?_, vk_R.warm hW h.2.2.1, nxB_warm hW h.2.2.2⟩
  · rw [hU]; exact vx_Zq.moved hW.alike (h.1.kept hS.2.1)
  · rw [hU]; exact vx_Zq.moved hW.alike (h.2.1.kept hS.2.1)
theorem blind_N {D : va_G} {ad adV : Nat → Nat} {cA : Nat → ClassId} {sa : Nat} {av : List Value} {w : Wd} : FrameBlind (va_Pc av (InvX D ad adV cA sa w)) := by
  intro a U g mk h
  exact ⟨h.1, (blind_P (av := av) a U g mk ⟨h.1, h.2.1⟩).2, h.2.2.blind⟩
theorem va_P_up {D : va_G} {ws : va_W} {H H1 : Heap} (h : va_P D vwCl ws H) (hk : ∀ q : Nat, q < H.size → H1[q]? = H[q]?) : va_P D vwCl ws H1 := h.kept (fun k x hx => hk x.1 ((h k x hx).lt))
theorem k_named (l : Launch) (hl : l.stackTraces = false) (D : va_G) (ad adV : Nat → Nat) (cA : Nat → ClassId) (sa : Nat) (w : Wd) (x1 : Int32) (K : Int32 → Wd → Prop) (KX : Wd → Prop) (hf : fNm x1 w K KX) :
    vx_Met l yX10_named (.code yX10_named cX10_named 3 (some .int) :: TT) rmN (va_Pc [.ref (ad 0), .int x1] (InvX D ad adV cA sa w)) (QQ D ad cA (fun r w1 => ∃ y, r = some (.int y) ∧ K y w1)) (XQ D ad cA KX) 1 6 (AA ad) := by
  refine vx_ofW (cc := cX10_named) (maxL := 3) (ret := some .int) (by decide +kernel) rfl ?_
  intro p e s m args below meth c s₁ B hml hno hv
  obtain ⟨rfl, ⟨hP, hK, hI, hR⟩, hX⟩ := hv
  have hts := atoms_spec (ws := Cond.code yX10_named cX10_named 3 (some .int) :: TT) B.pre
  have hown : s.vm.findClass RX10 = some m.cls := findClass_of_methodNamed B.named
  have C0 : Cx p s m [Value.ref (ad 0), .int x1].toArray meth c D ad adV cA cX10_named 3 RX10 := ⟨B.exec, B.bytes, hml, hown, fun w h => hts w (List.mem_cons_of_mem _ h), hK, hI, hR, B.notSynchronized⟩
  have hr := B.returns
  rw [lg_entry_eq]
  have hl0 := lv_entry ([.ref (ad 0), .int x1]) (n := 3) (Nat.le_of_ble_eq_true rfl)
  generalize (lg_sl ([.ref (ad 0), .int x1]) ++ List.replicate (3 - (lg_sl ([.ref (ad 0), .int x1])).length) Slot.unset).toArray = ls at hl0 ⊢
  have hl0 : lv_has ls 3 [(0, .ref (ad 0)), (1, .int x1)] := hl0
  have hS : va_S (AA ad) s.heap s.heap [] := va_S.rf
  have hrm : 0 ≤ rmN.cells ∧ 0 ≤ rmN.slots := ⟨Nat.zero_le _, Nat.zero_le _⟩
  -- the end: throw, or answer
  have fin : ∀ (y : Int32) (w2 : Wd) (H : Heap) (locs : List Loc), va_P D vwCl (Cells ad cA w2) H → va_S (AA ad) s.heap H locs → (y = -1 → KX w2) → (¬ y = -1 → K y w2) → W p l e rmN s m [Value.ref (ad 0), .int x1].toArray below meth c H locs 0 0 (vx_MQ below (QQ D ad cA (fun r w1 => ∃ y, r = some (.int y) ∧ K y w1)) (XQ D ad cA KX) [Value.ref (ad 0), .int x1].toArray s 1 6 (AA ad)) (F0 m 34 ls [.int y]) := by
    intro y w2 H locs hP2 hS2 h1 h2
    refine lv_istore_n (lv' := [(2, .int y), (0, .ref (ad 0)), (1, .int x1)]) C0.1 C0.2.1 (by decide +kernel : decode cX10_named 34 = .ok (.istore_n 2, 1)) rfl hl0 (by decide) rfl (fun ls hl1 => ?_)
    refine lv_iload_n C0.1 C0.2.1 (by decide +kernel : decode cX10_named 35 = .ok (.iload_n 2, 1)) rfl (lv_at hl1 0 rfl) ?_
    refine lv_iconst (v := -1) C0.1 C0.2.1 (by decide +kernel : decode cX10_named 36 = .ok (.iconst (-1), 1)) (by decide) ?_
    refine lv_icmp_ne (tgt := 51) C0.1 C0.2.1 (by decide +kernel : decode cX10_named 37 = .ok (.if_icmp .ne 14, 3)) (by decide) (fun z => ?_) (fun z => ?_)
    · refine lv_iload_n C0.1 C0.2.1 (by decide +kernel : decode cX10_named 51 = .ok (.iload_n 2, 1)) rfl (lv_at hl1 0 rfl) ?_
      refine vx_ret (W.widen (k := 1) (n := 6) (by omega) (by omega) ?_)
      exact W.iret C0.1 C0.2.1 hr (fun t ht hW => ⟨some (.int y), w2, ⟨y, rfl, h2 z⟩, rfl, by rw [ht]; exact hP2, hS2.F ht⟩) hS2.2.2 (by decide +kernel) C0.2.2.2.2.2.2.2.2
    · refine nx_make (ik := 391) (is := 393) (A := AA ad) C0.1 C0.2.1 hl hown (C0.2.2.2.2.1 _ tw5_180) (C0.2.2.2.2.1 _ tw1_22) hX.2.2.1 (fun w h => (nx_words w h).elim (fun q => C0.2.2.2.2.1 w q) (fun q => nxB_use hX.2.2.2 w q)) nx_good hX.1 hX.2.1 hS2 (by rw [hml]; exact hl1.1) (by decide +kernel) (by decide +kernel) (by decide +kernel) (by decide +kernel) (by decide) (by decide) (by decide) (by decide) (fun q H1 ce hq hv9 hcl hz9 hk9 => ?_)
      refine vx_athrow C0.1 C0.2.1 (by decide +kernel : decode cX10_named 50 = .ok (.athrow, 1)) ?_
      refine vx_out (fun x hx => (hno x hx).elim) C0.2.2.2.2.2.2.2.2 hq hv9 hcl (fun t ht hW => ⟨rfl, w2, h1 z, by rw [ht]; exact va_P_up hP2 hk9, by rw [ht]; exact Nat.le_trans hS2.1 hz9, fun q a b => by rw [ht, hk9 q (Nat.lt_of_lt_of_le a hS2.1)]; exact hS2.2.1 q a b⟩) hS2.2.2 (by omega) (by omega)
  refine lv_iload_n C0.1 C0.2.1 (by decide +kernel : decode cX10_named 0 = .ok (.iload_n 1, 1)) rfl (lv_at hl0 1 rfl) ?_
  refine lv_iconst (v := 0) C0.1 C0.2.1 (by decide +kernel : decode cX10_named 1 = .ok (.iconst 0, 1)) (by decide) ?_
  refine lv_aload_n C0.1 C0.2.1 (by decide +kernel : decode cX10_named 2 = .ok (.aload_n 0, 1)) rfl (lv_at hl0 0 rfl) ?_
  refine gc_get (ci := 10) (k := 0) (x := 0) (kd := 3) C0 (by decide +kernel : decode cX10_named 3 = .ok (.getfield 12, 3)) inX10 rfl (by decide) tw2_118 rfl rfl hP ?_
  refine gc_get (ci := 8) (k := 1) (x := 1) (kd := 0) C0 (by decide +kernel : decode cX10_named 6 = .ok (.getfield 97, 3)) inX8 rfl (by decide) tw1_39 rfl rfl hP ?_
  refine gc_S (As := [.int x1, .int 0, .int (w.1 1 1)]) (rest := []) C0 (kX10_within l) (by decide +kernel : decode cX10_named 9 = .ok (.invokestatic 104, 3)) qX10_within tw2_170 tw2_171 tw1_1 tw2_172 (by decide) hrm rfl (Nat.le_of_ble_eq_true rfl) hl0.1 hP hS hf (fun r w0 H0 locs0 hK0 hP0 hS0 st0 => ?_)
  obtain ⟨z, rfl, hz0, hz1⟩ := hK0
  refine lv_if_eq (tgt := 33) C0.1 C0.2.1 (by decide +kernel : decode cX10_named 12 = .ok (.ifCond .eq 21, 3)) (by decide) (fun q => ?_) (fun q => ?_)
  · refine lv_iconst (v := -1) C0.1 C0.2.1 (by decide +kernel : decode cX10_named 33 = .ok (.iconst (-1), 1)) (by decide) ?_
    exact fin (-1) w0 H0 locs0 hP0 hS0 (fun _ => hz0 q) (fun h => absurd rfl h)
  · refine lv_aload_n C0.1 C0.2.1 (by decide +kernel : decode cX10_named 15 = .ok (.aload_n 0, 1)) rfl (lv_at hl0 0 rfl) ?_
    refine gc_get (ci := 10) (k := 2) (x := 0) (kd := 15) C0 (by decide +kernel : decode cX10_named 16 = .ok (.getfield 28, 3)) inX10 rfl (by decide) tw2_120 rfl rfl hP0 ?_
    refine lv_aload_n C0.1 C0.2.1 (by decide +kernel : decode cX10_named 19 = .ok (.aload_n 0, 1)) rfl (lv_at hl0 0 rfl) ?_
    refine gc_get (ci := 10) (k := 0) (x := 0) (kd := 3) C0 (by decide +kernel : decode cX10_named 20 = .ok (.getfield 12, 3)) inX10 rfl (by decide) tw2_118 rfl rfl hP0 ?_
    refine lv_iload_n C0.1 C0.2.1 (by decide +kernel : decode cX10_named 23 = .ok (.iload_n 1, 1)) rfl (lv_at hl0 1 rfl) ?_
    refine gc_V (ci := 8) (x := 1) (As := [.int x1]) (rest := [.ref (ad 13)]) C0 (kX8_onlyWord l) (by decide +kernel : decode cX10_named 24 = .ok (.invokevirtual 383, 3)) rfl qX8_onlyWord tw5_173 tw5_174 tw5_175 tw1_2 tw5_176 (by decide) hrm rfl rfl (Nat.le_of_ble_eq_true rfl) hl0.1 hP0 hS0 (hz1 q) (fun r w1 H1 locs1 hK1 hP1 hS1 st1 => ?_)
    obtain ⟨z2, rfl, hz2⟩ := hK1
    refine gc_V (ci := 9) (x := 13) (As := [.long z2]) (rest := []) C0 (kX9_armNamed l) (by decide +kernel : decode cX10_named 27 = .ok (.invokevirtual 387, 3)) rfl qX9_armNamed tw5_179 tw3_59 tw3_60 tw1_4 tw3_61 (by decide) hrm rfl rfl (Nat.le_of_ble_eq_true rfl) hl0.1 hP1 hS1 hz2 (fun r w2 H2 locs2 hK2 hP2 hS2 st2 => ?_)
    obtain ⟨y, rfl, hy1, hy2⟩ := hK2
    refine lv_goto (tgt := 34) C0.1 C0.2.1 (by decide +kernel : decode cX10_named 30 = .ok (.goto 4, 3)) (by decide) ?_
    exact fin y w2 H2 locs2 hP2 hS2 hy1 hy2
