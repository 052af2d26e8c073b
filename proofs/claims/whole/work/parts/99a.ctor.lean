/-! the constructors -/
theorem i_newa {p : Program} {l : Launch} {e : Env} {R : Room} {s : State} {m : MethodId} {args : Array Value} {below : List Frame} {meth : Method} {c : Code} {Q : State → Prop} {D : va_G} {cA : Nat → ClassId} {cc : ByteArray} {A : Nat → Prop} {ws : va_W} {H H0 : Heap} {locs : List Loc} {cells slots pc t : Nat} {ls : Array Slot} {rest : List Value}
    (hexec : p.tables.exec = Jvm.exec) (hb : c.code = cc) {atype : ArrayType} {ty : FieldType} (harr : (Cond.arrayClass (newarray.typeOf atype)).before args s = true) (hty : newarray.typeOf atype = ty) (htt : (tysL cA)[t]? = some (cA t, ty)) (hpr : ∀ k : ClassId, va_RA s k ty → s.vm.findClass ("[" ++ ty.toString) = some k) (hK : va_K D vwCl (tysL cA) s) (hP : va_P D vwCl ws H) (hD : va_D A ws) (hS : va_S A H0 H locs) (hA : ∀ q, H0.size ≤ q → A q)
    {n : Int32} {N' : Nat} {a0 : vp_A} (ha : ∀ k : ClassId, vp_cell k a0 = arrV k N' (fun _ => defaultValue ty)) (hn : ¬ n < 0) (hN : n.toNatClampNeg = N') (hbytes : N' * componentBytes ty ≤ 536870912) (hcells : cells + 1 ≤ R.cells) (hslots : slots + N' ≤ R.slots) (hdg : decode cc pc = .ok (.newarray atype, 2))
    (kk : ∀ (q : Nat) (H1 : Heap), va_P D vwCl (ws ++ [(q, .inl (cA t, a0))]) H1 → va_D A (ws ++ [(q, .inl (cA t, a0))]) → va_S A H0 H1 locs →
      W p l e R s m args below meth c H1 locs (cells + 1) (slots + N') Q (F0 m (pc + 2) ls (.ref q :: rest))) : W p l e R s m args below meth c H locs cells slots Q (F0 m pc ls (.int n :: rest)) := by
  refine va_newa hexec hb harr hty hK hP hD hS hA ha hn hN hbytes hcells hslots hdg (fun q k H1 hK1 hP1 hD1 hS1 => ?_)
  have e1 := hpr k (hK1.2 4 (k, ty) rfl).2
  have e2 := hpr (cA t) (hK.2 t (cA t, ty) htt).2
  have e3 : k = cA t := Option.some.inj (e1.symm.trans e2)
  subst e3
  exact kk q H1 hP1 hD1 hS1
def NW (U : State) : Prop := ∀ q ∈ nMth, va_Nw (.methodLinkNest q.1 q.2.1 q.2.2.1 q.2.2.2) U
theorem NW.same {u U : State} (hv : u.vm = U.vm) (h : NW u) : NW U := fun q hq => va_Nw.same rfl hv (h q hq)
theorem NW.warm {u U : State} (hW : u.WarmedH U.vm) (h : NW u) : NW U := fun q hq => va_Nw.warmM hW (h q hq)
def IPre (D : va_G) (cA : Nat → ClassId) (ws : va_W) (sz : Nat) (U : State) : Prop := U.heap.size = sz ∧ va_P D vwCl ws U.heap ∧ va_K D vwCl (tysL cA) U ∧ NW U ∧ va_D (fun _ => True) ws
theorem blind_I {D : va_G} {cA : Nat → ClassId} {ws : va_W} {sz : Nat} {av : List Value} : FrameBlind (va_Pc av (IPre D cA ws sz)) := by
  intro a U g mk h
  exact ⟨h.1, h.2.1, h.2.2.1, va_K.moved (u := U) (U := U.calling g mk a) (Vm.Alike.refl U.vm) h.2.2.2.1, NW.same (u := U) (U := U.calling g mk a) rfl h.2.2.2.2.1, h.2.2.2.2.2⟩
theorem dfX0 : ∀ j, j < 11 → defaultValue (tyX0 j) = vp_V [.null, .null, .int 0, .int 0, .null, .null, .null, .null, .null, .null, .int 0] j := by decide +kernel
theorem dfX1 : ∀ j, j < 2 → defaultValue (tyX1 j) = vp_V [.null, .null] j := by decide +kernel
theorem dfX2 : ∀ j, j < 9 → defaultValue (tyX2 j) = vp_V [.null, .null, .int 0, .int 0, .int 0, .int 0, .int 0, .int 0, .int 0] j := by decide +kernel
theorem dfX3 : ∀ j, j < 3 → defaultValue (tyX3 j) = vp_V [.null, .null, .int 0] j := by decide +kernel
theorem dfX4 : ∀ j, j < 5 → defaultValue (tyX4 j) = vp_V [.null, .null, .null, .int 0, .int 0] j := by decide +kernel
theorem dfX5 : ∀ j, j < 4 → defaultValue (tyX5 j) = vp_V [.null, .null, .null, .null] j := by decide +kernel
theorem dfX6 : ∀ j, j < 5 → defaultValue (tyX6 j) = vp_V [.null, .null, .null, .int 0, .int 0] j := by decide +kernel
theorem dfX7 : ∀ j, j < 8 → defaultValue (tyX7 j) = vp_V [.null, .null, .long 0, .int 0, .int 0, .int 0, .int 0, .int 0] j := by decide +kernel
theorem dfX8 : ∀ j, j < 8 → defaultValue (tyX8 j) = vp_V [.null, .int 0, .int 0, .int 0, .int 0, .int 0, .int 0, .long 0] j := by decide +kernel
theorem dfX9 : ∀ j, j < 10 → defaultValue (tyX9 j) = vp_V [.int 0, .null, .null, .null, .int 0, .null, .null, .int 0, .null, .null] j := by decide +kernel
theorem dfX10 : ∀ j, j < 13 → defaultValue (tyX10 j) = vp_V [.null, .null, .null, .null, .null, .null, .null, .null, .null, .null, .int 0, .int 0, .int 0] j := by decide +kernel
theorem dfX11 : ∀ j, j < 28 → defaultValue (tyX11 j) = vp_V [.int 0, .int 0, .int 0, .int 0, .null, .int 0, .int 0, .null, .null, .null, .null, .int 0, .int 0, .int 0, .int 0, .int 0, .int 0, .int 0, .int 0, .null, .null, .null, .null, .null, .int 0, .null, .int 0, .int 0] j := by decide +kernel
set_option maxRecDepth 100000 in
theorem ci_X9 (l : Launch) (D : va_G) (cA : Nat → ClassId) (h0 sz : Nat) : Met l yX9_init (.code yX9_init cX9_init 1 none :: TT) { frames := 1, cells := 7, slots := 121, locals := 20 } (va_Pc [.ref h0] (IPre D cA [(h0, .inr (9, [.int 0, .null, .null, .null, .int 0, .null, .null, .int 0, .null, .null]))] sz)) (va_Qv (fun _ : Unit => True) (fun _ t => ∃ q12 q20 q28 q41 q48 q60 q67 : Nat, va_P D vwCl [(h0, .inr (9, [.int 0, .ref q12, .ref q20, .ref q28, .int 0, .ref q41, .ref q48, .int 0, .ref q60, .ref q67])), (q12, .inl (cA 1, 8, .inr (.inl (fun _ => 0)))), (q20, .inl (cA 0, 8, .inl (fun _ => 0))), (q28, .inl (cA 0, 32, .inl (fun _ => 0))), (q41, .inl (cA 0, 60, .inl (fun _ => 0))), (q48, .inl (cA 0, 3, .inl (fun _ => 0))), (q60, .inl (cA 0, 5, .inl (fun _ => 0))), (q67, .inl (cA 0, 5, .inl (fun _ => 0)))] t.heap ∧ va_D (va_A [(h0, .inr (9, [.int 0, .null, .null, .null, .int 0, .null, .null, .int 0, .null, .null]))] sz) [(h0, .inr (9, [.int 0, .ref q12, .ref q20, .ref q28, .int 0, .ref q41, .ref q48, .int 0, .ref q60, .ref q67])), (q12, .inl (cA 1, 8, .inr (.inl (fun _ => 0)))), (q20, .inl (cA 0, 8, .inl (fun _ => 0))), (q28, .inl (cA 0, 32, .inl (fun _ => 0))), (q41, .inl (cA 0, 60, .inl (fun _ => 0))), (q48, .inl (cA 0, 3, .inl (fun _ => 0))), (q60, .inl (cA 0, 5, .inl (fun _ => 0))), (q67, .inl (cA 0, 5, .inl (fun _ => 0)))]) (va_A [(h0, .inr (9, [.int 0, .null, .null, .null, .int 0, .null, .null, .int 0, .null, .null]))] sz)) 7 121 (va_A [(h0, .inr (9, [.int 0, .null, .null, .null, .int 0, .null, .null, .int 0, .null, .null]))] sz) := by
  refine Met.ofW (cc := cX9_init) (maxL := 1) (ret := none) (by decide +kernel) rfl ?_
  intro p e s m args below meth c s₁ B hml hv
  obtain ⟨rfl, hsz, hP, hK, hNw, hD0⟩ := hv
  have hx := B.exec
  have hb := B.bytes
  have hr := B.returns
  have hts0 := atoms_spec (ws := Cond.code yX9_init cX9_init 1 none :: TT) B.pre
  have hts : ∀ w ∈ TT, w.before _ s = true := fun w h => hts0 w (List.mem_cons_of_mem _ h)
  have hown : s.vm.findClass RX9 = some m.cls := findClass_of_methodNamed B.named
  have hlocks := B.notSynchronized
  have hin : meth.name = "<init>" := (name_of_methodNamed B.named B.method).1
  subst hsz
  have hD := hD0.self (sz := s.heap.size)
  generalize hAe : va_A [(h0, .inr (9, [.int 0, .null, .null, .null, .int 0, .null, .null, .int 0, .null, .null]))] s.heap.size = A at hD ⊢
  have hA : ∀ q : Nat, s.heap.size ≤ q → A q := fun q h => by rw [← hAe]; exact Or.inr h
  have hS : va_S A s.heap s.heap [] := va_S.rf
  have hP : va_P D vwCl [(h0, .inr (9, [.int 0, .null, .null, .null, .int 0, .null, .null, .int 0, .null, .null]))] s.heap := hP
  have hl := lv_entry ([.ref h0]) (n := 1) (Nat.le_of_ble_eq_true rfl)
  rw [lg_entry_eq]
  generalize (lg_sl ([.ref h0]) ++ List.replicate (1 - (lg_sl ([.ref h0])).length) Slot.unset).toArray = ls at hl ⊢
  have hl : lv_has ls 1 [(0, .ref h0)] := hl
  refine lv_aload_n hx hb (by decide +kernel : decode cX9_init 0 = .ok (.aload_n 0, 1)) rfl (lv_at hl 0 rfl) ?_
  refine W.objInit hx hb hown (hts _ tw1_79) (hts _ tw1_29) (hts _ tw1_30) rfl (by rw [hml]; exact hl.1) rfl (by decide +kernel : decode cX9_init 1 = .ok (.invokespecial 3, 3)) (Nat.le_of_ble_eq_true rfl) (Nat.le_of_ble_eq_true rfl) ?_
  refine W.eq (g2 := F0 m 4 ls []) rfl ?_
  refine lv_aload_n hx hb (by decide +kernel : decode cX9_init 4 = .ok (.aload_n 0, 1)) rfl (lv_at hl 0 rfl) ?_
  refine lv_iconst (v := 0) hx hb (by decide +kernel : decode cX9_init 5 = .ok (.iconst (0), 1)) (by decide) ?_
  refine va_put (D := D) (ci := 9) (v := .int 0) (ty := tyX9 0) (C := RX9) (T := TX9) (N := 10) hx hb hts inX9 tyX9 tyX9_ok nmX9 hown hK hP hD hS 0 rfl rfl 0 (by decide) (hts _ tw1_80) (fun _ h9 => h9) rfl (by decide +kernel) rfl rfl (Nat.le_of_ble_eq_true rfl) (by decide +kernel : decode cX9_init 6 = .ok (.putfield 9, 3)) (fun H locs hP hD hS => ?_)
  have hP : va_P D vwCl [(h0, .inr (9, [.int 0, .null, .null, .null, .int 0, .null, .null, .int 0, .null, .null]))] H := hP
  have hD : va_D A [(h0, .inr (9, [.int 0, .null, .null, .null, .int 0, .null, .null, .int 0, .null, .null]))] := hD
  refine lv_aload_n hx hb (by decide +kernel : decode cX9_init 9 = .ok (.aload_n 0, 1)) rfl (lv_at hl 0 rfl) ?_
  refine lv_bipush (v := 8) hx hb (by decide +kernel : decode cX9_init 10 = .ok (.bipush (8), 2)) (by decide) ?_
  refine i_newa (atype := .long) (t := 1) (N' := 8) (a0 := (8, .inr (.inl (fun _ => 0)))) (ty := .long) hx hb (hts _ tw1_137) rfl rfl (fun _ h => h) hK hP hD hS hA (fun _ => rfl) (by decide) (by decide) (by decide) (by decide) (by decide) (by decide +kernel : decode cX9_init 12 = .ok (.newarray .long, 2)) (fun q12 H hP hD hS => ?_)
  have hP : va_P D vwCl [(h0, .inr (9, [.int 0, .null, .null, .null, .int 0, .null, .null, .int 0, .null, .null])), (q12, .inl (cA 1, 8, .inr (.inl (fun _ => 0))))] H := hP
  have hD : va_D A [(h0, .inr (9, [.int 0, .null, .null, .null, .int 0, .null, .null, .int 0, .null, .null])), (q12, .inl (cA 1, 8, .inr (.inl (fun _ => 0))))] := hD
  refine W.widen (k := 1) (n := 8) (by omega) (by omega) ?_
  refine va_putF (D := D) (ci := 9) (v := .ref q12) (ty := tyX9 1) (C := RX9) (T := TX9) (N := 10) hx hb hts inX9 tyX9 tyX9_ok nmX9 hown hK hP hD hS 0 rfl rfl 1 (by decide) (hts _ tw1_85) (fun _ h9 => h9) rfl hin rfl (by decide +kernel) rfl rfl (Nat.le_of_ble_eq_true rfl) (by decide +kernel : decode cX9_init 14 = .ok (.putfield 15, 3)) (fun H locs hP hD hS => ?_)
  have hP : va_P D vwCl [(h0, .inr (9, [.int 0, .ref q12, .null, .null, .int 0, .null, .null, .int 0, .null, .null])), (q12, .inl (cA 1, 8, .inr (.inl (fun _ => 0))))] H := hP
  have hD : va_D A [(h0, .inr (9, [.int 0, .ref q12, .null, .null, .int 0, .null, .null, .int 0, .null, .null])), (q12, .inl (cA 1, 8, .inr (.inl (fun _ => 0))))] := hD
  refine lv_aload_n hx hb (by decide +kernel : decode cX9_init 17 = .ok (.aload_n 0, 1)) rfl (lv_at hl 0 rfl) ?_
  refine lv_bipush (v := 8) hx hb (by decide +kernel : decode cX9_init 18 = .ok (.bipush (8), 2)) (by decide) ?_
  refine i_newa (atype := .int) (t := 0) (N' := 8) (a0 := (8, .inl (fun _ => 0))) (ty := .int) hx hb (hts _ tw1_138) rfl rfl (fun _ h => h) hK hP hD hS hA (fun _ => rfl) (by decide) (by decide) (by decide) (by decide) (by decide) (by decide +kernel : decode cX9_init 20 = .ok (.newarray .int, 2)) (fun q20 H hP hD hS => ?_)
  have hP : va_P D vwCl [(h0, .inr (9, [.int 0, .ref q12, .null, .null, .int 0, .null, .null, .int 0, .null, .null])), (q12, .inl (cA 1, 8, .inr (.inl (fun _ => 0)))), (q20, .inl (cA 0, 8, .inl (fun _ => 0)))] H := hP
  have hD : va_D A [(h0, .inr (9, [.int 0, .ref q12, .null, .null, .int 0, .null, .null, .int 0, .null, .null])), (q12, .inl (cA 1, 8, .inr (.inl (fun _ => 0)))), (q20, .inl (cA 0, 8, .inl (fun _ => 0)))] := hD
  refine W.widen (k := 2) (n := 16) (by omega) (by omega) ?_
  refine va_putF (D := D) (ci := 9) (v := .ref q20) (ty := tyX9 2) (C := RX9) (T := TX9) (N := 10) hx hb hts inX9 tyX9 tyX9_ok nmX9 hown hK hP hD hS 0 rfl rfl 2 (by decide) (hts _ tw1_87) (fun _ h9 => h9) rfl hin rfl (by decide +kernel) rfl rfl (Nat.le_of_ble_eq_true rfl) (by decide +kernel : decode cX9_init 22 = .ok (.putfield 19, 3)) (fun H locs hP hD hS => ?_)
  have hP : va_P D vwCl [(h0, .inr (9, [.int 0, .ref q12, .ref q20, .null, .int 0, .null, .null, .int 0, .null, .null])), (q12, .inl (cA 1, 8, .inr (.inl (fun _ => 0)))), (q20, .inl (cA 0, 8, .inl (fun _ => 0)))] H := hP
  have hD : va_D A [(h0, .inr (9, [.int 0, .ref q12, .ref q20, .null, .int 0, .null, .null, .int 0, .null, .null])), (q12, .inl (cA 1, 8, .inr (.inl (fun _ => 0)))), (q20, .inl (cA 0, 8, .inl (fun _ => 0)))] := hD
  refine lv_aload_n hx hb (by decide +kernel : decode cX9_init 25 = .ok (.aload_n 0, 1)) rfl (lv_at hl 0 rfl) ?_
  refine lv_bipush (v := 32) hx hb (by decide +kernel : decode cX9_init 26 = .ok (.bipush (32), 2)) (by decide) ?_
  refine i_newa (atype := .int) (t := 0) (N' := 32) (a0 := (32, .inl (fun _ => 0))) (ty := .int) hx hb (hts _ tw1_138) rfl rfl (fun _ h => h) hK hP hD hS hA (fun _ => rfl) (by decide) (by decide) (by decide) (by decide) (by decide) (by decide +kernel : decode cX9_init 28 = .ok (.newarray .int, 2)) (fun q28 H hP hD hS => ?_)
  have hP : va_P D vwCl [(h0, .inr (9, [.int 0, .ref q12, .ref q20, .null, .int 0, .null, .null, .int 0, .null, .null])), (q12, .inl (cA 1, 8, .inr (.inl (fun _ => 0)))), (q20, .inl (cA 0, 8, .inl (fun _ => 0))), (q28, .inl (cA 0, 32, .inl (fun _ => 0)))] H := hP
  have hD : va_D A [(h0, .inr (9, [.int 0, .ref q12, .ref q20, .null, .int 0, .null, .null, .int 0, .null, .null])), (q12, .inl (cA 1, 8, .inr (.inl (fun _ => 0)))), (q20, .inl (cA 0, 8, .inl (fun _ => 0))), (q28, .inl (cA 0, 32, .inl (fun _ => 0)))] := hD
  refine W.widen (k := 3) (n := 48) (by omega) (by omega) ?_
  refine va_putF (D := D) (ci := 9) (v := .ref q28) (ty := tyX9 3) (C := RX9) (T := TX9) (N := 10) hx hb hts inX9 tyX9 tyX9_ok nmX9 hown hK hP hD hS 0 rfl rfl 3 (by decide) (hts _ tw1_91) (fun _ h9 => h9) rfl hin rfl (by decide +kernel) rfl rfl (Nat.le_of_ble_eq_true rfl) (by decide +kernel : decode cX9_init 30 = .ok (.putfield 23, 3)) (fun H locs hP hD hS => ?_)
  have hP : va_P D vwCl [(h0, .inr (9, [.int 0, .ref q12, .ref q20, .ref q28, .int 0, .null, .null, .int 0, .null, .null])), (q12, .inl (cA 1, 8, .inr (.inl (fun _ => 0)))), (q20, .inl (cA 0, 8, .inl (fun _ => 0))), (q28, .inl (cA 0, 32, .inl (fun _ => 0)))] H := hP
  have hD : va_D A [(h0, .inr (9, [.int 0, .ref q12, .ref q20, .ref q28, .int 0, .null, .null, .int 0, .null, .null])), (q12, .inl (cA 1, 8, .inr (.inl (fun _ => 0)))), (q20, .inl (cA 0, 8, .inl (fun _ => 0))), (q28, .inl (cA 0, 32, .inl (fun _ => 0)))] := hD
  refine lv_aload_n hx hb (by decide +kernel : decode cX9_init 33 = .ok (.aload_n 0, 1)) rfl (lv_at hl 0 rfl) ?_
  refine lv_iconst (v := 0) hx hb (by decide +kernel : decode cX9_init 34 = .ok (.iconst (0), 1)) (by decide) ?_
  refine va_put (D := D) (ci := 9) (v := .int 0) (ty := tyX9 4) (C := RX9) (T := TX9) (N := 10) hx hb hts inX9 tyX9 tyX9_ok nmX9 hown hK hP hD hS 0 rfl rfl 4 (by decide) (hts _ tw1_92) (fun _ h9 => h9) rfl (by decide +kernel) rfl rfl (Nat.le_of_ble_eq_true rfl) (by decide +kernel : decode cX9_init 35 = .ok (.putfield 26, 3)) (fun H locs hP hD hS => ?_)
  have hP : va_P D vwCl [(h0, .inr (9, [.int 0, .ref q12, .ref q20, .ref q28, .int 0, .null, .null, .int 0, .null, .null])), (q12, .inl (cA 1, 8, .inr (.inl (fun _ => 0)))), (q20, .inl (cA 0, 8, .inl (fun _ => 0))), (q28, .inl (cA 0, 32, .inl (fun _ => 0)))] H := hP
  have hD : va_D A [(h0, .inr (9, [.int 0, .ref q12, .ref q20, .ref q28, .int 0, .null, .null, .int 0, .null, .null])), (q12, .inl (cA 1, 8, .inr (.inl (fun _ => 0)))), (q20, .inl (cA 0, 8, .inl (fun _ => 0))), (q28, .inl (cA 0, 32, .inl (fun _ => 0)))] := hD
  refine lv_aload_n hx hb (by decide +kernel : decode cX9_init 38 = .ok (.aload_n 0, 1)) rfl (lv_at hl 0 rfl) ?_
  refine lv_bipush (v := 60) hx hb (by decide +kernel : decode cX9_init 39 = .ok (.bipush (60), 2)) (by decide) ?_
  refine i_newa (atype := .int) (t := 0) (N' := 60) (a0 := (60, .inl (fun _ => 0))) (ty := .int) hx hb (hts _ tw1_138) rfl rfl (fun _ h => h) hK hP hD hS hA (fun _ => rfl) (by decide) (by decide) (by decide) (by decide) (by decide) (by decide +kernel : decode cX9_init 41 = .ok (.newarray .int, 2)) (fun q41 H hP hD hS => ?_)
  have hP : va_P D vwCl [(h0, .inr (9, [.int 0, .ref q12, .ref q20, .ref q28, .int 0, .null, .null, .int 0, .null, .null])), (q12, .inl (cA 1, 8, .inr (.inl (fun _ => 0)))), (q20, .inl (cA 0, 8, .inl (fun _ => 0))), (q28, .inl (cA 0, 32, .inl (fun _ => 0))), (q41, .inl (cA 0, 60, .inl (fun _ => 0)))] H := hP
  have hD : va_D A [(h0, .inr (9, [.int 0, .ref q12, .ref q20, .ref q28, .int 0, .null, .null, .int 0, .null, .null])), (q12, .inl (cA 1, 8, .inr (.inl (fun _ => 0)))), (q20, .inl (cA 0, 8, .inl (fun _ => 0))), (q28, .inl (cA 0, 32, .inl (fun _ => 0))), (q41, .inl (cA 0, 60, .inl (fun _ => 0)))] := hD
  refine W.widen (k := 4) (n := 108) (by omega) (by omega) ?_
  refine va_putF (D := D) (ci := 9) (v := .ref q41) (ty := tyX9 5) (C := RX9) (T := TX9) (N := 10) hx hb hts inX9 tyX9 tyX9_ok nmX9 hown hK hP hD hS 0 rfl rfl 5 (by decide) (hts _ tw1_99) (fun _ h9 => h9) rfl hin rfl (by decide +kernel) rfl rfl (Nat.le_of_ble_eq_true rfl) (by decide +kernel : decode cX9_init 43 = .ok (.putfield 29, 3)) (fun H locs hP hD hS => ?_)
  have hP : va_P D vwCl [(h0, .inr (9, [.int 0, .ref q12, .ref q20, .ref q28, .int 0, .ref q41, .null, .int 0, .null, .null])), (q12, .inl (cA 1, 8, .inr (.inl (fun _ => 0)))), (q20, .inl (cA 0, 8, .inl (fun _ => 0))), (q28, .inl (cA 0, 32, .inl (fun _ => 0))), (q41, .inl (cA 0, 60, .inl (fun _ => 0)))] H := hP
  have hD : va_D A [(h0, .inr (9, [.int 0, .ref q12, .ref q20, .ref q28, .int 0, .ref q41, .null, .int 0, .null, .null])), (q12, .inl (cA 1, 8, .inr (.inl (fun _ => 0)))), (q20, .inl (cA 0, 8, .inl (fun _ => 0))), (q28, .inl (cA 0, 32, .inl (fun _ => 0))), (q41, .inl (cA 0, 60, .inl (fun _ => 0)))] := hD
  refine lv_aload_n hx hb (by decide +kernel : decode cX9_init 46 = .ok (.aload_n 0, 1)) rfl (lv_at hl 0 rfl) ?_
  refine lv_iconst (v := 3) hx hb (by decide +kernel : decode cX9_init 47 = .ok (.iconst (3), 1)) (by decide) ?_
  refine i_newa (atype := .int) (t := 0) (N' := 3) (a0 := (3, .inl (fun _ => 0))) (ty := .int) hx hb (hts _ tw1_138) rfl rfl (fun _ h => h) hK hP hD hS hA (fun _ => rfl) (by decide) (by decide) (by decide) (by decide) (by decide) (by decide +kernel : decode cX9_init 48 = .ok (.newarray .int, 2)) (fun q48 H hP hD hS => ?_)
  have hP : va_P D vwCl [(h0, .inr (9, [.int 0, .ref q12, .ref q20, .ref q28, .int 0, .ref q41, .null, .int 0, .null, .null])), (q12, .inl (cA 1, 8, .inr (.inl (fun _ => 0)))), (q20, .inl (cA 0, 8, .inl (fun _ => 0))), (q28, .inl (cA 0, 32, .inl (fun _ => 0))), (q41, .inl (cA 0, 60, .inl (fun _ => 0))), (q48, .inl (cA 0, 3, .inl (fun _ => 0)))] H := hP
  have hD : va_D A [(h0, .inr (9, [.int 0, .ref q12, .ref q20, .ref q28, .int 0, .ref q41, .null, .int 0, .null, .null])), (q12, .inl (cA 1, 8, .inr (.inl (fun _ => 0)))), (q20, .inl (cA 0, 8, .inl (fun _ => 0))), (q28, .inl (cA 0, 32, .inl (fun _ => 0))), (q41, .inl (cA 0, 60, .inl (fun _ => 0))), (q48, .inl (cA 0, 3, .inl (fun _ => 0)))] := hD
  refine W.widen (k := 5) (n := 111) (by omega) (by omega) ?_
  refine va_putF (D := D) (ci := 9) (v := .ref q48) (ty := tyX9 6) (C := RX9) (T := TX9) (N := 10) hx hb hts inX9 tyX9 tyX9_ok nmX9 hown hK hP hD hS 0 rfl rfl 6 (by decide) (hts _ tw1_101) (fun _ h9 => h9) rfl hin rfl (by decide +kernel) rfl rfl (Nat.le_of_ble_eq_true rfl) (by decide +kernel : decode cX9_init 50 = .ok (.putfield 32, 3)) (fun H locs hP hD hS => ?_)
  have hP : va_P D vwCl [(h0, .inr (9, [.int 0, .ref q12, .ref q20, .ref q28, .int 0, .ref q41, .ref q48, .int 0, .null, .null])), (q12, .inl (cA 1, 8, .inr (.inl (fun _ => 0)))), (q20, .inl (cA 0, 8, .inl (fun _ => 0))), (q28, .inl (cA 0, 32, .inl (fun _ => 0))), (q41, .inl (cA 0, 60, .inl (fun _ => 0))), (q48, .inl (cA 0, 3, .inl (fun _ => 0)))] H := hP
  have hD : va_D A [(h0, .inr (9, [.int 0, .ref q12, .ref q20, .ref q28, .int 0, .ref q41, .ref q48, .int 0, .null, .null])), (q12, .inl (cA 1, 8, .inr (.inl (fun _ => 0)))), (q20, .inl (cA 0, 8, .inl (fun _ => 0))), (q28, .inl (cA 0, 32, .inl (fun _ => 0))), (q41, .inl (cA 0, 60, .inl (fun _ => 0))), (q48, .inl (cA 0, 3, .inl (fun _ => 0)))] := hD
  refine lv_aload_n hx hb (by decide +kernel : decode cX9_init 53 = .ok (.aload_n 0, 1)) rfl (lv_at hl 0 rfl) ?_
  refine lv_iconst (v := 0) hx hb (by decide +kernel : decode cX9_init 54 = .ok (.iconst (0), 1)) (by decide) ?_
  refine va_put (D := D) (ci := 9) (v := .int 0) (ty := tyX9 7) (C := RX9) (T := TX9) (N := 10) hx hb hts inX9 tyX9 tyX9_ok nmX9 hown hK hP hD hS 0 rfl rfl 7 (by decide) (hts _ tw1_107) (fun _ h9 => h9) rfl (by decide +kernel) rfl rfl (Nat.le_of_ble_eq_true rfl) (by decide +kernel : decode cX9_init 55 = .ok (.putfield 35, 3)) (fun H locs hP hD hS => ?_)
  have hP : va_P D vwCl [(h0, .inr (9, [.int 0, .ref q12, .ref q20, .ref q28, .int 0, .ref q41, .ref q48, .int 0, .null, .null])), (q12, .inl (cA 1, 8, .inr (.inl (fun _ => 0)))), (q20, .inl (cA 0, 8, .inl (fun _ => 0))), (q28, .inl (cA 0, 32, .inl (fun _ => 0))), (q41, .inl (cA 0, 60, .inl (fun _ => 0))), (q48, .inl (cA 0, 3, .inl (fun _ => 0)))] H := hP
  have hD : va_D A [(h0, .inr (9, [.int 0, .ref q12, .ref q20, .ref q28, .int 0, .ref q41, .ref q48, .int 0, .null, .null])), (q12, .inl (cA 1, 8, .inr (.inl (fun _ => 0)))), (q20, .inl (cA 0, 8, .inl (fun _ => 0))), (q28, .inl (cA 0, 32, .inl (fun _ => 0))), (q41, .inl (cA 0, 60, .inl (fun _ => 0))), (q48, .inl (cA 0, 3, .inl (fun _ => 0)))] := hD
  refine lv_aload_n hx hb (by decide +kernel : decode cX9_init 58 = .ok (.aload_n 0, 1)) rfl (lv_at hl 0 rfl) ?_
  refine lv_iconst (v := 5) hx hb (by decide +kernel : decode cX9_init 59 = .ok (.iconst (5), 1)) (by decide) ?_
  refine i_newa (atype := .int) (t := 0) (N' := 5) (a0 := (5, .inl (fun _ => 0))) (ty := .int) hx hb (hts _ tw1_138) rfl rfl (fun _ h => h) hK hP hD hS hA (fun _ => rfl) (by decide) (by decide) (by decide) (by decide) (by decide) (by decide +kernel : decode cX9_init 60 = .ok (.newarray .int, 2)) (fun q60 H hP hD hS => ?_)
  have hP : va_P D vwCl [(h0, .inr (9, [.int 0, .ref q12, .ref q20, .ref q28, .int 0, .ref q41, .ref q48, .int 0, .null, .null])), (q12, .inl (cA 1, 8, .inr (.inl (fun _ => 0)))), (q20, .inl (cA 0, 8, .inl (fun _ => 0))), (q28, .inl (cA 0, 32, .inl (fun _ => 0))), (q41, .inl (cA 0, 60, .inl (fun _ => 0))), (q48, .inl (cA 0, 3, .inl (fun _ => 0))), (q60, .inl (cA 0, 5, .inl (fun _ => 0)))] H := hP
  have hD : va_D A [(h0, .inr (9, [.int 0, .ref q12, .ref q20, .ref q28, .int 0, .ref q41, .ref q48, .int 0, .null, .null])), (q12, .inl (cA 1, 8, .inr (.inl (fun _ => 0)))), (q20, .inl (cA 0, 8, .inl (fun _ => 0))), (q28, .inl (cA 0, 32, .inl (fun _ => 0))), (q41, .inl (cA 0, 60, .inl (fun _ => 0))), (q48, .inl (cA 0, 3, .inl (fun _ => 0))), (q60, .inl (cA 0, 5, .inl (fun _ => 0)))] := hD
  refine W.widen (k := 6) (n := 116) (by omega) (by omega) ?_
  refine va_putF (D := D) (ci := 9) (v := .ref q60) (ty := tyX9 8) (C := RX9) (T := TX9) (N := 10) hx hb hts inX9 tyX9 tyX9_ok nmX9 hown hK hP hD hS 0 rfl rfl 8 (by decide) (hts _ tw1_110) (fun _ h9 => h9) rfl hin rfl (by decide +kernel) rfl rfl (Nat.le_of_ble_eq_true rfl) (by decide +kernel : decode cX9_init 62 = .ok (.putfield 38, 3)) (fun H locs hP hD hS => ?_)
  have hP : va_P D vwCl [(h0, .inr (9, [.int 0, .ref q12, .ref q20, .ref q28, .int 0, .ref q41, .ref q48, .int 0, .ref q60, .null])), (q12, .inl (cA 1, 8, .inr (.inl (fun _ => 0)))), (q20, .inl (cA 0, 8, .inl (fun _ => 0))), (q28, .inl (cA 0, 32, .inl (fun _ => 0))), (q41, .inl (cA 0, 60, .inl (fun _ => 0))), (q48, .inl (cA 0, 3, .inl (fun _ => 0))), (q60, .inl (cA 0, 5, .inl (fun _ => 0)))] H := hP
  have hD : va_D A [(h0, .inr (9, [.int 0, .ref q12, .ref q20, .ref q28, .int 0, .ref q41, .ref q48, .int 0, .ref q60, .null])), (q12, .inl (cA 1, 8, .inr (.inl (fun _ => 0)))), (q20, .inl (cA 0, 8, .inl (fun _ => 0))), (q28, .inl (cA 0, 32, .inl (fun _ => 0))), (q41, .inl (cA 0, 60, .inl (fun _ => 0))), (q48, .inl (cA 0, 3, .inl (fun _ => 0))), (q60, .inl (cA 0, 5, .inl (fun _ => 0)))] := hD
  refine lv_aload_n hx hb (by decide +kernel : decode cX9_init 65 = .ok (.aload_n 0, 1)) rfl (lv_at hl 0 rfl) ?_
  refine lv_iconst (v := 5) hx hb (by decide +kernel : decode cX9_init 66 = .ok (.iconst (5), 1)) (by decide) ?_
  refine i_newa (atype := .int) (t := 0) (N' := 5) (a0 := (5, .inl (fun _ => 0))) (ty := .int) hx hb (hts _ tw1_138) rfl rfl (fun _ h => h) hK hP hD hS hA (fun _ => rfl) (by decide) (by decide) (by decide) (by decide) (by decide) (by decide +kernel : decode cX9_init 67 = .ok (.newarray .int, 2)) (fun q67 H hP hD hS => ?_)
  have hP : va_P D vwCl [(h0, .inr (9, [.int 0, .ref q12, .ref q20, .ref q28, .int 0, .ref q41, .ref q48, .int 0, .ref q60, .null])), (q12, .inl (cA 1, 8, .inr (.inl (fun _ => 0)))), (q20, .inl (cA 0, 8, .inl (fun _ => 0))), (q28, .inl (cA 0, 32, .inl (fun _ => 0))), (q41, .inl (cA 0, 60, .inl (fun _ => 0))), (q48, .inl (cA 0, 3, .inl (fun _ => 0))), (q60, .inl (cA 0, 5, .inl (fun _ => 0))), (q67, .inl (cA 0, 5, .inl (fun _ => 0)))] H := hP
  have hD : va_D A [(h0, .inr (9, [.int 0, .ref q12, .ref q20, .ref q28, .int 0, .ref q41, .ref q48, .int 0, .ref q60, .null])), (q12, .inl (cA 1, 8, .inr (.inl (fun _ => 0)))), (q20, .inl (cA 0, 8, .inl (fun _ => 0))), (q28, .inl (cA 0, 32, .inl (fun _ => 0))), (q41, .inl (cA 0, 60, .inl (fun _ => 0))), (q48, .inl (cA 0, 3, .inl (fun _ => 0))), (q60, .inl (cA 0, 5, .inl (fun _ => 0))), (q67, .inl (cA 0, 5, .inl (fun _ => 0)))] := hD
  refine W.widen (k := 7) (n := 121) (by omega) (by omega) ?_
  refine va_putF (D := D) (ci := 9) (v := .ref q67) (ty := tyX9 9) (C := RX9) (T := TX9) (N := 10) hx hb hts inX9 tyX9 tyX9_ok nmX9 hown hK hP hD hS 0 rfl rfl 9 (by decide) (hts _ tw1_112) (fun _ h9 => h9) rfl hin rfl (by decide +kernel) rfl rfl (Nat.le_of_ble_eq_true rfl) (by decide +kernel : decode cX9_init 69 = .ok (.putfield 41, 3)) (fun H locs hP hD hS => ?_)
  have hP : va_P D vwCl [(h0, .inr (9, [.int 0, .ref q12, .ref q20, .ref q28, .int 0, .ref q41, .ref q48, .int 0, .ref q60, .ref q67])), (q12, .inl (cA 1, 8, .inr (.inl (fun _ => 0)))), (q20, .inl (cA 0, 8, .inl (fun _ => 0))), (q28, .inl (cA 0, 32, .inl (fun _ => 0))), (q41, .inl (cA 0, 60, .inl (fun _ => 0))), (q48, .inl (cA 0, 3, .inl (fun _ => 0))), (q60, .inl (cA 0, 5, .inl (fun _ => 0))), (q67, .inl (cA 0, 5, .inl (fun _ => 0)))] H := hP
  have hD : va_D A [(h0, .inr (9, [.int 0, .ref q12, .ref q20, .ref q28, .int 0, .ref q41, .ref q48, .int 0, .ref q60, .ref q67])), (q12, .inl (cA 1, 8, .inr (.inl (fun _ => 0)))), (q20, .inl (cA 0, 8, .inl (fun _ => 0))), (q28, .inl (cA 0, 32, .inl (fun _ => 0))), (q41, .inl (cA 0, 60, .inl (fun _ => 0))), (q48, .inl (cA 0, 3, .inl (fun _ => 0))), (q60, .inl (cA 0, 5, .inl (fun _ => 0))), (q67, .inl (cA 0, 5, .inl (fun _ => 0)))] := hD
  exact W.vret hx hb hr (fun t ht hW => ⟨⟨(), rfl, trivial, q12, q20, q28, q41, q48, q60, q67, by rw [ht]; exact hP, hD⟩, hS.F ht⟩) hS.2.2 (by decide +kernel : decode cX9_init 72 = .ok (.return_, 1)) hlocks
set_option maxRecDepth 100000 in
theorem ci_X8 (l : Launch) (D : va_G) (cA : Nat → ClassId) (h0 sz : Nat) : Met l yX8_init (.code yX8_init cX8_init 1 none :: TT) { frames := 1, cells := 1, slots := 800, locals := 20 } (va_Pc [.ref h0] (IPre D cA [(h0, .inr (8, [.null, .int 0, .int 0, .int 0, .int 0, .int 0, .int 0, .long 0]))] sz)) (va_Qv (fun _ : Unit => True) (fun _ t => ∃ q8 : Nat, va_P D vwCl [(h0, .inr (8, [.ref q8, .int 0, .int 0, .int 0, .int 0, .int 0, .int 0, .long 0])), (q8, .inl (cA 2, 800, .inl (fun _ => 0)))] t.heap ∧ va_D (va_A [(h0, .inr (8, [.null, .int 0, .int 0, .int 0, .int 0, .int 0, .int 0, .long 0]))] sz) [(h0, .inr (8, [.ref q8, .int 0, .int 0, .int 0, .int 0, .int 0, .int 0, .long 0])), (q8, .inl (cA 2, 800, .inl (fun _ => 0)))]) (va_A [(h0, .inr (8, [.null, .int 0, .int 0, .int 0, .int 0, .int 0, .int 0, .long 0]))] sz)) 1 800 (va_A [(h0, .inr (8, [.null, .int 0, .int 0, .int 0, .int 0, .int 0, .int 0, .long 0]))] sz) := by
  refine Met.ofW (cc := cX8_init) (maxL := 1) (ret := none) (by decide +kernel) rfl ?_
  intro p e s m args below meth c s₁ B hml hv
  obtain ⟨rfl, hsz, hP, hK, hNw, hD0⟩ := hv
  have hx := B.exec
  have hb := B.bytes
  have hr := B.returns
  have hts0 := atoms_spec (ws := Cond.code yX8_init cX8_init 1 none :: TT) B.pre
  have hts : ∀ w ∈ TT, w.before _ s = true := fun w h => hts0 w (List.mem_cons_of_mem _ h)
  have hown : s.vm.findClass RX8 = some m.cls := findClass_of_methodNamed B.named
  have hlocks := B.notSynchronized
  have hin : meth.name = "<init>" := (name_of_methodNamed B.named B.method).1
  subst hsz
  have hD := hD0.self (sz := s.heap.size)
  generalize hAe : va_A [(h0, .inr (8, [.null, .int 0, .int 0, .int 0, .int 0, .int 0, .int 0, .long 0]))] s.heap.size = A at hD ⊢
  have hA : ∀ q : Nat, s.heap.size ≤ q → A q := fun q h => by rw [← hAe]; exact Or.inr h
  have hS : va_S A s.heap s.heap [] := va_S.rf
  have hP : va_P D vwCl [(h0, .inr (8, [.null, .int 0, .int 0, .int 0, .int 0, .int 0, .int 0, .long 0]))] s.heap := hP
  have hl := lv_entry ([.ref h0]) (n := 1) (Nat.le_of_ble_eq_true rfl)
  rw [lg_entry_eq]
  generalize (lg_sl ([.ref h0]) ++ List.replicate (1 - (lg_sl ([.ref h0])).length) Slot.unset).toArray = ls at hl ⊢
  have hl : lv_has ls 1 [(0, .ref h0)] := hl
  refine lv_aload_n hx hb (by decide +kernel : decode cX8_init 0 = .ok (.aload_n 0, 1)) rfl (lv_at hl 0 rfl) ?_
  refine W.objInit hx hb hown (hts _ tw1_36) (hts _ tw1_29) (hts _ tw1_30) rfl (by rw [hml]; exact hl.1) rfl (by decide +kernel : decode cX8_init 1 = .ok (.invokespecial 3, 3)) (Nat.le_of_ble_eq_true rfl) (Nat.le_of_ble_eq_true rfl) ?_
  refine W.eq (g2 := F0 m 4 ls []) rfl ?_
  refine lv_aload_n hx hb (by decide +kernel : decode cX8_init 4 = .ok (.aload_n 0, 1)) rfl (lv_at hl 0 rfl) ?_
  refine lv_sipush (v := 800) hx hb (by decide +kernel : decode cX8_init 5 = .ok (.sipush (800), 3)) (by decide) ?_
  refine i_newa (atype := .byte) (t := 2) (N' := 800) (a0 := (800, .inl (fun _ => 0))) (ty := .byte) hx hb (hts _ tw1_67) rfl rfl (fun _ h => h) hK hP hD hS hA (fun _ => rfl) (by decide) (by decide) (by decide) (by decide) (by decide) (by decide +kernel : decode cX8_init 8 = .ok (.newarray .byte, 2)) (fun q8 H hP hD hS => ?_)
  have hP : va_P D vwCl [(h0, .inr (8, [.null, .int 0, .int 0, .int 0, .int 0, .int 0, .int 0, .long 0])), (q8, .inl (cA 2, 800, .inl (fun _ => 0)))] H := hP
  have hD : va_D A [(h0, .inr (8, [.null, .int 0, .int 0, .int 0, .int 0, .int 0, .int 0, .long 0])), (q8, .inl (cA 2, 800, .inl (fun _ => 0)))] := hD
  refine W.widen (k := 1) (n := 800) (by omega) (by omega) ?_
  refine va_putF (D := D) (ci := 8) (v := .ref q8) (ty := tyX8 0) (C := RX8) (T := TX8) (N := 8) hx hb hts inX8 tyX8 tyX8_ok nmX8 hown hK hP hD hS 0 rfl rfl 0 (by decide) (hts _ tw1_37) (fun _ h9 => h9) rfl hin rfl (by decide +kernel) rfl rfl (Nat.le_of_ble_eq_true rfl) (by decide +kernel : decode cX8_init 10 = .ok (.putfield 9, 3)) (fun H locs hP hD hS => ?_)
  have hP : va_P D vwCl [(h0, .inr (8, [.ref q8, .int 0, .int 0, .int 0, .int 0, .int 0, .int 0, .long 0])), (q8, .inl (cA 2, 800, .inl (fun _ => 0)))] H := hP
  have hD : va_D A [(h0, .inr (8, [.ref q8, .int 0, .int 0, .int 0, .int 0, .int 0, .int 0, .long 0])), (q8, .inl (cA 2, 800, .inl (fun _ => 0)))] := hD
  refine lv_aload_n hx hb (by decide +kernel : decode cX8_init 13 = .ok (.aload_n 0, 1)) rfl (lv_at hl 0 rfl) ?_
  refine lv_iconst (v := 0) hx hb (by decide +kernel : decode cX8_init 14 = .ok (.iconst (0), 1)) (by decide) ?_
  refine va_put (D := D) (ci := 8) (v := .int 0) (ty := tyX8 1) (C := RX8) (T := TX8) (N := 8) hx hb hts inX8 tyX8 tyX8_ok nmX8 hown hK hP hD hS 0 rfl rfl 1 (by decide) (hts _ tw1_38) (fun _ h9 => h9) rfl (by decide +kernel) rfl rfl (Nat.le_of_ble_eq_true rfl) (by decide +kernel : decode cX8_init 15 = .ok (.putfield 15, 3)) (fun H locs hP hD hS => ?_)
  have hP : va_P D vwCl [(h0, .inr (8, [.ref q8, .int 0, .int 0, .int 0, .int 0, .int 0, .int 0, .long 0])), (q8, .inl (cA 2, 800, .inl (fun _ => 0)))] H := hP
  have hD : va_D A [(h0, .inr (8, [.ref q8, .int 0, .int 0, .int 0, .int 0, .int 0, .int 0, .long 0])), (q8, .inl (cA 2, 800, .inl (fun _ => 0)))] := hD
  refine lv_aload_n hx hb (by decide +kernel : decode cX8_init 18 = .ok (.aload_n 0, 1)) rfl (lv_at hl 0 rfl) ?_
  refine lv_iconst (v := 0) hx hb (by decide +kernel : decode cX8_init 19 = .ok (.iconst (0), 1)) (by decide) ?_
  refine va_put (D := D) (ci := 8) (v := .int 0) (ty := tyX8 2) (C := RX8) (T := TX8) (N := 8) hx hb hts inX8 tyX8 tyX8_ok nmX8 hown hK hP hD hS 0 rfl rfl 2 (by decide) (hts _ tw1_40) (fun _ h9 => h9) rfl (by decide +kernel) rfl rfl (Nat.le_of_ble_eq_true rfl) (by decide +kernel : decode cX8_init 20 = .ok (.putfield 19, 3)) (fun H locs hP hD hS => ?_)
  have hP : va_P D vwCl [(h0, .inr (8, [.ref q8, .int 0, .int 0, .int 0, .int 0, .int 0, .int 0, .long 0])), (q8, .inl (cA 2, 800, .inl (fun _ => 0)))] H := hP
  have hD : va_D A [(h0, .inr (8, [.ref q8, .int 0, .int 0, .int 0, .int 0, .int 0, .int 0, .long 0])), (q8, .inl (cA 2, 800, .inl (fun _ => 0)))] := hD
  refine lv_aload_n hx hb (by decide +kernel : decode cX8_init 23 = .ok (.aload_n 0, 1)) rfl (lv_at hl 0 rfl) ?_
  refine lv_iconst (v := 0) hx hb (by decide +kernel : decode cX8_init 24 = .ok (.iconst (0), 1)) (by decide) ?_
  refine va_put (D := D) (ci := 8) (v := .int 0) (ty := tyX8 3) (C := RX8) (T := TX8) (N := 8) hx hb hts inX8 tyX8 tyX8_ok nmX8 hown hK hP hD hS 0 rfl rfl 3 (by decide) (hts _ tw1_41) (fun _ h9 => h9) rfl (by decide +kernel) rfl rfl (Nat.le_of_ble_eq_true rfl) (by decide +kernel : decode cX8_init 25 = .ok (.putfield 22, 3)) (fun H locs hP hD hS => ?_)
  have hP : va_P D vwCl [(h0, .inr (8, [.ref q8, .int 0, .int 0, .int 0, .int 0, .int 0, .int 0, .long 0])), (q8, .inl (cA 2, 800, .inl (fun _ => 0)))] H := hP
  have hD : va_D A [(h0, .inr (8, [.ref q8, .int 0, .int 0, .int 0, .int 0, .int 0, .int 0, .long 0])), (q8, .inl (cA 2, 800, .inl (fun _ => 0)))] := hD
  refine lv_aload_n hx hb (by decide +kernel : decode cX8_init 28 = .ok (.aload_n 0, 1)) rfl (lv_at hl 0 rfl) ?_
  refine lv_iconst (v := 0) hx hb (by decide +kernel : decode cX8_init 29 = .ok (.iconst (0), 1)) (by decide) ?_
  refine va_put (D := D) (ci := 8) (v := .int 0) (ty := tyX8 4) (C := RX8) (T := TX8) (N := 8) hx hb hts inX8 tyX8 tyX8_ok nmX8 hown hK hP hD hS 0 rfl rfl 4 (by decide) (hts _ tw1_42) (fun _ h9 => h9) rfl (by decide +kernel) rfl rfl (Nat.le_of_ble_eq_true rfl) (by decide +kernel : decode cX8_init 30 = .ok (.putfield 25, 3)) (fun H locs hP hD hS => ?_)
  have hP : va_P D vwCl [(h0, .inr (8, [.ref q8, .int 0, .int 0, .int 0, .int 0, .int 0, .int 0, .long 0])), (q8, .inl (cA 2, 800, .inl (fun _ => 0)))] H := hP
  have hD : va_D A [(h0, .inr (8, [.ref q8, .int 0, .int 0, .int 0, .int 0, .int 0, .int 0, .long 0])), (q8, .inl (cA 2, 800, .inl (fun _ => 0)))] := hD
  refine lv_aload_n hx hb (by decide +kernel : decode cX8_init 33 = .ok (.aload_n 0, 1)) rfl (lv_at hl 0 rfl) ?_
  refine lv_iconst (v := 0) hx hb (by decide +kernel : decode cX8_init 34 = .ok (.iconst (0), 1)) (by decide) ?_
  refine va_put (D := D) (ci := 8) (v := .int 0) (ty := tyX8 5) (C := RX8) (T := TX8) (N := 8) hx hb hts inX8 tyX8 tyX8_ok nmX8 hown hK hP hD hS 0 rfl rfl 5 (by decide) (hts _ tw1_44) (fun _ h9 => h9) rfl (by decide +kernel) rfl rfl (Nat.le_of_ble_eq_true rfl) (by decide +kernel : decode cX8_init 35 = .ok (.putfield 28, 3)) (fun H locs hP hD hS => ?_)
  have hP : va_P D vwCl [(h0, .inr (8, [.ref q8, .int 0, .int 0, .int 0, .int 0, .int 0, .int 0, .long 0])), (q8, .inl (cA 2, 800, .inl (fun _ => 0)))] H := hP
  have hD : va_D A [(h0, .inr (8, [.ref q8, .int 0, .int 0, .int 0, .int 0, .int 0, .int 0, .long 0])), (q8, .inl (cA 2, 800, .inl (fun _ => 0)))] := hD
  refine lv_aload_n hx hb (by decide +kernel : decode cX8_init 38 = .ok (.aload_n 0, 1)) rfl (lv_at hl 0 rfl) ?_
  refine lv_iconst (v := 0) hx hb (by decide +kernel : decode cX8_init 39 = .ok (.iconst (0), 1)) (by decide) ?_
  refine va_put (D := D) (ci := 8) (v := .int 0) (ty := tyX8 6) (C := RX8) (T := TX8) (N := 8) hx hb hts inX8 tyX8 tyX8_ok nmX8 hown hK hP hD hS 0 rfl rfl 6 (by decide) (hts _ tw1_46) (fun _ h9 => h9) rfl (by decide +kernel) rfl rfl (Nat.le_of_ble_eq_true rfl) (by decide +kernel : decode cX8_init 40 = .ok (.putfield 31, 3)) (fun H locs hP hD hS => ?_)
  have hP : va_P D vwCl [(h0, .inr (8, [.ref q8, .int 0, .int 0, .int 0, .int 0, .int 0, .int 0, .long 0])), (q8, .inl (cA 2, 800, .inl (fun _ => 0)))] H := hP
  have hD : va_D A [(h0, .inr (8, [.ref q8, .int 0, .int 0, .int 0, .int 0, .int 0, .int 0, .long 0])), (q8, .inl (cA 2, 800, .inl (fun _ => 0)))] := hD
  refine lv_aload_n hx hb (by decide +kernel : decode cX8_init 43 = .ok (.aload_n 0, 1)) rfl (lv_at hl 0 rfl) ?_
  refine lv_lconst (v := 0) hx hb (by decide +kernel : decode cX8_init 44 = .ok (.lconst 0, 1)) rfl ?_
  refine va_put (D := D) (ci := 8) (v := .long 0) (ty := tyX8 7) (C := RX8) (T := TX8) (N := 8) hx hb hts inX8 tyX8 tyX8_ok nmX8 hown hK hP hD hS 0 rfl rfl 7 (by decide) (hts _ tw1_48) (fun _ h9 => h9) rfl (by decide +kernel) rfl rfl (Nat.le_of_ble_eq_true rfl) (by decide +kernel : decode cX8_init 45 = .ok (.putfield 34, 3)) (fun H locs hP hD hS => ?_)
  have hP : va_P D vwCl [(h0, .inr (8, [.ref q8, .int 0, .int 0, .int 0, .int 0, .int 0, .int 0, .long 0])), (q8, .inl (cA 2, 800, .inl (fun _ => 0)))] H := hP
  have hD : va_D A [(h0, .inr (8, [.ref q8, .int 0, .int 0, .int 0, .int 0, .int 0, .int 0, .long 0])), (q8, .inl (cA 2, 800, .inl (fun _ => 0)))] := hD
  exact W.vret hx hb hr (fun t ht hW => ⟨⟨(), rfl, trivial, q8, by rw [ht]; exact hP, hD⟩, hS.F ht⟩) hS.2.2 (by decide +kernel : decode cX8_init 48 = .ok (.return_, 1)) hlocks
set_option maxRecDepth 100000 in
theorem ci_X6 (l : Launch) (D : va_G) (cA : Nat → ClassId) (h0 a1 sz : Nat) : Met l yX6_init (.code yX6_init cX6_init 2 none :: TT) { frames := 2, cells := 9, slots := 134, locals := 60 } (va_Pc [.ref h0, .ref a1] (IPre D cA [(h0, .inr (6, [.null, .null, .null, .int 0, .int 0]))] sz)) (va_Qv (fun _ : Unit => True) (fun _ t => ∃ q6 q12 z16_0 z16_1 z16_2 z16_3 z16_4 z16_5 z16_6 : Nat, va_P D vwCl [(h0, .inr (6, [.ref a1, .ref q6, .ref q12, .int 0, .int (-1)])), (q6, .inl (cA 3, 3, .inl (fun _ => 0))), (q12, .inr (9, [.int 0, .ref z16_0, .ref z16_1, .ref z16_2, .int 0, .ref z16_3, .ref z16_4, .int 0, .ref z16_5, .ref z16_6])), (z16_0, .inl (cA 1, 8, .inr (.inl (fun _ => 0)))), (z16_1, .inl (cA 0, 8, .inl (fun _ => 0))), (z16_2, .inl (cA 0, 32, .inl (fun _ => 0))), (z16_3, .inl (cA 0, 60, .inl (fun _ => 0))), (z16_4, .inl (cA 0, 3, .inl (fun _ => 0))), (z16_5, .inl (cA 0, 5, .inl (fun _ => 0))), (z16_6, .inl (cA 0, 5, .inl (fun _ => 0)))] t.heap ∧ va_D (va_A [(h0, .inr (6, [.null, .null, .null, .int 0, .int 0]))] sz) [(h0, .inr (6, [.ref a1, .ref q6, .ref q12, .int 0, .int (-1)])), (q6, .inl (cA 3, 3, .inl (fun _ => 0))), (q12, .inr (9, [.int 0, .ref z16_0, .ref z16_1, .ref z16_2, .int 0, .ref z16_3, .ref z16_4, .int 0, .ref z16_5, .ref z16_6])), (z16_0, .inl (cA 1, 8, .inr (.inl (fun _ => 0)))), (z16_1, .inl (cA 0, 8, .inl (fun _ => 0))), (z16_2, .inl (cA 0, 32, .inl (fun _ => 0))), (z16_3, .inl (cA 0, 60, .inl (fun _ => 0))), (z16_4, .inl (cA 0, 3, .inl (fun _ => 0))), (z16_5, .inl (cA 0, 5, .inl (fun _ => 0))), (z16_6, .inl (cA 0, 5, .inl (fun _ => 0)))]) (va_A [(h0, .inr (6, [.null, .null, .null, .int 0, .int 0]))] sz)) 9 134 (va_A [(h0, .inr (6, [.null, .null, .null, .int 0, .int 0]))] sz) := by
  refine Met.ofW (cc := cX6_init) (maxL := 2) (ret := none) (by decide +kernel) rfl ?_
  intro p e s m args below meth c s₁ B hml hv
  obtain ⟨rfl, hsz, hP, hK, hNw, hD0⟩ := hv
  have hx := B.exec
  have hb := B.bytes
  have hr := B.returns
  have hts0 := atoms_spec (ws := Cond.code yX6_init cX6_init 2 none :: TT) B.pre
  have hts : ∀ w ∈ TT, w.before _ s = true := fun w h => hts0 w (List.mem_cons_of_mem _ h)
  have hown : s.vm.findClass RX6 = some m.cls := findClass_of_methodNamed B.named
  have hlocks := B.notSynchronized
  have hin : meth.name = "<init>" := (name_of_methodNamed B.named B.method).1
  subst hsz
  have hD := hD0.self (sz := s.heap.size)
  generalize hAe : va_A [(h0, .inr (6, [.null, .null, .null, .int 0, .int 0]))] s.heap.size = A at hD ⊢
  have hA : ∀ q : Nat, s.heap.size ≤ q → A q := fun q h => by rw [← hAe]; exact Or.inr h
  have hS : va_S A s.heap s.heap [] := va_S.rf
  have hP : va_P D vwCl [(h0, .inr (6, [.null, .null, .null, .int 0, .int 0]))] s.heap := hP
  have hl := lv_entry ([.ref h0, .ref a1]) (n := 2) (Nat.le_of_ble_eq_true rfl)
  rw [lg_entry_eq]
  generalize (lg_sl ([.ref h0, .ref a1]) ++ List.replicate (2 - (lg_sl ([.ref h0, .ref a1])).length) Slot.unset).toArray = ls at hl ⊢
  have hl : lv_has ls 2 [(0, .ref h0), (1, .ref a1)] := hl
  refine lv_aload_n hx hb (by decide +kernel : decode cX6_init 0 = .ok (.aload_n 0, 1)) rfl (lv_at hl 0 rfl) ?_
  refine W.objInit hx hb hown (hts _ tw1_73) (hts _ tw1_29) (hts _ tw1_30) rfl (by rw [hml]; exact hl.1) rfl (by decide +kernel : decode cX6_init 1 = .ok (.invokespecial 3, 3)) (Nat.le_of_ble_eq_true rfl) (Nat.le_of_ble_eq_true rfl) ?_
  refine W.eq (g2 := F0 m 4 ls []) rfl ?_
  refine lv_aload_n hx hb (by decide +kernel : decode cX6_init 4 = .ok (.aload_n 0, 1)) rfl (lv_at hl 0 rfl) ?_
  refine lv_iconst (v := 3) hx hb (by decide +kernel : decode cX6_init 5 = .ok (.iconst (3), 1)) (by decide) ?_
  refine i_newa (atype := .boolean) (t := 3) (N' := 3) (a0 := (3, .inl (fun _ => 0))) (ty := .boolean) hx hb (hts _ tw1_136) rfl rfl (fun _ h => h) hK hP hD hS hA (fun _ => rfl) (by decide) (by decide) (by decide) (by decide) (by decide) (by decide +kernel : decode cX6_init 6 = .ok (.newarray .boolean, 2)) (fun q6 H hP hD hS => ?_)
  have hP : va_P D vwCl [(h0, .inr (6, [.null, .null, .null, .int 0, .int 0])), (q6, .inl (cA 3, 3, .inl (fun _ => 0)))] H := hP
  have hD : va_D A [(h0, .inr (6, [.null, .null, .null, .int 0, .int 0])), (q6, .inl (cA 3, 3, .inl (fun _ => 0)))] := hD
  refine W.widen (k := 1) (n := 3) (by omega) (by omega) ?_
  refine va_putF (D := D) (ci := 6) (v := .ref q6) (ty := tyX6 1) (C := RX6) (T := TX6) (N := 5) hx hb hts inX6 tyX6 tyX6_ok nmX6 hown hK hP hD hS 0 rfl rfl 1 (by decide) (hts _ tw1_140) (fun _ h9 => h9) rfl hin rfl (by decide +kernel) rfl rfl (Nat.le_of_ble_eq_true rfl) (by decide +kernel : decode cX6_init 8 = .ok (.putfield 9, 3)) (fun H locs hP hD hS => ?_)
  have hP : va_P D vwCl [(h0, .inr (6, [.null, .ref q6, .null, .int 0, .int 0])), (q6, .inl (cA 3, 3, .inl (fun _ => 0)))] H := hP
  have hD : va_D A [(h0, .inr (6, [.null, .ref q6, .null, .int 0, .int 0])), (q6, .inl (cA 3, 3, .inl (fun _ => 0)))] := hD
  refine lv_aload_n hx hb (by decide +kernel : decode cX6_init 11 = .ok (.aload_n 0, 1)) rfl (lv_at hl 0 rfl) ?_
  refine va_new (ci := 9) (fs := [.int 0, .null, .null, .null, .int 0, .null, .null, .int 0, .null, .null]) (C := RX9) (T := TX9) (N := 10) hx hb hts inX9 tyX9 tyX9_ok hown (hts _ tw1_74) (hts _ tw1_75) (hts _ tw1_4) hK hP hD hS hA rfl dfX9 (by decide) (by decide) (by decide +kernel : decode cX6_init 12 = .ok (.new 15, 3)) (fun q12 H hP hD hS => ?_)
  have hP : va_P D vwCl [(h0, .inr (6, [.null, .ref q6, .null, .int 0, .int 0])), (q6, .inl (cA 3, 3, .inl (fun _ => 0))), (q12, .inr (9, [.int 0, .null, .null, .null, .int 0, .null, .null, .int 0, .null, .null]))] H := hP
  have hD : va_D A [(h0, .inr (6, [.null, .ref q6, .null, .int 0, .int 0])), (q6, .inl (cA 3, 3, .inl (fun _ => 0))), (q12, .inr (9, [.int 0, .null, .null, .null, .int 0, .null, .null, .int 0, .null, .null]))] := hD
  refine W.widen (k := 2) (n := 13) (by omega) (by omega) ?_
  refine lv_dup hx hb (by decide +kernel : decode cX6_init 15 = .ok (.dup, 1)) rfl ?_
  have hPc := hP.sub (ws' := [(q12, .inr (9, [.int 0, .null, .null, .null, .int 0, .null, .null, .int 0, .null, .null]))]) [2] rfl
  have hDc := hD.sub (ws' := [(q12, .inr (9, [.int 0, .null, .null, .null, .int 0, .null, .null, .int 0, .null, .null]))]) [2] (by decide) rfl
  have hFc := va_free (wc := [(q12, .inr (9, [.int 0, .null, .null, .null, .int 0, .null, .null, .int 0, .null, .null]))]) hD hS hA [2] rfl
  refine va_callv (va_runIN (As := []) (rest := [.ref q12, .ref h0]) ⟨hx, hb, hml, hown, hts⟩ (ci_X9 l D cA q12 H.size) ⟨va_cnB 0 hts (good_c tw1_78) rfl rfl rfl (hNw _ (List.mem_of_getElem? (i := 1) rfl)) (hts _ tw1_4) (by decide +kernel) (by decide), rfl, hts _ tw1_77⟩ ⟨blind_I, fun U hU hW => ⟨rfl, by rw [hU], by rw [hU]; exact hPc, va_K.moved hW.alike hK, hNw.warm hW, hDc.weaken (fun _ _ _ _ => trivial)⟩⟩ rfl rfl hl.1 rfl (Nat.le_of_ble_eq_true rfl) (by decide +kernel : decode cX6_init 16 = .ok (.invokespecial 17, 3)) (by decide)) hS (fun q _ h => hFc q h) hFc (fun u t H1 locs ht hvm hw hB hz1 hk1 hS => ?_)
  obtain ⟨z16_0, z16_1, z16_2, z16_3, z16_4, z16_5, z16_6, hP1, hD1⟩ := hB
  rw [ht] at hP1
  obtain ⟨hP, hD⟩ := va_join (wr := [(h0, .inr (6, [.null, .ref q6, .null, .int 0, .int 0])), (q6, .inl (cA 3, 3, .inl (fun _ => 0)))]) (w1 := [(q12, .inr (9, [.int 0, .ref z16_0, .ref z16_1, .ref z16_2, .int 0, .ref z16_3, .ref z16_4, .int 0, .ref z16_5, .ref z16_6])), (z16_0, .inl (cA 1, 8, .inr (.inl (fun _ => 0)))), (z16_1, .inl (cA 0, 8, .inl (fun _ => 0))), (z16_2, .inl (cA 0, 32, .inl (fun _ => 0))), (z16_3, .inl (cA 0, 60, .inl (fun _ => 0))), (z16_4, .inl (cA 0, 3, .inl (fun _ => 0))), (z16_5, .inl (cA 0, 5, .inl (fun _ => 0))), (z16_6, .inl (cA 0, 5, .inl (fun _ => 0)))]) hP hD [2] [0, 1] rfl rfl (by decide) (by decide) hk1 hFc hP1 hD1
  generalize H1 = H at hP hS ⊢
  have hP : va_P D vwCl [(h0, .inr (6, [.null, .ref q6, .null, .int 0, .int 0])), (q6, .inl (cA 3, 3, .inl (fun _ => 0))), (q12, .inr (9, [.int 0, .ref z16_0, .ref z16_1, .ref z16_2, .int 0, .ref z16_3, .ref z16_4, .int 0, .ref z16_5, .ref z16_6])), (z16_0, .inl (cA 1, 8, .inr (.inl (fun _ => 0)))), (z16_1, .inl (cA 0, 8, .inl (fun _ => 0))), (z16_2, .inl (cA 0, 32, .inl (fun _ => 0))), (z16_3, .inl (cA 0, 60, .inl (fun _ => 0))), (z16_4, .inl (cA 0, 3, .inl (fun _ => 0))), (z16_5, .inl (cA 0, 5, .inl (fun _ => 0))), (z16_6, .inl (cA 0, 5, .inl (fun _ => 0)))] H := hP
  have hD : va_D A [(h0, .inr (6, [.null, .ref q6, .null, .int 0, .int 0])), (q6, .inl (cA 3, 3, .inl (fun _ => 0))), (q12, .inr (9, [.int 0, .ref z16_0, .ref z16_1, .ref z16_2, .int 0, .ref z16_3, .ref z16_4, .int 0, .ref z16_5, .ref z16_6])), (z16_0, .inl (cA 1, 8, .inr (.inl (fun _ => 0)))), (z16_1, .inl (cA 0, 8, .inl (fun _ => 0))), (z16_2, .inl (cA 0, 32, .inl (fun _ => 0))), (z16_3, .inl (cA 0, 60, .inl (fun _ => 0))), (z16_4, .inl (cA 0, 3, .inl (fun _ => 0))), (z16_5, .inl (cA 0, 5, .inl (fun _ => 0))), (z16_6, .inl (cA 0, 5, .inl (fun _ => 0)))] := hD
  refine W.widen (k := 9) (n := 134) (by omega) (by omega) ?_
  refine va_putF (D := D) (ci := 6) (v := .ref q12) (ty := tyX6 2) (C := RX6) (T := TX6) (N := 5) hx hb hts inX6 tyX6 tyX6_ok nmX6 hown hK hP hD hS 0 rfl rfl 2 (by decide) (hts _ tw1_141) (fun _ h9 => h9) rfl hin rfl (by decide +kernel) rfl rfl (Nat.le_of_ble_eq_true rfl) (by decide +kernel : decode cX6_init 19 = .ok (.putfield 18, 3)) (fun H locs hP hD hS => ?_)
  have hP : va_P D vwCl [(h0, .inr (6, [.null, .ref q6, .ref q12, .int 0, .int 0])), (q6, .inl (cA 3, 3, .inl (fun _ => 0))), (q12, .inr (9, [.int 0, .ref z16_0, .ref z16_1, .ref z16_2, .int 0, .ref z16_3, .ref z16_4, .int 0, .ref z16_5, .ref z16_6])), (z16_0, .inl (cA 1, 8, .inr (.inl (fun _ => 0)))), (z16_1, .inl (cA 0, 8, .inl (fun _ => 0))), (z16_2, .inl (cA 0, 32, .inl (fun _ => 0))), (z16_3, .inl (cA 0, 60, .inl (fun _ => 0))), (z16_4, .inl (cA 0, 3, .inl (fun _ => 0))), (z16_5, .inl (cA 0, 5, .inl (fun _ => 0))), (z16_6, .inl (cA 0, 5, .inl (fun _ => 0)))] H := hP
  have hD : va_D A [(h0, .inr (6, [.null, .ref q6, .ref q12, .int 0, .int 0])), (q6, .inl (cA 3, 3, .inl (fun _ => 0))), (q12, .inr (9, [.int 0, .ref z16_0, .ref z16_1, .ref z16_2, .int 0, .ref z16_3, .ref z16_4, .int 0, .ref z16_5, .ref z16_6])), (z16_0, .inl (cA 1, 8, .inr (.inl (fun _ => 0)))), (z16_1, .inl (cA 0, 8, .inl (fun _ => 0))), (z16_2, .inl (cA 0, 32, .inl (fun _ => 0))), (z16_3, .inl (cA 0, 60, .inl (fun _ => 0))), (z16_4, .inl (cA 0, 3, .inl (fun _ => 0))), (z16_5, .inl (cA 0, 5, .inl (fun _ => 0))), (z16_6, .inl (cA 0, 5, .inl (fun _ => 0)))] := hD
  refine lv_aload_n hx hb (by decide +kernel : decode cX6_init 22 = .ok (.aload_n 0, 1)) rfl (lv_at hl 0 rfl) ?_
  refine lv_iconst (v := 0) hx hb (by decide +kernel : decode cX6_init 23 = .ok (.iconst (0), 1)) (by decide) ?_
  refine va_put (D := D) (ci := 6) (v := .int 0) (ty := tyX6 3) (C := RX6) (T := TX6) (N := 5) hx hb hts inX6 tyX6 tyX6_ok nmX6 hown hK hP hD hS 0 rfl rfl 3 (by decide) (hts _ tw1_143) (fun _ h9 => h9) rfl (by decide +kernel) rfl rfl (Nat.le_of_ble_eq_true rfl) (by decide +kernel : decode cX6_init 24 = .ok (.putfield 22, 3)) (fun H locs hP hD hS => ?_)
  have hP : va_P D vwCl [(h0, .inr (6, [.null, .ref q6, .ref q12, .int 0, .int 0])), (q6, .inl (cA 3, 3, .inl (fun _ => 0))), (q12, .inr (9, [.int 0, .ref z16_0, .ref z16_1, .ref z16_2, .int 0, .ref z16_3, .ref z16_4, .int 0, .ref z16_5, .ref z16_6])), (z16_0, .inl (cA 1, 8, .inr (.inl (fun _ => 0)))), (z16_1, .inl (cA 0, 8, .inl (fun _ => 0))), (z16_2, .inl (cA 0, 32, .inl (fun _ => 0))), (z16_3, .inl (cA 0, 60, .inl (fun _ => 0))), (z16_4, .inl (cA 0, 3, .inl (fun _ => 0))), (z16_5, .inl (cA 0, 5, .inl (fun _ => 0))), (z16_6, .inl (cA 0, 5, .inl (fun _ => 0)))] H := hP
  have hD : va_D A [(h0, .inr (6, [.null, .ref q6, .ref q12, .int 0, .int 0])), (q6, .inl (cA 3, 3, .inl (fun _ => 0))), (q12, .inr (9, [.int 0, .ref z16_0, .ref z16_1, .ref z16_2, .int 0, .ref z16_3, .ref z16_4, .int 0, .ref z16_5, .ref z16_6])), (z16_0, .inl (cA 1, 8, .inr (.inl (fun _ => 0)))), (z16_1, .inl (cA 0, 8, .inl (fun _ => 0))), (z16_2, .inl (cA 0, 32, .inl (fun _ => 0))), (z16_3, .inl (cA 0, 60, .inl (fun _ => 0))), (z16_4, .inl (cA 0, 3, .inl (fun _ => 0))), (z16_5, .inl (cA 0, 5, .inl (fun _ => 0))), (z16_6, .inl (cA 0, 5, .inl (fun _ => 0)))] := hD
  refine lv_aload_n hx hb (by decide +kernel : decode cX6_init 27 = .ok (.aload_n 0, 1)) rfl (lv_at hl 0 rfl) ?_
  refine lv_iconst (v := -1) hx hb (by decide +kernel : decode cX6_init 28 = .ok (.iconst (-1), 1)) (by decide) ?_
  refine va_put (D := D) (ci := 6) (v := .int (-1)) (ty := tyX6 4) (C := RX6) (T := TX6) (N := 5) hx hb hts inX6 tyX6 tyX6_ok nmX6 hown hK hP hD hS 0 rfl rfl 4 (by decide) (hts _ tw1_145) (fun _ h9 => h9) rfl (by decide +kernel) rfl rfl (Nat.le_of_ble_eq_true rfl) (by decide +kernel : decode cX6_init 29 = .ok (.putfield 26, 3)) (fun H locs hP hD hS => ?_)
  have hP : va_P D vwCl [(h0, .inr (6, [.null, .ref q6, .ref q12, .int 0, .int (-1)])), (q6, .inl (cA 3, 3, .inl (fun _ => 0))), (q12, .inr (9, [.int 0, .ref z16_0, .ref z16_1, .ref z16_2, .int 0, .ref z16_3, .ref z16_4, .int 0, .ref z16_5, .ref z16_6])), (z16_0, .inl (cA 1, 8, .inr (.inl (fun _ => 0)))), (z16_1, .inl (cA 0, 8, .inl (fun _ => 0))), (z16_2, .inl (cA 0, 32, .inl (fun _ => 0))), (z16_3, .inl (cA 0, 60, .inl (fun _ => 0))), (z16_4, .inl (cA 0, 3, .inl (fun _ => 0))), (z16_5, .inl (cA 0, 5, .inl (fun _ => 0))), (z16_6, .inl (cA 0, 5, .inl (fun _ => 0)))] H := hP
  have hD : va_D A [(h0, .inr (6, [.null, .ref q6, .ref q12, .int 0, .int (-1)])), (q6, .inl (cA 3, 3, .inl (fun _ => 0))), (q12, .inr (9, [.int 0, .ref z16_0, .ref z16_1, .ref z16_2, .int 0, .ref z16_3, .ref z16_4, .int 0, .ref z16_5, .ref z16_6])), (z16_0, .inl (cA 1, 8, .inr (.inl (fun _ => 0)))), (z16_1, .inl (cA 0, 8, .inl (fun _ => 0))), (z16_2, .inl (cA 0, 32, .inl (fun _ => 0))), (z16_3, .inl (cA 0, 60, .inl (fun _ => 0))), (z16_4, .inl (cA 0, 3, .inl (fun _ => 0))), (z16_5, .inl (cA 0, 5, .inl (fun _ => 0))), (z16_6, .inl (cA 0, 5, .inl (fun _ => 0)))] := hD
  refine lv_aload_n hx hb (by decide +kernel : decode cX6_init 32 = .ok (.aload_n 0, 1)) rfl (lv_at hl 0 rfl) ?_
  refine lv_aload_n hx hb (by decide +kernel : decode cX6_init 33 = .ok (.aload_n 1, 1)) rfl (lv_at hl 1 rfl) ?_
  refine va_putF (D := D) (ci := 6) (v := .ref a1) (ty := tyX6 0) (C := RX6) (T := TX6) (N := 5) hx hb hts inX6 tyX6 tyX6_ok nmX6 hown hK hP hD hS 0 rfl rfl 0 (by decide) (hts _ tw1_139) (fun _ h9 => h9) rfl hin rfl (by decide +kernel) rfl rfl (Nat.le_of_ble_eq_true rfl) (by decide +kernel : decode cX6_init 34 = .ok (.putfield 29, 3)) (fun H locs hP hD hS => ?_)
  have hP : va_P D vwCl [(h0, .inr (6, [.ref a1, .ref q6, .ref q12, .int 0, .int (-1)])), (q6, .inl (cA 3, 3, .inl (fun _ => 0))), (q12, .inr (9, [.int 0, .ref z16_0, .ref z16_1, .ref z16_2, .int 0, .ref z16_3, .ref z16_4, .int 0, .ref z16_5, .ref z16_6])), (z16_0, .inl (cA 1, 8, .inr (.inl (fun _ => 0)))), (z16_1, .inl (cA 0, 8, .inl (fun _ => 0))), (z16_2, .inl (cA 0, 32, .inl (fun _ => 0))), (z16_3, .inl (cA 0, 60, .inl (fun _ => 0))), (z16_4, .inl (cA 0, 3, .inl (fun _ => 0))), (z16_5, .inl (cA 0, 5, .inl (fun _ => 0))), (z16_6, .inl (cA 0, 5, .inl (fun _ => 0)))] H := hP
  have hD : va_D A [(h0, .inr (6, [.ref a1, .ref q6, .ref q12, .int 0, .int (-1)])), (q6, .inl (cA 3, 3, .inl (fun _ => 0))), (q12, .inr (9, [.int 0, .ref z16_0, .ref z16_1, .ref z16_2, .int 0, .ref z16_3, .ref z16_4, .int 0, .ref z16_5, .ref z16_6])), (z16_0, .inl (cA 1, 8, .inr (.inl (fun _ => 0)))), (z16_1, .inl (cA 0, 8, .inl (fun _ => 0))), (z16_2, .inl (cA 0, 32, .inl (fun _ => 0))), (z16_3, .inl (cA 0, 60, .inl (fun _ => 0))), (z16_4, .inl (cA 0, 3, .inl (fun _ => 0))), (z16_5, .inl (cA 0, 5, .inl (fun _ => 0))), (z16_6, .inl (cA 0, 5, .inl (fun _ => 0)))] := hD
  exact W.vret hx hb hr (fun t ht hW => ⟨⟨(), rfl, trivial, q6, q12, z16_0, z16_1, z16_2, z16_3, z16_4, z16_5, z16_6, by rw [ht]; exact hP, hD⟩, hS.F ht⟩) hS.2.2 (by decide +kernel : decode cX6_init 37 = .ok (.return_, 1)) hlocks
set_option maxRecDepth 100000 in
theorem ci_X5 (l : Launch) (D : va_G) (cA : Nat → ClassId) (h0 sz : Nat) : Met l yX5_init (.code yX5_init cX5_init 1 none :: TT) { frames := 1, cells := 4, slots := 300, locals := 20 } (va_Pc [.ref h0] (IPre D cA [(h0, .inr (5, [.null, .null, .null, .null]))] sz)) (va_Qv (fun _ : Unit => True) (fun _ t => ∃ q7 q15 q23 q32 : Nat, va_P D vwCl [(h0, .inr (5, [.ref q7, .ref q15, .ref q23, .ref q32])), (q7, .inl (cA 0, 20, .inl (fun _ => 0))), (q15, .inl (cA 0, 60, .inl (fun _ => 0))), (q23, .inl (cA 0, 60, .inl (fun _ => 0))), (q32, .inl (cA 0, 160, .inl (fun _ => 0)))] t.heap ∧ va_D (va_A [(h0, .inr (5, [.null, .null, .null, .null]))] sz) [(h0, .inr (5, [.ref q7, .ref q15, .ref q23, .ref q32])), (q7, .inl (cA 0, 20, .inl (fun _ => 0))), (q15, .inl (cA 0, 60, .inl (fun _ => 0))), (q23, .inl (cA 0, 60, .inl (fun _ => 0))), (q32, .inl (cA 0, 160, .inl (fun _ => 0)))]) (va_A [(h0, .inr (5, [.null, .null, .null, .null]))] sz)) 4 300 (va_A [(h0, .inr (5, [.null, .null, .null, .null]))] sz) := by
  refine Met.ofW (cc := cX5_init) (maxL := 1) (ret := none) (by decide +kernel) rfl ?_
  intro p e s m args below meth c s₁ B hml hv
  obtain ⟨rfl, hsz, hP, hK, hNw, hD0⟩ := hv
  have hx := B.exec
  have hb := B.bytes
  have hr := B.returns
  have hts0 := atoms_spec (ws := Cond.code yX5_init cX5_init 1 none :: TT) B.pre
  have hts : ∀ w ∈ TT, w.before _ s = true := fun w h => hts0 w (List.mem_cons_of_mem _ h)
  have hown : s.vm.findClass RX5 = some m.cls := findClass_of_methodNamed B.named
  have hlocks := B.notSynchronized
  have hin : meth.name = "<init>" := (name_of_methodNamed B.named B.method).1
  subst hsz
  have hD := hD0.self (sz := s.heap.size)
  generalize hAe : va_A [(h0, .inr (5, [.null, .null, .null, .null]))] s.heap.size = A at hD ⊢
  have hA : ∀ q : Nat, s.heap.size ≤ q → A q := fun q h => by rw [← hAe]; exact Or.inr h
  have hS : va_S A s.heap s.heap [] := va_S.rf
  have hP : va_P D vwCl [(h0, .inr (5, [.null, .null, .null, .null]))] s.heap := hP
  have hl := lv_entry ([.ref h0]) (n := 1) (Nat.le_of_ble_eq_true rfl)
  rw [lg_entry_eq]
  generalize (lg_sl ([.ref h0]) ++ List.replicate (1 - (lg_sl ([.ref h0])).length) Slot.unset).toArray = ls at hl ⊢
  have hl : lv_has ls 1 [(0, .ref h0)] := hl
  refine lv_aload_n hx hb (by decide +kernel : decode cX5_init 0 = .ok (.aload_n 0, 1)) rfl (lv_at hl 0 rfl) ?_
  refine W.objInit hx hb hown (hts _ tw1_165) (hts _ tw1_29) (hts _ tw1_30) rfl (by rw [hml]; exact hl.1) rfl (by decide +kernel : decode cX5_init 1 = .ok (.invokespecial 3, 3)) (Nat.le_of_ble_eq_true rfl) (Nat.le_of_ble_eq_true rfl) ?_
  refine W.eq (g2 := F0 m 4 ls []) rfl ?_
  refine lv_aload_n hx hb (by decide +kernel : decode cX5_init 4 = .ok (.aload_n 0, 1)) rfl (lv_at hl 0 rfl) ?_
  refine lv_bipush (v := 20) hx hb (by decide +kernel : decode cX5_init 5 = .ok (.bipush (20), 2)) (by decide) ?_
  refine i_newa (atype := .int) (t := 0) (N' := 20) (a0 := (20, .inl (fun _ => 0))) (ty := .int) hx hb (hts _ tw1_138) rfl rfl (fun _ h => h) hK hP hD hS hA (fun _ => rfl) (by decide) (by decide) (by decide) (by decide) (by decide) (by decide +kernel : decode cX5_init 7 = .ok (.newarray .int, 2)) (fun q7 H hP hD hS => ?_)
  have hP : va_P D vwCl [(h0, .inr (5, [.null, .null, .null, .null])), (q7, .inl (cA 0, 20, .inl (fun _ => 0)))] H := hP
  have hD : va_D A [(h0, .inr (5, [.null, .null, .null, .null])), (q7, .inl (cA 0, 20, .inl (fun _ => 0)))] := hD
  refine W.widen (k := 1) (n := 20) (by omega) (by omega) ?_
  refine va_putF (D := D) (ci := 5) (v := .ref q7) (ty := tyX5 0) (C := RX5) (T := TX5) (N := 4) hx hb hts inX5 tyX5 tyX5_ok nmX5 hown hK hP hD hS 0 rfl rfl 0 (by decide) (hts _ tw1_166) (fun _ h9 => h9) rfl hin rfl (by decide +kernel) rfl rfl (Nat.le_of_ble_eq_true rfl) (by decide +kernel : decode cX5_init 9 = .ok (.putfield 9, 3)) (fun H locs hP hD hS => ?_)
  have hP : va_P D vwCl [(h0, .inr (5, [.ref q7, .null, .null, .null])), (q7, .inl (cA 0, 20, .inl (fun _ => 0)))] H := hP
  have hD : va_D A [(h0, .inr (5, [.ref q7, .null, .null, .null])), (q7, .inl (cA 0, 20, .inl (fun _ => 0)))] := hD
  refine lv_aload_n hx hb (by decide +kernel : decode cX5_init 12 = .ok (.aload_n 0, 1)) rfl (lv_at hl 0 rfl) ?_
  refine lv_bipush (v := 60) hx hb (by decide +kernel : decode cX5_init 13 = .ok (.bipush (60), 2)) (by decide) ?_
  refine i_newa (atype := .int) (t := 0) (N' := 60) (a0 := (60, .inl (fun _ => 0))) (ty := .int) hx hb (hts _ tw1_138) rfl rfl (fun _ h => h) hK hP hD hS hA (fun _ => rfl) (by decide) (by decide) (by decide) (by decide) (by decide) (by decide +kernel : decode cX5_init 15 = .ok (.newarray .int, 2)) (fun q15 H hP hD hS => ?_)
  have hP : va_P D vwCl [(h0, .inr (5, [.ref q7, .null, .null, .null])), (q7, .inl (cA 0, 20, .inl (fun _ => 0))), (q15, .inl (cA 0, 60, .inl (fun _ => 0)))] H := hP
  have hD : va_D A [(h0, .inr (5, [.ref q7, .null, .null, .null])), (q7, .inl (cA 0, 20, .inl (fun _ => 0))), (q15, .inl (cA 0, 60, .inl (fun _ => 0)))] := hD
  refine W.widen (k := 2) (n := 80) (by omega) (by omega) ?_
  refine va_putF (D := D) (ci := 5) (v := .ref q15) (ty := tyX5 1) (C := RX5) (T := TX5) (N := 4) hx hb hts inX5 tyX5 tyX5_ok nmX5 hown hK hP hD hS 0 rfl rfl 1 (by decide) (hts _ tw1_172) (fun _ h9 => h9) rfl hin rfl (by decide +kernel) rfl rfl (Nat.le_of_ble_eq_true rfl) (by decide +kernel : decode cX5_init 17 = .ok (.putfield 15, 3)) (fun H locs hP hD hS => ?_)
  have hP : va_P D vwCl [(h0, .inr (5, [.ref q7, .ref q15, .null, .null])), (q7, .inl (cA 0, 20, .inl (fun _ => 0))), (q15, .inl (cA 0, 60, .inl (fun _ => 0)))] H := hP
  have hD : va_D A [(h0, .inr (5, [.ref q7, .ref q15, .null, .null])), (q7, .inl (cA 0, 20, .inl (fun _ => 0))), (q15, .inl (cA 0, 60, .inl (fun _ => 0)))] := hD
  refine lv_aload_n hx hb (by decide +kernel : decode cX5_init 20 = .ok (.aload_n 0, 1)) rfl (lv_at hl 0 rfl) ?_
  refine lv_bipush (v := 60) hx hb (by decide +kernel : decode cX5_init 21 = .ok (.bipush (60), 2)) (by decide) ?_
  refine i_newa (atype := .int) (t := 0) (N' := 60) (a0 := (60, .inl (fun _ => 0))) (ty := .int) hx hb (hts _ tw1_138) rfl rfl (fun _ h => h) hK hP hD hS hA (fun _ => rfl) (by decide) (by decide) (by decide) (by decide) (by decide) (by decide +kernel : decode cX5_init 23 = .ok (.newarray .int, 2)) (fun q23 H hP hD hS => ?_)
  have hP : va_P D vwCl [(h0, .inr (5, [.ref q7, .ref q15, .null, .null])), (q7, .inl (cA 0, 20, .inl (fun _ => 0))), (q15, .inl (cA 0, 60, .inl (fun _ => 0))), (q23, .inl (cA 0, 60, .inl (fun _ => 0)))] H := hP
  have hD : va_D A [(h0, .inr (5, [.ref q7, .ref q15, .null, .null])), (q7, .inl (cA 0, 20, .inl (fun _ => 0))), (q15, .inl (cA 0, 60, .inl (fun _ => 0))), (q23, .inl (cA 0, 60, .inl (fun _ => 0)))] := hD
  refine W.widen (k := 3) (n := 140) (by omega) (by omega) ?_
  refine va_putF (D := D) (ci := 5) (v := .ref q23) (ty := tyX5 2) (C := RX5) (T := TX5) (N := 4) hx hb hts inX5 tyX5 tyX5_ok nmX5 hown hK hP hD hS 0 rfl rfl 2 (by decide) (hts _ tw1_173) (fun _ h9 => h9) rfl hin rfl (by decide +kernel) rfl rfl (Nat.le_of_ble_eq_true rfl) (by decide +kernel : decode cX5_init 25 = .ok (.putfield 18, 3)) (fun H locs hP hD hS => ?_)
  have hP : va_P D vwCl [(h0, .inr (5, [.ref q7, .ref q15, .ref q23, .null])), (q7, .inl (cA 0, 20, .inl (fun _ => 0))), (q15, .inl (cA 0, 60, .inl (fun _ => 0))), (q23, .inl (cA 0, 60, .inl (fun _ => 0)))] H := hP
  have hD : va_D A [(h0, .inr (5, [.ref q7, .ref q15, .ref q23, .null])), (q7, .inl (cA 0, 20, .inl (fun _ => 0))), (q15, .inl (cA 0, 60, .inl (fun _ => 0))), (q23, .inl (cA 0, 60, .inl (fun _ => 0)))] := hD
  refine lv_aload_n hx hb (by decide +kernel : decode cX5_init 28 = .ok (.aload_n 0, 1)) rfl (lv_at hl 0 rfl) ?_
  refine lv_sipush (v := 160) hx hb (by decide +kernel : decode cX5_init 29 = .ok (.sipush (160), 3)) (by decide) ?_
  refine i_newa (atype := .int) (t := 0) (N' := 160) (a0 := (160, .inl (fun _ => 0))) (ty := .int) hx hb (hts _ tw1_138) rfl rfl (fun _ h => h) hK hP hD hS hA (fun _ => rfl) (by decide) (by decide) (by decide) (by decide) (by decide) (by decide +kernel : decode cX5_init 32 = .ok (.newarray .int, 2)) (fun q32 H hP hD hS => ?_)
  have hP : va_P D vwCl [(h0, .inr (5, [.ref q7, .ref q15, .ref q23, .null])), (q7, .inl (cA 0, 20, .inl (fun _ => 0))), (q15, .inl (cA 0, 60, .inl (fun _ => 0))), (q23, .inl (cA 0, 60, .inl (fun _ => 0))), (q32, .inl (cA 0, 160, .inl (fun _ => 0)))] H := hP
  have hD : va_D A [(h0, .inr (5, [.ref q7, .ref q15, .ref q23, .null])), (q7, .inl (cA 0, 20, .inl (fun _ => 0))), (q15, .inl (cA 0, 60, .inl (fun _ => 0))), (q23, .inl (cA 0, 60, .inl (fun _ => 0))), (q32, .inl (cA 0, 160, .inl (fun _ => 0)))] := hD
  refine W.widen (k := 4) (n := 300) (by omega) (by omega) ?_
  refine va_putF (D := D) (ci := 5) (v := .ref q32) (ty := tyX5 3) (C := RX5) (T := TX5) (N := 4) hx hb hts inX5 tyX5 tyX5_ok nmX5 hown hK hP hD hS 0 rfl rfl 3 (by decide) (hts _ tw1_174) (fun _ h9 => h9) rfl hin rfl (by decide +kernel) rfl rfl (Nat.le_of_ble_eq_true rfl) (by decide +kernel : decode cX5_init 34 = .ok (.putfield 21, 3)) (fun H locs hP hD hS => ?_)
  have hP : va_P D vwCl [(h0, .inr (5, [.ref q7, .ref q15, .ref q23, .ref q32])), (q7, .inl (cA 0, 20, .inl (fun _ => 0))), (q15, .inl (cA 0, 60, .inl (fun _ => 0))), (q23, .inl (cA 0, 60, .inl (fun _ => 0))), (q32, .inl (cA 0, 160, .inl (fun _ => 0)))] H := hP
  have hD : va_D A [(h0, .inr (5, [.ref q7, .ref q15, .ref q23, .ref q32])), (q7, .inl (cA 0, 20, .inl (fun _ => 0))), (q15, .inl (cA 0, 60, .inl (fun _ => 0))), (q23, .inl (cA 0, 60, .inl (fun _ => 0))), (q32, .inl (cA 0, 160, .inl (fun _ => 0)))] := hD
  exact W.vret hx hb hr (fun t ht hW => ⟨⟨(), rfl, trivial, q7, q15, q23, q32, by rw [ht]; exact hP, hD⟩, hS.F ht⟩) hS.2.2 (by decide +kernel : decode cX5_init 37 = .ok (.return_, 1)) hlocks
set_option maxRecDepth 100000 in
theorem ci_X1 (l : Launch) (D : va_G) (cA : Nat → ClassId) (h0 a1 a2 sz : Nat) : Met l yX1_init (.code yX1_init cX1_init 3 none :: TT) { frames := 1, cells := 0, slots := 0, locals := 20 } (va_Pc [.ref h0, .ref a1, .ref a2] (IPre D cA [(h0, .inr (1, [.null, .null]))] sz)) (va_Qv (fun _ : Unit => True) (fun _ t => va_P D vwCl [(h0, .inr (1, [.ref a1, .ref a2]))] t.heap ∧ va_D (va_A [(h0, .inr (1, [.null, .null]))] sz) [(h0, .inr (1, [.ref a1, .ref a2]))]) (va_A [(h0, .inr (1, [.null, .null]))] sz)) 0 0 (va_A [(h0, .inr (1, [.null, .null]))] sz) := by
  refine Met.ofW (cc := cX1_init) (maxL := 3) (ret := none) (by decide +kernel) rfl ?_
  intro p e s m args below meth c s₁ B hml hv
  obtain ⟨rfl, hsz, hP, hK, hNw, hD0⟩ := hv
  have hx := B.exec
  have hb := B.bytes
  have hr := B.returns
  have hts0 := atoms_spec (ws := Cond.code yX1_init cX1_init 3 none :: TT) B.pre
  have hts : ∀ w ∈ TT, w.before _ s = true := fun w h => hts0 w (List.mem_cons_of_mem _ h)
  have hown : s.vm.findClass RX1 = some m.cls := findClass_of_methodNamed B.named
  have hlocks := B.notSynchronized
  have hin : meth.name = "<init>" := (name_of_methodNamed B.named B.method).1
  subst hsz
  have hD := hD0.self (sz := s.heap.size)
  generalize hAe : va_A [(h0, .inr (1, [.null, .null]))] s.heap.size = A at hD ⊢
  have hA : ∀ q : Nat, s.heap.size ≤ q → A q := fun q h => by rw [← hAe]; exact Or.inr h
  have hS : va_S A s.heap s.heap [] := va_S.rf
  have hP : va_P D vwCl [(h0, .inr (1, [.null, .null]))] s.heap := hP
  have hl := lv_entry ([.ref h0, .ref a1, .ref a2]) (n := 3) (Nat.le_of_ble_eq_true rfl)
  rw [lg_entry_eq]
  generalize (lg_sl ([.ref h0, .ref a1, .ref a2]) ++ List.replicate (3 - (lg_sl ([.ref h0, .ref a1, .ref a2])).length) Slot.unset).toArray = ls at hl ⊢
  have hl : lv_has ls 3 [(0, .ref h0), (1, .ref a1), (2, .ref a2)] := hl
  refine lv_aload_n hx hb (by decide +kernel : decode cX1_init 0 = .ok (.aload_n 0, 1)) rfl (lv_at hl 0 rfl) ?_
  refine W.objInit hx hb hown (hts _ tw1_189) (hts _ tw1_29) (hts _ tw1_30) rfl (by rw [hml]; exact hl.1) rfl (by decide +kernel : decode cX1_init 1 = .ok (.invokespecial 3, 3)) (Nat.le_of_ble_eq_true rfl) (Nat.le_of_ble_eq_true rfl) ?_
  refine W.eq (g2 := F0 m 4 ls []) rfl ?_
  refine lv_aload_n hx hb (by decide +kernel : decode cX1_init 4 = .ok (.aload_n 0, 1)) rfl (lv_at hl 0 rfl) ?_
  refine lv_aload_n hx hb (by decide +kernel : decode cX1_init 5 = .ok (.aload_n 1, 1)) rfl (lv_at hl 1 rfl) ?_
  refine va_putF (D := D) (ci := 1) (v := .ref a1) (ty := tyX1 0) (C := RX1) (T := TX1) (N := 2) hx hb hts inX1 tyX1 tyX1_ok nmX1 hown hK hP hD hS 0 rfl rfl 0 (by decide) (hts _ tw1_190) (fun _ h9 => h9) rfl hin rfl (by decide +kernel) rfl rfl (Nat.le_of_ble_eq_true rfl) (by decide +kernel : decode cX1_init 6 = .ok (.putfield 9, 3)) (fun H locs hP hD hS => ?_)
  have hP : va_P D vwCl [(h0, .inr (1, [.ref a1, .null]))] H := hP
  have hD : va_D A [(h0, .inr (1, [.ref a1, .null]))] := hD
  refine lv_aload_n hx hb (by decide +kernel : decode cX1_init 9 = .ok (.aload_n 0, 1)) rfl (lv_at hl 0 rfl) ?_
  refine lv_aload_n hx hb (by decide +kernel : decode cX1_init 10 = .ok (.aload_n 2, 1)) rfl (lv_at hl 2 rfl) ?_
  refine va_putF (D := D) (ci := 1) (v := .ref a2) (ty := tyX1 1) (C := RX1) (T := TX1) (N := 2) hx hb hts inX1 tyX1 tyX1_ok nmX1 hown hK hP hD hS 0 rfl rfl 1 (by decide) (hts _ tw1_195) (fun _ h9 => h9) rfl hin rfl (by decide +kernel) rfl rfl (Nat.le_of_ble_eq_true rfl) (by decide +kernel : decode cX1_init 11 = .ok (.putfield 15, 3)) (fun H locs hP hD hS => ?_)
  have hP : va_P D vwCl [(h0, .inr (1, [.ref a1, .ref a2]))] H := hP
  have hD : va_D A [(h0, .inr (1, [.ref a1, .ref a2]))] := hD
  exact W.vret hx hb hr (fun t ht hW => ⟨⟨(), rfl, trivial, by rw [ht]; exact hP, hD⟩, hS.F ht⟩) hS.2.2 (by decide +kernel : decode cX1_init 14 = .ok (.return_, 1)) hlocks
set_option maxRecDepth 100000 in
theorem ci_X3 (l : Launch) (D : va_G) (cA : Nat → ClassId) (h0 a1 sz : Nat) : Met l yX3_init (.code yX3_init cX3_init 2 none :: TT) { frames := 1, cells := 1, slots := 20, locals := 20 } (va_Pc [.ref h0, .ref a1] (IPre D cA [(h0, .inr (3, [.null, .null, .int 0]))] sz)) (va_Qv (fun _ : Unit => True) (fun _ t => ∃ q7 : Nat, va_P D vwCl [(h0, .inr (3, [.ref a1, .ref q7, .int 0])), (q7, .inl (cA 0, 20, .inl (fun _ => 0)))] t.heap ∧ va_D (va_A [(h0, .inr (3, [.null, .null, .int 0]))] sz) [(h0, .inr (3, [.ref a1, .ref q7, .int 0])), (q7, .inl (cA 0, 20, .inl (fun _ => 0)))]) (va_A [(h0, .inr (3, [.null, .null, .int 0]))] sz)) 1 20 (va_A [(h0, .inr (3, [.null, .null, .int 0]))] sz) := by
  refine Met.ofW (cc := cX3_init) (maxL := 2) (ret := none) (by decide +kernel) rfl ?_
  intro p e s m args below meth c s₁ B hml hv
  obtain ⟨rfl, hsz, hP, hK, hNw, hD0⟩ := hv
  have hx := B.exec
  have hb := B.bytes
  have hr := B.returns
  have hts0 := atoms_spec (ws := Cond.code yX3_init cX3_init 2 none :: TT) B.pre
  have hts : ∀ w ∈ TT, w.before _ s = true := fun w h => hts0 w (List.mem_cons_of_mem _ h)
  have hown : s.vm.findClass RX3 = some m.cls := findClass_of_methodNamed B.named
  have hlocks := B.notSynchronized
  have hin : meth.name = "<init>" := (name_of_methodNamed B.named B.method).1
  subst hsz
  have hD := hD0.self (sz := s.heap.size)
  generalize hAe : va_A [(h0, .inr (3, [.null, .null, .int 0]))] s.heap.size = A at hD ⊢
  have hA : ∀ q : Nat, s.heap.size ≤ q → A q := fun q h => by rw [← hAe]; exact Or.inr h
  have hS : va_S A s.heap s.heap [] := va_S.rf
  have hP : va_P D vwCl [(h0, .inr (3, [.null, .null, .int 0]))] s.heap := hP
  have hl := lv_entry ([.ref h0, .ref a1]) (n := 2) (Nat.le_of_ble_eq_true rfl)
  rw [lg_entry_eq]
  generalize (lg_sl ([.ref h0, .ref a1]) ++ List.replicate (2 - (lg_sl ([.ref h0, .ref a1])).length) Slot.unset).toArray = ls at hl ⊢
  have hl : lv_has ls 2 [(0, .ref h0), (1, .ref a1)] := hl
  refine lv_aload_n hx hb (by decide +kernel : decode cX3_init 0 = .ok (.aload_n 0, 1)) rfl (lv_at hl 0 rfl) ?_
  refine W.objInit hx hb hown (hts _ tw1_209) (hts _ tw1_29) (hts _ tw1_30) rfl (by rw [hml]; exact hl.1) rfl (by decide +kernel : decode cX3_init 1 = .ok (.invokespecial 3, 3)) (Nat.le_of_ble_eq_true rfl) (Nat.le_of_ble_eq_true rfl) ?_
  refine W.eq (g2 := F0 m 4 ls []) rfl ?_
  refine lv_aload_n hx hb (by decide +kernel : decode cX3_init 4 = .ok (.aload_n 0, 1)) rfl (lv_at hl 0 rfl) ?_
  refine lv_bipush (v := 20) hx hb (by decide +kernel : decode cX3_init 5 = .ok (.bipush (20), 2)) (by decide) ?_
  refine i_newa (atype := .int) (t := 0) (N' := 20) (a0 := (20, .inl (fun _ => 0))) (ty := .int) hx hb (hts _ tw1_138) rfl rfl (fun _ h => h) hK hP hD hS hA (fun _ => rfl) (by decide) (by decide) (by decide) (by decide) (by decide) (by decide +kernel : decode cX3_init 7 = .ok (.newarray .int, 2)) (fun q7 H hP hD hS => ?_)
  have hP : va_P D vwCl [(h0, .inr (3, [.null, .null, .int 0])), (q7, .inl (cA 0, 20, .inl (fun _ => 0)))] H := hP
  have hD : va_D A [(h0, .inr (3, [.null, .null, .int 0])), (q7, .inl (cA 0, 20, .inl (fun _ => 0)))] := hD
  refine W.widen (k := 1) (n := 20) (by omega) (by omega) ?_
  refine va_putF (D := D) (ci := 3) (v := .ref q7) (ty := tyX3 1) (C := RX3) (T := TX3) (N := 3) hx hb hts inX3 tyX3 tyX3_ok nmX3 hown hK hP hD hS 0 rfl rfl 1 (by decide) (hts _ tw1_211) (fun _ h9 => h9) rfl hin rfl (by decide +kernel) rfl rfl (Nat.le_of_ble_eq_true rfl) (by decide +kernel : decode cX3_init 9 = .ok (.putfield 9, 3)) (fun H locs hP hD hS => ?_)
  have hP : va_P D vwCl [(h0, .inr (3, [.null, .ref q7, .int 0])), (q7, .inl (cA 0, 20, .inl (fun _ => 0)))] H := hP
  have hD : va_D A [(h0, .inr (3, [.null, .ref q7, .int 0])), (q7, .inl (cA 0, 20, .inl (fun _ => 0)))] := hD
  refine lv_aload_n hx hb (by decide +kernel : decode cX3_init 12 = .ok (.aload_n 0, 1)) rfl (lv_at hl 0 rfl) ?_
  refine lv_iconst (v := 0) hx hb (by decide +kernel : decode cX3_init 13 = .ok (.iconst (0), 1)) (by decide) ?_
  refine va_put (D := D) (ci := 3) (v := .int 0) (ty := tyX3 2) (C := RX3) (T := TX3) (N := 3) hx hb hts inX3 tyX3 tyX3_ok nmX3 hown hK hP hD hS 0 rfl rfl 2 (by decide) (hts _ tw1_212) (fun _ h9 => h9) rfl (by decide +kernel) rfl rfl (Nat.le_of_ble_eq_true rfl) (by decide +kernel : decode cX3_init 14 = .ok (.putfield 15, 3)) (fun H locs hP hD hS => ?_)
  have hP : va_P D vwCl [(h0, .inr (3, [.null, .ref q7, .int 0])), (q7, .inl (cA 0, 20, .inl (fun _ => 0)))] H := hP
  have hD : va_D A [(h0, .inr (3, [.null, .ref q7, .int 0])), (q7, .inl (cA 0, 20, .inl (fun _ => 0)))] := hD
  refine lv_aload_n hx hb (by decide +kernel : decode cX3_init 17 = .ok (.aload_n 0, 1)) rfl (lv_at hl 0 rfl) ?_
  refine lv_aload_n hx hb (by decide +kernel : decode cX3_init 18 = .ok (.aload_n 1, 1)) rfl (lv_at hl 1 rfl) ?_
  refine va_putF (D := D) (ci := 3) (v := .ref a1) (ty := tyX3 0) (C := RX3) (T := TX3) (N := 3) hx hb hts inX3 tyX3 tyX3_ok nmX3 hown hK hP hD hS 0 rfl rfl 0 (by decide) (hts _ tw1_210) (fun _ h9 => h9) rfl hin rfl (by decide +kernel) rfl rfl (Nat.le_of_ble_eq_true rfl) (by decide +kernel : decode cX3_init 19 = .ok (.putfield 19, 3)) (fun H locs hP hD hS => ?_)
  have hP : va_P D vwCl [(h0, .inr (3, [.ref a1, .ref q7, .int 0])), (q7, .inl (cA 0, 20, .inl (fun _ => 0)))] H := hP
  have hD : va_D A [(h0, .inr (3, [.ref a1, .ref q7, .int 0])), (q7, .inl (cA 0, 20, .inl (fun _ => 0)))] := hD
  exact W.vret hx hb hr (fun t ht hW => ⟨⟨(), rfl, trivial, q7, by rw [ht]; exact hP, hD⟩, hS.F ht⟩) hS.2.2 (by decide +kernel : decode cX3_init 22 = .ok (.return_, 1)) hlocks
set_option maxRecDepth 100000 in
theorem ci_X0 (l : Launch) (D : va_G) (cA : Nat → ClassId) (h0 a1 a2 sz : Nat) : Met l yX0_init (.code yX0_init cX0_init 3 none :: TT) { frames := 1, cells := 6, slots := 72, locals := 20 } (va_Pc [.ref h0, .ref a1, .ref a2] (IPre D cA [(h0, .inr (0, [.null, .null, .int 0, .int 0, .null, .null, .null, .null, .null, .null, .int 0]))] sz)) (va_Qv (fun _ : Unit => True) (fun _ t => ∃ q17 q25 q33 q41 q48 q55 : Nat, va_P D vwCl [(h0, .inr (0, [.ref a1, .ref a2, .int 0, .int 0, .ref q17, .ref q25, .ref q33, .ref q41, .ref q48, .ref q55, .int 0])), (q17, .inl (cA 0, 8, .inl (fun _ => 0))), (q25, .inl (cA 0, 8, .inl (fun _ => 0))), (q33, .inl (cA 0, 40, .inl (fun _ => 0))), (q41, .inl (cA 0, 6, .inl (fun _ => 0))), (q48, .inl (cA 0, 5, .inl (fun _ => 0))), (q55, .inl (cA 0, 5, .inl (fun _ => 0)))] t.heap ∧ va_D (va_A [(h0, .inr (0, [.null, .null, .int 0, .int 0, .null, .null, .null, .null, .null, .null, .int 0]))] sz) [(h0, .inr (0, [.ref a1, .ref a2, .int 0, .int 0, .ref q17, .ref q25, .ref q33, .ref q41, .ref q48, .ref q55, .int 0])), (q17, .inl (cA 0, 8, .inl (fun _ => 0))), (q25, .inl (cA 0, 8, .inl (fun _ => 0))), (q33, .inl (cA 0, 40, .inl (fun _ => 0))), (q41, .inl (cA 0, 6, .inl (fun _ => 0))), (q48, .inl (cA 0, 5, .inl (fun _ => 0))), (q55, .inl (cA 0, 5, .inl (fun _ => 0)))]) (va_A [(h0, .inr (0, [.null, .null, .int 0, .int 0, .null, .null, .null, .null, .null, .null, .int 0]))] sz)) 6 72 (va_A [(h0, .inr (0, [.null, .null, .int 0, .int 0, .null, .null, .null, .null, .null, .null, .int 0]))] sz) := by
  refine Met.ofW (cc := cX0_init) (maxL := 3) (ret := none) (by decide +kernel) rfl ?_
  intro p e s m args below meth c s₁ B hml hv
  obtain ⟨rfl, hsz, hP, hK, hNw, hD0⟩ := hv
  have hx := B.exec
  have hb := B.bytes
  have hr := B.returns
  have hts0 := atoms_spec (ws := Cond.code yX0_init cX0_init 3 none :: TT) B.pre
  have hts : ∀ w ∈ TT, w.before _ s = true := fun w h => hts0 w (List.mem_cons_of_mem _ h)
  have hown : s.vm.findClass RX0 = some m.cls := findClass_of_methodNamed B.named
  have hlocks := B.notSynchronized
  have hin : meth.name = "<init>" := (name_of_methodNamed B.named B.method).1
  subst hsz
  have hD := hD0.self (sz := s.heap.size)
  generalize hAe : va_A [(h0, .inr (0, [.null, .null, .int 0, .int 0, .null, .null, .null, .null, .null, .null, .int 0]))] s.heap.size = A at hD ⊢
  have hA : ∀ q : Nat, s.heap.size ≤ q → A q := fun q h => by rw [← hAe]; exact Or.inr h
  have hS : va_S A s.heap s.heap [] := va_S.rf
  have hP : va_P D vwCl [(h0, .inr (0, [.null, .null, .int 0, .int 0, .null, .null, .null, .null, .null, .null, .int 0]))] s.heap := hP
  have hl := lv_entry ([.ref h0, .ref a1, .ref a2]) (n := 3) (Nat.le_of_ble_eq_true rfl)
  rw [lg_entry_eq]
  generalize (lg_sl ([.ref h0, .ref a1, .ref a2]) ++ List.replicate (3 - (lg_sl ([.ref h0, .ref a1, .ref a2])).length) Slot.unset).toArray = ls at hl ⊢
  have hl : lv_has ls 3 [(0, .ref h0), (1, .ref a1), (2, .ref a2)] := hl
  refine lv_aload_n hx hb (by decide +kernel : decode cX0_init 0 = .ok (.aload_n 0, 1)) rfl (lv_at hl 0 rfl) ?_
  refine W.objInit hx hb hown (hts _ tw1_225) (hts _ tw1_29) (hts _ tw1_30) rfl (by rw [hml]; exact hl.1) rfl (by decide +kernel : decode cX0_init 1 = .ok (.invokespecial 3, 3)) (Nat.le_of_ble_eq_true rfl) (Nat.le_of_ble_eq_true rfl) ?_
  refine W.eq (g2 := F0 m 4 ls []) rfl ?_
  refine lv_aload_n hx hb (by decide +kernel : decode cX0_init 4 = .ok (.aload_n 0, 1)) rfl (lv_at hl 0 rfl) ?_
  refine lv_iconst (v := 0) hx hb (by decide +kernel : decode cX0_init 5 = .ok (.iconst (0), 1)) (by decide) ?_
  refine va_put (D := D) (ci := 0) (v := .int 0) (ty := tyX0 2) (C := RX0) (T := TX0) (N := 11) hx hb hts inX0 tyX0 tyX0_ok nmX0 hown hK hP hD hS 0 rfl rfl 2 (by decide) (hts _ tw1_228) (fun _ h9 => h9) rfl (by decide +kernel) rfl rfl (Nat.le_of_ble_eq_true rfl) (by decide +kernel : decode cX0_init 6 = .ok (.putfield 9, 3)) (fun H locs hP hD hS => ?_)
  have hP : va_P D vwCl [(h0, .inr (0, [.null, .null, .int 0, .int 0, .null, .null, .null, .null, .null, .null, .int 0]))] H := hP
  have hD : va_D A [(h0, .inr (0, [.null, .null, .int 0, .int 0, .null, .null, .null, .null, .null, .null, .int 0]))] := hD
  refine lv_aload_n hx hb (by decide +kernel : decode cX0_init 9 = .ok (.aload_n 0, 1)) rfl (lv_at hl 0 rfl) ?_
  refine lv_iconst (v := 0) hx hb (by decide +kernel : decode cX0_init 10 = .ok (.iconst (0), 1)) (by decide) ?_
  refine va_put (D := D) (ci := 0) (v := .int 0) (ty := tyX0 3) (C := RX0) (T := TX0) (N := 11) hx hb hts inX0 tyX0 tyX0_ok nmX0 hown hK hP hD hS 0 rfl rfl 3 (by decide) (hts _ tw1_229) (fun _ h9 => h9) rfl (by decide +kernel) rfl rfl (Nat.le_of_ble_eq_true rfl) (by decide +kernel : decode cX0_init 11 = .ok (.putfield 15, 3)) (fun H locs hP hD hS => ?_)
  have hP : va_P D vwCl [(h0, .inr (0, [.null, .null, .int 0, .int 0, .null, .null, .null, .null, .null, .null, .int 0]))] H := hP
  have hD : va_D A [(h0, .inr (0, [.null, .null, .int 0, .int 0, .null, .null, .null, .null, .null, .null, .int 0]))] := hD
  refine lv_aload_n hx hb (by decide +kernel : decode cX0_init 14 = .ok (.aload_n 0, 1)) rfl (lv_at hl 0 rfl) ?_
  refine lv_bipush (v := 8) hx hb (by decide +kernel : decode cX0_init 15 = .ok (.bipush (8), 2)) (by decide) ?_
  refine i_newa (atype := .int) (t := 0) (N' := 8) (a0 := (8, .inl (fun _ => 0))) (ty := .int) hx hb (hts _ tw1_138) rfl rfl (fun _ h => h) hK hP hD hS hA (fun _ => rfl) (by decide) (by decide) (by decide) (by decide) (by decide) (by decide +kernel : decode cX0_init 17 = .ok (.newarray .int, 2)) (fun q17 H hP hD hS => ?_)
  have hP : va_P D vwCl [(h0, .inr (0, [.null, .null, .int 0, .int 0, .null, .null, .null, .null, .null, .null, .int 0])), (q17, .inl (cA 0, 8, .inl (fun _ => 0)))] H := hP
  have hD : va_D A [(h0, .inr (0, [.null, .null, .int 0, .int 0, .null, .null, .null, .null, .null, .null, .int 0])), (q17, .inl (cA 0, 8, .inl (fun _ => 0)))] := hD
  refine W.widen (k := 1) (n := 8) (by omega) (by omega) ?_
  refine va_putF (D := D) (ci := 0) (v := .ref q17) (ty := tyX0 4) (C := RX0) (T := TX0) (N := 11) hx hb hts inX0 tyX0 tyX0_ok nmX0 hown hK hP hD hS 0 rfl rfl 4 (by decide) (hts _ tw1_230) (fun _ h9 => h9) rfl hin rfl (by decide +kernel) rfl rfl (Nat.le_of_ble_eq_true rfl) (by decide +kernel : decode cX0_init 19 = .ok (.putfield 18, 3)) (fun H locs hP hD hS => ?_)
  have hP : va_P D vwCl [(h0, .inr (0, [.null, .null, .int 0, .int 0, .ref q17, .null, .null, .null, .null, .null, .int 0])), (q17, .inl (cA 0, 8, .inl (fun _ => 0)))] H := hP
  have hD : va_D A [(h0, .inr (0, [.null, .null, .int 0, .int 0, .ref q17, .null, .null, .null, .null, .null, .int 0])), (q17, .inl (cA 0, 8, .inl (fun _ => 0)))] := hD
  refine lv_aload_n hx hb (by decide +kernel : decode cX0_init 22 = .ok (.aload_n 0, 1)) rfl (lv_at hl 0 rfl) ?_
  refine lv_bipush (v := 8) hx hb (by decide +kernel : decode cX0_init 23 = .ok (.bipush (8), 2)) (by decide) ?_
  refine i_newa (atype := .int) (t := 0) (N' := 8) (a0 := (8, .inl (fun _ => 0))) (ty := .int) hx hb (hts _ tw1_138) rfl rfl (fun _ h => h) hK hP hD hS hA (fun _ => rfl) (by decide) (by decide) (by decide) (by decide) (by decide) (by decide +kernel : decode cX0_init 25 = .ok (.newarray .int, 2)) (fun q25 H hP hD hS => ?_)
  have hP : va_P D vwCl [(h0, .inr (0, [.null, .null, .int 0, .int 0, .ref q17, .null, .null, .null, .null, .null, .int 0])), (q17, .inl (cA 0, 8, .inl (fun _ => 0))), (q25, .inl (cA 0, 8, .inl (fun _ => 0)))] H := hP
  have hD : va_D A [(h0, .inr (0, [.null, .null, .int 0, .int 0, .ref q17, .null, .null, .null, .null, .null, .int 0])), (q17, .inl (cA 0, 8, .inl (fun _ => 0))), (q25, .inl (cA 0, 8, .inl (fun _ => 0)))] := hD
  refine W.widen (k := 2) (n := 16) (by omega) (by omega) ?_
  refine va_putF (D := D) (ci := 0) (v := .ref q25) (ty := tyX0 5) (C := RX0) (T := TX0) (N := 11) hx hb hts inX0 tyX0 tyX0_ok nmX0 hown hK hP hD hS 0 rfl rfl 5 (by decide) (hts _ tw1_231) (fun _ h9 => h9) rfl hin rfl (by decide +kernel) rfl rfl (Nat.le_of_ble_eq_true rfl) (by decide +kernel : decode cX0_init 27 = .ok (.putfield 22, 3)) (fun H locs hP hD hS => ?_)
  have hP : va_P D vwCl [(h0, .inr (0, [.null, .null, .int 0, .int 0, .ref q17, .ref q25, .null, .null, .null, .null, .int 0])), (q17, .inl (cA 0, 8, .inl (fun _ => 0))), (q25, .inl (cA 0, 8, .inl (fun _ => 0)))] H := hP
  have hD : va_D A [(h0, .inr (0, [.null, .null, .int 0, .int 0, .ref q17, .ref q25, .null, .null, .null, .null, .int 0])), (q17, .inl (cA 0, 8, .inl (fun _ => 0))), (q25, .inl (cA 0, 8, .inl (fun _ => 0)))] := hD
  refine lv_aload_n hx hb (by decide +kernel : decode cX0_init 30 = .ok (.aload_n 0, 1)) rfl (lv_at hl 0 rfl) ?_
  refine lv_bipush (v := 40) hx hb (by decide +kernel : decode cX0_init 31 = .ok (.bipush (40), 2)) (by decide) ?_
  refine i_newa (atype := .int) (t := 0) (N' := 40) (a0 := (40, .inl (fun _ => 0))) (ty := .int) hx hb (hts _ tw1_138) rfl rfl (fun _ h => h) hK hP hD hS hA (fun _ => rfl) (by decide) (by decide) (by decide) (by decide) (by decide) (by decide +kernel : decode cX0_init 33 = .ok (.newarray .int, 2)) (fun q33 H hP hD hS => ?_)
  have hP : va_P D vwCl [(h0, .inr (0, [.null, .null, .int 0, .int 0, .ref q17, .ref q25, .null, .null, .null, .null, .int 0])), (q17, .inl (cA 0, 8, .inl (fun _ => 0))), (q25, .inl (cA 0, 8, .inl (fun _ => 0))), (q33, .inl (cA 0, 40, .inl (fun _ => 0)))] H := hP
  have hD : va_D A [(h0, .inr (0, [.null, .null, .int 0, .int 0, .ref q17, .ref q25, .null, .null, .null, .null, .int 0])), (q17, .inl (cA 0, 8, .inl (fun _ => 0))), (q25, .inl (cA 0, 8, .inl (fun _ => 0))), (q33, .inl (cA 0, 40, .inl (fun _ => 0)))] := hD
  refine W.widen (k := 3) (n := 56) (by omega) (by omega) ?_
  refine va_putF (D := D) (ci := 0) (v := .ref q33) (ty := tyX0 6) (C := RX0) (T := TX0) (N := 11) hx hb hts inX0 tyX0 tyX0_ok nmX0 hown hK hP hD hS 0 rfl rfl 6 (by decide) (hts _ tw1_232) (fun _ h9 => h9) rfl hin rfl (by decide +kernel) rfl rfl (Nat.le_of_ble_eq_true rfl) (by decide +kernel : decode cX0_init 35 = .ok (.putfield 25, 3)) (fun H locs hP hD hS => ?_)
  have hP : va_P D vwCl [(h0, .inr (0, [.null, .null, .int 0, .int 0, .ref q17, .ref q25, .ref q33, .null, .null, .null, .int 0])), (q17, .inl (cA 0, 8, .inl (fun _ => 0))), (q25, .inl (cA 0, 8, .inl (fun _ => 0))), (q33, .inl (cA 0, 40, .inl (fun _ => 0)))] H := hP
  have hD : va_D A [(h0, .inr (0, [.null, .null, .int 0, .int 0, .ref q17, .ref q25, .ref q33, .null, .null, .null, .int 0])), (q17, .inl (cA 0, 8, .inl (fun _ => 0))), (q25, .inl (cA 0, 8, .inl (fun _ => 0))), (q33, .inl (cA 0, 40, .inl (fun _ => 0)))] := hD
  refine lv_aload_n hx hb (by decide +kernel : decode cX0_init 38 = .ok (.aload_n 0, 1)) rfl (lv_at hl 0 rfl) ?_
  refine lv_bipush (v := 6) hx hb (by decide +kernel : decode cX0_init 39 = .ok (.bipush (6), 2)) (by decide) ?_
  refine i_newa (atype := .int) (t := 0) (N' := 6) (a0 := (6, .inl (fun _ => 0))) (ty := .int) hx hb (hts _ tw1_138) rfl rfl (fun _ h => h) hK hP hD hS hA (fun _ => rfl) (by decide) (by decide) (by decide) (by decide) (by decide) (by decide +kernel : decode cX0_init 41 = .ok (.newarray .int, 2)) (fun q41 H hP hD hS => ?_)
  have hP : va_P D vwCl [(h0, .inr (0, [.null, .null, .int 0, .int 0, .ref q17, .ref q25, .ref q33, .null, .null, .null, .int 0])), (q17, .inl (cA 0, 8, .inl (fun _ => 0))), (q25, .inl (cA 0, 8, .inl (fun _ => 0))), (q33, .inl (cA 0, 40, .inl (fun _ => 0))), (q41, .inl (cA 0, 6, .inl (fun _ => 0)))] H := hP
  have hD : va_D A [(h0, .inr (0, [.null, .null, .int 0, .int 0, .ref q17, .ref q25, .ref q33, .null, .null, .null, .int 0])), (q17, .inl (cA 0, 8, .inl (fun _ => 0))), (q25, .inl (cA 0, 8, .inl (fun _ => 0))), (q33, .inl (cA 0, 40, .inl (fun _ => 0))), (q41, .inl (cA 0, 6, .inl (fun _ => 0)))] := hD
  refine W.widen (k := 4) (n := 62) (by omega) (by omega) ?_
  refine va_putF (D := D) (ci := 0) (v := .ref q41) (ty := tyX0 7) (C := RX0) (T := TX0) (N := 11) hx hb hts inX0 tyX0 tyX0_ok nmX0 hown hK hP hD hS 0 rfl rfl 7 (by decide) (hts _ tw1_233) (fun _ h9 => h9) rfl hin rfl (by decide +kernel) rfl rfl (Nat.le_of_ble_eq_true rfl) (by decide +kernel : decode cX0_init 43 = .ok (.putfield 28, 3)) (fun H locs hP hD hS => ?_)
  have hP : va_P D vwCl [(h0, .inr (0, [.null, .null, .int 0, .int 0, .ref q17, .ref q25, .ref q33, .ref q41, .null, .null, .int 0])), (q17, .inl (cA 0, 8, .inl (fun _ => 0))), (q25, .inl (cA 0, 8, .inl (fun _ => 0))), (q33, .inl (cA 0, 40, .inl (fun _ => 0))), (q41, .inl (cA 0, 6, .inl (fun _ => 0)))] H := hP
  have hD : va_D A [(h0, .inr (0, [.null, .null, .int 0, .int 0, .ref q17, .ref q25, .ref q33, .ref q41, .null, .null, .int 0])), (q17, .inl (cA 0, 8, .inl (fun _ => 0))), (q25, .inl (cA 0, 8, .inl (fun _ => 0))), (q33, .inl (cA 0, 40, .inl (fun _ => 0))), (q41, .inl (cA 0, 6, .inl (fun _ => 0)))] := hD
  refine lv_aload_n hx hb (by decide +kernel : decode cX0_init 46 = .ok (.aload_n 0, 1)) rfl (lv_at hl 0 rfl) ?_
  refine lv_iconst (v := 5) hx hb (by decide +kernel : decode cX0_init 47 = .ok (.iconst (5), 1)) (by decide) ?_
  refine i_newa (atype := .int) (t := 0) (N' := 5) (a0 := (5, .inl (fun _ => 0))) (ty := .int) hx hb (hts _ tw1_138) rfl rfl (fun _ h => h) hK hP hD hS hA (fun _ => rfl) (by decide) (by decide) (by decide) (by decide) (by decide) (by decide +kernel : decode cX0_init 48 = .ok (.newarray .int, 2)) (fun q48 H hP hD hS => ?_)
  have hP : va_P D vwCl [(h0, .inr (0, [.null, .null, .int 0, .int 0, .ref q17, .ref q25, .ref q33, .ref q41, .null, .null, .int 0])), (q17, .inl (cA 0, 8, .inl (fun _ => 0))), (q25, .inl (cA 0, 8, .inl (fun _ => 0))), (q33, .inl (cA 0, 40, .inl (fun _ => 0))), (q41, .inl (cA 0, 6, .inl (fun _ => 0))), (q48, .inl (cA 0, 5, .inl (fun _ => 0)))] H := hP
  have hD : va_D A [(h0, .inr (0, [.null, .null, .int 0, .int 0, .ref q17, .ref q25, .ref q33, .ref q41, .null, .null, .int 0])), (q17, .inl (cA 0, 8, .inl (fun _ => 0))), (q25, .inl (cA 0, 8, .inl (fun _ => 0))), (q33, .inl (cA 0, 40, .inl (fun _ => 0))), (q41, .inl (cA 0, 6, .inl (fun _ => 0))), (q48, .inl (cA 0, 5, .inl (fun _ => 0)))] := hD
  refine W.widen (k := 5) (n := 67) (by omega) (by omega) ?_
  refine va_putF (D := D) (ci := 0) (v := .ref q48) (ty := tyX0 8) (C := RX0) (T := TX0) (N := 11) hx hb hts inX0 tyX0 tyX0_ok nmX0 hown hK hP hD hS 0 rfl rfl 8 (by decide) (hts _ tw1_234) (fun _ h9 => h9) rfl hin rfl (by decide +kernel) rfl rfl (Nat.le_of_ble_eq_true rfl) (by decide +kernel : decode cX0_init 50 = .ok (.putfield 31, 3)) (fun H locs hP hD hS => ?_)
  have hP : va_P D vwCl [(h0, .inr (0, [.null, .null, .int 0, .int 0, .ref q17, .ref q25, .ref q33, .ref q41, .ref q48, .null, .int 0])), (q17, .inl (cA 0, 8, .inl (fun _ => 0))), (q25, .inl (cA 0, 8, .inl (fun _ => 0))), (q33, .inl (cA 0, 40, .inl (fun _ => 0))), (q41, .inl (cA 0, 6, .inl (fun _ => 0))), (q48, .inl (cA 0, 5, .inl (fun _ => 0)))] H := hP
  have hD : va_D A [(h0, .inr (0, [.null, .null, .int 0, .int 0, .ref q17, .ref q25, .ref q33, .ref q41, .ref q48, .null, .int 0])), (q17, .inl (cA 0, 8, .inl (fun _ => 0))), (q25, .inl (cA 0, 8, .inl (fun _ => 0))), (q33, .inl (cA 0, 40, .inl (fun _ => 0))), (q41, .inl (cA 0, 6, .inl (fun _ => 0))), (q48, .inl (cA 0, 5, .inl (fun _ => 0)))] := hD
  refine lv_aload_n hx hb (by decide +kernel : decode cX0_init 53 = .ok (.aload_n 0, 1)) rfl (lv_at hl 0 rfl) ?_
  refine lv_iconst (v := 5) hx hb (by decide +kernel : decode cX0_init 54 = .ok (.iconst (5), 1)) (by decide) ?_
  refine i_newa (atype := .int) (t := 0) (N' := 5) (a0 := (5, .inl (fun _ => 0))) (ty := .int) hx hb (hts _ tw1_138) rfl rfl (fun _ h => h) hK hP hD hS hA (fun _ => rfl) (by decide) (by decide) (by decide) (by decide) (by decide) (by decide +kernel : decode cX0_init 55 = .ok (.newarray .int, 2)) (fun q55 H hP hD hS => ?_)
  have hP : va_P D vwCl [(h0, .inr (0, [.null, .null, .int 0, .int 0, .ref q17, .ref q25, .ref q33, .ref q41, .ref q48, .null, .int 0])), (q17, .inl (cA 0, 8, .inl (fun _ => 0))), (q25, .inl (cA 0, 8, .inl (fun _ => 0))), (q33, .inl (cA 0, 40, .inl (fun _ => 0))), (q41, .inl (cA 0, 6, .inl (fun _ => 0))), (q48, .inl (cA 0, 5, .inl (fun _ => 0))), (q55, .inl (cA 0, 5, .inl (fun _ => 0)))] H := hP
  have hD : va_D A [(h0, .inr (0, [.null, .null, .int 0, .int 0, .ref q17, .ref q25, .ref q33, .ref q41, .ref q48, .null, .int 0])), (q17, .inl (cA 0, 8, .inl (fun _ => 0))), (q25, .inl (cA 0, 8, .inl (fun _ => 0))), (q33, .inl (cA 0, 40, .inl (fun _ => 0))), (q41, .inl (cA 0, 6, .inl (fun _ => 0))), (q48, .inl (cA 0, 5, .inl (fun _ => 0))), (q55, .inl (cA 0, 5, .inl (fun _ => 0)))] := hD
  refine W.widen (k := 6) (n := 72) (by omega) (by omega) ?_
  refine va_putF (D := D) (ci := 0) (v := .ref q55) (ty := tyX0 9) (C := RX0) (T := TX0) (N := 11) hx hb hts inX0 tyX0 tyX0_ok nmX0 hown hK hP hD hS 0 rfl rfl 9 (by decide) (hts _ tw1_235) (fun _ h9 => h9) rfl hin rfl (by decide +kernel) rfl rfl (Nat.le_of_ble_eq_true rfl) (by decide +kernel : decode cX0_init 57 = .ok (.putfield 34, 3)) (fun H locs hP hD hS => ?_)
  have hP : va_P D vwCl [(h0, .inr (0, [.null, .null, .int 0, .int 0, .ref q17, .ref q25, .ref q33, .ref q41, .ref q48, .ref q55, .int 0])), (q17, .inl (cA 0, 8, .inl (fun _ => 0))), (q25, .inl (cA 0, 8, .inl (fun _ => 0))), (q33, .inl (cA 0, 40, .inl (fun _ => 0))), (q41, .inl (cA 0, 6, .inl (fun _ => 0))), (q48, .inl (cA 0, 5, .inl (fun _ => 0))), (q55, .inl (cA 0, 5, .inl (fun _ => 0)))] H := hP
  have hD : va_D A [(h0, .inr (0, [.null, .null, .int 0, .int 0, .ref q17, .ref q25, .ref q33, .ref q41, .ref q48, .ref q55, .int 0])), (q17, .inl (cA 0, 8, .inl (fun _ => 0))), (q25, .inl (cA 0, 8, .inl (fun _ => 0))), (q33, .inl (cA 0, 40, .inl (fun _ => 0))), (q41, .inl (cA 0, 6, .inl (fun _ => 0))), (q48, .inl (cA 0, 5, .inl (fun _ => 0))), (q55, .inl (cA 0, 5, .inl (fun _ => 0)))] := hD
  refine lv_aload_n hx hb (by decide +kernel : decode cX0_init 60 = .ok (.aload_n 0, 1)) rfl (lv_at hl 0 rfl) ?_
  refine lv_iconst (v := 0) hx hb (by decide +kernel : decode cX0_init 61 = .ok (.iconst (0), 1)) (by decide) ?_
  refine va_put (D := D) (ci := 0) (v := .int 0) (ty := tyX0 10) (C := RX0) (T := TX0) (N := 11) hx hb hts inX0 tyX0 tyX0_ok nmX0 hown hK hP hD hS 0 rfl rfl 10 (by decide) (hts _ tw1_237) (fun _ h9 => h9) rfl (by decide +kernel) rfl rfl (Nat.le_of_ble_eq_true rfl) (by decide +kernel : decode cX0_init 62 = .ok (.putfield 37, 3)) (fun H locs hP hD hS => ?_)
  have hP : va_P D vwCl [(h0, .inr (0, [.null, .null, .int 0, .int 0, .ref q17, .ref q25, .ref q33, .ref q41, .ref q48, .ref q55, .int 0])), (q17, .inl (cA 0, 8, .inl (fun _ => 0))), (q25, .inl (cA 0, 8, .inl (fun _ => 0))), (q33, .inl (cA 0, 40, .inl (fun _ => 0))), (q41, .inl (cA 0, 6, .inl (fun _ => 0))), (q48, .inl (cA 0, 5, .inl (fun _ => 0))), (q55, .inl (cA 0, 5, .inl (fun _ => 0)))] H := hP
  have hD : va_D A [(h0, .inr (0, [.null, .null, .int 0, .int 0, .ref q17, .ref q25, .ref q33, .ref q41, .ref q48, .ref q55, .int 0])), (q17, .inl (cA 0, 8, .inl (fun _ => 0))), (q25, .inl (cA 0, 8, .inl (fun _ => 0))), (q33, .inl (cA 0, 40, .inl (fun _ => 0))), (q41, .inl (cA 0, 6, .inl (fun _ => 0))), (q48, .inl (cA 0, 5, .inl (fun _ => 0))), (q55, .inl (cA 0, 5, .inl (fun _ => 0)))] := hD
  refine lv_aload_n hx hb (by decide +kernel : decode cX0_init 65 = .ok (.aload_n 0, 1)) rfl (lv_at hl 0 rfl) ?_
  refine lv_aload_n hx hb (by decide +kernel : decode cX0_init 66 = .ok (.aload_n 1, 1)) rfl (lv_at hl 1 rfl) ?_
  refine va_putF (D := D) (ci := 0) (v := .ref a1) (ty := tyX0 0) (C := RX0) (T := TX0) (N := 11) hx hb hts inX0 tyX0 tyX0_ok nmX0 hown hK hP hD hS 0 rfl rfl 0 (by decide) (hts _ tw1_226) (fun _ h9 => h9) rfl hin rfl (by decide +kernel) rfl rfl (Nat.le_of_ble_eq_true rfl) (by decide +kernel : decode cX0_init 67 = .ok (.putfield 40, 3)) (fun H locs hP hD hS => ?_)
  have hP : va_P D vwCl [(h0, .inr (0, [.ref a1, .null, .int 0, .int 0, .ref q17, .ref q25, .ref q33, .ref q41, .ref q48, .ref q55, .int 0])), (q17, .inl (cA 0, 8, .inl (fun _ => 0))), (q25, .inl (cA 0, 8, .inl (fun _ => 0))), (q33, .inl (cA 0, 40, .inl (fun _ => 0))), (q41, .inl (cA 0, 6, .inl (fun _ => 0))), (q48, .inl (cA 0, 5, .inl (fun _ => 0))), (q55, .inl (cA 0, 5, .inl (fun _ => 0)))] H := hP
  have hD : va_D A [(h0, .inr (0, [.ref a1, .null, .int 0, .int 0, .ref q17, .ref q25, .ref q33, .ref q41, .ref q48, .ref q55, .int 0])), (q17, .inl (cA 0, 8, .inl (fun _ => 0))), (q25, .inl (cA 0, 8, .inl (fun _ => 0))), (q33, .inl (cA 0, 40, .inl (fun _ => 0))), (q41, .inl (cA 0, 6, .inl (fun _ => 0))), (q48, .inl (cA 0, 5, .inl (fun _ => 0))), (q55, .inl (cA 0, 5, .inl (fun _ => 0)))] := hD
  refine lv_aload_n hx hb (by decide +kernel : decode cX0_init 70 = .ok (.aload_n 0, 1)) rfl (lv_at hl 0 rfl) ?_
  refine lv_aload_n hx hb (by decide +kernel : decode cX0_init 71 = .ok (.aload_n 2, 1)) rfl (lv_at hl 2 rfl) ?_
  refine va_putF (D := D) (ci := 0) (v := .ref a2) (ty := tyX0 1) (C := RX0) (T := TX0) (N := 11) hx hb hts inX0 tyX0 tyX0_ok nmX0 hown hK hP hD hS 0 rfl rfl 1 (by decide) (hts _ tw1_227) (fun _ h9 => h9) rfl hin rfl (by decide +kernel) rfl rfl (Nat.le_of_ble_eq_true rfl) (by decide +kernel : decode cX0_init 72 = .ok (.putfield 44, 3)) (fun H locs hP hD hS => ?_)
  have hP : va_P D vwCl [(h0, .inr (0, [.ref a1, .ref a2, .int 0, .int 0, .ref q17, .ref q25, .ref q33, .ref q41, .ref q48, .ref q55, .int 0])), (q17, .inl (cA 0, 8, .inl (fun _ => 0))), (q25, .inl (cA 0, 8, .inl (fun _ => 0))), (q33, .inl (cA 0, 40, .inl (fun _ => 0))), (q41, .inl (cA 0, 6, .inl (fun _ => 0))), (q48, .inl (cA 0, 5, .inl (fun _ => 0))), (q55, .inl (cA 0, 5, .inl (fun _ => 0)))] H := hP
  have hD : va_D A [(h0, .inr (0, [.ref a1, .ref a2, .int 0, .int 0, .ref q17, .ref q25, .ref q33, .ref q41, .ref q48, .ref q55, .int 0])), (q17, .inl (cA 0, 8, .inl (fun _ => 0))), (q25, .inl (cA 0, 8, .inl (fun _ => 0))), (q33, .inl (cA 0, 40, .inl (fun _ => 0))), (q41, .inl (cA 0, 6, .inl (fun _ => 0))), (q48, .inl (cA 0, 5, .inl (fun _ => 0))), (q55, .inl (cA 0, 5, .inl (fun _ => 0)))] := hD
  exact W.vret hx hb hr (fun t ht hW => ⟨⟨(), rfl, trivial, q17, q25, q33, q41, q48, q55, by rw [ht]; exact hP, hD⟩, hS.F ht⟩) hS.2.2 (by decide +kernel : decode cX0_init 75 = .ok (.return_, 1)) hlocks
set_option maxRecDepth 100000 in
theorem ci_X2 (l : Launch) (D : va_G) (cA : Nat → ClassId) (h0 a1 a2 sz : Nat) : Met l yX2_init (.code yX2_init cX2_init 3 none :: TT) { frames := 1, cells := 0, slots := 0, locals := 20 } (va_Pc [.ref h0, .ref a1, .ref a2] (IPre D cA [(h0, .inr (2, [.null, .null, .int 0, .int 0, .int 0, .int 0, .int 0, .int 0, .int 0]))] sz)) (va_Qv (fun _ : Unit => True) (fun _ t => va_P D vwCl [(h0, .inr (2, [.ref a1, .ref a2, .int (-2), .int (-2), .int (-2), .int 0, .int 0, .int 0, .int 0]))] t.heap ∧ va_D (va_A [(h0, .inr (2, [.null, .null, .int 0, .int 0, .int 0, .int 0, .int 0, .int 0, .int 0]))] sz) [(h0, .inr (2, [.ref a1, .ref a2, .int (-2), .int (-2), .int (-2), .int 0, .int 0, .int 0, .int 0]))]) (va_A [(h0, .inr (2, [.null, .null, .int 0, .int 0, .int 0, .int 0, .int 0, .int 0, .int 0]))] sz)) 0 0 (va_A [(h0, .inr (2, [.null, .null, .int 0, .int 0, .int 0, .int 0, .int 0, .int 0, .int 0]))] sz) := by
  refine Met.ofW (cc := cX2_init) (maxL := 3) (ret := none) (by decide +kernel) rfl ?_
  intro p e s m args below meth c s₁ B hml hv
  obtain ⟨rfl, hsz, hP, hK, hNw, hD0⟩ := hv
  have hx := B.exec
  have hb := B.bytes
  have hr := B.returns
  have hts0 := atoms_spec (ws := Cond.code yX2_init cX2_init 3 none :: TT) B.pre
  have hts : ∀ w ∈ TT, w.before _ s = true := fun w h => hts0 w (List.mem_cons_of_mem _ h)
  have hown : s.vm.findClass RX2 = some m.cls := findClass_of_methodNamed B.named
  have hlocks := B.notSynchronized
  have hin : meth.name = "<init>" := (name_of_methodNamed B.named B.method).1
  subst hsz
  have hD := hD0.self (sz := s.heap.size)
  generalize hAe : va_A [(h0, .inr (2, [.null, .null, .int 0, .int 0, .int 0, .int 0, .int 0, .int 0, .int 0]))] s.heap.size = A at hD ⊢
  have hA : ∀ q : Nat, s.heap.size ≤ q → A q := fun q h => by rw [← hAe]; exact Or.inr h
  have hS : va_S A s.heap s.heap [] := va_S.rf
  have hP : va_P D vwCl [(h0, .inr (2, [.null, .null, .int 0, .int 0, .int 0, .int 0, .int 0, .int 0, .int 0]))] s.heap := hP
  have hl := lv_entry ([.ref h0, .ref a1, .ref a2]) (n := 3) (Nat.le_of_ble_eq_true rfl)
  rw [lg_entry_eq]
  generalize (lg_sl ([.ref h0, .ref a1, .ref a2]) ++ List.replicate (3 - (lg_sl ([.ref h0, .ref a1, .ref a2])).length) Slot.unset).toArray = ls at hl ⊢
  have hl : lv_has ls 3 [(0, .ref h0), (1, .ref a1), (2, .ref a2)] := hl
  refine lv_aload_n hx hb (by decide +kernel : decode cX2_init 0 = .ok (.aload_n 0, 1)) rfl (lv_at hl 0 rfl) ?_
  refine W.objInit hx hb hown (hts _ tw2_27) (hts _ tw1_29) (hts _ tw1_30) rfl (by rw [hml]; exact hl.1) rfl (by decide +kernel : decode cX2_init 1 = .ok (.invokespecial 3, 3)) (Nat.le_of_ble_eq_true rfl) (Nat.le_of_ble_eq_true rfl) ?_
  refine W.eq (g2 := F0 m 4 ls []) rfl ?_
  refine lv_aload_n hx hb (by decide +kernel : decode cX2_init 4 = .ok (.aload_n 0, 1)) rfl (lv_at hl 0 rfl) ?_
  refine lv_bipush (v := -2) hx hb (by decide +kernel : decode cX2_init 5 = .ok (.bipush (-2), 2)) (by decide) ?_
  refine va_put (D := D) (ci := 2) (v := .int (-2)) (ty := tyX2 2) (C := RX2) (T := TX2) (N := 9) hx hb hts inX2 tyX2 tyX2_ok nmX2 hown hK hP hD hS 0 rfl rfl 2 (by decide) (hts _ tw2_30) (fun _ h9 => h9) rfl (by decide +kernel) rfl rfl (Nat.le_of_ble_eq_true rfl) (by decide +kernel : decode cX2_init 7 = .ok (.putfield 9, 3)) (fun H locs hP hD hS => ?_)
  have hP : va_P D vwCl [(h0, .inr (2, [.null, .null, .int (-2), .int 0, .int 0, .int 0, .int 0, .int 0, .int 0]))] H := hP
  have hD : va_D A [(h0, .inr (2, [.null, .null, .int (-2), .int 0, .int 0, .int 0, .int 0, .int 0, .int 0]))] := hD
  refine lv_aload_n hx hb (by decide +kernel : decode cX2_init 10 = .ok (.aload_n 0, 1)) rfl (lv_at hl 0 rfl) ?_
  refine lv_bipush (v := -2) hx hb (by decide +kernel : decode cX2_init 11 = .ok (.bipush (-2), 2)) (by decide) ?_
  refine va_put (D := D) (ci := 2) (v := .int (-2)) (ty := tyX2 3) (C := RX2) (T := TX2) (N := 9) hx hb hts inX2 tyX2 tyX2_ok nmX2 hown hK hP hD hS 0 rfl rfl 3 (by decide) (hts _ tw2_32) (fun _ h9 => h9) rfl (by decide +kernel) rfl rfl (Nat.le_of_ble_eq_true rfl) (by decide +kernel : decode cX2_init 13 = .ok (.putfield 15, 3)) (fun H locs hP hD hS => ?_)
  have hP : va_P D vwCl [(h0, .inr (2, [.null, .null, .int (-2), .int (-2), .int 0, .int 0, .int 0, .int 0, .int 0]))] H := hP
  have hD : va_D A [(h0, .inr (2, [.null, .null, .int (-2), .int (-2), .int 0, .int 0, .int 0, .int 0, .int 0]))] := hD
  refine lv_aload_n hx hb (by decide +kernel : decode cX2_init 16 = .ok (.aload_n 0, 1)) rfl (lv_at hl 0 rfl) ?_
  refine lv_bipush (v := -2) hx hb (by decide +kernel : decode cX2_init 17 = .ok (.bipush (-2), 2)) (by decide) ?_
  refine va_put (D := D) (ci := 2) (v := .int (-2)) (ty := tyX2 4) (C := RX2) (T := TX2) (N := 9) hx hb hts inX2 tyX2 tyX2_ok nmX2 hown hK hP hD hS 0 rfl rfl 4 (by decide) (hts _ tw2_34) (fun _ h9 => h9) rfl (by decide +kernel) rfl rfl (Nat.le_of_ble_eq_true rfl) (by decide +kernel : decode cX2_init 19 = .ok (.putfield 18, 3)) (fun H locs hP hD hS => ?_)
  have hP : va_P D vwCl [(h0, .inr (2, [.null, .null, .int (-2), .int (-2), .int (-2), .int 0, .int 0, .int 0, .int 0]))] H := hP
  have hD : va_D A [(h0, .inr (2, [.null, .null, .int (-2), .int (-2), .int (-2), .int 0, .int 0, .int 0, .int 0]))] := hD
  refine lv_aload_n hx hb (by decide +kernel : decode cX2_init 22 = .ok (.aload_n 0, 1)) rfl (lv_at hl 0 rfl) ?_
  refine lv_iconst (v := 0) hx hb (by decide +kernel : decode cX2_init 23 = .ok (.iconst (0), 1)) (by decide) ?_
  refine va_put (D := D) (ci := 2) (v := .int 0) (ty := tyX2 5) (C := RX2) (T := TX2) (N := 9) hx hb hts inX2 tyX2 tyX2_ok nmX2 hown hK hP hD hS 0 rfl rfl 5 (by decide) (hts _ tw2_36) (fun _ h9 => h9) rfl (by decide +kernel) rfl rfl (Nat.le_of_ble_eq_true rfl) (by decide +kernel : decode cX2_init 24 = .ok (.putfield 21, 3)) (fun H locs hP hD hS => ?_)
  have hP : va_P D vwCl [(h0, .inr (2, [.null, .null, .int (-2), .int (-2), .int (-2), .int 0, .int 0, .int 0, .int 0]))] H := hP
  have hD : va_D A [(h0, .inr (2, [.null, .null, .int (-2), .int (-2), .int (-2), .int 0, .int 0, .int 0, .int 0]))] := hD
  refine lv_aload_n hx hb (by decide +kernel : decode cX2_init 27 = .ok (.aload_n 0, 1)) rfl (lv_at hl 0 rfl) ?_
  refine lv_iconst (v := 0) hx hb (by decide +kernel : decode cX2_init 28 = .ok (.iconst (0), 1)) (by decide) ?_
  refine va_put (D := D) (ci := 2) (v := .int 0) (ty := tyX2 6) (C := RX2) (T := TX2) (N := 9) hx hb hts inX2 tyX2 tyX2_ok nmX2 hown hK hP hD hS 0 rfl rfl 6 (by decide) (hts _ tw2_37) (fun _ h9 => h9) rfl (by decide +kernel) rfl rfl (Nat.le_of_ble_eq_true rfl) (by decide +kernel : decode cX2_init 29 = .ok (.putfield 24, 3)) (fun H locs hP hD hS => ?_)
  have hP : va_P D vwCl [(h0, .inr (2, [.null, .null, .int (-2), .int (-2), .int (-2), .int 0, .int 0, .int 0, .int 0]))] H := hP
  have hD : va_D A [(h0, .inr (2, [.null, .null, .int (-2), .int (-2), .int (-2), .int 0, .int 0, .int 0, .int 0]))] := hD
  refine lv_aload_n hx hb (by decide +kernel : decode cX2_init 32 = .ok (.aload_n 0, 1)) rfl (lv_at hl 0 rfl) ?_
  refine lv_iconst (v := 0) hx hb (by decide +kernel : decode cX2_init 33 = .ok (.iconst (0), 1)) (by decide) ?_
  refine va_put (D := D) (ci := 2) (v := .int 0) (ty := tyX2 7) (C := RX2) (T := TX2) (N := 9) hx hb hts inX2 tyX2 tyX2_ok nmX2 hown hK hP hD hS 0 rfl rfl 7 (by decide) (hts _ tw2_38) (fun _ h9 => h9) rfl (by decide +kernel) rfl rfl (Nat.le_of_ble_eq_true rfl) (by decide +kernel : decode cX2_init 34 = .ok (.putfield 27, 3)) (fun H locs hP hD hS => ?_)
  have hP : va_P D vwCl [(h0, .inr (2, [.null, .null, .int (-2), .int (-2), .int (-2), .int 0, .int 0, .int 0, .int 0]))] H := hP
  have hD : va_D A [(h0, .inr (2, [.null, .null, .int (-2), .int (-2), .int (-2), .int 0, .int 0, .int 0, .int 0]))] := hD
  refine lv_aload_n hx hb (by decide +kernel : decode cX2_init 37 = .ok (.aload_n 0, 1)) rfl (lv_at hl 0 rfl) ?_
  refine lv_iconst (v := 0) hx hb (by decide +kernel : decode cX2_init 38 = .ok (.iconst (0), 1)) (by decide) ?_
  refine va_put (D := D) (ci := 2) (v := .int 0) (ty := tyX2 8) (C := RX2) (T := TX2) (N := 9) hx hb hts inX2 tyX2 tyX2_ok nmX2 hown hK hP hD hS 0 rfl rfl 8 (by decide) (hts _ tw2_39) (fun _ h9 => h9) rfl (by decide +kernel) rfl rfl (Nat.le_of_ble_eq_true rfl) (by decide +kernel : decode cX2_init 39 = .ok (.putfield 30, 3)) (fun H locs hP hD hS => ?_)
  have hP : va_P D vwCl [(h0, .inr (2, [.null, .null, .int (-2), .int (-2), .int (-2), .int 0, .int 0, .int 0, .int 0]))] H := hP
  have hD : va_D A [(h0, .inr (2, [.null, .null, .int (-2), .int (-2), .int (-2), .int 0, .int 0, .int 0, .int 0]))] := hD
  refine lv_aload_n hx hb (by decide +kernel : decode cX2_init 42 = .ok (.aload_n 0, 1)) rfl (lv_at hl 0 rfl) ?_
  refine lv_aload_n hx hb (by decide +kernel : decode cX2_init 43 = .ok (.aload_n 1, 1)) rfl (lv_at hl 1 rfl) ?_
  refine va_putF (D := D) (ci := 2) (v := .ref a1) (ty := tyX2 0) (C := RX2) (T := TX2) (N := 9) hx hb hts inX2 tyX2 tyX2_ok nmX2 hown hK hP hD hS 0 rfl rfl 0 (by decide) (hts _ tw2_28) (fun _ h9 => h9) rfl hin rfl (by decide +kernel) rfl rfl (Nat.le_of_ble_eq_true rfl) (by decide +kernel : decode cX2_init 44 = .ok (.putfield 33, 3)) (fun H locs hP hD hS => ?_)
  have hP : va_P D vwCl [(h0, .inr (2, [.ref a1, .null, .int (-2), .int (-2), .int (-2), .int 0, .int 0, .int 0, .int 0]))] H := hP
  have hD : va_D A [(h0, .inr (2, [.ref a1, .null, .int (-2), .int (-2), .int (-2), .int 0, .int 0, .int 0, .int 0]))] := hD
  refine lv_aload_n hx hb (by decide +kernel : decode cX2_init 47 = .ok (.aload_n 0, 1)) rfl (lv_at hl 0 rfl) ?_
  refine lv_aload_n hx hb (by decide +kernel : decode cX2_init 48 = .ok (.aload_n 2, 1)) rfl (lv_at hl 2 rfl) ?_
  refine va_putF (D := D) (ci := 2) (v := .ref a2) (ty := tyX2 1) (C := RX2) (T := TX2) (N := 9) hx hb hts inX2 tyX2 tyX2_ok nmX2 hown hK hP hD hS 0 rfl rfl 1 (by decide) (hts _ tw2_29) (fun _ h9 => h9) rfl hin rfl (by decide +kernel) rfl rfl (Nat.le_of_ble_eq_true rfl) (by decide +kernel : decode cX2_init 49 = .ok (.putfield 37, 3)) (fun H locs hP hD hS => ?_)
  have hP : va_P D vwCl [(h0, .inr (2, [.ref a1, .ref a2, .int (-2), .int (-2), .int (-2), .int 0, .int 0, .int 0, .int 0]))] H := hP
  have hD : va_D A [(h0, .inr (2, [.ref a1, .ref a2, .int (-2), .int (-2), .int (-2), .int 0, .int 0, .int 0, .int 0]))] := hD
  exact W.vret hx hb hr (fun t ht hW => ⟨⟨(), rfl, trivial, by rw [ht]; exact hP, hD⟩, hS.F ht⟩) hS.2.2 (by decide +kernel : decode cX2_init 52 = .ok (.return_, 1)) hlocks
set_option maxRecDepth 100000 in
theorem ci_X7 (l : Launch) (D : va_G) (cA : Nat → ClassId) (h0 a1 sz : Nat) : Met l yX7_init (.code yX7_init cX7_init 2 none :: TT) { frames := 1, cells := 1, slots := 8, locals := 20 } (va_Pc [.ref h0, .ref a1] (IPre D cA [(h0, .inr (7, [.null, .null, .long 0, .int 0, .int 0, .int 0, .int 0, .int 0]))] sz)) (va_Qv (fun _ : Unit => True) (fun _ t => ∃ q7 : Nat, va_P D vwCl [(h0, .inr (7, [.ref a1, .ref q7, .long 1, .int 0, .int 0, .int 0, .int 0, .int (-2)])), (q7, .inl (cA 0, 8, .inl (fun _ => 0)))] t.heap ∧ va_D (va_A [(h0, .inr (7, [.null, .null, .long 0, .int 0, .int 0, .int 0, .int 0, .int 0]))] sz) [(h0, .inr (7, [.ref a1, .ref q7, .long 1, .int 0, .int 0, .int 0, .int 0, .int (-2)])), (q7, .inl (cA 0, 8, .inl (fun _ => 0)))]) (va_A [(h0, .inr (7, [.null, .null, .long 0, .int 0, .int 0, .int 0, .int 0, .int 0]))] sz)) 1 8 (va_A [(h0, .inr (7, [.null, .null, .long 0, .int 0, .int 0, .int 0, .int 0, .int 0]))] sz) := by
  refine Met.ofW (cc := cX7_init) (maxL := 2) (ret := none) (by decide +kernel) rfl ?_
  intro p e s m args below meth c s₁ B hml hv
  obtain ⟨rfl, hsz, hP, hK, hNw, hD0⟩ := hv
  have hx := B.exec
  have hb := B.bytes
  have hr := B.returns
  have hts0 := atoms_spec (ws := Cond.code yX7_init cX7_init 2 none :: TT) B.pre
  have hts : ∀ w ∈ TT, w.before _ s = true := fun w h => hts0 w (List.mem_cons_of_mem _ h)
  have hown : s.vm.findClass RX7 = some m.cls := findClass_of_methodNamed B.named
  have hlocks := B.notSynchronized
  have hin : meth.name = "<init>" := (name_of_methodNamed B.named B.method).1
  subst hsz
  have hD := hD0.self (sz := s.heap.size)
  generalize hAe : va_A [(h0, .inr (7, [.null, .null, .long 0, .int 0, .int 0, .int 0, .int 0, .int 0]))] s.heap.size = A at hD ⊢
  have hA : ∀ q : Nat, s.heap.size ≤ q → A q := fun q h => by rw [← hAe]; exact Or.inr h
  have hS : va_S A s.heap s.heap [] := va_S.rf
  have hP : va_P D vwCl [(h0, .inr (7, [.null, .null, .long 0, .int 0, .int 0, .int 0, .int 0, .int 0]))] s.heap := hP
  have hl := lv_entry ([.ref h0, .ref a1]) (n := 2) (Nat.le_of_ble_eq_true rfl)
  rw [lg_entry_eq]
  generalize (lg_sl ([.ref h0, .ref a1]) ++ List.replicate (2 - (lg_sl ([.ref h0, .ref a1])).length) Slot.unset).toArray = ls at hl ⊢
  have hl : lv_has ls 2 [(0, .ref h0), (1, .ref a1)] := hl
  refine lv_aload_n hx hb (by decide +kernel : decode cX7_init 0 = .ok (.aload_n 0, 1)) rfl (lv_at hl 0 rfl) ?_
  refine W.objInit hx hb hown (hts _ tw2_64) (hts _ tw1_29) (hts _ tw1_30) rfl (by rw [hml]; exact hl.1) rfl (by decide +kernel : decode cX7_init 1 = .ok (.invokespecial 3, 3)) (Nat.le_of_ble_eq_true rfl) (Nat.le_of_ble_eq_true rfl) ?_
  refine W.eq (g2 := F0 m 4 ls []) rfl ?_
  refine lv_aload_n hx hb (by decide +kernel : decode cX7_init 4 = .ok (.aload_n 0, 1)) rfl (lv_at hl 0 rfl) ?_
  refine lv_bipush (v := 8) hx hb (by decide +kernel : decode cX7_init 5 = .ok (.bipush (8), 2)) (by decide) ?_
  refine i_newa (atype := .int) (t := 0) (N' := 8) (a0 := (8, .inl (fun _ => 0))) (ty := .int) hx hb (hts _ tw1_138) rfl rfl (fun _ h => h) hK hP hD hS hA (fun _ => rfl) (by decide) (by decide) (by decide) (by decide) (by decide) (by decide +kernel : decode cX7_init 7 = .ok (.newarray .int, 2)) (fun q7 H hP hD hS => ?_)
  have hP : va_P D vwCl [(h0, .inr (7, [.null, .null, .long 0, .int 0, .int 0, .int 0, .int 0, .int 0])), (q7, .inl (cA 0, 8, .inl (fun _ => 0)))] H := hP
  have hD : va_D A [(h0, .inr (7, [.null, .null, .long 0, .int 0, .int 0, .int 0, .int 0, .int 0])), (q7, .inl (cA 0, 8, .inl (fun _ => 0)))] := hD
  refine W.widen (k := 1) (n := 8) (by omega) (by omega) ?_
  refine va_putF (D := D) (ci := 7) (v := .ref q7) (ty := tyX7 1) (C := RX7) (T := TX7) (N := 8) hx hb hts inX7 tyX7 tyX7_ok nmX7 hown hK hP hD hS 0 rfl rfl 1 (by decide) (hts _ tw2_66) (fun _ h9 => h9) rfl hin rfl (by decide +kernel) rfl rfl (Nat.le_of_ble_eq_true rfl) (by decide +kernel : decode cX7_init 9 = .ok (.putfield 9, 3)) (fun H locs hP hD hS => ?_)
  have hP : va_P D vwCl [(h0, .inr (7, [.null, .ref q7, .long 0, .int 0, .int 0, .int 0, .int 0, .int 0])), (q7, .inl (cA 0, 8, .inl (fun _ => 0)))] H := hP
  have hD : va_D A [(h0, .inr (7, [.null, .ref q7, .long 0, .int 0, .int 0, .int 0, .int 0, .int 0])), (q7, .inl (cA 0, 8, .inl (fun _ => 0)))] := hD
  refine lv_aload_n hx hb (by decide +kernel : decode cX7_init 12 = .ok (.aload_n 0, 1)) rfl (lv_at hl 0 rfl) ?_
  refine lv_lconst (v := 1) hx hb (by decide +kernel : decode cX7_init 13 = .ok (.lconst 1, 1)) rfl ?_
  refine va_put (D := D) (ci := 7) (v := .long 1) (ty := tyX7 2) (C := RX7) (T := TX7) (N := 8) hx hb hts inX7 tyX7 tyX7_ok nmX7 hown hK hP hD hS 0 rfl rfl 2 (by decide) (hts _ tw2_67) (fun _ h9 => h9) rfl (by decide +kernel) rfl rfl (Nat.le_of_ble_eq_true rfl) (by decide +kernel : decode cX7_init 14 = .ok (.putfield 15, 3)) (fun H locs hP hD hS => ?_)
  have hP : va_P D vwCl [(h0, .inr (7, [.null, .ref q7, .long 1, .int 0, .int 0, .int 0, .int 0, .int 0])), (q7, .inl (cA 0, 8, .inl (fun _ => 0)))] H := hP
  have hD : va_D A [(h0, .inr (7, [.null, .ref q7, .long 1, .int 0, .int 0, .int 0, .int 0, .int 0])), (q7, .inl (cA 0, 8, .inl (fun _ => 0)))] := hD
  refine lv_aload_n hx hb (by decide +kernel : decode cX7_init 17 = .ok (.aload_n 0, 1)) rfl (lv_at hl 0 rfl) ?_
  refine lv_iconst (v := 0) hx hb (by decide +kernel : decode cX7_init 18 = .ok (.iconst (0), 1)) (by decide) ?_
  refine va_put (D := D) (ci := 7) (v := .int 0) (ty := tyX7 3) (C := RX7) (T := TX7) (N := 8) hx hb hts inX7 tyX7 tyX7_ok nmX7 hown hK hP hD hS 0 rfl rfl 3 (by decide) (hts _ tw2_68) (fun _ h9 => h9) rfl (by decide +kernel) rfl rfl (Nat.le_of_ble_eq_true rfl) (by decide +kernel : decode cX7_init 19 = .ok (.putfield 19, 3)) (fun H locs hP hD hS => ?_)
  have hP : va_P D vwCl [(h0, .inr (7, [.null, .ref q7, .long 1, .int 0, .int 0, .int 0, .int 0, .int 0])), (q7, .inl (cA 0, 8, .inl (fun _ => 0)))] H := hP
  have hD : va_D A [(h0, .inr (7, [.null, .ref q7, .long 1, .int 0, .int 0, .int 0, .int 0, .int 0])), (q7, .inl (cA 0, 8, .inl (fun _ => 0)))] := hD
  refine lv_aload_n hx hb (by decide +kernel : decode cX7_init 22 = .ok (.aload_n 0, 1)) rfl (lv_at hl 0 rfl) ?_
  refine lv_iconst (v := 0) hx hb (by decide +kernel : decode cX7_init 23 = .ok (.iconst (0), 1)) (by decide) ?_
  refine va_put (D := D) (ci := 7) (v := .int 0) (ty := tyX7 4) (C := RX7) (T := TX7) (N := 8) hx hb hts inX7 tyX7 tyX7_ok nmX7 hown hK hP hD hS 0 rfl rfl 4 (by decide) (hts _ tw2_70) (fun _ h9 => h9) rfl (by decide +kernel) rfl rfl (Nat.le_of_ble_eq_true rfl) (by decide +kernel : decode cX7_init 24 = .ok (.putfield 23, 3)) (fun H locs hP hD hS => ?_)
  have hP : va_P D vwCl [(h0, .inr (7, [.null, .ref q7, .long 1, .int 0, .int 0, .int 0, .int 0, .int 0])), (q7, .inl (cA 0, 8, .inl (fun _ => 0)))] H := hP
  have hD : va_D A [(h0, .inr (7, [.null, .ref q7, .long 1, .int 0, .int 0, .int 0, .int 0, .int 0])), (q7, .inl (cA 0, 8, .inl (fun _ => 0)))] := hD
  refine lv_aload_n hx hb (by decide +kernel : decode cX7_init 27 = .ok (.aload_n 0, 1)) rfl (lv_at hl 0 rfl) ?_
  refine lv_iconst (v := 0) hx hb (by decide +kernel : decode cX7_init 28 = .ok (.iconst (0), 1)) (by decide) ?_
  refine va_put (D := D) (ci := 7) (v := .int 0) (ty := tyX7 5) (C := RX7) (T := TX7) (N := 8) hx hb hts inX7 tyX7 tyX7_ok nmX7 hown hK hP hD hS 0 rfl rfl 5 (by decide) (hts _ tw2_72) (fun _ h9 => h9) rfl (by decide +kernel) rfl rfl (Nat.le_of_ble_eq_true rfl) (by decide +kernel : decode cX7_init 29 = .ok (.putfield 26, 3)) (fun H locs hP hD hS => ?_)
  have hP : va_P D vwCl [(h0, .inr (7, [.null, .ref q7, .long 1, .int 0, .int 0, .int 0, .int 0, .int 0])), (q7, .inl (cA 0, 8, .inl (fun _ => 0)))] H := hP
  have hD : va_D A [(h0, .inr (7, [.null, .ref q7, .long 1, .int 0, .int 0, .int 0, .int 0, .int 0])), (q7, .inl (cA 0, 8, .inl (fun _ => 0)))] := hD
  refine lv_aload_n hx hb (by decide +kernel : decode cX7_init 32 = .ok (.aload_n 0, 1)) rfl (lv_at hl 0 rfl) ?_
  refine lv_iconst (v := 0) hx hb (by decide +kernel : decode cX7_init 33 = .ok (.iconst (0), 1)) (by decide) ?_
  refine va_put (D := D) (ci := 7) (v := .int 0) (ty := tyX7 6) (C := RX7) (T := TX7) (N := 8) hx hb hts inX7 tyX7 tyX7_ok nmX7 hown hK hP hD hS 0 rfl rfl 6 (by decide) (hts _ tw2_74) (fun _ h9 => h9) rfl (by decide +kernel) rfl rfl (Nat.le_of_ble_eq_true rfl) (by decide +kernel : decode cX7_init 34 = .ok (.putfield 29, 3)) (fun H locs hP hD hS => ?_)
  have hP : va_P D vwCl [(h0, .inr (7, [.null, .ref q7, .long 1, .int 0, .int 0, .int 0, .int 0, .int 0])), (q7, .inl (cA 0, 8, .inl (fun _ => 0)))] H := hP
  have hD : va_D A [(h0, .inr (7, [.null, .ref q7, .long 1, .int 0, .int 0, .int 0, .int 0, .int 0])), (q7, .inl (cA 0, 8, .inl (fun _ => 0)))] := hD
  refine lv_aload_n hx hb (by decide +kernel : decode cX7_init 37 = .ok (.aload_n 0, 1)) rfl (lv_at hl 0 rfl) ?_
  refine lv_bipush (v := -2) hx hb (by decide +kernel : decode cX7_init 38 = .ok (.bipush (-2), 2)) (by decide) ?_
  refine va_put (D := D) (ci := 7) (v := .int (-2)) (ty := tyX7 7) (C := RX7) (T := TX7) (N := 8) hx hb hts inX7 tyX7 tyX7_ok nmX7 hown hK hP hD hS 0 rfl rfl 7 (by decide) (hts _ tw2_76) (fun _ h9 => h9) rfl (by decide +kernel) rfl rfl (Nat.le_of_ble_eq_true rfl) (by decide +kernel : decode cX7_init 40 = .ok (.putfield 32, 3)) (fun H locs hP hD hS => ?_)
  have hP : va_P D vwCl [(h0, .inr (7, [.null, .ref q7, .long 1, .int 0, .int 0, .int 0, .int 0, .int (-2)])), (q7, .inl (cA 0, 8, .inl (fun _ => 0)))] H := hP
  have hD : va_D A [(h0, .inr (7, [.null, .ref q7, .long 1, .int 0, .int 0, .int 0, .int 0, .int (-2)])), (q7, .inl (cA 0, 8, .inl (fun _ => 0)))] := hD
  refine lv_aload_n hx hb (by decide +kernel : decode cX7_init 43 = .ok (.aload_n 0, 1)) rfl (lv_at hl 0 rfl) ?_
  refine lv_aload_n hx hb (by decide +kernel : decode cX7_init 44 = .ok (.aload_n 1, 1)) rfl (lv_at hl 1 rfl) ?_
  refine va_putF (D := D) (ci := 7) (v := .ref a1) (ty := tyX7 0) (C := RX7) (T := TX7) (N := 8) hx hb hts inX7 tyX7 tyX7_ok nmX7 hown hK hP hD hS 0 rfl rfl 0 (by decide) (hts _ tw2_65) (fun _ h9 => h9) rfl hin rfl (by decide +kernel) rfl rfl (Nat.le_of_ble_eq_true rfl) (by decide +kernel : decode cX7_init 45 = .ok (.putfield 35, 3)) (fun H locs hP hD hS => ?_)
  have hP : va_P D vwCl [(h0, .inr (7, [.ref a1, .ref q7, .long 1, .int 0, .int 0, .int 0, .int 0, .int (-2)])), (q7, .inl (cA 0, 8, .inl (fun _ => 0)))] H := hP
  have hD : va_D A [(h0, .inr (7, [.ref a1, .ref q7, .long 1, .int 0, .int 0, .int 0, .int 0, .int (-2)])), (q7, .inl (cA 0, 8, .inl (fun _ => 0)))] := hD
  exact W.vret hx hb hr (fun t ht hW => ⟨⟨(), rfl, trivial, q7, by rw [ht]; exact hP, hD⟩, hS.F ht⟩) hS.2.2 (by decide +kernel : decode cX7_init 48 = .ok (.return_, 1)) hlocks
set_option maxRecDepth 100000 in
theorem ci_X4 (l : Launch) (D : va_G) (cA : Nat → ClassId) (h0 a1 a2 sz : Nat) : Met l yX4_init (.code yX4_init cX4_init 3 none :: TT) { frames := 1, cells := 1, slots := 1800, locals := 20 } (va_Pc [.ref h0, .ref a1, .ref a2] (IPre D cA [(h0, .inr (4, [.null, .null, .null, .int 0, .int 0]))] sz)) (va_Qv (fun _ : Unit => True) (fun _ t => ∃ q8 : Nat, va_P D vwCl [(h0, .inr (4, [.ref a1, .ref a2, .ref q8, .int 0, .int 0])), (q8, .inl (cA 0, 1800, .inl (fun _ => 0)))] t.heap ∧ va_D (va_A [(h0, .inr (4, [.null, .null, .null, .int 0, .int 0]))] sz) [(h0, .inr (4, [.ref a1, .ref a2, .ref q8, .int 0, .int 0])), (q8, .inl (cA 0, 1800, .inl (fun _ => 0)))]) (va_A [(h0, .inr (4, [.null, .null, .null, .int 0, .int 0]))] sz)) 1 1800 (va_A [(h0, .inr (4, [.null, .null, .null, .int 0, .int 0]))] sz) := by
  refine Met.ofW (cc := cX4_init) (maxL := 3) (ret := none) (by decide +kernel) rfl ?_
  intro p e s m args below meth c s₁ B hml hv
  obtain ⟨rfl, hsz, hP, hK, hNw, hD0⟩ := hv
  have hx := B.exec
  have hb := B.bytes
  have hr := B.returns
  have hts0 := atoms_spec (ws := Cond.code yX4_init cX4_init 3 none :: TT) B.pre
  have hts : ∀ w ∈ TT, w.before _ s = true := fun w h => hts0 w (List.mem_cons_of_mem _ h)
  have hown : s.vm.findClass RX4 = some m.cls := findClass_of_methodNamed B.named
  have hlocks := B.notSynchronized
  have hin : meth.name = "<init>" := (name_of_methodNamed B.named B.method).1
  subst hsz
  have hD := hD0.self (sz := s.heap.size)
  generalize hAe : va_A [(h0, .inr (4, [.null, .null, .null, .int 0, .int 0]))] s.heap.size = A at hD ⊢
  have hA : ∀ q : Nat, s.heap.size ≤ q → A q := fun q h => by rw [← hAe]; exact Or.inr h
  have hS : va_S A s.heap s.heap [] := va_S.rf
  have hP : va_P D vwCl [(h0, .inr (4, [.null, .null, .null, .int 0, .int 0]))] s.heap := hP
  have hl := lv_entry ([.ref h0, .ref a1, .ref a2]) (n := 3) (Nat.le_of_ble_eq_true rfl)
  rw [lg_entry_eq]
  generalize (lg_sl ([.ref h0, .ref a1, .ref a2]) ++ List.replicate (3 - (lg_sl ([.ref h0, .ref a1, .ref a2])).length) Slot.unset).toArray = ls at hl ⊢
  have hl : lv_has ls 3 [(0, .ref h0), (1, .ref a1), (2, .ref a2)] := hl
  refine lv_aload_n hx hb (by decide +kernel : decode cX4_init 0 = .ok (.aload_n 0, 1)) rfl (lv_at hl 0 rfl) ?_
  refine W.objInit hx hb hown (hts _ tw2_100) (hts _ tw1_29) (hts _ tw1_30) rfl (by rw [hml]; exact hl.1) rfl (by decide +kernel : decode cX4_init 1 = .ok (.invokespecial 7, 3)) (Nat.le_of_ble_eq_true rfl) (Nat.le_of_ble_eq_true rfl) ?_
  refine W.eq (g2 := F0 m 4 ls []) rfl ?_
  refine lv_aload_n hx hb (by decide +kernel : decode cX4_init 4 = .ok (.aload_n 0, 1)) rfl (lv_at hl 0 rfl) ?_
  refine lv_sipush (v := 1800) hx hb (by decide +kernel : decode cX4_init 5 = .ok (.sipush (1800), 3)) (by decide) ?_
  refine i_newa (atype := .int) (t := 0) (N' := 1800) (a0 := (1800, .inl (fun _ => 0))) (ty := .int) hx hb (hts _ tw1_138) rfl rfl (fun _ h => h) hK hP hD hS hA (fun _ => rfl) (by decide) (by decide) (by decide) (by decide) (by decide) (by decide +kernel : decode cX4_init 8 = .ok (.newarray .int, 2)) (fun q8 H hP hD hS => ?_)
  have hP : va_P D vwCl [(h0, .inr (4, [.null, .null, .null, .int 0, .int 0])), (q8, .inl (cA 0, 1800, .inl (fun _ => 0)))] H := hP
  have hD : va_D A [(h0, .inr (4, [.null, .null, .null, .int 0, .int 0])), (q8, .inl (cA 0, 1800, .inl (fun _ => 0)))] := hD
  refine W.widen (k := 1) (n := 1800) (by omega) (by omega) ?_
  refine va_putF (D := D) (ci := 4) (v := .ref q8) (ty := tyX4 2) (C := RX4) (T := TX4) (N := 5) hx hb hts inX4 tyX4 tyX4_ok nmX4 hown hK hP hD hS 0 rfl rfl 2 (by decide) (hts _ tw2_103) (fun _ h9 => h9) rfl hin rfl (by decide +kernel) rfl rfl (Nat.le_of_ble_eq_true rfl) (by decide +kernel : decode cX4_init 10 = .ok (.putfield 15, 3)) (fun H locs hP hD hS => ?_)
  have hP : va_P D vwCl [(h0, .inr (4, [.null, .null, .ref q8, .int 0, .int 0])), (q8, .inl (cA 0, 1800, .inl (fun _ => 0)))] H := hP
  have hD : va_D A [(h0, .inr (4, [.null, .null, .ref q8, .int 0, .int 0])), (q8, .inl (cA 0, 1800, .inl (fun _ => 0)))] := hD
  refine lv_aload_n hx hb (by decide +kernel : decode cX4_init 13 = .ok (.aload_n 0, 1)) rfl (lv_at hl 0 rfl) ?_
  refine lv_iconst (v := 0) hx hb (by decide +kernel : decode cX4_init 14 = .ok (.iconst (0), 1)) (by decide) ?_
  refine va_put (D := D) (ci := 4) (v := .int 0) (ty := tyX4 3) (C := RX4) (T := TX4) (N := 5) hx hb hts inX4 tyX4 tyX4_ok nmX4 hown hK hP hD hS 0 rfl rfl 3 (by decide) (hts _ tw2_104) (fun _ h9 => h9) rfl (by decide +kernel) rfl rfl (Nat.le_of_ble_eq_true rfl) (by decide +kernel : decode cX4_init 15 = .ok (.putfield 19, 3)) (fun H locs hP hD hS => ?_)
  have hP : va_P D vwCl [(h0, .inr (4, [.null, .null, .ref q8, .int 0, .int 0])), (q8, .inl (cA 0, 1800, .inl (fun _ => 0)))] H := hP
  have hD : va_D A [(h0, .inr (4, [.null, .null, .ref q8, .int 0, .int 0])), (q8, .inl (cA 0, 1800, .inl (fun _ => 0)))] := hD
  refine lv_aload_n hx hb (by decide +kernel : decode cX4_init 18 = .ok (.aload_n 0, 1)) rfl (lv_at hl 0 rfl) ?_
  refine lv_iconst (v := 0) hx hb (by decide +kernel : decode cX4_init 19 = .ok (.iconst (0), 1)) (by decide) ?_
  refine va_put (D := D) (ci := 4) (v := .int 0) (ty := tyX4 4) (C := RX4) (T := TX4) (N := 5) hx hb hts inX4 tyX4 tyX4_ok nmX4 hown hK hP hD hS 0 rfl rfl 4 (by decide) (hts _ tw2_105) (fun _ h9 => h9) rfl (by decide +kernel) rfl rfl (Nat.le_of_ble_eq_true rfl) (by decide +kernel : decode cX4_init 20 = .ok (.putfield 23, 3)) (fun H locs hP hD hS => ?_)
  have hP : va_P D vwCl [(h0, .inr (4, [.null, .null, .ref q8, .int 0, .int 0])), (q8, .inl (cA 0, 1800, .inl (fun _ => 0)))] H := hP
  have hD : va_D A [(h0, .inr (4, [.null, .null, .ref q8, .int 0, .int 0])), (q8, .inl (cA 0, 1800, .inl (fun _ => 0)))] := hD
  refine lv_aload_n hx hb (by decide +kernel : decode cX4_init 23 = .ok (.aload_n 0, 1)) rfl (lv_at hl 0 rfl) ?_
  refine lv_aload_n hx hb (by decide +kernel : decode cX4_init 24 = .ok (.aload_n 1, 1)) rfl (lv_at hl 1 rfl) ?_
  refine va_putF (D := D) (ci := 4) (v := .ref a1) (ty := tyX4 0) (C := RX4) (T := TX4) (N := 5) hx hb hts inX4 tyX4 tyX4_ok nmX4 hown hK hP hD hS 0 rfl rfl 0 (by decide) (hts _ tw2_101) (fun _ h9 => h9) rfl hin rfl (by decide +kernel) rfl rfl (Nat.le_of_ble_eq_true rfl) (by decide +kernel : decode cX4_init 25 = .ok (.putfield 26, 3)) (fun H locs hP hD hS => ?_)
  have hP : va_P D vwCl [(h0, .inr (4, [.ref a1, .null, .ref q8, .int 0, .int 0])), (q8, .inl (cA 0, 1800, .inl (fun _ => 0)))] H := hP
  have hD : va_D A [(h0, .inr (4, [.ref a1, .null, .ref q8, .int 0, .int 0])), (q8, .inl (cA 0, 1800, .inl (fun _ => 0)))] := hD
  refine lv_aload_n hx hb (by decide +kernel : decode cX4_init 28 = .ok (.aload_n 0, 1)) rfl (lv_at hl 0 rfl) ?_
  refine lv_aload_n hx hb (by decide +kernel : decode cX4_init 29 = .ok (.aload_n 2, 1)) rfl (lv_at hl 2 rfl) ?_
  refine va_putF (D := D) (ci := 4) (v := .ref a2) (ty := tyX4 1) (C := RX4) (T := TX4) (N := 5) hx hb hts inX4 tyX4 tyX4_ok nmX4 hown hK hP hD hS 0 rfl rfl 1 (by decide) (hts _ tw2_102) (fun _ h9 => h9) rfl hin rfl (by decide +kernel) rfl rfl (Nat.le_of_ble_eq_true rfl) (by decide +kernel : decode cX4_init 30 = .ok (.putfield 30, 3)) (fun H locs hP hD hS => ?_)
  have hP : va_P D vwCl [(h0, .inr (4, [.ref a1, .ref a2, .ref q8, .int 0, .int 0])), (q8, .inl (cA 0, 1800, .inl (fun _ => 0)))] H := hP
  have hD : va_D A [(h0, .inr (4, [.ref a1, .ref a2, .ref q8, .int 0, .int 0])), (q8, .inl (cA 0, 1800, .inl (fun _ => 0)))] := hD
  exact W.vret hx hb hr (fun t ht hW => ⟨⟨(), rfl, trivial, q8, by rw [ht]; exact hP, hD⟩, hS.F ht⟩) hS.2.2 (by decide +kernel : decode cX4_init 33 = .ok (.return_, 1)) hlocks
