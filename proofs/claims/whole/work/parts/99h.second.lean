/-! the reference's object -/
section SECOND
variable {p : Program} {e : Env} {s : State} {m : MethodId} {below : List Frame} {meth : Method} {c : Code} {l : Launch} {b : Nat} {A : Nat → Prop} {D : va_G} {cA : Nat → ClassId} {Q : State → Prop}
set_option maxRecDepth 100000 in
theorem st_B (hx : p.tables.exec = Jvm.exec) (hb : c.code = code) (hml : c.maxLocals = 7) (hown : s.vm.findClass "ThrowArmsLaw" = some m.cls) (hts : ∀ w ∈ TT, w.before #[Value.ref b] s = true) (hK : va_K D vwCl (tysL cA) s) (hNw : NW s) (hA : ∀ q : Nat, s.heap.size ≤ q → A q) {a0 : Nat → Nat} {H : Heap} {locs : List Loc} {ls : Array Slot} (hP : va_P D vwCl (wsA cA a0) H) (hD : va_D A (wsA cA a0)) (hS : va_S A s.heap H locs) (hl : lv_has ls 7 [(1, .ref (a0 0)), (0, .ref b)]) (kk : ∀ (a : Nat → Nat) (H : Heap) (locs : List Loc) (ls : Array Slot), va_P D vwCl (wsA cA a0 ++ wsB cA a) H → va_D A (wsA cA a0 ++ wsB cA a) → va_S A s.heap H locs → lv_has ls 7 [(2, .ref (a 0)), (1, .ref (a0 0)), (0, .ref b)] → W p l e room_1 s m #[Value.ref b] below meth c H locs 53 7428 Q (F0 m 16 ls [])) : W p l e room_1 s m #[Value.ref b] below meth c H locs 41 3333 Q (F0 m 8 ls []) := by
  refine va_new (ci := 11) (fs := [.int 0, .int 0, .int 0, .int 0, .null, .int 0, .int 0, .null, .null, .null, .null, .int 0, .int 0, .int 0, .int 0, .int 0, .int 0, .int 0, .int 0, .null, .null, .null, .null, .null, .int 0, .null, .int 0, .int 0]) (C := RX11) (T := TX11) (N := 28) hx hb hts inX11 tyX11 tyX11_ok hown (hts _ tw6_5) (hts _ tw6_6) (hts _ tw1_12) hK hP hD hS hA rfl dfX11 (Nat.le_of_ble_eq_true rfl) (Nat.le_of_ble_eq_true rfl) (by decide +kernel : decode code 8 = .ok (.new 16, 3)) (fun n0 H hP hD hS => ?_)
  refine W.widen (k := 42) (n := 3361) (by omega) (by omega) ?_
  refine lv_dup hx hb (by decide +kernel : decode code 11 = .ok (.dup, 1)) rfl ?_
  have hPc := hP.sub (ws' := [(n0, .inr (11, [.int 0, .int 0, .int 0, .int 0, .null, .int 0, .int 0, .null, .null, .null, .null, .int 0, .int 0, .int 0, .int 0, .int 0, .int 0, .int 0, .int 0, .null, .null, .null, .null, .null, .int 0, .null, .int 0, .int 0]))]) [41] rfl
  have hDc := hD.sub (ws' := [(n0, .inr (11, [.int 0, .int 0, .int 0, .int 0, .null, .int 0, .int 0, .null, .null, .null, .null, .int 0, .int 0, .int 0, .int 0, .int 0, .int 0, .int 0, .int 0, .null, .null, .null, .null, .null, .int 0, .null, .int 0, .int 0]))]) [41] (by decide) rfl
  have hFc := va_free (wc := [(n0, .inr (11, [.int 0, .int 0, .int 0, .int 0, .null, .int 0, .int 0, .null, .null, .null, .null, .int 0, .int 0, .int 0, .int 0, .int 0, .int 0, .int 0, .int 0, .null, .null, .null, .null, .null, .int 0, .null, .int 0, .int 0]))]) hD hS hA [41] rfl
  refine va_callv (va_runI (As := []) (rest := [.ref n0]) ⟨hx, hb, hml, hown, hts⟩ (ci_X11 l D cA n0 H.size) (cwI 0 hts (good_c tw6_9) rfl rfl rfl (hts _ tw1_12) (hts _ tw6_7) (hts _ tw6_8) rfl (by decide +kernel) ⟨Nat.le_of_ble_eq_true rfl, Nat.le_of_ble_eq_true rfl⟩) ⟨blind_I, fun U hU hW => ⟨rfl, by rw [hU], by rw [hU]; exact hPc, va_K.moved hW.alike hK, hNw.warm hW, hDc.weaken (fun _ _ _ _ => trivial)⟩⟩ rfl rfl hl.1 rfl (Nat.le_of_ble_eq_true rfl) (by decide +kernel : decode code 12 = .ok (.invokespecial 18, 3)) ⟨Nat.le_of_ble_eq_true rfl, Nat.le_of_ble_eq_true rfl⟩) hS (fun q _ h => hFc q h) hFc (fun u t H1 locs ht hvm hw hB hz1 hk1 hS => ?_)
  obtain ⟨n1, n2, n3, n4, n5, n6, n7, n8, n9, n10, n11, hP1, hD1⟩ := hB
  rw [ht] at hP1
  have hP1 : va_P D vwCl (wsB cA (fun k => [n0, n1, n2, n3, n4, n5, n6, n7, n8, n9, n10, n11].getD k 0)) H1 := hP1
  have hD1 : va_D (va_A [(n0, .inr (11, [.int 0, .int 0, .int 0, .int 0, .null, .int 0, .int 0, .null, .null, .null, .null, .int 0, .int 0, .int 0, .int 0, .int 0, .int 0, .int 0, .int 0, .null, .null, .null, .null, .null, .int 0, .null, .int 0, .int 0]))] H.size) (wsB cA (fun k => [n0, n1, n2, n3, n4, n5, n6, n7, n8, n9, n10, n11].getD k 0)) := hD1
  obtain ⟨a, ha⟩ : ∃ a : Nat → Nat, a = fun k => [n0, n1, n2, n3, n4, n5, n6, n7, n8, n9, n10, n11].getD k 0 := ⟨_, rfl⟩
  have ha0 : n0 = a 0 := (congrFun ha 0).symm
  rw [← ha] at hP1 hD1
  obtain ⟨hP, hD⟩ := va_join (wr := wsA cA a0) (w1 := wsB cA a) hP hD [41] [0, 1, 2, 3, 4, 5, 6, 7, 8, 9, 10, 11, 12, 13, 14, 15, 16, 17, 18, 19, 20, 21, 22, 23, 24, 25, 26, 27, 28, 29, 30, 31, 32, 33, 34, 35, 36, 37, 38, 39, 40] rfl rfl (by decide) (by decide) hk1 hFc hP1 hD1
  refine W.widen (k := 53) (n := 7428) (by omega) (by omega) ?_
  refine lv_astore_n (lv' := [(2, .ref n0), (1, .ref (a0 0)), (0, .ref b)]) hx hb (by decide +kernel : decode code 15 = .ok (.astore_n 2, 1)) rfl hl (by decide) rfl (fun ls hl => ?_)
  rw [ha0] at hl
  exact kk a H1 locs ls hP hD hS hl
end SECOND
