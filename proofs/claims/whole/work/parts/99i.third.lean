/-! the third object, the loop; the law from its entry -/
section THIRD
variable {p : Program} {e : Env} {s : State} {m : MethodId} {below : List Frame} {meth : Method} {c : Code} {l : Launch} {b : Nat} {A : Nat → Prop} {D : va_G} {cA : Nat → ClassId} {Q : State → Prop}
theorem st_C (hx : p.tables.exec = Jvm.exec) (hb : c.code = code) (hml : c.maxLocals = 7) (hown : s.vm.findClass "ThrowArmsLaw" = some m.cls) (hts : ∀ w ∈ TT, w.before #[Value.ref b] s = true) (hK : va_K D vwCl (tysL cA) s) (hNw : NW s) (hA : ∀ q : Nat, s.heap.size ≤ q → A q) (hl9 : l.stackTraces = false) (hr : meth.sig.returnType = ret) (hlocks : meth.locks = false) (hA1 : ∀ q : Nat, A q → s.heap.size ≤ q) {L : Nat} {xs : Nat → Int32} (hX : va_X b L xs s s.heap) (hbl : b < s.heap.size) (hL : L ≤ 3072) {ad adV : Nat → Nat} {sa : Nat} (hRO : (∀ c, c < 53 → s.heap.size ≤ ad c) → RO ad adV s s.heap ∧ XI ad sa s) {H : Heap} {locs : List Loc} {ls : Array Slot} (hP : va_P D vwCl (wsL cA ad) H) (hD : va_D A (wsL cA ad)) (hS : va_S A s.heap H locs) (hl : lv_has ls 7 [(2, .ref (ad 41)), (1, .ref (ad 0)), (0, .ref b)]) : W p l e room_1 s m #[Value.ref b] below meth c H locs 53 7428 (lw_Z below #[Value.ref b] s) (F0 m 16 ls []) := by
  rw [wsL_eq] at hP hD
  refine lv_iconst (v := 1) hx hb (by decide +kernel : decode code 16 = .ok (.iconst 1, 1)) (by decide) ?_
  refine i_newa (atype := .long) (t := 1) (N' := 1) (a0 := (1, .inr (.inl (fun _ => 0)))) (ty := .long) hx hb (hts _ tw1_137) rfl rfl (fun _ h => h) hK hP hD hS hA (fun _ => rfl) (by decide) (by decide) (by decide) (Nat.le_of_ble_eq_true rfl) (Nat.le_of_ble_eq_true rfl) (by decide +kernel : decode code 17 = .ok (.newarray .long, 2)) (fun ql H hP hD hS => ?_)
  refine W.widen (k := 60) (n := 8000) (by omega) (by omega) ?_
  refine lv_astore_n (lv' := [(3, .ref ql), (2, .ref (ad 41)), (1, .ref (ad 0)), (0, .ref b)]) hx hb (by decide +kernel : decode code 19 = .ok (.astore_n 3, 1)) rfl hl (by decide) rfl (fun ls hl => ?_)
  refine lv_iconst (v := nI 0) hx hb (by decide +kernel : decode code 20 = .ok (.iconst 0, 1)) (by decide) ?_
  refine lv_istore (lv' := [(4, .int (nI 0)), (3, .ref ql), (2, .ref (ad 41)), (1, .ref (ad 0)), (0, .ref b)]) hx hb (by decide +kernel : decode code 21 = .ok (.istore 4, 2)) hl (by decide) rfl (fun ls hl => ?_)
  obtain ⟨hP3, hq3, hI, hge, hqg, hqA⟩ := st_fin hP hD
  have hge2 : ∀ c, c < 53 → s.heap.size ≤ ad c := fun c hc => hA1 _ (hge c hc)
  obtain ⟨hR1, hX1⟩ := hRO hge2
  refine va_forget (fun q hq => hA1 _ (hS.2.2 q hq)) ?_
  have C : LX p s m meth c D ad adV cA b L xs ql sa := ⟨⟨hx, hb, hml, hown, hts, hK, hI, hR1, hlocks⟩, hX, hbl, hge2, hA1 _ hqg, hqA, hX1, hL⟩
  have hd : HD s D ad cA b ql (6 * 0) w0 (fun _ => 0) H ls := ⟨LR_w0, hP3, ⟨hS.1, fun q h1 h2 => hS.2.1 q h1 (fun z => absurd h1 (Nat.not_lt.mpr (hA1 q z))), fun q hq => nomatch hq⟩, hq3, lv_sub hl [4, 3, 2, 1, 0] rfl⟩
  exact law_loop hl9 hr hlocks C (L + 6) 0 (by omega) (by omega) w0 (fun _ => 0) H ls hd
end THIRD
