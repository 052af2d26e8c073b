/-! String.length and charAt of the JDK over the texts of the class: walks with plain values (a text's bytes lie outside the world) -/
section JDK
variable {p : Program} {l : Launch} {e : Env} {R : Room} {s : State} {m : MethodId} {args : Array Value} {below : List Frame} {meth : Method} {c : Code} {Q : State → Prop} {D : va_G} {ad adV : Nat → Nat} {cA : Nat → ClassId} {cc : ByteArray} {nL : Nat} {own : String}
theorem raw_of {y : MethodName} {maxL d : Nat} {ret : Option FieldType} {As : List Value} {w : Wd} {K : Kt} (hy : plainName y.cls = true) (ho : y.cls = own) (hw : (lg_sl As).length ≤ maxL)
    (h : ∀ (p : Program) (e : Env) (s : State) (m : MethodId) (below : List Frame) (meth : Method) (c : Code), Cx p s m As.toArray meth c D ad adV cA cc maxL own → meth.sig.returnType = ret → va_P D vwCl (Cells ad cA w) s.heap → ∀ ls : Array Slot, lv_has ls maxL (lv_args 0 As) → W p l e (rmd d) s m As.toArray below meth c s.heap [] 0 0 (MQ below (QQ D ad cA K) As.toArray s 0 0 (AA ad)) (F0 m 0 ls [])) :
    Met l y (.code y cc maxL ret :: TT) (rmd d) (va_Pc As (Inv D ad adV cA w)) (QQ D ad cA K) 0 0 (AA ad) := by
  refine Met.ofW (cc := cc) (maxL := maxL) (ret := ret) hy rfl ?_
  intro p e s m args below meth c s₁ B hml hv
  obtain ⟨rfl, hP, hK, hI, hR⟩ := hv
  have hts := atoms_spec (ws := Cond.code y cc maxL ret :: TT) B.pre
  have hown : s.vm.findClass own = some m.cls := by rw [← ho]; exact findClass_of_methodNamed B.named
  have C0 : Cx p s m As.toArray meth c D ad adV cA cc maxL own := ⟨B.exec, B.bytes, hml, hown, fun w h => hts w (List.mem_cons_of_mem _ h), hK, hI, hR, B.notSynchronized⟩
  rw [lg_entry_eq]
  exact h p e s m below meth c C0 B.returns hP _ (lv_entry As (n := maxL) hw)
theorem j_callT (C0 : Cx p s m args meth c D ad adV cA cc nL own) {pc index n dd d2 maxL k : Nat} {y : MethodName} {cc2 : ByteArray} {ret : Option FieldType} {K : Kt} {w : Wd} {H : Heap} {locs : List Loc} {ls : Array Slot} {As rest : List Value} (hk : k < 8)
    (hM : Met l y (Cond.code y cc2 maxL ret :: TT) (rmd d2) (va_Pc (.ref (ad (200 + k)) :: As) (Inv D ad adV cA w)) (QQ D ad cA K) 0 0 (AA ad)) (d : decode cc pc = .ok (.invokevirtual index, 3))
    (hy : y.cls = "java/lang/String" ∧ y.cls ≠ "java/lang/invoke/MethodHandle" ∧ y.cls ≠ "java/lang/invoke/VarHandle" ∧ (parseMethodDescriptor y.desc).map (fun d => d.parameters.length) = some n)
    (t1 : Cond.methodLink own index y ∈ TT) (t2 : Cond.instanceMethod y ∈ TT) (t3 : Cond.selects "java/lang/String" y y ∈ TT) (t4 : Cond.initialized "java/lang/String" ∈ TT) (t5 : Cond.code y cc2 maxL ret ∈ TT) (hR : R = rmd dd) (hlt : d2 + 1 ≤ dd) (hm : maxL ≤ 21)
    (hn : As.length = n) (hz : (rest.map fun v => v.category).sum ≤ 8) (hL : ls.size = nL) (hP : va_P D vwCl (Cells ad cA w) H) (hS : va_S (AA ad) s.heap H locs)
    (kk : ∀ (r : Option Value) (w1 : Wd) (H1 : Heap) (locs1 : List Loc), K r w1 → va_P D vwCl (Cells ad cA w1) H1 → va_S (AA ad) s.heap H1 locs1 → W p l e R s m args below meth c H1 locs1 0 0 Q (F0 m (pc + 3) ls ((r.map (vl ad)).toList ++ rest))) : W p l e R s m args below meth c H locs 0 0 Q (F0 m pc ls (As.reverse ++ .ref (ad (200 + k)) :: rest)) := by
  have hrun := va_runV (As := As) (rest := rest) (b := ad (200 + k)) (H := H) (locs := locs) (cells := 0) (slots := 0) (g := F0 m pc ls (As.reverse ++ .ref (ad (200 + k)) :: rest)) (e := e) (R := R) (below := below) (meth := meth) ⟨C0.1, C0.2.1, C0.2.2.1, C0.2.2.2.1, C0.2.2.2.2.1⟩ hM (cwV n C0.2.2.2.2.1 (good_V t1 t2 t3 t4 t5) rfl rfl rfl hy (room_c hR hlt hm)) ⟨blind_P, vk_recv C0.2.2.2.2.2.2.2.1.2.1 (i := k) hk hS, fun U hU hW => ⟨rfl, inv_call C0 hP hS hU hW⟩⟩ rfl hn hL rfl (by show 2 * 0 + _ ≤ 8; omega) d ⟨Nat.zero_le _, Nat.zero_le _⟩
  exact W_run hrun hS kk
theorem j_callS (C0 : Cx p s m args meth c D ad adV cA cc nL own) {pc index n dd d2 maxL : Nat} {y : MethodName} {cc2 : ByteArray} {ret : Option FieldType} {K : Kt} {w : Wd} {H : Heap} {locs : List Loc} {ls : Array Slot} {As rest : List Value}
    (hM : Met l y (Cond.code y cc2 maxL ret :: TT) (rmd d2) (va_Pc As (Inv D ad adV cA w)) (QQ D ad cA K) 0 0 (AA ad)) (d : decode cc pc = .ok (.invokestatic index, 3))
    (hy : y.cls ≠ "java/lang/invoke/MethodHandle" ∧ y.cls ≠ "java/lang/invoke/VarHandle" ∧ (parseMethodDescriptor y.desc).map (fun d => d.parameters.length) = some n)
    (t1 : Cond.methodLink own index y ∈ TT) (t2 : Cond.static y ∈ TT) (t4 : Cond.initialized y.cls ∈ TT) (t5 : Cond.code y cc2 maxL ret ∈ TT) (hR : R = rmd dd) (hlt : d2 + 1 ≤ dd) (hm : maxL ≤ 21)
    (hn : As.length = n) (hz : (rest.map fun v => v.category).sum ≤ 8) (hL : ls.size = nL) (hP : va_P D vwCl (Cells ad cA w) H) (hS : va_S (AA ad) s.heap H locs)
    (kk : ∀ (r : Option Value) (w1 : Wd) (H1 : Heap) (locs1 : List Loc), K r w1 → va_P D vwCl (Cells ad cA w1) H1 → va_S (AA ad) s.heap H1 locs1 → W p l e R s m args below meth c H1 locs1 0 0 Q (F0 m (pc + 3) ls ((r.map (vl ad)).toList ++ rest))) : W p l e R s m args below meth c H locs 0 0 Q (F0 m pc ls (As.reverse ++ rest)) := by
  have hrun := va_runS (As := As) (rest := rest) (H := H) (locs := locs) (cells := 0) (slots := 0) (g := F0 m pc ls (As.reverse ++ rest)) (e := e) (R := R) (below := below) (meth := meth) ⟨C0.1, C0.2.1, C0.2.2.1, C0.2.2.2.1, C0.2.2.2.2.1⟩ hM (va_cwS n C0.2.2.2.2.1 (good_S t1 t2 t4 t5) rfl rfl rfl hy (room_c hR hlt hm)) ⟨blind_P, fun U hU hW => ⟨rfl, inv_call C0 hP hS hU hW⟩⟩ rfl hn hL rfl (by show 2 * 0 + _ ≤ 8; omega) d ⟨Nat.zero_le _, Nat.zero_le _⟩
  exact W_run hrun hS kk
end JDK
theorem getD_in {l : List Int32} {n : Nat} (h : n < l.length) : l.getD n 0 ∈ l := by
  rw [List.getD_eq_getElem?_getD, List.getElem?_eq_getElem h]
  exact List.getElem_mem _
theorem sLen5 : ∀ k, k < 8 → sLen.getD k 0 ≤ 5 := by decide +kernel
def KV (v : Option Value) (w : Wd) : Kt := fun r w1 => r = v ∧ w1 = w
theorem sc_all : ∀ k, k < 8 → (sLen.getD k 0 = (sByt.getD k []).length ∧ ∀ b ∈ sByt.getD k [], ((b &&& 255).toUInt32 % 65536).toInt32 = b ∧ narrow .char (.int b) = .int b) := by decide +kernel
theorem jm_coder (l : Launch) (D : va_G) (ad adV : Nat → Nat) (cA : Nat → ClassId) (w : Wd) (k : Nat) (hk : k < 8) : Met l yJ0_coder_7d493 (.code yJ0_coder_7d493 cJ0_coder_7d493 1 (some .byte) :: TT) (rmd 0) (va_Pc [.ref (ad (200 + k))] (Inv D ad adV cA w)) (QQ D ad cA (KV (some (.int 0)) w)) 0 0 (AA ad) := by
  refine raw_of (own := "java/lang/String") (by decide +kernel) rfl (Nat.le_of_ble_eq_true rfl) ?_
  intro p e s m below meth c C0 hr hP ls hl
  have hl : lv_has ls 1 [(0, .ref (ad (200 + k)))] := hl
  have hS : va_S (AA ad) s.heap s.heap [] := va_S.rf
  have hZ := C0.2.2.2.2.2.2.2.1.2.2.2.2.2.1
  have hF := (C0.2.2.2.2.2.2.2.1.2.1.1 k hk).2.1
  refine va_gets C0.1 C0.2.1 hZ hS C0.2.2.2.1 (C0.2.2.2.2.1 _ tw2_235) (fun _ h => h) (by decide +kernel : decode cJ0_coder_7d493 0 = .ok (.getstatic 38, 3)) ?_
  refine lv_if_eq (tgt := 13) C0.1 C0.2.1 (by decide +kernel : decode cJ0_coder_7d493 3 = .ok (.ifCond .eq 10, 3)) (by decide) (fun z => absurd z (by decide)) (fun _ => ?_)
  refine lv_aload_n C0.1 C0.2.1 (by decide +kernel : decode cJ0_coder_7d493 6 = .ok (.aload_n 0, 1)) rfl (lv_at hl 0 rfl) ?_
  refine vk_getf C0.1 C0.2.1 hF hS C0.2.2.2.1 (C0.2.2.2.2.1 _ tw8_66) (fun _ h => h) (by decide +kernel : decode cJ0_coder_7d493 7 = .ok (.getfield 15, 3)) ?_
  refine lv_goto (tgt := 14) C0.1 C0.2.1 (by decide +kernel : decode cJ0_coder_7d493 10 = .ok (.goto 4, 3)) (by decide) ?_
  exact W.zret C0.1 C0.2.1 hr (by decide) (fun t ht hW => ⟨some (.int 0), w, ⟨rfl, rfl⟩, rfl, by rw [ht]; exact hP, hS.F ht⟩) hS.2.2 (by decide +kernel) C0.2.2.2.2.2.2.2.2
theorem jm_isLatin1 (l : Launch) (D : va_G) (ad adV : Nat → Nat) (cA : Nat → ClassId) (w : Wd) (k : Nat) (hk : k < 8) : Met l yJ0_isLatin1_aae02 (.code yJ0_isLatin1_aae02 cJ0_isLatin1_aae02 1 (some .boolean) :: TT) (rmd 0) (va_Pc [.ref (ad (200 + k))] (Inv D ad adV cA w)) (QQ D ad cA (KV (some (.int 1)) w)) 0 0 (AA ad) := by
  refine raw_of (own := "java/lang/String") (by decide +kernel) rfl (Nat.le_of_ble_eq_true rfl) ?_
  intro p e s m below meth c C0 hr hP ls hl
  have hl : lv_has ls 1 [(0, .ref (ad (200 + k)))] := hl
  have hS : va_S (AA ad) s.heap s.heap [] := va_S.rf
  have hZ := C0.2.2.2.2.2.2.2.1.2.2.2.2.2.1
  have hF := (C0.2.2.2.2.2.2.2.1.2.1.1 k hk).2.1
  refine va_gets C0.1 C0.2.1 hZ hS C0.2.2.2.1 (C0.2.2.2.2.1 _ tw2_235) (fun _ h => h) (by decide +kernel : decode cJ0_isLatin1_aae02 0 = .ok (.getstatic 38, 3)) ?_
  refine lv_if_eq (tgt := 17) C0.1 C0.2.1 (by decide +kernel : decode cJ0_isLatin1_aae02 3 = .ok (.ifCond .eq 14, 3)) (by decide) (fun z => absurd z (by decide)) (fun _ => ?_)
  refine lv_aload_n C0.1 C0.2.1 (by decide +kernel : decode cJ0_isLatin1_aae02 6 = .ok (.aload_n 0, 1)) rfl (lv_at hl 0 rfl) ?_
  refine vk_getf C0.1 C0.2.1 hF hS C0.2.2.2.1 (C0.2.2.2.2.1 _ tw8_66) (fun _ h => h) (by decide +kernel : decode cJ0_isLatin1_aae02 7 = .ok (.getfield 15, 3)) ?_
  refine lv_if_ne (tgt := 17) C0.1 C0.2.1 (by decide +kernel : decode cJ0_isLatin1_aae02 10 = .ok (.ifCond .ne 7, 3)) (by decide) (fun z => absurd rfl z) (fun _ => ?_)
  refine lv_iconst (v := 1) C0.1 C0.2.1 (by decide +kernel : decode cJ0_isLatin1_aae02 13 = .ok (.iconst 1, 1)) (by decide) ?_
  refine lv_goto (tgt := 18) C0.1 C0.2.1 (by decide +kernel : decode cJ0_isLatin1_aae02 14 = .ok (.goto 4, 3)) (by decide) ?_
  exact W.zret C0.1 C0.2.1 hr (by decide) (fun t ht hW => ⟨some (.int 1), w, ⟨rfl, rfl⟩, rfl, by rw [ht]; exact hP, hS.F ht⟩) hS.2.2 (by decide +kernel) C0.2.2.2.2.2.2.2.2
theorem jm_check0 (l : Launch) (D : va_G) (ad adV : Nat → Nat) (cA : Nat → ClassId) (w : Wd) (i n : Int32) (v : Value) (hv : v.category = 1) (h0 : ¬ i < 0) (h1 : i < n) : Met l yJ3_checkIndex_8e157 (.code yJ3_checkIndex_8e157 cJ3_checkIndex_8e157 3 (some .int) :: TT) (rmd 0) (va_Pc [.int i, .int n, v] (Inv D ad adV cA w)) (QQ D ad cA (KV (some (.int i)) w)) 0 0 (AA ad) := by
  have hs : (lg_sl [.int i, .int n, v]).length = 3 := by
    rw [lg_len]
    show 1 + (1 + (v.category + 0)) = 3
    omega
  refine raw_of (own := "jdk/internal/util/Preconditions") (by decide +kernel) rfl (by omega) ?_
  intro p e s m below meth c C0 hr hP ls hl
  have hS : va_S (AA ad) s.heap s.heap [] := va_S.rf
  have hl : lv_has ls 3 [(0, .int i), (1, .int n), (2, v)] := hl
  refine lv_iload_n C0.1 C0.2.1 (by decide +kernel : decode cJ3_checkIndex_8e157 0 = .ok (.iload_n 0, 1)) rfl (lv_at hl 0 rfl) ?_
  refine lv_if_lt (tgt := 9) C0.1 C0.2.1 (by decide +kernel : decode cJ3_checkIndex_8e157 1 = .ok (.ifCond .lt 8, 3)) (by decide) (fun z => absurd z h0) (fun _ => ?_)
  refine lv_iload_n C0.1 C0.2.1 (by decide +kernel : decode cJ3_checkIndex_8e157 4 = .ok (.iload_n 0, 1)) rfl (lv_at hl 0 rfl) ?_
  refine lv_iload_n C0.1 C0.2.1 (by decide +kernel : decode cJ3_checkIndex_8e157 5 = .ok (.iload_n 1, 1)) rfl (lv_at hl 1 rfl) ?_
  refine lv_icmp_lt (tgt := 16) C0.1 C0.2.1 (by decide +kernel : decode cJ3_checkIndex_8e157 6 = .ok (.if_icmp .lt 10, 3)) (by decide) (fun _ => ?_) (fun z => absurd h1 z)
  refine lv_iload_n C0.1 C0.2.1 (by decide +kernel : decode cJ3_checkIndex_8e157 16 = .ok (.iload_n 0, 1)) rfl (lv_at hl 0 rfl) ?_
  exact W.iret C0.1 C0.2.1 hr (fun t ht hW => ⟨some (.int i), w, ⟨rfl, rfl⟩, rfl, by rw [ht]; exact hP, hS.F ht⟩) hS.2.2 (by decide +kernel) C0.2.2.2.2.2.2.2.2
theorem jm_check1 (l : Launch) (D : va_G) (ad adV : Nat → Nat) (cA : Nat → ClassId) (w : Wd) (i n : Int32) (h0 : ¬ i < 0) (h1 : i < n) : Met l yJ0_checkIndex_df160 (.code yJ0_checkIndex_df160 cJ0_checkIndex_df160 2 none :: TT) (rmd 1) (va_Pc [.int i, .int n] (Inv D ad adV cA w)) (QQ D ad cA (KV none w)) 0 0 (AA ad) := by
  refine raw_of (own := "java/lang/String") (by decide +kernel) rfl (Nat.le_of_ble_eq_true rfl) ?_
  intro p e s m below meth c C0 hr hP ls hl
  have hS : va_S (AA ad) s.heap s.heap [] := va_S.rf
  have hl : lv_has ls 2 [(0, .int i), (1, .int n)] := hl
  refine lv_iload_n C0.1 C0.2.1 (by decide +kernel : decode cJ0_checkIndex_df160 0 = .ok (.iload_n 0, 1)) rfl (lv_at hl 0 rfl) ?_
  refine lv_iload_n C0.1 C0.2.1 (by decide +kernel : decode cJ0_checkIndex_df160 1 = .ok (.iload_n 1, 1)) rfl (lv_at hl 1 rfl) ?_
  have core : ∀ v : Value, v.category = 1 → W p l e (rmd 1) s m [Value.int i, .int n].toArray below meth c s.heap [] 0 0 (MQ below (QQ D ad cA (KV none w)) [Value.int i, .int n].toArray s 0 0 (AA ad)) (F0 m 5 ls [v, .int n, .int i]) := by
    intro v hv
    refine j_callS (As := [.int i, .int n, v]) (rest := []) C0 (jm_check0 l D ad adV cA w i n v hv h0 h1) (by decide +kernel : decode cJ0_checkIndex_df160 5 = .ok (.invokestatic 1059, 3)) (n := 3) (by decide +kernel) tw3_13 tw3_14 tw1_17 tw3_15 (dd := 1) rfl (by decide) (by decide) rfl (by decide) hl.1 hP hS (fun r w1 H1 locs1 hK hP1 hS1 => ?_)
    obtain ⟨rfl, rfl⟩ := hK
    refine lv_pop C0.1 C0.2.1 (by decide +kernel : decode cJ0_checkIndex_df160 8 = .ok (.pop, 1)) rfl ?_
    exact W.vret C0.1 C0.2.1 hr (fun t ht hW => ⟨none, w1, ⟨rfl, rfl⟩, rfl, by rw [ht]; exact hP1, hS1.F ht⟩) hS1.2.2 (by decide +kernel) C0.2.2.2.2.2.2.2.2
  rcases C0.2.2.2.2.2.2.2.1.2.2.2.2.2.2 with hZ | ⟨t, hZ⟩
  · exact va_gets C0.1 C0.2.1 hZ hS C0.2.2.2.1 (C0.2.2.2.2.1 _ tw3_11) (fun _ h => h) (by decide +kernel : decode cJ0_checkIndex_df160 2 = .ok (.getstatic 1053, 3)) (core _ rfl)
  · exact va_gets C0.1 C0.2.1 hZ hS C0.2.2.2.1 (C0.2.2.2.2.1 _ tw3_11) (fun _ h => h) (by decide +kernel : decode cJ0_checkIndex_df160 2 = .ok (.getstatic 1053, 3)) (core _ rfl)
theorem jm_latin (l : Launch) (D : va_G) (ad adV : Nat → Nat) (cA : Nat → ClassId) (w : Wd) (k : Nat) (hk : k < 8) (i : Int32) (hi : vp_in i (sLen.getD k 0)) : Met l yJ1_charAt_3b067 (.code yJ1_charAt_3b067 cJ1_charAt_3b067 2 (some .char) :: TT) (rmd 2) (va_Pc [.ref (adV k), .int i] (Inv D ad adV cA w)) (QQ D ad cA (KV (some (.int ((sByt.getD k []).getD i.toNatClampNeg 0))) w)) 0 0 (AA ad) := by
  refine raw_of (own := "java/lang/StringLatin1") (by decide +kernel) rfl (Nat.le_of_ble_eq_true rfl) ?_
  intro p e s m below meth c C0 hr hP ls hl
  have hS : va_S (AA ad) s.heap s.heap [] := va_S.rf
  have hl : lv_has ls 2 [(0, .ref (adV k)), (1, .int i)] := hl
  have hT := (C0.2.2.2.2.2.2.2.1.2.1.1 k hk).2.2.2
  have hlen := sLen5 k hk
  have h0 : ¬ i < 0 := fun z => hi (Or.inl z)
  have hlt : i.toNatClampNeg < sLen.getD k 0 := Nat.not_le.mp fun q => hi (Or.inr q)
  obtain ⟨n, hn, rfl⟩ := nI_of h0
  rw [nI_clamp hn] at hlt
  have h1 : nI n < Int32.ofNat (sLen.getD k 0) := nI_lt hlt (by omega)
  obtain ⟨ha, hb⟩ := sc_all k hk
  have hmem : (sByt.getD k []).getD n 0 ∈ sByt.getD k [] := getD_in (by omega)
  obtain ⟨hb1, hb2⟩ := hb _ hmem
  refine lv_iload_n C0.1 C0.2.1 (by decide +kernel : decode cJ1_charAt_3b067 0 = .ok (.iload_n 1, 1)) rfl (lv_at hl 1 rfl) ?_
  refine lv_aload_n C0.1 C0.2.1 (by decide +kernel : decode cJ1_charAt_3b067 1 = .ok (.aload_n 0, 1)) rfl (lv_at hl 0 rfl) ?_
  refine va_tlen C0.1 C0.2.1 hT hS rfl (by decide +kernel : decode cJ1_charAt_3b067 2 = .ok (.arraylength, 1)) ?_
  refine j_callS (As := [.int (nI n), .int (Int32.ofNat (sLen.getD k 0))]) (rest := []) C0 (jm_check1 l D ad adV cA w (nI n) _ h0 h1) (by decide +kernel : decode cJ1_charAt_3b067 3 = .ok (.invokestatic 9, 3)) (n := 2) (by decide +kernel) tw3_8 tw3_9 tw1_15 tw3_10 (dd := 2) rfl (by decide) (by decide) rfl (by decide) hl.1 hP hS (fun r w1 H1 locs1 hK hP1 hS1 => ?_)
  obtain ⟨rfl, rfl⟩ := hK
  refine lv_aload_n C0.1 C0.2.1 (by decide +kernel : decode cJ1_charAt_3b067 6 = .ok (.aload_n 0, 1)) rfl (lv_at hl 0 rfl) ?_
  refine lv_iload_n C0.1 C0.2.1 (by decide +kernel : decode cJ1_charAt_3b067 7 = .ok (.iload_n 1, 1)) rfl (lv_at hl 1 rfl) ?_
  refine va_tb C0.1 C0.2.1 hT hS1 hi rfl (by decide +kernel : decode cJ1_charAt_3b067 8 = .ok (.baload, 1)) ?_
  refine lv_sipush (v := 255) C0.1 C0.2.1 (by decide +kernel : decode cJ1_charAt_3b067 9 = .ok (.sipush 255, 3)) (by decide) ?_
  refine lv_iand C0.1 C0.2.1 (by decide +kernel : decode cJ1_charAt_3b067 12 = .ok (.iand, 1)) ?_
  rw [nI_clamp hn]
  refine lv_i2c (v := (sByt.getD k []).getD n 0) C0.1 C0.2.1 (by decide +kernel : decode cJ1_charAt_3b067 13 = .ok (.i2c, 1)) hb1 ?_
  exact W.zret C0.1 C0.2.1 hr hb2 (fun t ht hW => ⟨some (.int _), w1, ⟨rfl, rfl⟩, rfl, by rw [ht]; exact hP1, hS1.F ht⟩) hS1.2.2 (by decide +kernel) C0.2.2.2.2.2.2.2.2
theorem shr0_N {n : Nat} (hn : n < 2147483648) : nI n >>> ((0 : Int32) &&& 31) = nI n := sc_shr0 hn
theorem kJ0_length_8abf5' (l : Launch) : Okm l yJ0_length_8abf5 cJ0_length_8abf5 1 (some .int) 4 fJ0_length_8abf5 := by
  intro D ad adV cA As w K hf
  match As, hf with
  | [.ref x], hf =>
    have hf : (match isS x with | true => K (some (.int (nI (sLen.getD (x - 200) 0)))) w | false => False) := hf
    cases hx : isS x with
    | false => rw [hx] at hf; exact hf.elim
    | true =>
      rw [hx] at hf
      simp only [isS, Bool.and_eq_true] at hx
      have h1 := Nat.le_of_ble_eq_true hx.1
      have h2 := Nat.le_of_ble_eq_true hx.2
      obtain ⟨k, rfl⟩ := Nat.exists_eq_add_of_le h1
      have hk : k < 8 := by omega
      rw [Nat.add_sub_cancel_left] at hf
      have hlen := sLen5 k hk
      refine raw_of (own := "java/lang/String") (by decide +kernel) rfl (Nat.le_of_ble_eq_true rfl) ?_
      intro p e s m below meth c C0 hr hP ls hl
      have hS : va_S (AA ad) s.heap s.heap [] := va_S.rf
      have hl : lv_has ls 1 [(0, .ref (ad (200 + k)))] := hl
      have hE := C0.2.2.2.2.2.2.2.1.2.1.1 k hk
      refine lv_aload_n C0.1 C0.2.1 (by decide +kernel : decode cJ0_length_8abf5 0 = .ok (.aload_n 0, 1)) rfl (lv_at hl 0 rfl) ?_
      refine vk_getf C0.1 C0.2.1 hE.2.2.1 hS C0.2.2.2.1 (C0.2.2.2.2.1 _ tw8_65) (fun _ h => h) (by decide +kernel : decode cJ0_length_8abf5 1 = .ok (.getfield 9, 3)) ?_
      refine va_tlen C0.1 C0.2.1 hE.2.2.2 hS rfl (by decide +kernel : decode cJ0_length_8abf5 4 = .ok (.arraylength, 1)) ?_
      refine lv_aload_n C0.1 C0.2.1 (by decide +kernel : decode cJ0_length_8abf5 5 = .ok (.aload_n 0, 1)) rfl (lv_at hl 0 rfl) ?_
      refine j_callT (As := []) (rest := [.int (Int32.ofNat (sLen.getD k 0))]) (k := k) C0 hk (jm_coder l D ad adV cA w k hk) (by decide +kernel : decode cJ0_length_8abf5 6 = .ok (.invokevirtual 335, 3)) (n := 0) (by decide +kernel) tw2_231 tw2_232 tw2_233 tw1_15 tw2_234 (dd := 4) rfl (by decide) (by decide) rfl (Nat.le_of_ble_eq_true rfl) hl.1 hP hS (fun r w1 H1 locs1 hK hP1 hS1 => ?_)
      obtain ⟨rfl, rfl⟩ := hK
      refine lv_ishr C0.1 C0.2.1 (by decide +kernel : decode cJ0_length_8abf5 9 = .ok (.ishr, 1)) ?_
      have e1 : Int32.ofNat (sLen.getD k 0) >>> ((0 : Int32) &&& 31) = nI (sLen.getD k 0) := sc_shr0 (by omega)
      rw [e1]
      exact W.iret C0.1 C0.2.1 hr (fun t ht hW => ⟨some (.int _), w1, hf, rfl, by rw [ht]; exact hP1, hS1.F ht⟩) hS1.2.2 (by decide +kernel) C0.2.2.2.2.2.2.2.2
theorem kJ0_charAt_5068e' (l : Launch) : Okm l yJ0_charAt_5068e cJ0_charAt_5068e 2 (some .char) 4 fJ0_charAt_5068e := by
  intro D ad adV cA As w K hf
  match As, hf with
  | [.ref x, .int i], hf =>
    have hf : (match isS x with | true => vp_in i (sLen.getD (x - 200) 0) ∧ K (some (.int ((sByt.getD (x - 200) []).getD i.toNatClampNeg 0))) w | false => False) := hf
    cases hx : isS x with
    | false => rw [hx] at hf; exact hf.elim
    | true =>
      rw [hx] at hf
      simp only [isS, Bool.and_eq_true] at hx
      have h1 := Nat.le_of_ble_eq_true hx.1
      have h2 := Nat.le_of_ble_eq_true hx.2
      obtain ⟨k, rfl⟩ := Nat.exists_eq_add_of_le h1
      have hk : k < 8 := by omega
      rw [Nat.add_sub_cancel_left] at hf
      obtain ⟨hin, hf⟩ := hf
      refine raw_of (own := "java/lang/String") (by decide +kernel) rfl (Nat.le_of_ble_eq_true rfl) ?_
      intro p e s m below meth c C0 hr hP ls hl
      have hS : va_S (AA ad) s.heap s.heap [] := va_S.rf
      have hl : lv_has ls 2 [(0, .ref (ad (200 + k))), (1, .int i)] := hl
      have hE := C0.2.2.2.2.2.2.2.1.2.1.1 k hk
      refine lv_aload_n C0.1 C0.2.1 (by decide +kernel : decode cJ0_charAt_5068e 0 = .ok (.aload_n 0, 1)) rfl (lv_at hl 0 rfl) ?_
      refine j_callT (As := []) (rest := []) (k := k) C0 hk (jm_isLatin1 l D ad adV cA w k hk) (by decide +kernel : decode cJ0_charAt_5068e 1 = .ok (.invokevirtual 492, 3)) (n := 0) (by decide +kernel) tw3_1 tw3_2 tw3_3 tw1_15 tw3_4 (dd := 4) rfl (by decide) (by decide) rfl (by decide) hl.1 hP hS (fun r w1 H1 locs1 hK hP1 hS1 => ?_)
      obtain ⟨rfl, rfl⟩ := hK
      refine lv_if_eq (tgt := 16) C0.1 C0.2.1 (by decide +kernel : decode cJ0_charAt_5068e 4 = .ok (.ifCond .eq 12, 3)) (by decide) (fun z => absurd z (by decide)) (fun _ => ?_)
      refine lv_aload_n C0.1 C0.2.1 (by decide +kernel : decode cJ0_charAt_5068e 7 = .ok (.aload_n 0, 1)) rfl (lv_at hl 0 rfl) ?_
      refine vk_getf C0.1 C0.2.1 hE.2.2.1 hS1 C0.2.2.2.1 (C0.2.2.2.2.1 _ tw8_65) (fun _ h => h) (by decide +kernel : decode cJ0_charAt_5068e 8 = .ok (.getfield 9, 3)) ?_
      refine lv_iload_n C0.1 C0.2.1 (by decide +kernel : decode cJ0_charAt_5068e 11 = .ok (.iload_n 1, 1)) rfl (lv_at hl 1 rfl) ?_
      refine j_callS (As := [.ref (adV k), .int i]) (rest := []) C0 (jm_latin l D ad adV cA w1 k hk i hin) (by decide +kernel : decode cJ0_charAt_5068e 12 = .ok (.invokestatic 495, 3)) (n := 2) (by decide +kernel) tw3_5 tw3_6 tw1_16 tw3_7 (dd := 4) rfl (by decide) (by decide) rfl (by decide) hl.1 hP1 hS1 (fun r w2 H2 locs2 hK hP2 hS2 => ?_)
      obtain ⟨rfl, rfl⟩ := hK
      have hb2 : narrow .char (.int ((sByt.getD k []).getD i.toNatClampNeg 0)) = .int ((sByt.getD k []).getD i.toNatClampNeg 0) := by
        obtain ⟨ha, hb⟩ := sc_all k hk
        have hlt : i.toNatClampNeg < sLen.getD k 0 := Nat.not_le.mp fun q => hin (Or.inr q)
        exact (hb _ (getD_in (by omega))).2
      exact W.zret C0.1 C0.2.1 hr hb2 (fun t ht hW => ⟨some (.int _), w2, hf, rfl, by rw [ht]; exact hP2, hS2.F ht⟩) hS2.2.2 (by decide +kernel) C0.2.2.2.2.2.2.2.2
