/-! named in the law -/
theorem LR_up {w w3 : Wd} (h : LR w) (o : Off (fun c => c = 1 ∨ c = 41) w w3) (e1 : w3.1 1 1 = w.1 1 1) (e41 : ∀ j, j ≠ 0 → w3.1 41 j = w.1 41 j) : LR w3 := by
  obtain ⟨T, L, r, nm, hR, hc, hg, hb, hn, ht⟩ := h
  have e0 := (o 0 (by decide)).1
  refine ⟨T, L, r, nm, RH_fr hR o (fun c q => by omega) (e41 6 (by decide)) (e41 24 (by decide)), ⟨by rw [e1]; exact hc.1, fun j hj => by rw [(o 2 (by decide)).1]; exact hc.2 j hj⟩, hg.off o (e41 5 (by decide)) (by decide), hb, hn.off o (by decide) (by decide) rfl, ?_, ?_, ?_⟩
  · rw [e0, e41 1 (by decide)]; exact ht.1
  · rw [e0, e41 2 (by decide)]; exact ht.2.1
  · rw [e0, e41 1 (by decide), e41 3 (by decide)]; exact ht.2.2
theorem l_named {w : Wd} (h : LR w) {x1 : Int32} : fNm x1 w (fun y w1 => fX11_named [.ref 41, .int x1] w1 (fun u w2 => u = some (.int y) ∧ fX11_thrown [.ref 41] w2 (fun t w3 => t = some (.int 0) ∧ LR w3))) (fun w1 => fX11_named [.ref 41, .int x1] w1 (fun u w2 => (∃ z : Int32, u = some (.int z)) ∧ fX11_thrown [.ref 41] w2 (fun t w3 => t = some (.int 1) ∧ LR w3))) := by
  obtain ⟨T, L, r, nm, hR, hc, hg, hb, hn, ht⟩ := id h
  have hr8 : r 0 ≤ 8 := hR.1.2.2.2.1.2.1
  have hM := hR.1.1
  have h5 : w.1 13 0 = nI (r 0) := hR.1.2.1.1
  -- the reference behind the class, over a world that differs in cell 1 alone
  have ref : ∀ w1, Off (fun c => c = 1) w w1 → w1.1 1 1 = w.1 1 1 → TPg w1 T L ∧ RM w1 r ∧ (∀ k, k < r 0 → okW (nm k) ∧ ∀ j, j < 7 → w1.1 45 (7 * k + j) = nI (nm k j)) ∧ (∀ v, LR (upI w1 41 0 v)) ∧ (∀ v u, LR (upI (upI w1 41 0 v) 41 0 u)) := by
    intro w1 o1 e1
    refine ⟨hg.off o1 (by rw [(o1 41 (by decide)).1]) (by decide), hM.off o1 (by decide), fun k hk => ⟨(hn k hk).2.1, fun j hj => by rw [(o1 45 (by decide)).1]; exact (hn k hk).2.2 j hj⟩, fun v => ?_, fun v u => ?_⟩
    · refine LR_up h ((o1.mono (fun c q => Or.inl q)).tr (Off.up (Or.inr rfl))) (by rw [upI1, if_neg (by decide)]; exact e1) (fun j hj => ?_)
      rw [upI1, if_neg (fun z => hj z.2), (o1 41 (by decide)).1]
    · have o2 : Off (fun c => c = 1 ∨ c = 41) w w1 := o1.mono (fun c q => Or.inl q)
      have o3 : Off (fun c => c = 1 ∨ c = 41) w (upI w1 41 0 v) := o2.tr (Off.up (Or.inr rfl))
      refine LR_up h (o3.tr (Off.up (Or.inr rfl))) (by rw [upI1, if_neg (by decide), upI1, if_neg (by decide)]; exact e1) (fun j hj => ?_)
      rw [upI1, if_neg (fun z => hj z.2), upI1, if_neg (fun z => hj z.2), (o1 41 (by decide)).1]
  have none : ∀ w1, Off (fun c => c = 1) w w1 → w1.1 1 1 = w.1 1 1 → (∀ k n, k < r 0 → x1 = nI n → n ≤ L → ¬ nmM T n (nm k)) → fX11_named [.ref 41, .int x1] w1 (fun u w2 => (∃ z : Int32, u = some (.int z)) ∧ fX11_thrown [.ref 41] w2 (fun t w3 => t = some (.int 1) ∧ LR w3)) := by
    intro w1 o1 e1 hno
    obtain ⟨g1, g2, g3, g4, g5⟩ := ref w1 o1 e1
    refine g_named hb.1 g1 hb.2 g2 hr8 g3 (fun _ => ⟨⟨_, rfl⟩, tX11_thrown_0 ⟨?_, g5 _ _⟩⟩) (fun k n hk hx hn2 hm _ => absurd hm (hno k n hk hx hn2))
    rw [upI1, if_pos ⟨rfl, rfl⟩]
    rfl
  have some_ : ∀ w1 k n, Off (fun c => c = 1) w w1 → w1.1 1 1 = w.1 1 1 → x1 = nI n → n ≤ L → k < r 0 → nmM T n (nm k) → (∀ i, i < k → ¬ nmM T n (nm i)) → fX11_named [.ref 41, .int x1] w1 (fun u w2 => u = some (.int (nI k)) ∧ fX11_thrown [.ref 41] w2 (fun t w3 => t = some (.int 0) ∧ LR w3)) := by
    intro w1 k n o1 e1 hx hnL hk hm hmi
    obtain ⟨g1, g2, g3, g4, g5⟩ := ref w1 o1 e1
    refine g_named hb.1 g1 hb.2 g2 hr8 g3 (fun hno => absurd hm (hno k n hk hx hnL)) (fun k2 n2 hk2 hx2 hn2 hm2 hmi2 => ?_)
    have en : n2 = n := by
      have := hx2.symm.trans hx
      exact (nI_eq (by have := hb.2; omega) (by have := hb.2; omega)).mp this
    subst en
    have ek : k2 = k := by
      rcases Nat.lt_trichotomy k2 k with q | q | q
      · exact absurd hm2 (hmi k2 q)
      · exact q
      · exact absurd hm (hmi2 k q)
    subst ek
    refine ⟨rfl, tX11_thrown_0 ⟨?_, g4 _⟩⟩
    rw [upI1, if_pos ⟨rfl, rfl⟩]
    rfl
  have hL8 := hb.2
  unfold fNm
  have out : (∀ n, n ≤ L → x1 ≠ nI n) → fX11_named [.ref 41, .int x1] w (fun u w2 => (∃ z : Int32, u = some (.int z)) ∧ fX11_thrown [.ref 41] w2 (fun t w3 => t = some (.int 1) ∧ LR w3)) := fun q => none w Off.rf rfl (fun k n _ hx hnL => absurd hx (q n hnL))
  refine tX10_within_0 ⟨fun z => ⟨_, rfl, fun _ => out (fun n hn e => ?_), fun q => absurd rfl q⟩, fun z0 => ⟨fun z => ⟨_, rfl, fun _ => out (fun n hn e => ?_), fun q => absurd rfl q⟩, fun z => ⟨_, rfl, fun q => absurd q (by decide), fun _ => ?_⟩⟩⟩
  · rw [e] at z
    exact (lt0_N (by omega)).mp z
  · rw [e, hc.1, lt_N (by omega) (by omega)] at z
    omega
  · obtain ⟨n, hn31, rfl⟩ := nI_of z0
    rw [hc.1] at z
    have hnL : n ≤ L := by
      rcases Nat.lt_or_ge L n with q | q
      · exact absurd ((lt_N (by omega) hn31).mpr q) z
      · exact q
    have hn6 : ∀ w1, Off (fun c => c = 1) w w1 → ∀ k, k < r 0 → w1.2 14 k = lN (cdU (nm k) 7) ∧ okW (nm k) := fun w1 o1 k hk => ⟨by rw [(o1 14 (by decide)).2]; exact (hn k hk).1, (hn k hk).2.1⟩
    refine c_onlyWord hb.1 hc hL8 hnL (fun hw w1 o1 e1 => ⟨_, rfl, ?_⟩) (fun hw w1 o1 e1 => ⟨_, rfl, ?_⟩)
    · refine c_armNamed0 hr8 (by rw [(o1 13 (by decide)).1]; exact h5) (hn6 w1 o1) ⟨-1, rfl, fun _ => ?_, fun q => absurd rfl q⟩
      refine none w1 o1 e1 (fun k n2 hk hx hn2 hm => ?_)
      have en : n = n2 := (nI_eq (by omega) (by omega)).mp hx
      subst en
      exact hw hm.1
    · have wd := nmT_ok (tok_wd (Nat.zero_le n) hw.1)
      refine c_armNamedT hr8 (by rw [(o1 13 (by decide)).1]; exact h5) (hn6 w1 o1) wd (fun hno => ⟨-1, rfl, fun _ => ?_, fun q => absurd rfl q⟩) (fun k hk hm hmi => ⟨_, rfl, fun q => ?_, fun _ => ?_⟩)
      · refine none w1 o1 e1 (fun k n2 hk hx hn2 hm => ?_)
        have en : n = n2 := (nI_eq (by omega) (by omega)).mp hx
        subst en
        exact hno k hk hm.2
      · have : ¬ nI k < 0 := fun z => (lt0_N (by omega)).mp z
        exact absurd (by rw [q]; decide) this
      · exact some_ w1 k n o1 e1 rfl hnL hk ⟨hw, hm⟩ (fun i hi q => hmi i hi q.2)
theorem good_SW {own : String} {y : MethodName} {cc2 : ByteArray} {maxL index : Nat} {ret : Option FieldType} {hh : List (Nat × Nat × Nat × Nat)} (t1 : Cond.methodLink own index y ∈ TT) (t2 : Cond.static y ∈ TT) (t4 : Cond.initialized y.cls ∈ TT) (t5 : Cond.codeWith y cc2 maxL ret hh ∈ TT) : GoodIn TT (va_wsS own index y (Cond.codeWith y cc2 maxL ret hh :: TT)) := by
  intro w h
  rcases List.mem_append.mp h with h | h
  · simp only [List.mem_cons, List.not_mem_nil, or_false] at h
    rcases h with h | h | h
    · rw [h]; exact TT_TT _ t1
    · rw [h]; exact TT_TT _ t2
    · rw [h]; exact TT_TT _ t4
  · rcases List.mem_cons.mp h with e | h
    · rw [e]; exact TT_TT _ t5
    · exact TT_TT w h
theorem blind_L {D : va_G} {ad adV : Nat → Nat} {cA : Nat → ClassId} {sa ql : Nat} {av : List Value} {w : Wd} {f : Nat → Int64} : FrameBlind (va_Pc av (InvL D ad adV cA sa w ql f)) := by
  intro a U g mk h
  exact ⟨h.1, (blind_N (av := av) a U g mk ⟨h.1, h.2.1⟩).2, h.2.2⟩
section LAWE
variable {p : Program} {l : Launch} {e : Env} {s : State} {m : MethodId} {below : List Frame} {meth : Method} {c : Code} {Q : State → Prop} {D : va_G} {ad adV : Nat → Nat} {cA : Nat → ClassId} {b L ql sa i k : Nat} {xs : Nat → Int32} {w : Wd} {f : Nat → Int64} {H : Heap} {ls : Array Slot}
theorem GL_run (C : LX p s m meth c D ad adV cA b L xs ql sa) {R : Room} {args : Array Value} {cells slots pc : Nat} {st0 rest : List Value} {a : Array Value} {KL : Int32 → (Nat → Int64) → Wd → Prop} (hr : vx_Run p l e R s m args below meth c H [] cells slots 1 6 (F0 m pc ls st0) rest (QL D ad cA ql KL a) (fun _ _ _ => False) (AL ad ql)) (hS : va_S (AA ad) s.heap H [])
    (kk : ∀ (k1 : Int32) (f1 : Nat → Int64) (w1 : Wd) (H1 : Heap), KL k1 f1 w1 → va_P D vwCl (Cells ad cA w1) H1 → H1[ql]? = some (cellL cA f1) → va_S (AA ad) s.heap H1 [] → W p l e R s m args below meth c H1 [] (cells + 1) (slots + 6) Q (F0 m (pc + 3) ls (.int k1 :: rest))) : W p l e R s m args below meth c H [] cells slots Q (F0 m pc ls st0) := by
  intro T hT X
  rcases hr T hT X with ⟨v, st₀, t, T', L9, h0, X', hL, e1, e2, ⟨k1, f1, w1, hK, hv, hP1, hq1, hz, hk⟩, st⟩ | ⟨q, st₀, t, T', L9, E, ce, h0, X', hL, e1, e2, hF, hce, hcv, hcl, st⟩
  · have hv2 : v = some (.int k1) := by
      injection hv
    subst hv2
    rw [h0] at hz hk
    have hS1 : va_S (AA ad) s.heap T'.heap [] := ⟨Nat.le_trans hS.1 (by rw [e1]; exact hz), fun q h1 h2 => by
      rw [e1, hk q (Nat.lt_of_lt_of_le h1 hS.1) (fun z => z.elim h2 (fun y => by have := C.2.2.2.2.1; omega))]
      exact hS.2.1 q h1 h2, fun q hq => nomatch hq⟩
    have Z := Stand.forget (locs := []) X' (fun y hy => by
      rcases hL y (by simpa using hy) with h | h
      · exact C.fr h
      · rw [h]; exact C.2.2.2.2.1)
    obtain ⟨t2, a1, b1⟩ := kk k1 f1 w1 T'.heap hK (by rw [e1]; exact hP1) (by rw [e1]; exact hq1) hS1 T' rfl Z
    exact ⟨t2, st t2 a1, b1⟩
  · exact hF.elim
theorem lc_end2 (C : LX p s m meth c D ad adV cA b L xs ql sa) (nx : NX p l e s m below meth c D ad cA b ql i (k + 1) 1891) {w2 : Wd} {H2 : Heap} {locs2 : List Loc} (h0 : H2[ql]? = some (cellL cA f)) (hLR : LR w2) (hP : va_P D vwCl (Cells ad cA w2) H2) (hS : va_S (AA ad) s.heap H2 locs2) (hl : lv_has ls 7 (lvs5 ad b ql i)) :
    W p l e room_1 s m #[Value.ref b] below meth c H2 locs2 (60 + k + 1) (8000 + 6 * k + 6) (lw_Z below #[Value.ref b] s) (F0 m 1891 ls []) := by
  refine va_forget (fun q hq => C.fr (hS.2.2 q hq)) ?_
  refine W.widen (k := 60 + (k + 1)) (n := 8000 + 6 * (k + 1)) (by omega) (by omega) ?_
  exact nx w2 f H2 ls ⟨hLR, hP, ⟨hS.1, hS.2.1, fun q hq => nomatch hq⟩, h0, hl⟩
theorem W_table {cc : ByteArray} {R : Room} {args : Array Value} {locs : List Loc} {cells slots : Nat} {rest : List Value} (hexec : p.tables.exec = Jvm.exec) (hb : c.code = cc) {pc : Nat} {df lo hi : Int} {offs : Array Int} {len dt : Nat} {tg : List Nat} {x : Int32} (d : decode cc pc = .ok (.tableswitch df lo hi offs, len)) (hd : (pc : Int) + df = (dt : Int)) (hl : lo + (offs.size : Int) = hi + 1) (hg : offs.toList.map (fun x => (pc : Int) + x) = tg.map (fun (x : Nat) => (x : Int)))
    (h1 : W p l e R s m args below meth c H locs cells slots Q (F0 m dt ls rest)) (h2 : ∀ (j t : Nat), tg[j]? = some t → W p l e R s m args below meth c H locs cells slots Q (F0 m t ls rest)) : W p l e R s m args below meth c H locs cells slots Q (F0 m pc ls (.int x :: rest)) := by
  by_cases z : x.toInt < lo ∨ hi < x.toInt
  · exact lv_tableOut hexec hb d z hd h1
  · have z1 : ¬ x.toInt < lo := fun q => z (Or.inl q)
    have z2 : ¬ hi < x.toInt := fun q => z (Or.inr q)
    have hk : (x.toInt - lo).toNat < offs.size := by omega
    obtain ⟨off, ho⟩ : ∃ off, offs[(x.toInt - lo).toNat]? = some off := ⟨_, Array.getElem?_eq_getElem hk⟩
    have e1 : (offs.toList.map (fun x => (pc : Int) + x))[(x.toInt - lo).toNat]? = some ((pc : Int) + off) := by
      rw [List.getElem?_map, Array.getElem?_toList, ho]
      rfl
    rw [hg, List.getElem?_map] at e1
    cases ht : tg[(x.toInt - lo).toNat]? with
    | none => rw [ht] at e1; cases e1
    | some t =>
      rw [ht] at e1
      have e2 : (t : Int) = (pc : Int) + off := Option.some.inj e1
      exact lv_tableIn hexec hb d z1 z2 ho e2.symm (h2 _ t ht)
theorem lc_named (hl9 : l.stackTraces = false) (C : LX p s m meth c D ad adV cA b L xs ql sa) (hi : i + 6 ≤ L) (hk : k ≤ 512) (nx : NX p l e s m below meth c D ad cA b ql i (k + 1) 1891) (h : HD s D ad cA b ql i w f H ls) : W p l e room_1 s m #[Value.ref b] below meth c H [] (60 + k) (8000 + 6 * k) (lw_Z below #[Value.ref b] s) (F0 m 1809 ls []) := by
  obtain ⟨hLR, hP, hS, hq, hl⟩ := h
  have hx := C.1.1
  have hb := C.1.2.1
  have hrc0 : 60 + k + 1 ≤ room_1.cells ∧ 8000 + 6 * k + 6 ≤ room_1.slots := ⟨by show 60 + k + 1 ≤ 601024; omega, by show 8000 + 6 * k + 6 ≤ 7293034; omega⟩
  have hrc := hrc0
  refine lv_aload_n hx hb (by decide +kernel : decode code 1809 = .ok (.aload_n 1, 1)) rfl (lv_at hl 1 rfl) ?_
  refine ld C (j := 1) (n := 1) (by decide +kernel : decode code 1810 = .ok (.aload_n 0, 1)) (by decide +kernel : decode code 1811 = .ok (.iload 4, 2)) (by decide +kernel : decode code 1813 = .ok (.iconst 1, 1)) (by decide +kernel : decode code 1814 = .ok (.iadd, 1)) (by decide +kernel : decode code 1815 = .ok (.iaload, 1)) rfl (by omega) hS hl ?_
  refine lv_aload_n hx hb (by decide +kernel : decode code 1816 = .ok (.aload_n 3, 1)) rfl (lv_at hl 3 rfl) ?_
  refine GL_run C (vx_runSX (As := [.ref (ad 0), .int (xs (i + 1)), .ref ql]) (rest := []) ⟨C.1.1, C.1.2.1, C.1.2.2.1, C.1.2.2.2.1, C.1.2.2.2.2.1⟩ (k_lnamed l hl9 D ad adV cA sa w (xs (i + 1)) _ _ (l_named hLR) ql f) (vx_cwSW 3 C.1.2.2.2.2.1 (good_SW tw5_165 tw5_166 tw1_0 tw_cw) rfl rfl rfl (by decide +kernel) (by decide)) ⟨blind_L, fun U hU hW => ⟨rfl, ⟨inv_call C.1 hP hS hU hW, C.2.2.2.2.2.2.1.call hS hU hW⟩, by rw [hU]; exact hq, C.2.2.2.2.2.1⟩⟩ rfl rfl hl.1 rfl (Nat.le_of_ble_eq_true rfl) (by decide +kernel : decode code 1817 = .ok (.invokestatic 203, 3)) hrc0) hS (fun k1 f1 w1 H1 hK1 hP1 hq1 hS1 => ?_)
  refine lv_istore (lv' := [(5, .int k1), (0, .ref b), (1, .ref (ad 0)), (2, .ref (ad 41)), (3, .ref ql), (4, .int (nI i))]) hx hb (by decide +kernel : decode code 1820 = .ok (.istore 5, 2)) hl (by decide) rfl (fun ls hl5 => ?_)
  have hl : lv_has ls 7 (lvs5 ad b ql i) := lv_sub hl5 [1, 2, 3, 4, 5] rfl
  refine lv_aload_n hx hb (by decide +kernel : decode code 1822 = .ok (.aload_n 2, 1)) rfl (lv_at hl 2 rfl) ?_
  refine ld C (j := 1) (n := 1) (by decide +kernel : decode code 1823 = .ok (.aload_n 0, 1)) (by decide +kernel : decode code 1824 = .ok (.iload 4, 2)) (by decide +kernel : decode code 1826 = .ok (.iconst 1, 1)) (by decide +kernel : decode code 1827 = .ok (.iadd, 1)) (by decide +kernel : decode code 1828 = .ok (.iaload, 1)) rfl (by omega) hS1 hl ?_
  rcases hK1 with ⟨rfl, hX1⟩ | ⟨rfl, y, hy, hf1⟩
  · refine gc_V (ci := 11) (x := 41) (As := [.int (xs (i + 1))]) (rest := []) C.1 (kX11_named l) (by decide +kernel : decode code 1829 = .ok (.invokevirtual 208, 3)) rfl qX11_named tw8_37 tw8_38 tw8_39 tw1_12 tw8_40 (by decide) hrc rfl rfl (Nat.le_of_ble_eq_true rfl) hl.1 hP1 hS1 hX1 (fun u w2 H2 locs2 hK2 hP2 hS2 st2 => ?_)
    obtain ⟨⟨z, rfl⟩, hT⟩ := hK2
    refine lv_istore (lv' := [(6, .int z), (5, .int 1), (0, .ref b), (1, .ref (ad 0)), (2, .ref (ad 41)), (3, .ref ql), (4, .int (nI i))]) hx hb (by decide +kernel : decode code 1832 = .ok (.istore 6, 2)) hl5 (by decide) rfl (fun ls hl6 => ?_)
    have hl : lv_has ls 7 (lvs5 ad b ql i) := lv_sub hl6 [2, 3, 4, 5, 6] rfl
    refine lv_aload_n hx hb (by decide +kernel : decode code 1834 = .ok (.aload_n 2, 1)) rfl (lv_at hl 2 rfl) ?_
    refine gc_V (ci := 11) (x := 41) (As := []) (rest := []) C.1 (kX11_thrown l) (by decide +kernel : decode code 1835 = .ok (.invokevirtual 209, 3)) rfl qX11_thrown tw6_96 tw6_97 tw6_98 tw1_12 tw6_99 (by decide) hrc rfl rfl (Nat.le_of_ble_eq_true rfl) hl.1 hP2 hS2 hT (fun t w3 H3 locs3 hK3 hP3 hS3 st3 => ?_)
    obtain ⟨rfl, hLR3⟩ := hK3
    have hq3 : H3[ql]? = some (cellL cA f1) := by rw [(st2.tr st3).2 ql (Array.getElem?_eq_some_iff.mp hq1).1 C.2.2.2.2.2.1]; exact hq1
    refine lv_iload hx hb (by decide +kernel : decode code 1838 = .ok (.iload 5, 2)) (lv_at hl6 1 rfl) ?_
    refine lv_icmp_eq (tgt := 1845) hx hb (by decide +kernel : decode code 1840 = .ok (.if_icmp .eq 5, 3)) (by decide) (fun _ => ?_) (fun z => absurd rfl z)
    refine lv_iload hx hb (by decide +kernel : decode code 1845 = .ok (.iload 5, 2)) (lv_at hl6 1 rfl) ?_
    refine lv_if_ne (tgt := 1862) hx hb (by decide +kernel : decode code 1847 = .ok (.ifCond .ne 15, 3)) (by decide) (fun _ => ?_) (fun z => absurd z (by decide))
    refine lv_goto (tgt := 1891) hx hb (by decide +kernel : decode code 1862 = .ok (.goto 29, 3)) (by decide) ?_
    exact lc_end2 C nx hq3 hLR3 hP3 hS3 hl
  · refine gc_V (ci := 11) (x := 41) (As := [.int (xs (i + 1))]) (rest := []) C.1 (kX11_named l) (by decide +kernel : decode code 1829 = .ok (.invokevirtual 208, 3)) rfl qX11_named tw8_37 tw8_38 tw8_39 tw1_12 tw8_40 (by decide) hrc rfl rfl (Nat.le_of_ble_eq_true rfl) hl.1 hP1 hS1 hy (fun u w2 H2 locs2 hK2 hP2 hS2 st2 => ?_)
    obtain ⟨rfl, hT⟩ := hK2
    refine lv_istore (lv' := [(6, .int y), (5, .int 0), (0, .ref b), (1, .ref (ad 0)), (2, .ref (ad 41)), (3, .ref ql), (4, .int (nI i))]) hx hb (by decide +kernel : decode code 1832 = .ok (.istore 6, 2)) hl5 (by decide) rfl (fun ls hl6 => ?_)
    have hl : lv_has ls 7 (lvs5 ad b ql i) := lv_sub hl6 [2, 3, 4, 5, 6] rfl
    refine lv_aload_n hx hb (by decide +kernel : decode code 1834 = .ok (.aload_n 2, 1)) rfl (lv_at hl 2 rfl) ?_
    refine gc_V (ci := 11) (x := 41) (As := []) (rest := []) C.1 (kX11_thrown l) (by decide +kernel : decode code 1835 = .ok (.invokevirtual 209, 3)) rfl qX11_thrown tw6_96 tw6_97 tw6_98 tw1_12 tw6_99 (by decide) hrc rfl rfl (Nat.le_of_ble_eq_true rfl) hl.1 hP2 hS2 hT (fun t w3 H3 locs3 hK3 hP3 hS3 st3 => ?_)
    obtain ⟨rfl, hLR3⟩ := hK3
    have hq3 : H3[ql]? = some (cellL cA f1) := by rw [(st2.tr st3).2 ql (Array.getElem?_eq_some_iff.mp hq1).1 C.2.2.2.2.2.1]; exact hq1
    refine lv_iload hx hb (by decide +kernel : decode code 1838 = .ok (.iload 5, 2)) (lv_at hl6 1 rfl) ?_
    refine lv_icmp_eq (tgt := 1845) hx hb (by decide +kernel : decode code 1840 = .ok (.if_icmp .eq 5, 3)) (by decide) (fun _ => ?_) (fun z => absurd rfl z)
    refine lv_iload hx hb (by decide +kernel : decode code 1845 = .ok (.iload 5, 2)) (lv_at hl6 1 rfl) ?_
    refine lv_if_ne (tgt := 1862) hx hb (by decide +kernel : decode code 1847 = .ok (.ifCond .ne 15, 3)) (by decide) (fun z => absurd rfl z) (fun _ => ?_)
    refine lv_aload_n hx hb (by decide +kernel : decode code 1850 = .ok (.aload_n 3, 1)) rfl (lv_at hl 3 rfl) ?_
    refine lv_iconst (v := 0) hx hb (by decide +kernel : decode code 1851 = .ok (.iconst 0, 1)) (by decide) ?_
    have hPq : va_P D vwCl [(ql, .inl (cA 1, 1, .inr (.inl f1)))] H3 := ext_P (ws := []) (fun k q h => by cases h) hq3
    refine va_lald (D := D) (cl := vwCl) (tys := tysL cA) (cA := cA 1) (n := 1) (f := f1) hx hb C.1.2.2.2.2.2.1 hPq 0 1 rfl rfl (i := 0) (vp_in_nI (n := 0) (N := 1) (by decide) (by decide)) (by decide +kernel : decode code 1852 = .ok (.laload, 1)) ?_
    refine lv_iload hx hb (by decide +kernel : decode code 1853 = .ok (.iload 6, 2)) (lv_at hl6 0 rfl) ?_
    refine lv_i2l hx hb (by decide +kernel : decode code 1855 = .ok (.i2l, 1)) rfl ?_
    refine W.lcmp hx hb (by decide +kernel : decode code 1856 = .ok (.lcmp, 1)) ?_
    have e0 : lg_cmp (f1 (0 : Int32).toNatClampNeg) y.toInt64 = 0 := by
      show lg_cmp (f1 0) y.toInt64 = 0
      rw [hf1]
      exact lg_cmp_rf _
    refine lv_if_eq (tgt := 1862) hx hb (by decide +kernel : decode code 1857 = .ok (.ifCond .eq 5, 3)) (by decide) (fun _ => ?_) (fun z => absurd e0 z)
    refine lv_goto (tgt := 1891) hx hb (by decide +kernel : decode code 1862 = .ok (.goto 29, 3)) (by decide) ?_
    exact lc_end2 C nx hq3 hLR3 hP3 hS3 hl
theorem d_tab : decode code 40 = .ok (.tableswitch 1851 0 46 #[204, 277, 302, 315, 328, 353, 390, 427, 452, 501, 514, 551, 600, 637, 686, 723, 748, 797, 834, 883, 932, 945, 970, 1007, 1044, 1069, 1094, 1147, 1172, 1197, 1235, 1272, 1321, 1398, 1435, 1484, 1545, 1558, 1583, 1596, 1633, 1682, 1719, 1756, 1769, 1825, 1838], 204) := by decide +kernel
def tgL : List Nat := [244, 317, 342, 355, 368, 393, 430, 467, 492, 541, 554, 591, 640, 677, 726, 763, 788, 837, 874, 923, 972, 985, 1010, 1047, 1084, 1109, 1134, 1187, 1212, 1237, 1275, 1312, 1361, 1438, 1475, 1524, 1585, 1598, 1623, 1636, 1673, 1722, 1759, 1796, 1809, 1865, 1878]
theorem law_case (hl9 : l.stackTraces = false) (C : LX p s m meth c D ad adV cA b L xs ql sa) (hi : i + 6 ≤ L) (hk : k ≤ 512) (nx : NX p l e s m below meth c D ad cA b ql i (k + 1) 1891) (h : HD s D ad cA b ql i w f H ls) : ∀ (j t : Nat), tgL[j]? = some t → W p l e room_1 s m #[Value.ref b] below meth c H [] (60 + k) (8000 + 6 * k) (lw_Z below #[Value.ref b] s) (F0 m t ls []) := by
  intro j t hj
  have hlt : j < 47 := (List.getElem?_eq_some_iff.mp hj).1
  match j, hlt, hj with
  | 0, _, hj => have e : t = 244 := (Option.some.inj hj).symm; subst e; exact lc_feed C hi hk nx h
  | 1, _, hj => have e : t = 317 := (Option.some.inj hj).symm; subst e; exact lc_text C hi hk nx h
  | 2, _, hj => have e : t = 342 := (Option.some.inj hj).symm; subst e; exact lc_fault C hi hk nx h
  | 3, _, hj => have e : t = 355 := (Option.some.inj hj).symm; subst e; exact lc_where C hi hk nx h
  | 4, _, hj => have e : t = 368 := (Option.some.inj hj).symm; subst e; exact lc_about C hi hk nx h
  | 5, _, hj => have e : t = 393 := (Option.some.inj hj).symm; subst e; exact lc_arm C hi hk nx h
  | 6, _, hj => have e : t = 430 := (Option.some.inj hj).symm; subst e; exact lc_game C hi hk nx h
  | 7, _, hj => have e : t = 467 := (Option.some.inj hj).symm; subst e; exact lc_rest C hi hk nx h
  | 8, _, hj => have e : t = 492 := (Option.some.inj hj).symm; subst e; exact lc_outing C hi hk nx h
  | 9, _, hj => have e : t = 541 := (Option.some.inj hj).symm; subst e; exact lc_value C hi hk nx h
  | 10, _, hj => have e : t = 554 := (Option.some.inj hj).symm; subst e; exact lc_points C hi hk nx h
  | 11, _, hj => have e : t = 591 := (Option.some.inj hj).symm; subst e; exact lc_worth C hi hk nx h
  | 12, _, hj => have e : t = 640 := (Option.some.inj hj).symm; subst e; exact lc_most C hi hk nx h
  | 13, _, hj => have e : t = 677 := (Option.some.inj hj).symm; subst e; exact lc_when C hi hk nx h
  | 14, _, hj => have e : t = 726 := (Option.some.inj hj).symm; subst e; exact lc_ranked C hi hk nx h
  | 15, _, hj => have e : t = 763 := (Option.some.inj hj).symm; subst e; exact lc_extra C hi hk nx h
  | 16, _, hj => have e : t = 788 := (Option.some.inj hj).symm; subst e; exact lc_clash C hi hk nx h
  | 17, _, hj => have e : t = 837 := (Option.some.inj hj).symm; subst e; exact lc_best C hi hk nx h
  | 18, _, hj => have e : t = 874 := (Option.some.inj hj).symm; subst e; exact lc_bestOf C hi hk nx h
  | 19, _, hj => have e : t = 923 := (Option.some.inj hj).symm; subst e; exact lc_pair C hi hk nx h
  | 20, _, hj => have e : t = 972 := (Option.some.inj hj).symm; subst e; exact lc_breaches C hi hk nx h
  | 21, _, hj => have e : t = 985 := (Option.some.inj hj).symm; subst e; exact lc_breach C hi hk nx h
  | 22, _, hj => have e : t = 1010 := (Option.some.inj hj).symm; subst e; exact lc_work C hi hk nx h
  | 23, _, hj => have e : t = 1047 := (Option.some.inj hj).symm; subst e; exact lc_busiest C hi hk nx h
  | 24, _, hj => have e : t = 1084 := (Option.some.inj hj).symm; subst e; exact lc_idle C hi hk nx h
  | 25, _, hj => have e : t = 1109 := (Option.some.inj hj).symm; subst e; exact lc_gap C hi hk nx h
  | 26, _, hj => have e : t = 1134 := (Option.some.inj hj).symm; subst e; exact lc_hands C hi hk nx h
  | 27, _, hj => have e : t = 1187 := (Option.some.inj hj).symm; subst e; exact lc_bare C hi hk nx h
  | 28, _, hj => have e : t = 1212 := (Option.some.inj hj).symm; subst e; exact lc_risk C hi hk nx h
  | 29, _, hj => have e : t = 1237 := (Option.some.inj hj).symm; subst e; exact lc_sound C hi hk nx h
  | 30, _, hj => have e : t = 1275 := (Option.some.inj hj).symm; subst e; exact lc_season C hi hk nx h
  | 31, _, hj => have e : t = 1312 := (Option.some.inj hj).symm; subst e; exact lc_span C hi hk nx h
  | 32, _, hj => have e : t = 1361 := (Option.some.inj hj).symm; subst e; exact lc_put C hi hk nx h
  | 33, _, hj => have e : t = 1438 := (Option.some.inj hj).symm; subst e; exact lc_take C hi hk nx h
  | 34, _, hj => have e : t = 1475 := (Option.some.inj hj).symm; subst e; exact lc_shift C hi hk nx h
  | 35, _, hj => have e : t = 1524 := (Option.some.inj hj).symm; subst e; exact lc_swap C hi hk nx h
  | 36, _, hj => have e : t = 1585 := (Option.some.inj hj).symm; subst e; exact lc_better C hi hk nx h
  | 37, _, hj => have e : t = 1598 := (Option.some.inj hj).symm; subst e; exact lc_fill C hi hk nx h
  | 38, _, hj => have e : t = 1623 := (Option.some.inj hj).symm; subst e; exact lc_fillAll C hi hk nx h
  | 39, _, hj => have e : t = 1636 := (Option.some.inj hj).symm; subst e; exact lc_laid C hi hk nx h
  | 40, _, hj => have e : t = 1673 := (Option.some.inj hj).symm; subst e; exact lc_become C hi hk nx h
  | 41, _, hj => have e : t = 1722 := (Option.some.inj hj).symm; subst e; exact lc_rule C hi hk nx h
  | 42, _, hj => have e : t = 1759 := (Option.some.inj hj).symm; subst e; exact lc_rests C hi hk nx h
  | 43, _, hj => have e : t = 1796 := (Option.some.inj hj).symm; subst e; exact lc_undo C hi hk nx h
  | 44, _, hj => have e : t = 1809 := (Option.some.inj hj).symm; subst e; exact lc_named hl9 C hi hk nx h
  | 45, _, hj => have e : t = 1865 := (Option.some.inj hj).symm; subst e; exact lc_size C hi hk nx h
  | 46, _, hj => have e : t = 1878 := (Option.some.inj hj).symm; subst e; exact lc_trouble C hi hk nx h
  | n + 47, h, _ => exact absurd h (by omega)
theorem head_cmp {L a : Nat} (hL : L ≤ 3072) (ha : a ≤ 4000) (h : ¬ nI L - nI 6 < nI a) : a + 6 ≤ L := by
  by_cases q : 6 ≤ L
  · rw [sub_N q, lt_N (by omega) (by omega)] at h
    omega
  · exfalso
    refine h ?_
    have h0 : nI 0 ≤ nI a := (le_N (by omega) (by omega)).mpr (Nat.zero_le _)
    have h1 : nI L - nI 6 < nI 0 := by
      rcases (show L = 0 ∨ L = 1 ∨ L = 2 ∨ L = 3 ∨ L = 4 ∨ L = 5 by omega) with e | e | e | e | e | e <;> rw [e] <;> decide
    exact Int32.lt_of_lt_of_le h1 h0
theorem law_loop (hl9 : l.stackTraces = false) (hr : meth.sig.returnType = ret) (hlk : meth.locks = false) (C : LX p s m meth c D ad adV cA b L xs ql sa) : ∀ (n k : Nat), L + 6 ≤ 6 * (k + n) → k ≤ 513 → NX p l e s m below meth c D ad cA b ql (6 * k) k 23 := by
  have hL := C.2.2.2.2.2.2.2
  have hx := C.1.1
  have hb := C.1.2.1
  intro n
  induction n with
  | zero =>
    intro k h1 h2 w f H ls hd
    obtain ⟨hLR, hP, hS, hq, hl⟩ := hd
    refine lv_iload hx hb (by decide +kernel : decode code 23 = .ok (.iload 4, 2)) (lv_at hl 4 rfl) ?_
    refine lv_aload_n hx hb (by decide +kernel : decode code 25 = .ok (.aload_n 0, 1)) rfl (lv_at hl 0 rfl) ?_
    refine va_slen hx hb C.2.1 C.2.2.1 C.bA hS (by decide +kernel : decode code 26 = .ok (.arraylength, 1)) ?_
    refine lv_bipush (v := nI 6) hx hb (by decide +kernel : decode code 27 = .ok (.bipush 6, 2)) (by decide) ?_
    refine lv_isub hx hb (by decide +kernel : decode code 29 = .ok (.isub, 1)) ?_
    refine lv_icmp_gt (tgt := 1897) hx hb (by decide +kernel : decode code 30 = .ok (.if_icmp .gt 1867, 3)) (by decide) (fun z => ?_) (fun z => ?_)
    · refine lv_iconst (v := 1) hx hb (by decide +kernel : decode code 1897 = .ok (.iconst 1, 1)) (by decide) ?_
      refine W.widen (k := 601024) (n := 7293034) (by omega) (by omega) ?_
      exact lw_ret hx hb hr hlk (by decide +kernel)
    · have := head_cmp hL (by omega) z
      omega
  | succ n ih =>
    intro k h1 h2 w f H ls hd
    obtain ⟨hLR, hP, hS, hq, hl⟩ := id hd
    refine lv_iload hx hb (by decide +kernel : decode code 23 = .ok (.iload 4, 2)) (lv_at hl 4 rfl) ?_
    refine lv_aload_n hx hb (by decide +kernel : decode code 25 = .ok (.aload_n 0, 1)) rfl (lv_at hl 0 rfl) ?_
    refine va_slen hx hb C.2.1 C.2.2.1 C.bA hS (by decide +kernel : decode code 26 = .ok (.arraylength, 1)) ?_
    refine lv_bipush (v := nI 6) hx hb (by decide +kernel : decode code 27 = .ok (.bipush 6, 2)) (by decide) ?_
    refine lv_isub hx hb (by decide +kernel : decode code 29 = .ok (.isub, 1)) ?_
    refine lv_icmp_gt (tgt := 1897) hx hb (by decide +kernel : decode code 30 = .ok (.if_icmp .gt 1867, 3)) (by decide) (fun z => ?_) (fun z => ?_)
    · refine lv_iconst (v := 1) hx hb (by decide +kernel : decode code 1897 = .ok (.iconst 1, 1)) (by decide) ?_
      refine W.widen (k := 601024) (n := 7293034) (by omega) (by omega) ?_
      exact lw_ret hx hb hr hlk (by decide +kernel)
    · have hi := head_cmp hL (by omega) z
      have nx : NX p l e s m below meth c D ad cA b ql (6 * k) (k + 1) 1891 := by
        intro w2 f2 H2 ls2 hd2
        obtain ⟨hLR2, hP2, hS2, hq2, hl2⟩ := hd2
        have e6 : nI (6 * k) + 6 = nI (6 * (k + 1)) := by
          show nI (6 * k) + nI 6 = nI (6 * (k + 1))
          rw [nI_add, show 6 * k + 6 = 6 * (k + 1) by omega]
        refine lv_iinc (v := nI (6 * (k + 1))) (lv' := [(4, .int (nI (6 * (k + 1)))), (0, .ref b), (1, .ref (ad 0)), (2, .ref (ad 41)), (3, .ref ql)]) hx hb (by decide +kernel : decode code 1891 = .ok (.iinc 4 6, 3)) hl2 (k := 4) rfl e6 (by decide) rfl (fun ls3 hl3 => ?_)
        refine lv_goto (tgt := 23) hx hb (by decide +kernel : decode code 1894 = .ok (.goto (-1871), 3)) (by decide) ?_
        exact ih (k + 1) (by omega) (by omega) w2 f2 H2 ls3 ⟨hLR2, hP2, hS2, hq2, lv_sub hl3 [1, 2, 3, 4, 0] rfl⟩
      refine lv_aload_n hx hb (by decide +kernel : decode code 33 = .ok (.aload_n 0, 1)) rfl (lv_at hl 0 rfl) ?_
      refine lv_iload hx hb (by decide +kernel : decode code 34 = .ok (.iload 4, 2)) (lv_at hl 4 rfl) ?_
      refine va_sld hx hb C.2.1 C.2.2.1 C.bA hS (vp_in_nI (by omega) (by omega)) (by decide +kernel : decode code 36 = .ok (.iaload, 1)) ?_
      refine lv_bipush (v := 63) hx hb (by decide +kernel : decode code 37 = .ok (.bipush 63, 2)) (by decide) ?_
      refine lv_iand hx hb (by decide +kernel : decode code 39 = .ok (.iand, 1)) ?_
      refine W_table (tg := tgL) (dt := 1891) hx hb d_tab (by decide) (by decide) (by decide +kernel) ?_ (law_case hl9 C hi (by omega) nx hd)
      refine W.widen (k := 60 + (k + 1)) (n := 8000 + 6 * (k + 1)) (by omega) (by omega) ?_
      exact nx w f H ls hd
end LAWE
