/-! the law's own named: it catches -/
def AL (ad : Nat → Nat) (ql : Nat) : Nat → Prop := fun q => AA ad q ∨ q = ql
def cellL (cA : Nat → ClassId) (f : Nat → Int64) : Cell := vp_cell (cA 1) (1, .inr (.inl f))
theorem tw_cw : Cond.codeWith yL_named method_3_code 4 (some .int) [(0, 9, 12, 13)] ∈ TT := tc5 (List.mem_of_getElem? (i := 167) rfl) rfl
theorem tw_cl13 : Cond.classLink "ThrowArmsLaw" 13 nNS ∈ TT := tc5 (List.mem_of_getElem? (i := 168) rfl) rfl
section EXT
variable {D : va_G} {ws : va_W} {E E' : Nat × va_E} {H : Heap} {ad : Nat → Nat} {ql : Nat}
theorem ext_P (h : va_P D vwCl ws H) (g : va_at D vwCl E H) : va_P D vwCl (ws ++ [E]) H := by
  intro k q hk
  rw [List.getElem?_append] at hk
  split at hk
  · exact h k q hk
  · cases hj : k - ws.length with
    | zero =>
      rw [hj] at hk
      cases hk
      exact g
    | succ j => rw [hj] at hk; cases hk
theorem ext_l (h : va_P D vwCl (ws ++ [E]) H) : va_P D vwCl ws H := fun k q hk => h k q (by
  rw [List.getElem?_append_left (List.getElem?_eq_some_iff.mp hk).1]
  exact hk)
theorem ext_r (h : va_P D vwCl (ws ++ [E]) H) : va_at D vwCl E H := h ws.length E (by simp)
theorem ext_D {e : va_E} (hD : va_D (AA ad) ws) (hq : ¬ AA ad ql) : va_D (AL ad ql) (ws ++ [(ql, e)]) := by
  have g : ∀ (k : Nat) (q : Nat × va_E), (ws ++ [(ql, e)])[k]? = some q → (ws[k]? = some q ∧ AA ad q.1) ∨ (k = ws.length ∧ q.1 = ql) := by
    intro k q hk
    rw [List.getElem?_append] at hk
    split at hk
    · exact Or.inl ⟨hk, hD.2 k q hk⟩
    · rename_i hlt
      cases hj : k - ws.length with
      | zero =>
        rw [hj] at hk
        cases hk
        exact Or.inr ⟨by omega, rfl⟩
      | succ j => rw [hj] at hk; cases hk
  refine ⟨fun i j p q h1 h2 h3 => ?_, fun k q hk => ?_⟩
  · rcases g i p h1 with ⟨a1, a2⟩ | ⟨a1, a2⟩ <;> rcases g j q h2 with ⟨b1, b2⟩ | ⟨b1, b2⟩
    · exact hD.1 i j p q a1 b1 h3
    · rw [h3, b2] at a2; exact absurd a2 hq
    · rw [← h3, a2] at b2; exact absurd b2 hq
    · omega
  · rcases g k q hk with ⟨a1, a2⟩ | ⟨a1, a2⟩
    · exact Or.inl a2
    · exact Or.inr a2
theorem ext_set : (ws ++ [E]).set ws.length E' = ws ++ [E'] := by simp
theorem S_wide {H0 : Heap} {locs : List Loc} (h : va_S (AA ad) H0 H locs) : va_S (AL ad ql) H0 H locs := ⟨h.1, fun q a b => h.2.1 q a (fun z => b (Or.inl z)), fun q hq => Or.inl (h.2.2 q hq)⟩
end EXT
section GX
variable {p : Program} {l : Launch} {e : Env} {R : Room} {s : State} {m : MethodId} {args : Array Value} {below : List Frame} {meth : Method} {c : Code} {Q : State → Prop} {D : va_G} {ad adV : Nat → Nat} {cA : Nat → ClassId} {cc : ByteArray} {nL : Nat} {own : String} {cells slots : Nat}
theorem GX_run {H : Heap} {locs : List Loc} {pc : Nat} {ls : Array Slot} {st0 rest : List Value} {a : Array Value} {K : Kt} {KX : Wd → Prop} (hr : vx_Run p l e R s m args below meth c H locs cells slots 1 6 (F0 m pc ls st0) rest (QQ D ad cA K a) (XQ D ad cA KX) (AA ad)) (hS : va_S (AA ad) s.heap H locs)
    (kk : ∀ (r : Option Value) (w1 : Wd) (H1 : Heap) (locs1 : List Loc), K r w1 → va_P D vwCl (Cells ad cA w1) H1 → va_S (AA ad) s.heap H1 locs1 → stays ad H H1 → W p l e R s m args below meth c H1 locs1 (cells + 1) (slots + 6) Q (F0 m (pc + 3) ls ((r.map (vl ad)).toList ++ rest)))
    (kx : ∀ (q : Nat) (ce : Cell) (w1 : Wd) (H1 : Heap) (locs1 : List Loc), KX w1 → va_P D vwCl (Cells ad cA w1) H1 → va_S (AA ad) s.heap H1 locs1 → stays ad H H1 → H1[q]? = some ce → ce.vm = .none → s.vm.findClass nNS = some ce.cls → vx_W p l e R s m args below meth c H1 locs1 (cells + 1) (slots + 6) Q (F0 m pc ls rest) q) : W p l e R s m args below meth c H locs cells slots Q (F0 m pc ls st0) := by
  have keep : ∀ (st₀ t T' : State) (L : List Loc), st₀.heap = H → T'.heap = t.heap → (∀ q ∈ L, AA ad q.base) → va_F (AA ad) st₀ t → va_S (AA ad) s.heap T'.heap (locs ++ L) ∧ stays ad H T'.heap := by
    intro st₀ t T' L h0 e1 hL hF
    obtain ⟨hz, hk⟩ := hF
    rw [h0] at hz hk
    exact ⟨⟨Nat.le_trans hS.1 (by rw [e1]; exact hz), fun q h1 h2 => by rw [e1, hk q (Nat.lt_of_lt_of_le h1 hS.1) h2]; exact hS.2.1 q h1 h2, fun q hq => by
      rcases List.mem_append.mp hq with h | h
      · exact hS.2.2 q h
      · exact hL q h⟩, by rw [e1]; exact hz, fun q h1 h2 => by rw [e1]; exact hk q h1 h2⟩
  intro T hT X
  rcases hr T hT X with ⟨v, st₀, t, T', L, h0, X', hL, e1, e2, ⟨r, w1, hK, hv, hP1, hF⟩, st⟩ | ⟨q, st₀, t, T', L, E, ce, h0, X', hL, e1, e2, ⟨rfl, w1, hKX, hP1, hF⟩, hce, hcv, hcl, st⟩
  · have hv2 : v = r.map (vl ad) := by
      injection hv
    subst hv2
    obtain ⟨k1, k2⟩ := keep st₀ t T' L h0 e1 hL hF
    obtain ⟨t2, a1, b1⟩ := kk r w1 T'.heap (locs ++ L) hK (by rw [e1]; exact hP1) k1 k2 T' rfl X'
    exact ⟨t2, st t2 a1, b1⟩
  · obtain ⟨k1, k2⟩ := keep st₀ t T' L h0 e1 hL hF
    obtain ⟨t2, a1, b1⟩ := kx q ce w1 T'.heap (locs ++ L) hKX (by rw [e1]; exact hP1) k1 k2 (by rw [e1]; exact hce) hcv hcl T' rfl X'
    exact ⟨t2, st.trans a1, b1⟩
end GX
def InvL (D : va_G) (ad adV : Nat → Nat) (cA : Nat → ClassId) (sa : Nat) (w : Wd) (ql : Nat) (f : Nat → Int64) (U : State) : Prop := InvX D ad adV cA sa w U ∧ U.heap[ql]? = some (cellL cA f) ∧ ¬ AA ad ql
def QL (D : va_G) (ad : Nat → Nat) (cA : Nat → ClassId) (ql : Nat) (KL : Int32 → (Nat → Int64) → Wd → Prop) : Array Value → State → Outcome → State → Prop := fun _ st oc t => ∃ (k : Int32) (f1 : Nat → Int64) (w1 : Wd), KL k f1 w1 ∧ oc = .returned (some (.int k)) ∧ va_P D vwCl (Cells ad cA w1) t.heap ∧ t.heap[ql]? = some (cellL cA f1) ∧ va_F (AL ad ql) st t
def KLn (K : Int32 → Wd → Prop) (KX : Wd → Prop) (k : Int32) (f1 : Nat → Int64) (w1 : Wd) : Prop := (k = 1 ∧ KX w1) ∨ (k = 0 ∧ ∃ y : Int32, K y w1 ∧ f1 0 = y.toInt64)
def rmL : Room := { frames := 11, cells := 1, slots := 6, locals := 450 }
theorem k_lnamed (l : Launch) (hl : l.stackTraces = false) (D : va_G) (ad adV : Nat → Nat) (cA : Nat → ClassId) (sa : Nat) (w : Wd) (x1 : Int32) (K : Int32 → Wd → Prop) (KX : Wd → Prop) (hf : fNm x1 w K KX) (ql : Nat) (f : Nat → Int64) :
    vx_Met l yL_named (.codeWith yL_named method_3_code 4 (some .int) [(0, 9, 12, 13)] :: TT) rmL (va_Pc [.ref (ad 0), .int x1, .ref ql] (InvL D ad adV cA sa w ql f)) (QL D ad cA ql (KLn K KX)) (fun _ _ _ => False) 1 6 (AL ad ql) := by
  refine vx_ofWH (cc := method_3_code) (maxL := 4) (ret := some .int) (hh := [(0, 9, 12, 13)]) (by decide +kernel) rfl ?_
  intro p e s m args below meth c s₁ B hml hv
  obtain ⟨rfl, ⟨⟨hP, hK, hI, hR⟩, hX⟩, hq, hqA⟩ := hv
  have hts := atoms_spec (ws := Cond.codeWith yL_named method_3_code 4 (some .int) [(0, 9, 12, 13)] :: TT) B.pre
  have hown : s.vm.findClass "ThrowArmsLaw" = some m.cls := findClass_of_methodNamed B.named
  have C0 : Cx p s m [Value.ref (ad 0), .int x1, .ref ql].toArray meth c D ad adV cA method_3_code 4 "ThrowArmsLaw" := ⟨B.exec, B.bytes, hml, hown, fun w h => hts w (List.mem_cons_of_mem _ h), hK, hI, hR, B.notSynchronized⟩
  have hr := B.returns
  have htab := vx_table (x := yL_named) B (hts _ List.mem_cons_self)
  rw [lg_entry_eq]
  have hl0 := lv_entry ([.ref (ad 0), .int x1, .ref ql]) (n := 4) (Nat.le_of_ble_eq_true rfl)
  generalize (lg_sl ([.ref (ad 0), .int x1, .ref ql]) ++ List.replicate (4 - (lg_sl ([.ref (ad 0), .int x1, .ref ql])).length) Slot.unset).toArray = ls at hl0 ⊢
  have hl0 : lv_has ls 4 [(0, .ref (ad 0)), (1, .int x1), (2, .ref ql)] := hl0
  have hS : va_S (AA ad) s.heap s.heap [] := va_S.rf
  have hql : ql < s.heap.size := (Array.getElem?_eq_some_iff.mp hq).1
  refine lv_aload_n C0.1 C0.2.1 (by decide +kernel : decode method_3_code 0 = .ok (.aload_n 2, 1)) rfl (lv_at hl0 2 rfl) ?_
  refine lv_iconst (v := 0) C0.1 C0.2.1 (by decide +kernel : decode method_3_code 1 = .ok (.iconst 0, 1)) (by decide) ?_
  refine lv_aload_n C0.1 C0.2.1 (by decide +kernel : decode method_3_code 2 = .ok (.aload_n 0, 1)) rfl (lv_at hl0 0 rfl) ?_
  refine lv_iload_n C0.1 C0.2.1 (by decide +kernel : decode method_3_code 3 = .ok (.iload_n 1, 1)) rfl (lv_at hl0 1 rfl) ?_
  refine GX_run (vx_runV (As := [.int x1]) (rest := [.int 0, .ref ql]) (b := ad 0) ⟨C0.1, C0.2.1, C0.2.2.1, C0.2.2.2.1, C0.2.2.2.2.1⟩ (k_named l hl D ad adV cA sa w x1 K KX hf) (cwV 1 C0.2.2.2.2.1 (good_V tw5_169 tw5_170 tw5_171 tw1_1 tw5_172) rfl rfl rfl (by decide +kernel) (by decide)) ⟨blind_N, va_recv (ci := 10) (q0 := 0) C0.2.2.2.2.2.1 hP rfl (Cells_get (c := 0) (sh := .inr (10, [3, 5, 15, 23, 28, 29, 31, 38, 39, 41, 0, 0, 0])) rfl), fun U hU hW => ⟨rfl, inv_call C0 hP hS hU hW, hX.call hS hU hW⟩⟩ rfl rfl hl0.1 rfl (Nat.le_of_ble_eq_true rfl) (by decide +kernel : decode method_3_code 4 = .ok (.invokevirtual 7, 3)) (by decide)) hS (fun r w1 H1 locs1 hK1 hP1 hS1 st1 => ?_) (fun q ce w1 H1 locs1 hK1 hP1 hS1 st1 hce hcv hcl => ?_)
  · obtain ⟨y, rfl, hy⟩ := hK1
    have hq1 : H1[ql]? = some (cellL cA f) := by rw [st1.2 ql hql hqA]; exact hq
    refine lv_i2l C0.1 C0.2.1 (by decide +kernel : decode method_3_code 7 = .ok (.i2l, 1)) rfl ?_
    have hD1 := Cells_D (cA := cA) (w := w1) hI
    have fin : ∀ (ws : va_W), va_P D vwCl ws H1 → va_D (AA ad) ws → (∀ (H2 : Heap) (locs2 : List Loc), va_P D vwCl (ws ++ [(ql, .inl (cA 1, 1, .inr (.inl (vp_updL f (0 : Int32).toNatClampNeg y.toInt64))))]) H2 → va_S (AL ad ql) s.heap H2 locs2 → W p l e rmL s m #[Value.ref (ad 0), .int x1, .ref ql] below meth c H2 locs2 (0 + 1) (0 + 6) (vx_MQ below (QL D ad cA ql (KLn K KX)) (fun _ _ _ => False) #[Value.ref (ad 0), .int x1, .ref ql] s 1 6 (AL ad ql)) (F0 m 9 ls [])) → W p l e rmL s m #[Value.ref (ad 0), .int x1, .ref ql] below meth c H1 locs1 (0 + 1) (0 + 6) (vx_MQ below (QL D ad cA ql (KLn K KX)) (fun _ _ _ => False) #[Value.ref (ad 0), .int x1, .ref ql] s 1 6 (AL ad ql)) (F0 m 8 ls [.long y.toInt64, .int 0, .ref ql]) := by
      intro ws hPw hDw kk
      have hE : va_at D vwCl (ql, .inl (cA 1, 1, .inr (.inl f))) H1 := hq1
      refine va_last (A := AL ad ql) (ws := ws ++ [(ql, .inl (cA 1, 1, .inr (.inl f)))]) (tys := tysL cA) (D := D) (cl := vwCl) (cA := cA 1) (n := 1) (f := f) C0.1 C0.2.1 hK (ext_P hPw hE) (ext_D hDw hqA) (S_wide hS1) ws.length 1 (by rw [List.getElem?_append_right (Nat.le_refl _), Nat.sub_self]; rfl) rfl (i := 0) (vp_in_nI (n := 0) (N := 1) (by decide) (by decide)) (by decide +kernel : decode method_3_code 8 = .ok (.lastore, 1)) (fun H2 locs2 hP2 hD2 hS2 => ?_)
      rw [ext_set] at hP2
      exact kk H2 locs2 hP2 hS2
    refine fin _ hP1 hD1 (fun H2 locs2 hP2 hS2 => ?_)
    refine lv_goto (tgt := 15) C0.1 C0.2.1 (by decide +kernel : decode method_3_code 9 = .ok (.goto 6, 3)) (by decide) ?_
    refine lv_iconst (v := 0) C0.1 C0.2.1 (by decide +kernel : decode method_3_code 15 = .ok (.iconst 0, 1)) (by decide) ?_
    refine vx_ret ?_
    exact W.iret C0.1 C0.2.1 hr (fun t ht hW => ⟨0, _, w1, Or.inr ⟨rfl, y, hy, rfl⟩, rfl, by rw [ht]; exact ext_l hP2, by rw [ht]; exact ext_r hP2, hS2.F ht⟩) hS2.2.2 (by decide +kernel) C0.2.2.2.2.2.2.2.2
  · have hq1 : H1[ql]? = some (cellL cA f) := by rw [st1.2 ql hql hqA]; exact hq
    refine vx_catch (own := "ThrowArmsLaw") (name := nNS) (E := nNS) hown [] ⟨0, 9, 12, 13⟩ [] (by rw [htab]; rfl) (fun z hz => nomatch hz) (by decide) (by decide) (C0.2.2.2.2.1 _ tw_cl13) (nxB_use hX.2.2.2 _ (List.mem_of_getElem? (i := 0) rfl)) hce hcv hcl ?_
    refine lv_astore_n (lv' := [(3, .ref q), (0, .ref (ad 0)), (1, .int x1), (2, .ref ql)]) C0.1 C0.2.1 (by decide +kernel : decode method_3_code 12 = .ok (.astore_n 3, 1)) rfl hl0 (by decide) rfl (fun ls hl1 => ?_)
    refine lv_iconst (v := 1) C0.1 C0.2.1 (by decide +kernel : decode method_3_code 13 = .ok (.iconst 1, 1)) (by decide) ?_
    refine vx_ret ?_
    exact W.iret C0.1 C0.2.1 hr (fun t ht hW => ⟨1, f, w1, Or.inl ⟨rfl, hK1⟩, rfl, by rw [ht]; exact hP1, by rw [ht]; exact hq1, (S_wide hS1).F ht⟩) (fun q hq => Or.inl (hS1.2.2 q hq)) (by decide +kernel) C0.2.2.2.2.2.2.2.2
