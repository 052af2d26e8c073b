/-! the law: what stays, one argument, the end of a case -/
def LX (p : Program) (s : State) (m : MethodId) (meth : Method) (c : Code) (D : va_G) (ad adV : Nat → Nat) (cA : Nat → ClassId) (b L : Nat) (xs : Nat → Int32) (ql sa : Nat) : Prop :=
  Cx p s m #[Value.ref b] meth c D ad adV cA code 7 "ThrowArmsLaw" ∧ va_X b L xs s s.heap ∧ b < s.heap.size ∧ (∀ k, k < 53 → s.heap.size ≤ ad k) ∧ s.heap.size ≤ ql ∧ ¬ AA ad ql ∧ XI ad sa s ∧ L ≤ 3072
abbrev lvs5 (ad : Nat → Nat) (b ql i : Nat) : List (Nat × Value) := [(0, .ref b), (1, .ref (ad 0)), (2, .ref (ad 41)), (3, .ref ql), (4, .int (nI i))]
def HD (s : State) (D : va_G) (ad : Nat → Nat) (cA : Nat → ClassId) (b ql i : Nat) (w : Wd) (f : Nat → Int64) (H : Heap) (ls : Array Slot) : Prop :=
  LR w ∧ va_P D vwCl (Cells ad cA w) H ∧ va_S (AA ad) s.heap H [] ∧ H[ql]? = some (cellL cA f) ∧ lv_has ls 7 (lvs5 ad b ql i)
def NX (p : Program) (l : Launch) (e : Env) (s : State) (m : MethodId) (below : List Frame) (meth : Method) (c : Code) (D : va_G) (ad : Nat → Nat) (cA : Nat → ClassId) (b ql i k pc : Nat) : Prop :=
  ∀ (w : Wd) (f : Nat → Int64) (H : Heap) (ls : Array Slot), HD s D ad cA b ql i w f H ls → W p l e room_1 s m #[Value.ref b] below meth c H [] (60 + k) (8000 + 6 * k) (lw_Z below #[Value.ref b] s) (F0 m pc ls [])
section LAWC
variable {p : Program} {l : Launch} {e : Env} {s : State} {m : MethodId} {below : List Frame} {meth : Method} {c : Code} {Q : State → Prop} {D : va_G} {ad adV : Nat → Nat} {cA : Nat → ClassId} {b L ql sa i k : Nat} {xs : Nat → Int32} {w : Wd} {f : Nat → Int64} {H : Heap} {ls : Array Slot}
theorem LX.bA (C : LX p s m meth c D ad adV cA b L xs ql sa) : ¬ AA ad b := fun ⟨c, hc, e⟩ => by
  have h1 := C.2.2.2.1 c hc
  have h2 := C.2.2.1
  omega
theorem LX.fr (C : LX p s m meth c D ad adV cA b L xs ql sa) {q : Nat} (h : AA ad q) : s.heap.size ≤ q := by
  obtain ⟨c, hc, e⟩ := h
  rw [e]
  exact C.2.2.2.1 c hc
theorem ld (C : LX p s m meth c D ad adV cA b L xs ql sa) {pc j : Nat} {n : Int} {locs : List Loc} {cells slots : Nat} {rest : List Value} {R : Room} (d0 : decode code pc = .ok (.aload_n 0, 1)) (d1 : decode code (pc + 1) = .ok (.iload 4, 2)) (d3 : decode code (pc + 3) = .ok (.iconst n, 1)) (d4 : decode code (pc + 4) = .ok (.iadd, 1)) (d5 : decode code (pc + 5) = .ok (.iaload, 1))
    (hj : Int32.ofInt n = nI j) (hi : i + j < L) (hS : va_S (AA ad) s.heap H locs) (hl : lv_has ls 7 (lvs5 ad b ql i))
    (kk : W p l e R s m #[Value.ref b] below meth c H locs cells slots Q (F0 m (pc + 6) ls (.int (xs (i + j)) :: rest))) : W p l e R s m #[Value.ref b] below meth c H locs cells slots Q (F0 m pc ls rest) := by
  have hL := C.2.2.2.2.2.2.2
  refine lv_aload_n C.1.1 C.1.2.1 d0 rfl (lv_at hl 0 rfl) ?_
  refine lv_iload C.1.1 C.1.2.1 d1 (lv_at hl 4 rfl) ?_
  refine lv_iconst (v := nI j) C.1.1 C.1.2.1 d3 hj ?_
  refine lv_iadd C.1.1 C.1.2.1 d4 ?_
  rw [nI_add i j]
  refine va_sld C.1.1 C.1.2.1 C.2.1 C.2.2.1 C.bA hS (vp_in_nI hi (by omega)) d5 ?_
  have e2 : (nI (i + j)).toNatClampNeg = i + j := nI_clamp (by omega)
  rw [e2]
  exact kk
theorem cat2 (r : Option Value) (ad : Nat → Nat) : ((((r.map (vl ad)).toList ++ []).map fun (v : Value) => v.category).sum) ≤ 8 := by
  cases r with
  | none => exact Nat.zero_le _
  | some v =>
    show (vl ad v).category + 0 ≤ 8
    rw [vl_cat]
    rcases lv_cat v with h | h <;> omega
theorem lc_end (C : LX p s m meth c D ad adV cA b L xs ql sa) (nx : NX p l e s m below meth c D ad cA b ql i (k + 1) 1891) {w2 : Wd} {H2 : Heap} {locs2 : List Loc} (h0 : H[ql]? = some (cellL cA f)) (hst : stays ad H H2) (hLR : LR w2) (hP : va_P D vwCl (Cells ad cA w2) H2) (hS : va_S (AA ad) s.heap H2 locs2) (hl : lv_has ls 7 (lvs5 ad b ql i)) :
    W p l e room_1 s m #[Value.ref b] below meth c H2 locs2 (60 + k) (8000 + 6 * k) (lw_Z below #[Value.ref b] s) (F0 m 1891 ls []) := by
  refine va_forget (fun q hq => C.fr (hS.2.2 q hq)) ?_
  refine W.widen (k := 60 + (k + 1)) (n := 8000 + 6 * (k + 1)) (by omega) (by omega) ?_
  exact nx w2 f H2 ls ⟨hLR, hP, ⟨hS.1, hS.2.1, fun q hq => nomatch hq⟩, by rw [hst.2 ql (Array.getElem?_eq_some_iff.mp h0).1 C.2.2.2.2.2.1]; exact h0, hl⟩
theorem l_fault (h : LR w) : fX10_fault [.ref 0] w (fun v w1 => fX11_fault [.ref 41] w1 (fun u w2 => LK v u w2)) := by
  obtain ⟨T, L, r, nm, hR, hc, hg, hb, hn, ht⟩ := id h
  exact nX10_fault _ _ _ _ (fun v w1 h1 => nX11_fault _ _ _ _ (fun u w2 hq => LK_S h hq) h1) (p_fault ht.2.1)
theorem l_where (h : LR w) : fX10_where [.ref 0] w (fun v w1 => fX11_where [.ref 41] w1 (fun u w2 => LK v u w2)) := by
  obtain ⟨T, L, r, nm, hR, hc, hg, hb, hn, ht⟩ := id h
  exact nX10_where _ _ _ _ (fun v w1 h1 => nX11_where _ _ _ _ (fun u w2 hq => LK_S h hq) h1) (p_where ht.2.2)
theorem l_about (h : LR w) {x1 : Int32} : fX10_about [.ref 0, .int x1] w (fun v w1 => fX11_about [.ref 41, .int x1] w1 (fun u w2 => LK v u w2)) := by
  obtain ⟨T, L, r, nm, hR, hc, hg, hb, hn, ht⟩ := id h
  exact nX10_about _ _ _ _ (fun v w1 h1 => nX11_about _ _ _ _ (fun u w2 hq => LK_Q h hq) h1) (p_about hR.1)
theorem l_arm (h : LR w) {x1 x2 : Int32} : fX10_arm [.ref 0, .int x1, .int x2] w (fun v w1 => fX11_arm [.ref 41, .int x1, .int x2] w1 (fun u w2 => LK v u w2)) := by
  obtain ⟨T, L, r, nm, hR, hc, hg, hb, hn, ht⟩ := id h
  exact nX10_arm _ _ _ _ (fun v w1 h1 => nX11_arm _ _ _ _ (fun u w2 hq => LK_Q h hq) h1) (p_arm hR.1)
theorem l_game (h : LR w) {x1 x2 : Int32} : fX10_game [.ref 0, .int x1, .int x2] w (fun v w1 => fX11_game [.ref 41, .int x1, .int x2] w1 (fun u w2 => LK v u w2)) := by
  obtain ⟨T, L, r, nm, hR, hc, hg, hb, hn, ht⟩ := id h
  exact nX10_game _ _ _ _ (fun v w1 h1 => nX11_game _ _ _ _ (fun u w2 hq => LK_Q h hq) h1) (p_game hR.1)
theorem l_rest (h : LR w) {x1 : Int32} : fX10_rest [.ref 0, .int x1] w (fun v w1 => fX11_rest [.ref 41, .int x1] w1 (fun u w2 => LK v u w2)) := by
  obtain ⟨T, L, r, nm, hR, hc, hg, hb, hn, ht⟩ := id h
  exact nX10_rest _ _ _ _ (fun v w1 h1 => nX11_rest _ _ _ _ (fun u w2 hq => LK_Q h hq) h1) (p_rest hR.1)
theorem l_outing (h : LR w) {x1 x2 x3 : Int32} : fX10_outing [.ref 0, .int x1, .int x2, .int x3] w (fun v w1 => fX11_outing [.ref 41, .int x1, .int x2, .int x3] w1 (fun u w2 => LK v u w2)) := by
  obtain ⟨T, L, r, nm, hR, hc, hg, hb, hn, ht⟩ := id h
  exact nX10_outing _ _ _ _ (fun v w1 h1 => nX11_outing _ _ _ _ (fun u w2 hq => LK_Q h hq) h1) (p_outing hR.1)
theorem l_value (h : LR w) : fX10_value [.ref 0] w (fun v w1 => fX11_value [.ref 41] w1 (fun u w2 => LK v u w2)) := by
  obtain ⟨T, L, r, nm, hR, hc, hg, hb, hn, ht⟩ := id h
  exact nX10_value _ _ _ _ (fun v w1 h1 => nX11_value _ _ _ _ (fun u w2 hq => LK_Q h hq) h1) (p_value hR.1)
theorem l_points (h : LR w) {x1 x2 : Int32} : fX10_points [.ref 0, .int x1, .int x2] w (fun v w1 => fX11_points [.ref 41, .int x1, .int x2] w1 (fun u w2 => LK v u w2)) := by
  obtain ⟨T, L, r, nm, hR, hc, hg, hb, hn, ht⟩ := id h
  exact nX10_points _ _ _ _ (fun v w1 h1 => nX11_points _ _ _ _ (fun u w2 hq => LK_Q h hq) h1) (p_points hR.1)
theorem l_worth (h : LR w) {x1 x2 x3 : Int32} : fX10_worth [.ref 0, .int x1, .int x2, .int x3] w (fun v w1 => fX11_worth [.ref 41, .int x1, .int x2, .int x3] w1 (fun u w2 => LK v u w2)) := by
  obtain ⟨T, L, r, nm, hR, hc, hg, hb, hn, ht⟩ := id h
  exact nX10_worth _ _ _ _ (fun v w1 h1 => nX11_worth _ _ _ _ (fun u w2 hq => LK_Q h hq) h1) (p_worth hR.1)
theorem l_most (h : LR w) {x1 x2 : Int32} : fX10_most [.ref 0, .int x1, .int x2] w (fun v w1 => fX11_most [.ref 41, .int x1, .int x2] w1 (fun u w2 => LK v u w2)) := by
  obtain ⟨T, L, r, nm, hR, hc, hg, hb, hn, ht⟩ := id h
  exact nX10_most _ _ _ _ (fun v w1 h1 => nX11_most _ _ _ _ (fun u w2 hq => LK_Q h hq) h1) (p_most hR.1)
theorem l_when (h : LR w) {x1 x2 x3 : Int32} : fX10_when [.ref 0, .int x1, .int x2, .int x3] w (fun v w1 => fX11_when [.ref 41, .int x1, .int x2, .int x3] w1 (fun u w2 => LK v u w2)) := by
  obtain ⟨T, L, r, nm, hR, hc, hg, hb, hn, ht⟩ := id h
  exact nX10_when _ _ _ _ (fun v w1 h1 => nX11_when _ _ _ _ (fun u w2 hq => LK_Q h hq) h1) (p_when hR.1)
theorem l_ranked (h : LR w) {x1 x2 : Int32} : fX10_ranked [.ref 0, .int x1, .int x2] w (fun v w1 => fX11_ranked [.ref 41, .int x1, .int x2] w1 (fun u w2 => LK v u w2)) := by
  obtain ⟨T, L, r, nm, hR, hc, hg, hb, hn, ht⟩ := id h
  exact nX10_ranked _ _ _ _ (fun v w1 h1 => nX11_ranked _ _ _ _ (fun u w2 hq => LK_Q h hq) h1) (p_ranked hR.1)
theorem l_extra (h : LR w) {x1 : Int32} : fX10_extra [.ref 0, .int x1] w (fun v w1 => fX11_extra [.ref 41, .int x1] w1 (fun u w2 => LK v u w2)) := by
  obtain ⟨T, L, r, nm, hR, hc, hg, hb, hn, ht⟩ := id h
  exact nX10_extra _ _ _ _ (fun v w1 h1 => nX11_extra _ _ _ _ (fun u w2 hq => LK_Q h hq) h1) (p_extra hR.1)
theorem l_clash (h : LR w) {x1 x2 x3 : Int32} : fX10_clash [.ref 0, .int x1, .int x2, .int x3] w (fun v w1 => fX11_clash [.ref 41, .int x1, .int x2, .int x3] w1 (fun u w2 => LK v u w2)) := by
  obtain ⟨T, L, r, nm, hR, hc, hg, hb, hn, ht⟩ := id h
  exact nX10_clash _ _ _ _ (fun v w1 h1 => nX11_clash _ _ _ _ (fun u w2 hq => LK_Q h hq) h1) (p_clash hR.1)
theorem l_best (h : LR w) {x1 x2 : Int32} : fX10_best [.ref 0, .int x1, .int x2] w (fun v w1 => fX11_best [.ref 41, .int x1, .int x2] w1 (fun u w2 => LK v u w2)) := by
  obtain ⟨T, L, r, nm, hR, hc, hg, hb, hn, ht⟩ := id h
  exact nX10_best _ _ _ _ (fun v w1 h1 => nX11_best _ _ _ _ (fun u w2 hq => LK_Q h hq) h1) (p_best hR.1)
theorem l_bestOf (h : LR w) {x1 x2 x3 : Int32} : fX10_bestOf [.ref 0, .int x1, .int x2, .int x3] w (fun v w1 => fX11_bestOf [.ref 41, .int x1, .int x2, .int x3] w1 (fun u w2 => LK v u w2)) := by
  obtain ⟨T, L, r, nm, hR, hc, hg, hb, hn, ht⟩ := id h
  exact nX10_bestOf _ _ _ _ (fun v w1 h1 => nX11_bestOf _ _ _ _ (fun u w2 hq => LK_Q h hq) h1) (p_bestOf hR.1)
theorem l_pair (h : LR w) {x1 x2 x3 : Int32} : fX10_pair [.ref 0, .int x1, .int x2, .int x3] w (fun v w1 => fX11_pair [.ref 41, .int x1, .int x2, .int x3] w1 (fun u w2 => LK v u w2)) := by
  obtain ⟨T, L, r, nm, hR, hc, hg, hb, hn, ht⟩ := id h
  exact nX10_pair _ _ _ _ (fun v w1 h1 => nX11_pair _ _ _ _ (fun u w2 hq => LK_Q h hq) h1) (p_pair hR.1)
theorem l_breaches (h : LR w) : fX10_breaches [.ref 0] w (fun v w1 => fX11_breaches [.ref 41] w1 (fun u w2 => LK v u w2)) := by
  obtain ⟨T, L, r, nm, hR, hc, hg, hb, hn, ht⟩ := id h
  exact nX10_breaches _ _ _ _ (fun v w1 h1 => nX11_breaches _ _ _ _ (fun u w2 hq => LK_Q h hq) h1) (p_breaches hR.1)
theorem l_breach (h : LR w) {x1 : Int32} : fX10_breach [.ref 0, .int x1] w (fun v w1 => fX11_breach [.ref 41, .int x1] w1 (fun u w2 => LK v u w2)) := by
  obtain ⟨T, L, r, nm, hR, hc, hg, hb, hn, ht⟩ := id h
  exact nX10_breach _ _ _ _ (fun v w1 h1 => nX11_breach _ _ _ _ (fun u w2 hq => LK_Q h hq) h1) (p_breach hR.1)
theorem l_work (h : LR w) {x1 x2 : Int32} : fX10_work [.ref 0, .int x1, .int x2] w (fun v w1 => fX11_work [.ref 41, .int x1, .int x2] w1 (fun u w2 => LK v u w2)) := by
  obtain ⟨T, L, r, nm, hR, hc, hg, hb, hn, ht⟩ := id h
  exact nX10_work _ _ _ _ (fun v w1 h1 => nX11_work _ _ _ _ (fun u w2 hq => LK_Q h hq) h1) (p_work hR.1)
theorem l_busiest (h : LR w) {x1 x2 : Int32} : fX10_busiest [.ref 0, .int x1, .int x2] w (fun v w1 => fX11_busiest [.ref 41, .int x1, .int x2] w1 (fun u w2 => LK v u w2)) := by
  obtain ⟨T, L, r, nm, hR, hc, hg, hb, hn, ht⟩ := id h
  exact nX10_busiest _ _ _ _ (fun v w1 h1 => nX11_busiest _ _ _ _ (fun u w2 hq => LK_Q h hq) h1) (p_busiest hR.1)
theorem l_idle (h : LR w) {x1 : Int32} : fX10_idle [.ref 0, .int x1] w (fun v w1 => fX11_idle [.ref 41, .int x1] w1 (fun u w2 => LK v u w2)) := by
  obtain ⟨T, L, r, nm, hR, hc, hg, hb, hn, ht⟩ := id h
  exact nX10_idle _ _ _ _ (fun v w1 h1 => nX11_idle _ _ _ _ (fun u w2 hq => LK_Q h hq) h1) (p_idle hR.1)
theorem l_gap (h : LR w) {x1 : Int32} : fX10_gap [.ref 0, .int x1] w (fun v w1 => fX11_gap [.ref 41, .int x1] w1 (fun u w2 => LK v u w2)) := by
  obtain ⟨T, L, r, nm, hR, hc, hg, hb, hn, ht⟩ := id h
  exact nX10_gap _ _ _ _ (fun v w1 h1 => nX11_gap _ _ _ _ (fun u w2 hq => LK_Q h hq) h1) (p_gap hR.1)
theorem l_hands (h : LR w) {x1 x2 : Int32} : fX10_hands [.ref 0, .int x1, .int x2] w (fun v w1 => fX11_hands [.ref 41, .int x1, .int x2] w1 (fun u w2 => LK v u w2)) := by
  obtain ⟨T, L, r, nm, hR, hc, hg, hb, hn, ht⟩ := id h
  exact nX10_hands _ _ _ _ (fun v w1 h1 => nX11_hands _ _ _ _ (fun u w2 hq => LK_Q h hq) h1) (p_hands hR.1)
theorem l_bare (h : LR w) {x1 : Int32} : fX10_bare [.ref 0, .int x1] w (fun v w1 => fX11_bare [.ref 41, .int x1] w1 (fun u w2 => LK v u w2)) := by
  obtain ⟨T, L, r, nm, hR, hc, hg, hb, hn, ht⟩ := id h
  exact nX10_bare _ _ _ _ (fun v w1 h1 => nX11_bare _ _ _ _ (fun u w2 hq => LK_Q h hq) h1) (p_bare hR.1)
theorem l_risk (h : LR w) {x1 : Int32} : fX10_risk [.ref 0, .int x1] w (fun v w1 => fX11_risk [.ref 41, .int x1] w1 (fun u w2 => LK v u w2)) := by
  obtain ⟨T, L, r, nm, hR, hc, hg, hb, hn, ht⟩ := id h
  exact nX10_risk _ _ _ _ (fun v w1 h1 => nX11_risk _ _ _ _ (fun u w2 hq => LK_Q h hq) h1) (p_risk hR.1)
theorem l_sound (h : LR w) {x1 x2 : Int32} : fX10_sound [.ref 0, .int x1, .int x2] w (fun v w1 => fX11_sound [.ref 41, .int x1, .int x2] w1 (fun u w2 => LKL v u w2)) := by
  obtain ⟨T, L, r, nm, hR, hc, hg, hb, hn, ht⟩ := id h
  exact nX10_sound _ _ _ _ (fun v w1 h1 => nX11_sound _ _ _ _ (fun u w2 hq => LK_QL h hq) h1) (p_sound hR.1)
theorem l_season (h : LR w) {x1 x2 : Int32} : fX10_season [.ref 0, .int x1, .int x2] w (fun v w1 => fX11_season [.ref 41, .int x1, .int x2] w1 (fun u w2 => LK v u w2)) := by
  obtain ⟨T, L, r, nm, hR, hc, hg, hb, hn, ht⟩ := id h
  exact nX10_season _ _ _ _ (fun v w1 h1 => nX11_season _ _ _ _ (fun u w2 hq => LK_Q h hq) h1) (p_season hR.1)
theorem l_span (h : LR w) {x1 x2 x3 : Int32} : fX10_span [.ref 0, .int x1, .int x2, .int x3] w (fun v w1 => fX11_span [.ref 41, .int x1, .int x2, .int x3] w1 (fun u w2 => LK v u w2)) := by
  obtain ⟨T, L, r, nm, hR, hc, hg, hb, hn, ht⟩ := id h
  exact nX10_span _ _ _ _ (fun v w1 h1 => nX11_span _ _ _ _ (fun u w2 hq => LK_Q h hq) h1) (p_span hR.1)
theorem l_put (h : LR w) {x1 x2 x3 x4 : Int32} : fX10_put [.ref 0, .int x1, .int x2, .int x3, .int x4] w (fun v w1 => fX11_put [.ref 41, .int x1, .int x2, .int x3, .int x4] w1 (fun u w2 => LK v u w2)) := by
  obtain ⟨T, L, r, nm, hR, hc, hg, hb, hn, ht⟩ := id h
  exact nX10_put _ _ _ _ (fun v w1 h1 => nX11_put _ _ _ _ (fun u w2 hq => LK_A hc hg hb hn ht hq) h1) (p_put hR)
theorem l_take (h : LR w) {x1 x2 : Int32} : fX10_take [.ref 0, .int x1, .int x2] w (fun v w1 => fX11_take [.ref 41, .int x1, .int x2] w1 (fun u w2 => LK v u w2)) := by
  obtain ⟨T, L, r, nm, hR, hc, hg, hb, hn, ht⟩ := id h
  exact nX10_take _ _ _ _ (fun v w1 h1 => nX11_take _ _ _ _ (fun u w2 hq => LK_A hc hg hb hn ht hq) h1) (p_take hR)
theorem l_shift (h : LR w) {x1 x2 x3 : Int32} : fX10_shift [.ref 0, .int x1, .int x2, .int x3] w (fun v w1 => fX11_shift [.ref 41, .int x1, .int x2, .int x3] w1 (fun u w2 => LK v u w2)) := by
  obtain ⟨T, L, r, nm, hR, hc, hg, hb, hn, ht⟩ := id h
  exact nX10_shift _ _ _ _ (fun v w1 h1 => nX11_shift _ _ _ _ (fun u w2 hq => LK_A hc hg hb hn ht hq) h1) (p_shift hR)
theorem l_swap (h : LR w) {x1 x2 x3 x4 : Int32} : fX10_swap [.ref 0, .int x1, .int x2, .int x3, .int x4] w (fun v w1 => fX11_swap [.ref 41, .int x1, .int x2, .int x3, .int x4] w1 (fun u w2 => LK v u w2)) := by
  obtain ⟨T, L, r, nm, hR, hc, hg, hb, hn, ht⟩ := id h
  exact nX10_swap _ _ _ _ (fun v w1 h1 => nX11_swap _ _ _ _ (fun u w2 hq => LK_A hc hg hb hn ht hq) h1) (p_swap hR)
theorem l_better (h : LR w) : fX10_better [.ref 0] w (fun v w1 => fX11_better [.ref 41] w1 (fun u w2 => LK v u w2)) := by
  obtain ⟨T, L, r, nm, hR, hc, hg, hb, hn, ht⟩ := id h
  exact nX10_better _ _ _ _ (fun v w1 h1 => nX11_better _ _ _ _ (fun u w2 hq => LK_A hc hg hb hn ht hq) h1) (p_better hR)
theorem l_fill (h : LR w) {x1 : Int32} : fX10_fill [.ref 0, .int x1] w (fun v w1 => fX11_fill [.ref 41, .int x1] w1 (fun u w2 => LK v u w2)) := by
  obtain ⟨T, L, r, nm, hR, hc, hg, hb, hn, ht⟩ := id h
  exact nX10_fill _ _ _ _ (fun v w1 h1 => nX11_fill _ _ _ _ (fun u w2 hq => LK_A hc hg hb hn ht hq) h1) (p_fill hR)
theorem l_fillAll (h : LR w) : fX10_fillAll [.ref 0] w (fun v w1 => fX11_fillAll [.ref 41] w1 (fun u w2 => LK v u w2)) := by
  obtain ⟨T, L, r, nm, hR, hc, hg, hb, hn, ht⟩ := id h
  exact nX10_fillAll _ _ _ _ (fun v w1 h1 => nX11_fillAll _ _ _ _ (fun u w2 hq => LK_A hc hg hb hn ht hq) h1) (p_fillAll hR)
theorem l_laid (h : LR w) {x1 x2 : Int32} : fX10_laid [.ref 0, .int x1, .int x2] w (fun v w1 => fX11_laid [.ref 41, .int x1, .int x2] w1 (fun u w2 => LK v u w2)) := by
  obtain ⟨T, L, r, nm, hR, hc, hg, hb, hn, ht⟩ := id h
  exact nX10_laid _ _ _ _ (fun v w1 h1 => nX11_laid _ _ _ _ (fun u w2 hq => LK_A hc hg hb hn ht hq) h1) (p_laid hR)
theorem l_become (h : LR w) {x1 x2 x3 : Int32} : fX10_become [.ref 0, .int x1, .int x2, .int x3] w (fun v w1 => fX11_become [.ref 41, .int x1, .int x2, .int x3] w1 (fun u w2 => LK v u w2)) := by
  obtain ⟨T, L, r, nm, hR, hc, hg, hb, hn, ht⟩ := id h
  exact nX10_become _ _ _ _ (fun v w1 h1 => nX11_become _ _ _ _ (fun u w2 hq => LK_A hc hg hb hn ht hq) h1) (p_become hR)
theorem l_rule (h : LR w) {x1 x2 : Int32} : fX10_rule [.ref 0, .int x1, .int x2] w (fun v w1 => fX11_rule [.ref 41, .int x1, .int x2] w1 (fun u w2 => LK v u w2)) := by
  obtain ⟨T, L, r, nm, hR, hc, hg, hb, hn, ht⟩ := id h
  exact nX10_rule _ _ _ _ (fun v w1 h1 => nX11_rule _ _ _ _ (fun u w2 hq => LK_A hc hg hb hn ht hq) h1) (p_rule hR)
theorem l_rests (h : LR w) {x1 x2 : Int32} : fX10_rests [.ref 0, .int x1, .int x2] w (fun v w1 => fX11_rests [.ref 41, .int x1, .int x2] w1 (fun u w2 => LK v u w2)) := by
  obtain ⟨T, L, r, nm, hR, hc, hg, hb, hn, ht⟩ := id h
  exact nX10_rests _ _ _ _ (fun v w1 h1 => nX11_rests _ _ _ _ (fun u w2 hq => LK_A hc hg hb hn ht hq) h1) (p_rests hR)
theorem l_undo (h : LR w) : fX10_undo [.ref 0] w (fun v w1 => fX11_undo [.ref 41] w1 (fun u w2 => LK v u w2)) := by
  obtain ⟨T, L, r, nm, hR, hc, hg, hb, hn, ht⟩ := id h
  exact nX10_undo _ _ _ _ (fun v w1 h1 => nX11_undo _ _ _ _ (fun u w2 hq => LK_A hc hg hb hn ht hq) h1) (p_undo hR)
theorem l_size (h : LR w) : fX10_size [.ref 0] w (fun v w1 => fX11_size [.ref 41] w1 (fun u w2 => LK v u w2)) := by
  obtain ⟨T, L, r, nm, hR, hc, hg, hb, hn, ht⟩ := id h
  exact nX10_size _ _ _ _ (fun v w1 h1 => nX11_size _ _ _ _ (fun u w2 hq => LK_S h hq) h1) (p_size (hc.1.trans hg.1.symm))
theorem l_trouble (h : LR w) : fX10_trouble [.ref 0] w (fun v w1 => fX11_trouble [.ref 41] w1 (fun u w2 => LK v u w2)) := by
  obtain ⟨T, L, r, nm, hR, hc, hg, hb, hn, ht⟩ := id h
  exact nX10_trouble _ _ _ _ (fun v w1 h1 => nX11_trouble _ _ _ _ (fun u w2 hq => LK_S h hq) h1) (p_trouble ht.1)
theorem lg_cmp_rf (x : Int64) : lg_cmp x x = 0 := by
  unfold lg_cmp
  simp
theorem lc_feed (C : LX p s m meth c D ad adV cA b L xs ql sa) (hi : i + 6 ≤ L) (hk : k ≤ 512) (nx : NX p l e s m below meth c D ad cA b ql i (k + 1) 1891) (h : HD s D ad cA b ql i w f H ls) : W p l e room_1 s m #[Value.ref b] below meth c H [] (60 + k) (8000 + 6 * k) (lw_Z below #[Value.ref b] s) (F0 m 244 ls []) := by
  obtain ⟨hLR, hP, hS, hq, hl⟩ := h
  have hrc : 60 + k ≤ room_1.cells ∧ 8000 + 6 * k ≤ room_1.slots := ⟨by show 60 + k ≤ 601024; omega, by show 8000 + 6 * k ≤ 7293034; omega⟩
  have hx := C.1.1
  have hb := C.1.2.1
  refine lv_aload_n hx hb (by decide +kernel : decode code 244 = .ok (.aload_n 1, 1)) rfl (lv_at hl 1 rfl) ?_
  refine ld C (j := 1) (n := 1) (by decide +kernel : decode code 245 = .ok (.aload_n 0, 1)) (by decide +kernel : decode code 246 = .ok (.iload 4, 2)) (by decide +kernel : decode code 248 = .ok (.iconst 1, 1)) (by decide +kernel : decode code 249 = .ok (.iadd, 1)) (by decide +kernel : decode code 250 = .ok (.iaload, 1)) rfl (by omega) hS hl ?_
  refine ld C (j := 2) (n := 2) (by decide +kernel : decode code 251 = .ok (.aload_n 0, 1)) (by decide +kernel : decode code 252 = .ok (.iload 4, 2)) (by decide +kernel : decode code 254 = .ok (.iconst 2, 1)) (by decide +kernel : decode code 255 = .ok (.iadd, 1)) (by decide +kernel : decode code 256 = .ok (.iaload, 1)) rfl (by omega) hS hl ?_
  refine ld C (j := 3) (n := 3) (by decide +kernel : decode code 257 = .ok (.aload_n 0, 1)) (by decide +kernel : decode code 258 = .ok (.iload 4, 2)) (by decide +kernel : decode code 260 = .ok (.iconst 3, 1)) (by decide +kernel : decode code 261 = .ok (.iadd, 1)) (by decide +kernel : decode code 262 = .ok (.iaload, 1)) rfl (by omega) hS hl ?_
  refine ld C (j := 4) (n := 4) (by decide +kernel : decode code 263 = .ok (.aload_n 0, 1)) (by decide +kernel : decode code 264 = .ok (.iload 4, 2)) (by decide +kernel : decode code 266 = .ok (.iconst 4, 1)) (by decide +kernel : decode code 267 = .ok (.iadd, 1)) (by decide +kernel : decode code 268 = .ok (.iaload, 1)) rfl (by omega) hS hl ?_
  refine ld C (j := 5) (n := 5) (by decide +kernel : decode code 269 = .ok (.aload_n 0, 1)) (by decide +kernel : decode code 270 = .ok (.iload 4, 2)) (by decide +kernel : decode code 272 = .ok (.iconst 5, 1)) (by decide +kernel : decode code 273 = .ok (.iadd, 1)) (by decide +kernel : decode code 274 = .ok (.iaload, 1)) rfl (by omega) hS hl ?_
  refine gc_V (ci := 10) (x := 0) (As := [.int (xs (i + 1)), .int (xs (i + 2)), .int (xs (i + 3)), .int (xs (i + 4)), .int (xs (i + 5))]) (rest := []) C.1 (kX10_feed l) (by decide +kernel : decode code 275 = .ok (.invokevirtual 19, 3)) rfl qX10_feed tw2_158 tw2_159 tw2_160 tw1_1 tw2_161 (by decide) hrc rfl rfl (Nat.le_of_ble_eq_true rfl) hl.1 hP hS (l_feed hLR) (fun r w1 H1 locs1 hK1 hP1 hS1 st1 => ?_)
  refine lv_aload_n hx hb (by decide +kernel : decode code 278 = .ok (.aload_n 2, 1)) rfl (lv_at hl 2 rfl) ?_
  refine ld C (j := 1) (n := 1) (by decide +kernel : decode code 279 = .ok (.aload_n 0, 1)) (by decide +kernel : decode code 280 = .ok (.iload 4, 2)) (by decide +kernel : decode code 282 = .ok (.iconst 1, 1)) (by decide +kernel : decode code 283 = .ok (.iadd, 1)) (by decide +kernel : decode code 284 = .ok (.iaload, 1)) rfl (by omega) hS1 hl ?_
  refine ld C (j := 2) (n := 2) (by decide +kernel : decode code 285 = .ok (.aload_n 0, 1)) (by decide +kernel : decode code 286 = .ok (.iload 4, 2)) (by decide +kernel : decode code 288 = .ok (.iconst 2, 1)) (by decide +kernel : decode code 289 = .ok (.iadd, 1)) (by decide +kernel : decode code 290 = .ok (.iaload, 1)) rfl (by omega) hS1 hl ?_
  refine ld C (j := 3) (n := 3) (by decide +kernel : decode code 291 = .ok (.aload_n 0, 1)) (by decide +kernel : decode code 292 = .ok (.iload 4, 2)) (by decide +kernel : decode code 294 = .ok (.iconst 3, 1)) (by decide +kernel : decode code 295 = .ok (.iadd, 1)) (by decide +kernel : decode code 296 = .ok (.iaload, 1)) rfl (by omega) hS1 hl ?_
  refine ld C (j := 4) (n := 4) (by decide +kernel : decode code 297 = .ok (.aload_n 0, 1)) (by decide +kernel : decode code 298 = .ok (.iload 4, 2)) (by decide +kernel : decode code 300 = .ok (.iconst 4, 1)) (by decide +kernel : decode code 301 = .ok (.iadd, 1)) (by decide +kernel : decode code 302 = .ok (.iaload, 1)) rfl (by omega) hS1 hl ?_
  refine ld C (j := 5) (n := 5) (by decide +kernel : decode code 303 = .ok (.aload_n 0, 1)) (by decide +kernel : decode code 304 = .ok (.iload 4, 2)) (by decide +kernel : decode code 306 = .ok (.iconst 5, 1)) (by decide +kernel : decode code 307 = .ok (.iadd, 1)) (by decide +kernel : decode code 308 = .ok (.iaload, 1)) rfl (by omega) hS1 hl ?_
  refine gc_V (ci := 11) (x := 41) (As := [.int (xs (i + 1)), .int (xs (i + 2)), .int (xs (i + 3)), .int (xs (i + 4)), .int (xs (i + 5))]) (rest := (r.map (vl ad)).toList ++ []) C.1 (kX11_feed l) (by decide +kernel : decode code 309 = .ok (.invokevirtual 23, 3)) rfl qX11_feed tw6_100 tw6_101 tw6_102 tw1_12 tw6_103 (by decide) hrc rfl rfl (cat2 r ad) hl.1 hP1 hS1 hK1 (fun u w2 H2 locs2 hK2 hP2 hS2 st2 => ?_)
  obtain ⟨rfl, ⟨x, rfl⟩, hLR2⟩ := hK2
  refine lv_icmp_eq (tgt := 1891) hx hb (by decide +kernel : decode code 312 = .ok (.if_icmp .eq 1579, 3)) (by decide) (fun _ => ?_) (fun z => absurd rfl z)
  exact lc_end C nx hq (st1.tr st2) hLR2 hP2 hS2 hl
theorem lc_text (C : LX p s m meth c D ad adV cA b L xs ql sa) (hi : i + 6 ≤ L) (hk : k ≤ 512) (nx : NX p l e s m below meth c D ad cA b ql i (k + 1) 1891) (h : HD s D ad cA b ql i w f H ls) : W p l e room_1 s m #[Value.ref b] below meth c H [] (60 + k) (8000 + 6 * k) (lw_Z below #[Value.ref b] s) (F0 m 317 ls []) := by
  obtain ⟨hLR, hP, hS, hq, hl⟩ := h
  have hrc : 60 + k ≤ room_1.cells ∧ 8000 + 6 * k ≤ room_1.slots := ⟨by show 60 + k ≤ 601024; omega, by show 8000 + 6 * k ≤ 7293034; omega⟩
  have hx := C.1.1
  have hb := C.1.2.1
  refine lv_aload_n hx hb (by decide +kernel : decode code 317 = .ok (.aload_n 1, 1)) rfl (lv_at hl 1 rfl) ?_
  refine ld C (j := 1) (n := 1) (by decide +kernel : decode code 318 = .ok (.aload_n 0, 1)) (by decide +kernel : decode code 319 = .ok (.iload 4, 2)) (by decide +kernel : decode code 321 = .ok (.iconst 1, 1)) (by decide +kernel : decode code 322 = .ok (.iadd, 1)) (by decide +kernel : decode code 323 = .ok (.iaload, 1)) rfl (by omega) hS hl ?_
  refine gc_V (ci := 10) (x := 0) (As := [.int (xs (i + 1))]) (rest := []) C.1 (kX10_text l) (by decide +kernel : decode code 324 = .ok (.invokevirtual 24, 3)) rfl qX10_text tw2_166 tw2_167 tw2_168 tw1_1 tw2_169 (by decide) hrc rfl rfl (Nat.le_of_ble_eq_true rfl) hl.1 hP hS (l_text hLR) (fun r w1 H1 locs1 hK1 hP1 hS1 st1 => ?_)
  refine lv_aload_n hx hb (by decide +kernel : decode code 327 = .ok (.aload_n 2, 1)) rfl (lv_at hl 2 rfl) ?_
  refine ld C (j := 1) (n := 1) (by decide +kernel : decode code 328 = .ok (.aload_n 0, 1)) (by decide +kernel : decode code 329 = .ok (.iload 4, 2)) (by decide +kernel : decode code 331 = .ok (.iconst 1, 1)) (by decide +kernel : decode code 332 = .ok (.iadd, 1)) (by decide +kernel : decode code 333 = .ok (.iaload, 1)) rfl (by omega) hS1 hl ?_
  refine gc_V (ci := 11) (x := 41) (As := [.int (xs (i + 1))]) (rest := (r.map (vl ad)).toList ++ []) C.1 (kX11_text l) (by decide +kernel : decode code 334 = .ok (.invokevirtual 27, 3)) rfl qX11_text tw6_108 tw6_109 tw6_110 tw1_12 tw6_111 (by decide) hrc rfl rfl (cat2 r ad) hl.1 hP1 hS1 hK1 (fun u w2 H2 locs2 hK2 hP2 hS2 st2 => ?_)
  obtain ⟨rfl, ⟨x, rfl⟩, hLR2⟩ := hK2
  refine lv_icmp_eq (tgt := 1891) hx hb (by decide +kernel : decode code 337 = .ok (.if_icmp .eq 1554, 3)) (by decide) (fun _ => ?_) (fun z => absurd rfl z)
  exact lc_end C nx hq (st1.tr st2) hLR2 hP2 hS2 hl
theorem lc_fault (C : LX p s m meth c D ad adV cA b L xs ql sa) (hi : i + 6 ≤ L) (hk : k ≤ 512) (nx : NX p l e s m below meth c D ad cA b ql i (k + 1) 1891) (h : HD s D ad cA b ql i w f H ls) : W p l e room_1 s m #[Value.ref b] below meth c H [] (60 + k) (8000 + 6 * k) (lw_Z below #[Value.ref b] s) (F0 m 342 ls []) := by
  obtain ⟨hLR, hP, hS, hq, hl⟩ := h
  have hrc : 60 + k ≤ room_1.cells ∧ 8000 + 6 * k ≤ room_1.slots := ⟨by show 60 + k ≤ 601024; omega, by show 8000 + 6 * k ≤ 7293034; omega⟩
  have hx := C.1.1
  have hb := C.1.2.1
  refine lv_aload_n hx hb (by decide +kernel : decode code 342 = .ok (.aload_n 1, 1)) rfl (lv_at hl 1 rfl) ?_
  refine gc_V (ci := 10) (x := 0) (As := []) (rest := []) C.1 (kX10_fault l) (by decide +kernel : decode code 343 = .ok (.invokevirtual 28, 3)) rfl qX10_fault tw3_143 tw3_144 tw3_145 tw1_1 tw3_146 (by decide) hrc rfl rfl (Nat.le_of_ble_eq_true rfl) hl.1 hP hS (l_fault hLR) (fun r w1 H1 locs1 hK1 hP1 hS1 st1 => ?_)
  refine lv_aload_n hx hb (by decide +kernel : decode code 346 = .ok (.aload_n 2, 1)) rfl (lv_at hl 2 rfl) ?_
  refine gc_V (ci := 11) (x := 41) (As := []) (rest := (r.map (vl ad)).toList ++ []) C.1 (kX11_fault l) (by decide +kernel : decode code 347 = .ok (.invokevirtual 32, 3)) rfl qX11_fault tw6_191 tw6_192 tw6_193 tw1_12 tw6_194 (by decide) hrc rfl rfl (cat2 r ad) hl.1 hP1 hS1 hK1 (fun u w2 H2 locs2 hK2 hP2 hS2 st2 => ?_)
  obtain ⟨rfl, ⟨x, rfl⟩, hLR2⟩ := hK2
  refine lv_icmp_eq (tgt := 1891) hx hb (by decide +kernel : decode code 350 = .ok (.if_icmp .eq 1541, 3)) (by decide) (fun _ => ?_) (fun z => absurd rfl z)
  exact lc_end C nx hq (st1.tr st2) hLR2 hP2 hS2 hl
theorem lc_where (C : LX p s m meth c D ad adV cA b L xs ql sa) (hi : i + 6 ≤ L) (hk : k ≤ 512) (nx : NX p l e s m below meth c D ad cA b ql i (k + 1) 1891) (h : HD s D ad cA b ql i w f H ls) : W p l e room_1 s m #[Value.ref b] below meth c H [] (60 + k) (8000 + 6 * k) (lw_Z below #[Value.ref b] s) (F0 m 355 ls []) := by
  obtain ⟨hLR, hP, hS, hq, hl⟩ := h
  have hrc : 60 + k ≤ room_1.cells ∧ 8000 + 6 * k ≤ room_1.slots := ⟨by show 60 + k ≤ 601024; omega, by show 8000 + 6 * k ≤ 7293034; omega⟩
  have hx := C.1.1
  have hb := C.1.2.1
  refine lv_aload_n hx hb (by decide +kernel : decode code 355 = .ok (.aload_n 1, 1)) rfl (lv_at hl 1 rfl) ?_
  refine gc_V (ci := 10) (x := 0) (As := []) (rest := []) C.1 (kX10_where l) (by decide +kernel : decode code 356 = .ok (.invokevirtual 33, 3)) rfl qX10_where tw3_147 tw3_148 tw3_149 tw1_1 tw3_150 (by decide) hrc rfl rfl (Nat.le_of_ble_eq_true rfl) hl.1 hP hS (l_where hLR) (fun r w1 H1 locs1 hK1 hP1 hS1 st1 => ?_)
  refine lv_aload_n hx hb (by decide +kernel : decode code 359 = .ok (.aload_n 2, 1)) rfl (lv_at hl 2 rfl) ?_
  refine gc_V (ci := 11) (x := 41) (As := []) (rest := (r.map (vl ad)).toList ++ []) C.1 (kX11_where l) (by decide +kernel : decode code 360 = .ok (.invokevirtual 36, 3)) rfl qX11_where tw6_195 tw6_196 tw6_197 tw1_12 tw6_198 (by decide) hrc rfl rfl (cat2 r ad) hl.1 hP1 hS1 hK1 (fun u w2 H2 locs2 hK2 hP2 hS2 st2 => ?_)
  obtain ⟨rfl, ⟨x, rfl⟩, hLR2⟩ := hK2
  refine lv_icmp_eq (tgt := 1891) hx hb (by decide +kernel : decode code 363 = .ok (.if_icmp .eq 1528, 3)) (by decide) (fun _ => ?_) (fun z => absurd rfl z)
  exact lc_end C nx hq (st1.tr st2) hLR2 hP2 hS2 hl
theorem lc_about (C : LX p s m meth c D ad adV cA b L xs ql sa) (hi : i + 6 ≤ L) (hk : k ≤ 512) (nx : NX p l e s m below meth c D ad cA b ql i (k + 1) 1891) (h : HD s D ad cA b ql i w f H ls) : W p l e room_1 s m #[Value.ref b] below meth c H [] (60 + k) (8000 + 6 * k) (lw_Z below #[Value.ref b] s) (F0 m 368 ls []) := by
  obtain ⟨hLR, hP, hS, hq, hl⟩ := h
  have hrc : 60 + k ≤ room_1.cells ∧ 8000 + 6 * k ≤ room_1.slots := ⟨by show 60 + k ≤ 601024; omega, by show 8000 + 6 * k ≤ 7293034; omega⟩
  have hx := C.1.1
  have hb := C.1.2.1
  refine lv_aload_n hx hb (by decide +kernel : decode code 368 = .ok (.aload_n 1, 1)) rfl (lv_at hl 1 rfl) ?_
  refine ld C (j := 1) (n := 1) (by decide +kernel : decode code 369 = .ok (.aload_n 0, 1)) (by decide +kernel : decode code 370 = .ok (.iload 4, 2)) (by decide +kernel : decode code 372 = .ok (.iconst 1, 1)) (by decide +kernel : decode code 373 = .ok (.iadd, 1)) (by decide +kernel : decode code 374 = .ok (.iaload, 1)) rfl (by omega) hS hl ?_
  refine gc_V (ci := 10) (x := 0) (As := [.int (xs (i + 1))]) (rest := []) C.1 (kX10_about l) (by decide +kernel : decode code 375 = .ok (.invokevirtual 37, 3)) rfl qX10_about tw3_151 tw3_152 tw3_153 tw1_1 tw3_154 (by decide) hrc rfl rfl (Nat.le_of_ble_eq_true rfl) hl.1 hP hS (l_about hLR) (fun r w1 H1 locs1 hK1 hP1 hS1 st1 => ?_)
  refine lv_aload_n hx hb (by decide +kernel : decode code 378 = .ok (.aload_n 2, 1)) rfl (lv_at hl 2 rfl) ?_
  refine ld C (j := 1) (n := 1) (by decide +kernel : decode code 379 = .ok (.aload_n 0, 1)) (by decide +kernel : decode code 380 = .ok (.iload 4, 2)) (by decide +kernel : decode code 382 = .ok (.iconst 1, 1)) (by decide +kernel : decode code 383 = .ok (.iadd, 1)) (by decide +kernel : decode code 384 = .ok (.iaload, 1)) rfl (by omega) hS1 hl ?_
  refine gc_V (ci := 11) (x := 41) (As := [.int (xs (i + 1))]) (rest := (r.map (vl ad)).toList ++ []) C.1 (kX11_about l) (by decide +kernel : decode code 385 = .ok (.invokevirtual 40, 3)) rfl qX11_about tw6_199 tw6_200 tw6_201 tw1_12 tw6_202 (by decide) hrc rfl rfl (cat2 r ad) hl.1 hP1 hS1 hK1 (fun u w2 H2 locs2 hK2 hP2 hS2 st2 => ?_)
  obtain ⟨rfl, ⟨x, rfl⟩, hLR2⟩ := hK2
  refine lv_icmp_eq (tgt := 1891) hx hb (by decide +kernel : decode code 388 = .ok (.if_icmp .eq 1503, 3)) (by decide) (fun _ => ?_) (fun z => absurd rfl z)
  exact lc_end C nx hq (st1.tr st2) hLR2 hP2 hS2 hl
theorem lc_arm (C : LX p s m meth c D ad adV cA b L xs ql sa) (hi : i + 6 ≤ L) (hk : k ≤ 512) (nx : NX p l e s m below meth c D ad cA b ql i (k + 1) 1891) (h : HD s D ad cA b ql i w f H ls) : W p l e room_1 s m #[Value.ref b] below meth c H [] (60 + k) (8000 + 6 * k) (lw_Z below #[Value.ref b] s) (F0 m 393 ls []) := by
  obtain ⟨hLR, hP, hS, hq, hl⟩ := h
  have hrc : 60 + k ≤ room_1.cells ∧ 8000 + 6 * k ≤ room_1.slots := ⟨by show 60 + k ≤ 601024; omega, by show 8000 + 6 * k ≤ 7293034; omega⟩
  have hx := C.1.1
  have hb := C.1.2.1
  refine lv_aload_n hx hb (by decide +kernel : decode code 393 = .ok (.aload_n 1, 1)) rfl (lv_at hl 1 rfl) ?_
  refine ld C (j := 1) (n := 1) (by decide +kernel : decode code 394 = .ok (.aload_n 0, 1)) (by decide +kernel : decode code 395 = .ok (.iload 4, 2)) (by decide +kernel : decode code 397 = .ok (.iconst 1, 1)) (by decide +kernel : decode code 398 = .ok (.iadd, 1)) (by decide +kernel : decode code 399 = .ok (.iaload, 1)) rfl (by omega) hS hl ?_
  refine ld C (j := 2) (n := 2) (by decide +kernel : decode code 400 = .ok (.aload_n 0, 1)) (by decide +kernel : decode code 401 = .ok (.iload 4, 2)) (by decide +kernel : decode code 403 = .ok (.iconst 2, 1)) (by decide +kernel : decode code 404 = .ok (.iadd, 1)) (by decide +kernel : decode code 405 = .ok (.iaload, 1)) rfl (by omega) hS hl ?_
  refine gc_V (ci := 10) (x := 0) (As := [.int (xs (i + 1)), .int (xs (i + 2))]) (rest := []) C.1 (kX10_arm l) (by decide +kernel : decode code 406 = .ok (.invokevirtual 41, 3)) rfl qX10_arm tw3_167 tw3_168 tw3_169 tw1_1 tw3_170 (by decide) hrc rfl rfl (Nat.le_of_ble_eq_true rfl) hl.1 hP hS (l_arm hLR) (fun r w1 H1 locs1 hK1 hP1 hS1 st1 => ?_)
  refine lv_aload_n hx hb (by decide +kernel : decode code 409 = .ok (.aload_n 2, 1)) rfl (lv_at hl 2 rfl) ?_
  refine ld C (j := 1) (n := 1) (by decide +kernel : decode code 410 = .ok (.aload_n 0, 1)) (by decide +kernel : decode code 411 = .ok (.iload 4, 2)) (by decide +kernel : decode code 413 = .ok (.iconst 1, 1)) (by decide +kernel : decode code 414 = .ok (.iadd, 1)) (by decide +kernel : decode code 415 = .ok (.iaload, 1)) rfl (by omega) hS1 hl ?_
  refine ld C (j := 2) (n := 2) (by decide +kernel : decode code 416 = .ok (.aload_n 0, 1)) (by decide +kernel : decode code 417 = .ok (.iload 4, 2)) (by decide +kernel : decode code 419 = .ok (.iconst 2, 1)) (by decide +kernel : decode code 420 = .ok (.iadd, 1)) (by decide +kernel : decode code 421 = .ok (.iaload, 1)) rfl (by omega) hS1 hl ?_
  refine gc_V (ci := 11) (x := 41) (As := [.int (xs (i + 1)), .int (xs (i + 2))]) (rest := (r.map (vl ad)).toList ++ []) C.1 (kX11_arm l) (by decide +kernel : decode code 422 = .ok (.invokevirtual 45, 3)) rfl qX11_arm tw6_210 tw6_211 tw6_212 tw1_12 tw6_213 (by decide) hrc rfl rfl (cat2 r ad) hl.1 hP1 hS1 hK1 (fun u w2 H2 locs2 hK2 hP2 hS2 st2 => ?_)
  obtain ⟨rfl, ⟨x, rfl⟩, hLR2⟩ := hK2
  refine lv_icmp_eq (tgt := 1891) hx hb (by decide +kernel : decode code 425 = .ok (.if_icmp .eq 1466, 3)) (by decide) (fun _ => ?_) (fun z => absurd rfl z)
  exact lc_end C nx hq (st1.tr st2) hLR2 hP2 hS2 hl
theorem lc_game (C : LX p s m meth c D ad adV cA b L xs ql sa) (hi : i + 6 ≤ L) (hk : k ≤ 512) (nx : NX p l e s m below meth c D ad cA b ql i (k + 1) 1891) (h : HD s D ad cA b ql i w f H ls) : W p l e room_1 s m #[Value.ref b] below meth c H [] (60 + k) (8000 + 6 * k) (lw_Z below #[Value.ref b] s) (F0 m 430 ls []) := by
  obtain ⟨hLR, hP, hS, hq, hl⟩ := h
  have hrc : 60 + k ≤ room_1.cells ∧ 8000 + 6 * k ≤ room_1.slots := ⟨by show 60 + k ≤ 601024; omega, by show 8000 + 6 * k ≤ 7293034; omega⟩
  have hx := C.1.1
  have hb := C.1.2.1
  refine lv_aload_n hx hb (by decide +kernel : decode code 430 = .ok (.aload_n 1, 1)) rfl (lv_at hl 1 rfl) ?_
  refine ld C (j := 1) (n := 1) (by decide +kernel : decode code 431 = .ok (.aload_n 0, 1)) (by decide +kernel : decode code 432 = .ok (.iload 4, 2)) (by decide +kernel : decode code 434 = .ok (.iconst 1, 1)) (by decide +kernel : decode code 435 = .ok (.iadd, 1)) (by decide +kernel : decode code 436 = .ok (.iaload, 1)) rfl (by omega) hS hl ?_
  refine ld C (j := 2) (n := 2) (by decide +kernel : decode code 437 = .ok (.aload_n 0, 1)) (by decide +kernel : decode code 438 = .ok (.iload 4, 2)) (by decide +kernel : decode code 440 = .ok (.iconst 2, 1)) (by decide +kernel : decode code 441 = .ok (.iadd, 1)) (by decide +kernel : decode code 442 = .ok (.iaload, 1)) rfl (by omega) hS hl ?_
  refine gc_V (ci := 10) (x := 0) (As := [.int (xs (i + 1)), .int (xs (i + 2))]) (rest := []) C.1 (kX10_game l) (by decide +kernel : decode code 443 = .ok (.invokevirtual 46, 3)) rfl qX10_game tw3_213 tw3_214 tw3_215 tw1_1 tw3_216 (by decide) hrc rfl rfl (Nat.le_of_ble_eq_true rfl) hl.1 hP hS (l_game hLR) (fun r w1 H1 locs1 hK1 hP1 hS1 st1 => ?_)
  refine lv_aload_n hx hb (by decide +kernel : decode code 446 = .ok (.aload_n 2, 1)) rfl (lv_at hl 2 rfl) ?_
  refine ld C (j := 1) (n := 1) (by decide +kernel : decode code 447 = .ok (.aload_n 0, 1)) (by decide +kernel : decode code 448 = .ok (.iload 4, 2)) (by decide +kernel : decode code 450 = .ok (.iconst 1, 1)) (by decide +kernel : decode code 451 = .ok (.iadd, 1)) (by decide +kernel : decode code 452 = .ok (.iaload, 1)) rfl (by omega) hS1 hl ?_
  refine ld C (j := 2) (n := 2) (by decide +kernel : decode code 453 = .ok (.aload_n 0, 1)) (by decide +kernel : decode code 454 = .ok (.iload 4, 2)) (by decide +kernel : decode code 456 = .ok (.iconst 2, 1)) (by decide +kernel : decode code 457 = .ok (.iadd, 1)) (by decide +kernel : decode code 458 = .ok (.iaload, 1)) rfl (by omega) hS1 hl ?_
  refine gc_V (ci := 11) (x := 41) (As := [.int (xs (i + 1)), .int (xs (i + 2))]) (rest := (r.map (vl ad)).toList ++ []) C.1 (kX11_game l) (by decide +kernel : decode code 459 = .ok (.invokevirtual 49, 3)) rfl qX11_game tw7_10 tw7_11 tw7_12 tw1_12 tw7_13 (by decide) hrc rfl rfl (cat2 r ad) hl.1 hP1 hS1 hK1 (fun u w2 H2 locs2 hK2 hP2 hS2 st2 => ?_)
  obtain ⟨rfl, ⟨x, rfl⟩, hLR2⟩ := hK2
  refine lv_icmp_eq (tgt := 1891) hx hb (by decide +kernel : decode code 462 = .ok (.if_icmp .eq 1429, 3)) (by decide) (fun _ => ?_) (fun z => absurd rfl z)
  exact lc_end C nx hq (st1.tr st2) hLR2 hP2 hS2 hl
theorem lc_rest (C : LX p s m meth c D ad adV cA b L xs ql sa) (hi : i + 6 ≤ L) (hk : k ≤ 512) (nx : NX p l e s m below meth c D ad cA b ql i (k + 1) 1891) (h : HD s D ad cA b ql i w f H ls) : W p l e room_1 s m #[Value.ref b] below meth c H [] (60 + k) (8000 + 6 * k) (lw_Z below #[Value.ref b] s) (F0 m 467 ls []) := by
  obtain ⟨hLR, hP, hS, hq, hl⟩ := h
  have hrc : 60 + k ≤ room_1.cells ∧ 8000 + 6 * k ≤ room_1.slots := ⟨by show 60 + k ≤ 601024; omega, by show 8000 + 6 * k ≤ 7293034; omega⟩
  have hx := C.1.1
  have hb := C.1.2.1
  refine lv_aload_n hx hb (by decide +kernel : decode code 467 = .ok (.aload_n 1, 1)) rfl (lv_at hl 1 rfl) ?_
  refine ld C (j := 1) (n := 1) (by decide +kernel : decode code 468 = .ok (.aload_n 0, 1)) (by decide +kernel : decode code 469 = .ok (.iload 4, 2)) (by decide +kernel : decode code 471 = .ok (.iconst 1, 1)) (by decide +kernel : decode code 472 = .ok (.iadd, 1)) (by decide +kernel : decode code 473 = .ok (.iaload, 1)) rfl (by omega) hS hl ?_
  refine gc_V (ci := 10) (x := 0) (As := [.int (xs (i + 1))]) (rest := []) C.1 (kX10_rest l) (by decide +kernel : decode code 474 = .ok (.invokevirtual 50, 3)) rfl qX10_rest tw4_0 tw4_1 tw4_2 tw1_1 tw4_3 (by decide) hrc rfl rfl (Nat.le_of_ble_eq_true rfl) hl.1 hP hS (l_rest hLR) (fun r w1 H1 locs1 hK1 hP1 hS1 st1 => ?_)
  refine lv_aload_n hx hb (by decide +kernel : decode code 477 = .ok (.aload_n 2, 1)) rfl (lv_at hl 2 rfl) ?_
  refine ld C (j := 1) (n := 1) (by decide +kernel : decode code 478 = .ok (.aload_n 0, 1)) (by decide +kernel : decode code 479 = .ok (.iload 4, 2)) (by decide +kernel : decode code 481 = .ok (.iconst 1, 1)) (by decide +kernel : decode code 482 = .ok (.iadd, 1)) (by decide +kernel : decode code 483 = .ok (.iaload, 1)) rfl (by omega) hS1 hl ?_
  refine gc_V (ci := 11) (x := 41) (As := [.int (xs (i + 1))]) (rest := (r.map (vl ad)).toList ++ []) C.1 (kX11_rest l) (by decide +kernel : decode code 484 = .ok (.invokevirtual 53, 3)) rfl qX11_rest tw7_26 tw7_27 tw7_28 tw1_12 tw7_29 (by decide) hrc rfl rfl (cat2 r ad) hl.1 hP1 hS1 hK1 (fun u w2 H2 locs2 hK2 hP2 hS2 st2 => ?_)
  obtain ⟨rfl, ⟨x, rfl⟩, hLR2⟩ := hK2
  refine lv_icmp_eq (tgt := 1891) hx hb (by decide +kernel : decode code 487 = .ok (.if_icmp .eq 1404, 3)) (by decide) (fun _ => ?_) (fun z => absurd rfl z)
  exact lc_end C nx hq (st1.tr st2) hLR2 hP2 hS2 hl
theorem lc_outing (C : LX p s m meth c D ad adV cA b L xs ql sa) (hi : i + 6 ≤ L) (hk : k ≤ 512) (nx : NX p l e s m below meth c D ad cA b ql i (k + 1) 1891) (h : HD s D ad cA b ql i w f H ls) : W p l e room_1 s m #[Value.ref b] below meth c H [] (60 + k) (8000 + 6 * k) (lw_Z below #[Value.ref b] s) (F0 m 492 ls []) := by
  obtain ⟨hLR, hP, hS, hq, hl⟩ := h
  have hrc : 60 + k ≤ room_1.cells ∧ 8000 + 6 * k ≤ room_1.slots := ⟨by show 60 + k ≤ 601024; omega, by show 8000 + 6 * k ≤ 7293034; omega⟩
  have hx := C.1.1
  have hb := C.1.2.1
  refine lv_aload_n hx hb (by decide +kernel : decode code 492 = .ok (.aload_n 1, 1)) rfl (lv_at hl 1 rfl) ?_
  refine ld C (j := 1) (n := 1) (by decide +kernel : decode code 493 = .ok (.aload_n 0, 1)) (by decide +kernel : decode code 494 = .ok (.iload 4, 2)) (by decide +kernel : decode code 496 = .ok (.iconst 1, 1)) (by decide +kernel : decode code 497 = .ok (.iadd, 1)) (by decide +kernel : decode code 498 = .ok (.iaload, 1)) rfl (by omega) hS hl ?_
  refine ld C (j := 2) (n := 2) (by decide +kernel : decode code 499 = .ok (.aload_n 0, 1)) (by decide +kernel : decode code 500 = .ok (.iload 4, 2)) (by decide +kernel : decode code 502 = .ok (.iconst 2, 1)) (by decide +kernel : decode code 503 = .ok (.iadd, 1)) (by decide +kernel : decode code 504 = .ok (.iaload, 1)) rfl (by omega) hS hl ?_
  refine ld C (j := 3) (n := 3) (by decide +kernel : decode code 505 = .ok (.aload_n 0, 1)) (by decide +kernel : decode code 506 = .ok (.iload 4, 2)) (by decide +kernel : decode code 508 = .ok (.iconst 3, 1)) (by decide +kernel : decode code 509 = .ok (.iadd, 1)) (by decide +kernel : decode code 510 = .ok (.iaload, 1)) rfl (by omega) hS hl ?_
  refine gc_V (ci := 10) (x := 0) (As := [.int (xs (i + 1)), .int (xs (i + 2)), .int (xs (i + 3))]) (rest := []) C.1 (kX10_outing l) (by decide +kernel : decode code 511 = .ok (.invokevirtual 54, 3)) rfl qX10_outing tw4_8 tw4_9 tw4_10 tw1_1 tw4_11 (by decide) hrc rfl rfl (Nat.le_of_ble_eq_true rfl) hl.1 hP hS (l_outing hLR) (fun r w1 H1 locs1 hK1 hP1 hS1 st1 => ?_)
  refine lv_aload_n hx hb (by decide +kernel : decode code 514 = .ok (.aload_n 2, 1)) rfl (lv_at hl 2 rfl) ?_
  refine ld C (j := 1) (n := 1) (by decide +kernel : decode code 515 = .ok (.aload_n 0, 1)) (by decide +kernel : decode code 516 = .ok (.iload 4, 2)) (by decide +kernel : decode code 518 = .ok (.iconst 1, 1)) (by decide +kernel : decode code 519 = .ok (.iadd, 1)) (by decide +kernel : decode code 520 = .ok (.iaload, 1)) rfl (by omega) hS1 hl ?_
  refine ld C (j := 2) (n := 2) (by decide +kernel : decode code 521 = .ok (.aload_n 0, 1)) (by decide +kernel : decode code 522 = .ok (.iload 4, 2)) (by decide +kernel : decode code 524 = .ok (.iconst 2, 1)) (by decide +kernel : decode code 525 = .ok (.iadd, 1)) (by decide +kernel : decode code 526 = .ok (.iaload, 1)) rfl (by omega) hS1 hl ?_
  refine ld C (j := 3) (n := 3) (by decide +kernel : decode code 527 = .ok (.aload_n 0, 1)) (by decide +kernel : decode code 528 = .ok (.iload 4, 2)) (by decide +kernel : decode code 530 = .ok (.iconst 3, 1)) (by decide +kernel : decode code 531 = .ok (.iadd, 1)) (by decide +kernel : decode code 532 = .ok (.iaload, 1)) rfl (by omega) hS1 hl ?_
  refine gc_V (ci := 11) (x := 41) (As := [.int (xs (i + 1)), .int (xs (i + 2)), .int (xs (i + 3))]) (rest := (r.map (vl ad)).toList ++ []) C.1 (kX11_outing l) (by decide +kernel : decode code 533 = .ok (.invokevirtual 58, 3)) rfl qX11_outing tw7_34 tw7_35 tw7_36 tw1_12 tw7_37 (by decide) hrc rfl rfl (cat2 r ad) hl.1 hP1 hS1 hK1 (fun u w2 H2 locs2 hK2 hP2 hS2 st2 => ?_)
  obtain ⟨rfl, ⟨x, rfl⟩, hLR2⟩ := hK2
  refine lv_icmp_eq (tgt := 1891) hx hb (by decide +kernel : decode code 536 = .ok (.if_icmp .eq 1355, 3)) (by decide) (fun _ => ?_) (fun z => absurd rfl z)
  exact lc_end C nx hq (st1.tr st2) hLR2 hP2 hS2 hl
theorem lc_value (C : LX p s m meth c D ad adV cA b L xs ql sa) (hi : i + 6 ≤ L) (hk : k ≤ 512) (nx : NX p l e s m below meth c D ad cA b ql i (k + 1) 1891) (h : HD s D ad cA b ql i w f H ls) : W p l e room_1 s m #[Value.ref b] below meth c H [] (60 + k) (8000 + 6 * k) (lw_Z below #[Value.ref b] s) (F0 m 541 ls []) := by
  obtain ⟨hLR, hP, hS, hq, hl⟩ := h
  have hrc : 60 + k ≤ room_1.cells ∧ 8000 + 6 * k ≤ room_1.slots := ⟨by show 60 + k ≤ 601024; omega, by show 8000 + 6 * k ≤ 7293034; omega⟩
  have hx := C.1.1
  have hb := C.1.2.1
  refine lv_aload_n hx hb (by decide +kernel : decode code 541 = .ok (.aload_n 1, 1)) rfl (lv_at hl 1 rfl) ?_
  refine gc_V (ci := 10) (x := 0) (As := []) (rest := []) C.1 (kX10_value l) (by decide +kernel : decode code 542 = .ok (.invokevirtual 59, 3)) rfl qX10_value tw4_78 tw4_79 tw4_80 tw1_1 tw4_81 (by decide) hrc rfl rfl (Nat.le_of_ble_eq_true rfl) hl.1 hP hS (l_value hLR) (fun r w1 H1 locs1 hK1 hP1 hS1 st1 => ?_)
  refine lv_aload_n hx hb (by decide +kernel : decode code 545 = .ok (.aload_n 2, 1)) rfl (lv_at hl 2 rfl) ?_
  refine gc_V (ci := 11) (x := 41) (As := []) (rest := (r.map (vl ad)).toList ++ []) C.1 (kX11_value l) (by decide +kernel : decode code 546 = .ok (.invokevirtual 62, 3)) rfl qX11_value tw7_54 tw7_55 tw7_56 tw1_12 tw7_57 (by decide) hrc rfl rfl (cat2 r ad) hl.1 hP1 hS1 hK1 (fun u w2 H2 locs2 hK2 hP2 hS2 st2 => ?_)
  obtain ⟨rfl, ⟨x, rfl⟩, hLR2⟩ := hK2
  refine lv_icmp_eq (tgt := 1891) hx hb (by decide +kernel : decode code 549 = .ok (.if_icmp .eq 1342, 3)) (by decide) (fun _ => ?_) (fun z => absurd rfl z)
  exact lc_end C nx hq (st1.tr st2) hLR2 hP2 hS2 hl
theorem lc_points (C : LX p s m meth c D ad adV cA b L xs ql sa) (hi : i + 6 ≤ L) (hk : k ≤ 512) (nx : NX p l e s m below meth c D ad cA b ql i (k + 1) 1891) (h : HD s D ad cA b ql i w f H ls) : W p l e room_1 s m #[Value.ref b] below meth c H [] (60 + k) (8000 + 6 * k) (lw_Z below #[Value.ref b] s) (F0 m 554 ls []) := by
  obtain ⟨hLR, hP, hS, hq, hl⟩ := h
  have hrc : 60 + k ≤ room_1.cells ∧ 8000 + 6 * k ≤ room_1.slots := ⟨by show 60 + k ≤ 601024; omega, by show 8000 + 6 * k ≤ 7293034; omega⟩
  have hx := C.1.1
  have hb := C.1.2.1
  refine lv_aload_n hx hb (by decide +kernel : decode code 554 = .ok (.aload_n 1, 1)) rfl (lv_at hl 1 rfl) ?_
  refine ld C (j := 1) (n := 1) (by decide +kernel : decode code 555 = .ok (.aload_n 0, 1)) (by decide +kernel : decode code 556 = .ok (.iload 4, 2)) (by decide +kernel : decode code 558 = .ok (.iconst 1, 1)) (by decide +kernel : decode code 559 = .ok (.iadd, 1)) (by decide +kernel : decode code 560 = .ok (.iaload, 1)) rfl (by omega) hS hl ?_
  refine ld C (j := 2) (n := 2) (by decide +kernel : decode code 561 = .ok (.aload_n 0, 1)) (by decide +kernel : decode code 562 = .ok (.iload 4, 2)) (by decide +kernel : decode code 564 = .ok (.iconst 2, 1)) (by decide +kernel : decode code 565 = .ok (.iadd, 1)) (by decide +kernel : decode code 566 = .ok (.iaload, 1)) rfl (by omega) hS hl ?_
  refine gc_V (ci := 10) (x := 0) (As := [.int (xs (i + 1)), .int (xs (i + 2))]) (rest := []) C.1 (kX10_points l) (by decide +kernel : decode code 567 = .ok (.invokevirtual 63, 3)) rfl qX10_points tw4_82 tw4_83 tw4_84 tw1_1 tw4_85 (by decide) hrc rfl rfl (Nat.le_of_ble_eq_true rfl) hl.1 hP hS (l_points hLR) (fun r w1 H1 locs1 hK1 hP1 hS1 st1 => ?_)
  refine lv_aload_n hx hb (by decide +kernel : decode code 570 = .ok (.aload_n 2, 1)) rfl (lv_at hl 2 rfl) ?_
  refine ld C (j := 1) (n := 1) (by decide +kernel : decode code 571 = .ok (.aload_n 0, 1)) (by decide +kernel : decode code 572 = .ok (.iload 4, 2)) (by decide +kernel : decode code 574 = .ok (.iconst 1, 1)) (by decide +kernel : decode code 575 = .ok (.iadd, 1)) (by decide +kernel : decode code 576 = .ok (.iaload, 1)) rfl (by omega) hS1 hl ?_
  refine ld C (j := 2) (n := 2) (by decide +kernel : decode code 577 = .ok (.aload_n 0, 1)) (by decide +kernel : decode code 578 = .ok (.iload 4, 2)) (by decide +kernel : decode code 580 = .ok (.iconst 2, 1)) (by decide +kernel : decode code 581 = .ok (.iadd, 1)) (by decide +kernel : decode code 582 = .ok (.iaload, 1)) rfl (by omega) hS1 hl ?_
  refine gc_V (ci := 11) (x := 41) (As := [.int (xs (i + 1)), .int (xs (i + 2))]) (rest := (r.map (vl ad)).toList ++ []) C.1 (kX11_points l) (by decide +kernel : decode code 583 = .ok (.invokevirtual 66, 3)) rfl qX11_points tw7_58 tw7_59 tw7_60 tw1_12 tw7_61 (by decide) hrc rfl rfl (cat2 r ad) hl.1 hP1 hS1 hK1 (fun u w2 H2 locs2 hK2 hP2 hS2 st2 => ?_)
  obtain ⟨rfl, ⟨x, rfl⟩, hLR2⟩ := hK2
  refine lv_icmp_eq (tgt := 1891) hx hb (by decide +kernel : decode code 586 = .ok (.if_icmp .eq 1305, 3)) (by decide) (fun _ => ?_) (fun z => absurd rfl z)
  exact lc_end C nx hq (st1.tr st2) hLR2 hP2 hS2 hl
theorem lc_worth (C : LX p s m meth c D ad adV cA b L xs ql sa) (hi : i + 6 ≤ L) (hk : k ≤ 512) (nx : NX p l e s m below meth c D ad cA b ql i (k + 1) 1891) (h : HD s D ad cA b ql i w f H ls) : W p l e room_1 s m #[Value.ref b] below meth c H [] (60 + k) (8000 + 6 * k) (lw_Z below #[Value.ref b] s) (F0 m 591 ls []) := by
  obtain ⟨hLR, hP, hS, hq, hl⟩ := h
  have hrc : 60 + k ≤ room_1.cells ∧ 8000 + 6 * k ≤ room_1.slots := ⟨by show 60 + k ≤ 601024; omega, by show 8000 + 6 * k ≤ 7293034; omega⟩
  have hx := C.1.1
  have hb := C.1.2.1
  refine lv_aload_n hx hb (by decide +kernel : decode code 591 = .ok (.aload_n 1, 1)) rfl (lv_at hl 1 rfl) ?_
  refine ld C (j := 1) (n := 1) (by decide +kernel : decode code 592 = .ok (.aload_n 0, 1)) (by decide +kernel : decode code 593 = .ok (.iload 4, 2)) (by decide +kernel : decode code 595 = .ok (.iconst 1, 1)) (by decide +kernel : decode code 596 = .ok (.iadd, 1)) (by decide +kernel : decode code 597 = .ok (.iaload, 1)) rfl (by omega) hS hl ?_
  refine ld C (j := 2) (n := 2) (by decide +kernel : decode code 598 = .ok (.aload_n 0, 1)) (by decide +kernel : decode code 599 = .ok (.iload 4, 2)) (by decide +kernel : decode code 601 = .ok (.iconst 2, 1)) (by decide +kernel : decode code 602 = .ok (.iadd, 1)) (by decide +kernel : decode code 603 = .ok (.iaload, 1)) rfl (by omega) hS hl ?_
  refine ld C (j := 3) (n := 3) (by decide +kernel : decode code 604 = .ok (.aload_n 0, 1)) (by decide +kernel : decode code 605 = .ok (.iload 4, 2)) (by decide +kernel : decode code 607 = .ok (.iconst 3, 1)) (by decide +kernel : decode code 608 = .ok (.iadd, 1)) (by decide +kernel : decode code 609 = .ok (.iaload, 1)) rfl (by omega) hS hl ?_
  refine gc_V (ci := 10) (x := 0) (As := [.int (xs (i + 1)), .int (xs (i + 2)), .int (xs (i + 3))]) (rest := []) C.1 (kX10_worth l) (by decide +kernel : decode code 610 = .ok (.invokevirtual 67, 3)) rfl qX10_worth tw4_87 tw4_88 tw4_89 tw1_1 tw4_90 (by decide) hrc rfl rfl (Nat.le_of_ble_eq_true rfl) hl.1 hP hS (l_worth hLR) (fun r w1 H1 locs1 hK1 hP1 hS1 st1 => ?_)
  refine lv_aload_n hx hb (by decide +kernel : decode code 613 = .ok (.aload_n 2, 1)) rfl (lv_at hl 2 rfl) ?_
  refine ld C (j := 1) (n := 1) (by decide +kernel : decode code 614 = .ok (.aload_n 0, 1)) (by decide +kernel : decode code 615 = .ok (.iload 4, 2)) (by decide +kernel : decode code 617 = .ok (.iconst 1, 1)) (by decide +kernel : decode code 618 = .ok (.iadd, 1)) (by decide +kernel : decode code 619 = .ok (.iaload, 1)) rfl (by omega) hS1 hl ?_
  refine ld C (j := 2) (n := 2) (by decide +kernel : decode code 620 = .ok (.aload_n 0, 1)) (by decide +kernel : decode code 621 = .ok (.iload 4, 2)) (by decide +kernel : decode code 623 = .ok (.iconst 2, 1)) (by decide +kernel : decode code 624 = .ok (.iadd, 1)) (by decide +kernel : decode code 625 = .ok (.iaload, 1)) rfl (by omega) hS1 hl ?_
  refine ld C (j := 3) (n := 3) (by decide +kernel : decode code 626 = .ok (.aload_n 0, 1)) (by decide +kernel : decode code 627 = .ok (.iload 4, 2)) (by decide +kernel : decode code 629 = .ok (.iconst 3, 1)) (by decide +kernel : decode code 630 = .ok (.iadd, 1)) (by decide +kernel : decode code 631 = .ok (.iaload, 1)) rfl (by omega) hS1 hl ?_
  refine gc_V (ci := 11) (x := 41) (As := [.int (xs (i + 1)), .int (xs (i + 2)), .int (xs (i + 3))]) (rest := (r.map (vl ad)).toList ++ []) C.1 (kX11_worth l) (by decide +kernel : decode code 632 = .ok (.invokevirtual 70, 3)) rfl qX11_worth tw7_62 tw7_63 tw7_64 tw1_12 tw7_65 (by decide) hrc rfl rfl (cat2 r ad) hl.1 hP1 hS1 hK1 (fun u w2 H2 locs2 hK2 hP2 hS2 st2 => ?_)
  obtain ⟨rfl, ⟨x, rfl⟩, hLR2⟩ := hK2
  refine lv_icmp_eq (tgt := 1891) hx hb (by decide +kernel : decode code 635 = .ok (.if_icmp .eq 1256, 3)) (by decide) (fun _ => ?_) (fun z => absurd rfl z)
  exact lc_end C nx hq (st1.tr st2) hLR2 hP2 hS2 hl
theorem lc_most (C : LX p s m meth c D ad adV cA b L xs ql sa) (hi : i + 6 ≤ L) (hk : k ≤ 512) (nx : NX p l e s m below meth c D ad cA b ql i (k + 1) 1891) (h : HD s D ad cA b ql i w f H ls) : W p l e room_1 s m #[Value.ref b] below meth c H [] (60 + k) (8000 + 6 * k) (lw_Z below #[Value.ref b] s) (F0 m 640 ls []) := by
  obtain ⟨hLR, hP, hS, hq, hl⟩ := h
  have hrc : 60 + k ≤ room_1.cells ∧ 8000 + 6 * k ≤ room_1.slots := ⟨by show 60 + k ≤ 601024; omega, by show 8000 + 6 * k ≤ 7293034; omega⟩
  have hx := C.1.1
  have hb := C.1.2.1
  refine lv_aload_n hx hb (by decide +kernel : decode code 640 = .ok (.aload_n 1, 1)) rfl (lv_at hl 1 rfl) ?_
  refine ld C (j := 1) (n := 1) (by decide +kernel : decode code 641 = .ok (.aload_n 0, 1)) (by decide +kernel : decode code 642 = .ok (.iload 4, 2)) (by decide +kernel : decode code 644 = .ok (.iconst 1, 1)) (by decide +kernel : decode code 645 = .ok (.iadd, 1)) (by decide +kernel : decode code 646 = .ok (.iaload, 1)) rfl (by omega) hS hl ?_
  refine ld C (j := 2) (n := 2) (by decide +kernel : decode code 647 = .ok (.aload_n 0, 1)) (by decide +kernel : decode code 648 = .ok (.iload 4, 2)) (by decide +kernel : decode code 650 = .ok (.iconst 2, 1)) (by decide +kernel : decode code 651 = .ok (.iadd, 1)) (by decide +kernel : decode code 652 = .ok (.iaload, 1)) rfl (by omega) hS hl ?_
  refine gc_V (ci := 10) (x := 0) (As := [.int (xs (i + 1)), .int (xs (i + 2))]) (rest := []) C.1 (kX10_most l) (by decide +kernel : decode code 653 = .ok (.invokevirtual 71, 3)) rfl qX10_most tw4_92 tw4_93 tw4_94 tw1_1 tw4_95 (by decide) hrc rfl rfl (Nat.le_of_ble_eq_true rfl) hl.1 hP hS (l_most hLR) (fun r w1 H1 locs1 hK1 hP1 hS1 st1 => ?_)
  refine lv_aload_n hx hb (by decide +kernel : decode code 656 = .ok (.aload_n 2, 1)) rfl (lv_at hl 2 rfl) ?_
  refine ld C (j := 1) (n := 1) (by decide +kernel : decode code 657 = .ok (.aload_n 0, 1)) (by decide +kernel : decode code 658 = .ok (.iload 4, 2)) (by decide +kernel : decode code 660 = .ok (.iconst 1, 1)) (by decide +kernel : decode code 661 = .ok (.iadd, 1)) (by decide +kernel : decode code 662 = .ok (.iaload, 1)) rfl (by omega) hS1 hl ?_
  refine ld C (j := 2) (n := 2) (by decide +kernel : decode code 663 = .ok (.aload_n 0, 1)) (by decide +kernel : decode code 664 = .ok (.iload 4, 2)) (by decide +kernel : decode code 666 = .ok (.iconst 2, 1)) (by decide +kernel : decode code 667 = .ok (.iadd, 1)) (by decide +kernel : decode code 668 = .ok (.iaload, 1)) rfl (by omega) hS1 hl ?_
  refine gc_V (ci := 11) (x := 41) (As := [.int (xs (i + 1)), .int (xs (i + 2))]) (rest := (r.map (vl ad)).toList ++ []) C.1 (kX11_most l) (by decide +kernel : decode code 669 = .ok (.invokevirtual 74, 3)) rfl qX11_most tw7_66 tw7_67 tw7_68 tw1_12 tw7_69 (by decide) hrc rfl rfl (cat2 r ad) hl.1 hP1 hS1 hK1 (fun u w2 H2 locs2 hK2 hP2 hS2 st2 => ?_)
  obtain ⟨rfl, ⟨x, rfl⟩, hLR2⟩ := hK2
  refine lv_icmp_eq (tgt := 1891) hx hb (by decide +kernel : decode code 672 = .ok (.if_icmp .eq 1219, 3)) (by decide) (fun _ => ?_) (fun z => absurd rfl z)
  exact lc_end C nx hq (st1.tr st2) hLR2 hP2 hS2 hl
theorem lc_when (C : LX p s m meth c D ad adV cA b L xs ql sa) (hi : i + 6 ≤ L) (hk : k ≤ 512) (nx : NX p l e s m below meth c D ad cA b ql i (k + 1) 1891) (h : HD s D ad cA b ql i w f H ls) : W p l e room_1 s m #[Value.ref b] below meth c H [] (60 + k) (8000 + 6 * k) (lw_Z below #[Value.ref b] s) (F0 m 677 ls []) := by
  obtain ⟨hLR, hP, hS, hq, hl⟩ := h
  have hrc : 60 + k ≤ room_1.cells ∧ 8000 + 6 * k ≤ room_1.slots := ⟨by show 60 + k ≤ 601024; omega, by show 8000 + 6 * k ≤ 7293034; omega⟩
  have hx := C.1.1
  have hb := C.1.2.1
  refine lv_aload_n hx hb (by decide +kernel : decode code 677 = .ok (.aload_n 1, 1)) rfl (lv_at hl 1 rfl) ?_
  refine ld C (j := 1) (n := 1) (by decide +kernel : decode code 678 = .ok (.aload_n 0, 1)) (by decide +kernel : decode code 679 = .ok (.iload 4, 2)) (by decide +kernel : decode code 681 = .ok (.iconst 1, 1)) (by decide +kernel : decode code 682 = .ok (.iadd, 1)) (by decide +kernel : decode code 683 = .ok (.iaload, 1)) rfl (by omega) hS hl ?_
  refine ld C (j := 2) (n := 2) (by decide +kernel : decode code 684 = .ok (.aload_n 0, 1)) (by decide +kernel : decode code 685 = .ok (.iload 4, 2)) (by decide +kernel : decode code 687 = .ok (.iconst 2, 1)) (by decide +kernel : decode code 688 = .ok (.iadd, 1)) (by decide +kernel : decode code 689 = .ok (.iaload, 1)) rfl (by omega) hS hl ?_
  refine ld C (j := 3) (n := 3) (by decide +kernel : decode code 690 = .ok (.aload_n 0, 1)) (by decide +kernel : decode code 691 = .ok (.iload 4, 2)) (by decide +kernel : decode code 693 = .ok (.iconst 3, 1)) (by decide +kernel : decode code 694 = .ok (.iadd, 1)) (by decide +kernel : decode code 695 = .ok (.iaload, 1)) rfl (by omega) hS hl ?_
  refine gc_V (ci := 10) (x := 0) (As := [.int (xs (i + 1)), .int (xs (i + 2)), .int (xs (i + 3))]) (rest := []) C.1 (kX10_when l) (by decide +kernel : decode code 696 = .ok (.invokevirtual 75, 3)) rfl qX10_when tw4_103 tw4_104 tw4_105 tw1_1 tw4_106 (by decide) hrc rfl rfl (Nat.le_of_ble_eq_true rfl) hl.1 hP hS (l_when hLR) (fun r w1 H1 locs1 hK1 hP1 hS1 st1 => ?_)
  refine lv_aload_n hx hb (by decide +kernel : decode code 699 = .ok (.aload_n 2, 1)) rfl (lv_at hl 2 rfl) ?_
  refine ld C (j := 1) (n := 1) (by decide +kernel : decode code 700 = .ok (.aload_n 0, 1)) (by decide +kernel : decode code 701 = .ok (.iload 4, 2)) (by decide +kernel : decode code 703 = .ok (.iconst 1, 1)) (by decide +kernel : decode code 704 = .ok (.iadd, 1)) (by decide +kernel : decode code 705 = .ok (.iaload, 1)) rfl (by omega) hS1 hl ?_
  refine ld C (j := 2) (n := 2) (by decide +kernel : decode code 706 = .ok (.aload_n 0, 1)) (by decide +kernel : decode code 707 = .ok (.iload 4, 2)) (by decide +kernel : decode code 709 = .ok (.iconst 2, 1)) (by decide +kernel : decode code 710 = .ok (.iadd, 1)) (by decide +kernel : decode code 711 = .ok (.iaload, 1)) rfl (by omega) hS1 hl ?_
  refine ld C (j := 3) (n := 3) (by decide +kernel : decode code 712 = .ok (.aload_n 0, 1)) (by decide +kernel : decode code 713 = .ok (.iload 4, 2)) (by decide +kernel : decode code 715 = .ok (.iconst 3, 1)) (by decide +kernel : decode code 716 = .ok (.iadd, 1)) (by decide +kernel : decode code 717 = .ok (.iaload, 1)) rfl (by omega) hS1 hl ?_
  refine gc_V (ci := 11) (x := 41) (As := [.int (xs (i + 1)), .int (xs (i + 2)), .int (xs (i + 3))]) (rest := (r.map (vl ad)).toList ++ []) C.1 (kX11_when l) (by decide +kernel : decode code 718 = .ok (.invokevirtual 78, 3)) rfl qX11_when tw7_85 tw7_86 tw7_87 tw1_12 tw7_88 (by decide) hrc rfl rfl (cat2 r ad) hl.1 hP1 hS1 hK1 (fun u w2 H2 locs2 hK2 hP2 hS2 st2 => ?_)
  obtain ⟨rfl, ⟨x, rfl⟩, hLR2⟩ := hK2
  refine lv_icmp_eq (tgt := 1891) hx hb (by decide +kernel : decode code 721 = .ok (.if_icmp .eq 1170, 3)) (by decide) (fun _ => ?_) (fun z => absurd rfl z)
  exact lc_end C nx hq (st1.tr st2) hLR2 hP2 hS2 hl
theorem lc_ranked (C : LX p s m meth c D ad adV cA b L xs ql sa) (hi : i + 6 ≤ L) (hk : k ≤ 512) (nx : NX p l e s m below meth c D ad cA b ql i (k + 1) 1891) (h : HD s D ad cA b ql i w f H ls) : W p l e room_1 s m #[Value.ref b] below meth c H [] (60 + k) (8000 + 6 * k) (lw_Z below #[Value.ref b] s) (F0 m 726 ls []) := by
  obtain ⟨hLR, hP, hS, hq, hl⟩ := h
  have hrc : 60 + k ≤ room_1.cells ∧ 8000 + 6 * k ≤ room_1.slots := ⟨by show 60 + k ≤ 601024; omega, by show 8000 + 6 * k ≤ 7293034; omega⟩
  have hx := C.1.1
  have hb := C.1.2.1
  refine lv_aload_n hx hb (by decide +kernel : decode code 726 = .ok (.aload_n 1, 1)) rfl (lv_at hl 1 rfl) ?_
  refine ld C (j := 1) (n := 1) (by decide +kernel : decode code 727 = .ok (.aload_n 0, 1)) (by decide +kernel : decode code 728 = .ok (.iload 4, 2)) (by decide +kernel : decode code 730 = .ok (.iconst 1, 1)) (by decide +kernel : decode code 731 = .ok (.iadd, 1)) (by decide +kernel : decode code 732 = .ok (.iaload, 1)) rfl (by omega) hS hl ?_
  refine ld C (j := 2) (n := 2) (by decide +kernel : decode code 733 = .ok (.aload_n 0, 1)) (by decide +kernel : decode code 734 = .ok (.iload 4, 2)) (by decide +kernel : decode code 736 = .ok (.iconst 2, 1)) (by decide +kernel : decode code 737 = .ok (.iadd, 1)) (by decide +kernel : decode code 738 = .ok (.iaload, 1)) rfl (by omega) hS hl ?_
  refine gc_V (ci := 10) (x := 0) (As := [.int (xs (i + 1)), .int (xs (i + 2))]) (rest := []) C.1 (kX10_ranked l) (by decide +kernel : decode code 739 = .ok (.invokevirtual 79, 3)) rfl qX10_ranked tw4_107 tw4_108 tw4_109 tw1_1 tw4_110 (by decide) hrc rfl rfl (Nat.le_of_ble_eq_true rfl) hl.1 hP hS (l_ranked hLR) (fun r w1 H1 locs1 hK1 hP1 hS1 st1 => ?_)
  refine lv_aload_n hx hb (by decide +kernel : decode code 742 = .ok (.aload_n 2, 1)) rfl (lv_at hl 2 rfl) ?_
  refine ld C (j := 1) (n := 1) (by decide +kernel : decode code 743 = .ok (.aload_n 0, 1)) (by decide +kernel : decode code 744 = .ok (.iload 4, 2)) (by decide +kernel : decode code 746 = .ok (.iconst 1, 1)) (by decide +kernel : decode code 747 = .ok (.iadd, 1)) (by decide +kernel : decode code 748 = .ok (.iaload, 1)) rfl (by omega) hS1 hl ?_
  refine ld C (j := 2) (n := 2) (by decide +kernel : decode code 749 = .ok (.aload_n 0, 1)) (by decide +kernel : decode code 750 = .ok (.iload 4, 2)) (by decide +kernel : decode code 752 = .ok (.iconst 2, 1)) (by decide +kernel : decode code 753 = .ok (.iadd, 1)) (by decide +kernel : decode code 754 = .ok (.iaload, 1)) rfl (by omega) hS1 hl ?_
  refine gc_V (ci := 11) (x := 41) (As := [.int (xs (i + 1)), .int (xs (i + 2))]) (rest := (r.map (vl ad)).toList ++ []) C.1 (kX11_ranked l) (by decide +kernel : decode code 755 = .ok (.invokevirtual 82, 3)) rfl qX11_ranked tw7_93 tw7_94 tw7_95 tw1_12 tw7_96 (by decide) hrc rfl rfl (cat2 r ad) hl.1 hP1 hS1 hK1 (fun u w2 H2 locs2 hK2 hP2 hS2 st2 => ?_)
  obtain ⟨rfl, ⟨x, rfl⟩, hLR2⟩ := hK2
  refine lv_icmp_eq (tgt := 1891) hx hb (by decide +kernel : decode code 758 = .ok (.if_icmp .eq 1133, 3)) (by decide) (fun _ => ?_) (fun z => absurd rfl z)
  exact lc_end C nx hq (st1.tr st2) hLR2 hP2 hS2 hl
theorem lc_extra (C : LX p s m meth c D ad adV cA b L xs ql sa) (hi : i + 6 ≤ L) (hk : k ≤ 512) (nx : NX p l e s m below meth c D ad cA b ql i (k + 1) 1891) (h : HD s D ad cA b ql i w f H ls) : W p l e room_1 s m #[Value.ref b] below meth c H [] (60 + k) (8000 + 6 * k) (lw_Z below #[Value.ref b] s) (F0 m 763 ls []) := by
  obtain ⟨hLR, hP, hS, hq, hl⟩ := h
  have hrc : 60 + k ≤ room_1.cells ∧ 8000 + 6 * k ≤ room_1.slots := ⟨by show 60 + k ≤ 601024; omega, by show 8000 + 6 * k ≤ 7293034; omega⟩
  have hx := C.1.1
  have hb := C.1.2.1
  refine lv_aload_n hx hb (by decide +kernel : decode code 763 = .ok (.aload_n 1, 1)) rfl (lv_at hl 1 rfl) ?_
  refine ld C (j := 1) (n := 1) (by decide +kernel : decode code 764 = .ok (.aload_n 0, 1)) (by decide +kernel : decode code 765 = .ok (.iload 4, 2)) (by decide +kernel : decode code 767 = .ok (.iconst 1, 1)) (by decide +kernel : decode code 768 = .ok (.iadd, 1)) (by decide +kernel : decode code 769 = .ok (.iaload, 1)) rfl (by omega) hS hl ?_
  refine gc_V (ci := 10) (x := 0) (As := [.int (xs (i + 1))]) (rest := []) C.1 (kX10_extra l) (by decide +kernel : decode code 770 = .ok (.invokevirtual 83, 3)) rfl qX10_extra tw4_119 tw4_120 tw4_121 tw1_1 tw4_122 (by decide) hrc rfl rfl (Nat.le_of_ble_eq_true rfl) hl.1 hP hS (l_extra hLR) (fun r w1 H1 locs1 hK1 hP1 hS1 st1 => ?_)
  refine lv_aload_n hx hb (by decide +kernel : decode code 773 = .ok (.aload_n 2, 1)) rfl (lv_at hl 2 rfl) ?_
  refine ld C (j := 1) (n := 1) (by decide +kernel : decode code 774 = .ok (.aload_n 0, 1)) (by decide +kernel : decode code 775 = .ok (.iload 4, 2)) (by decide +kernel : decode code 777 = .ok (.iconst 1, 1)) (by decide +kernel : decode code 778 = .ok (.iadd, 1)) (by decide +kernel : decode code 779 = .ok (.iaload, 1)) rfl (by omega) hS1 hl ?_
  refine gc_V (ci := 11) (x := 41) (As := [.int (xs (i + 1))]) (rest := (r.map (vl ad)).toList ++ []) C.1 (kX11_extra l) (by decide +kernel : decode code 780 = .ok (.invokevirtual 86, 3)) rfl qX11_extra tw7_101 tw7_102 tw7_103 tw1_12 tw7_104 (by decide) hrc rfl rfl (cat2 r ad) hl.1 hP1 hS1 hK1 (fun u w2 H2 locs2 hK2 hP2 hS2 st2 => ?_)
  obtain ⟨rfl, ⟨x, rfl⟩, hLR2⟩ := hK2
  refine lv_icmp_eq (tgt := 1891) hx hb (by decide +kernel : decode code 783 = .ok (.if_icmp .eq 1108, 3)) (by decide) (fun _ => ?_) (fun z => absurd rfl z)
  exact lc_end C nx hq (st1.tr st2) hLR2 hP2 hS2 hl
theorem lc_clash (C : LX p s m meth c D ad adV cA b L xs ql sa) (hi : i + 6 ≤ L) (hk : k ≤ 512) (nx : NX p l e s m below meth c D ad cA b ql i (k + 1) 1891) (h : HD s D ad cA b ql i w f H ls) : W p l e room_1 s m #[Value.ref b] below meth c H [] (60 + k) (8000 + 6 * k) (lw_Z below #[Value.ref b] s) (F0 m 788 ls []) := by
  obtain ⟨hLR, hP, hS, hq, hl⟩ := h
  have hrc : 60 + k ≤ room_1.cells ∧ 8000 + 6 * k ≤ room_1.slots := ⟨by show 60 + k ≤ 601024; omega, by show 8000 + 6 * k ≤ 7293034; omega⟩
  have hx := C.1.1
  have hb := C.1.2.1
  refine lv_aload_n hx hb (by decide +kernel : decode code 788 = .ok (.aload_n 1, 1)) rfl (lv_at hl 1 rfl) ?_
  refine ld C (j := 1) (n := 1) (by decide +kernel : decode code 789 = .ok (.aload_n 0, 1)) (by decide +kernel : decode code 790 = .ok (.iload 4, 2)) (by decide +kernel : decode code 792 = .ok (.iconst 1, 1)) (by decide +kernel : decode code 793 = .ok (.iadd, 1)) (by decide +kernel : decode code 794 = .ok (.iaload, 1)) rfl (by omega) hS hl ?_
  refine ld C (j := 2) (n := 2) (by decide +kernel : decode code 795 = .ok (.aload_n 0, 1)) (by decide +kernel : decode code 796 = .ok (.iload 4, 2)) (by decide +kernel : decode code 798 = .ok (.iconst 2, 1)) (by decide +kernel : decode code 799 = .ok (.iadd, 1)) (by decide +kernel : decode code 800 = .ok (.iaload, 1)) rfl (by omega) hS hl ?_
  refine ld C (j := 3) (n := 3) (by decide +kernel : decode code 801 = .ok (.aload_n 0, 1)) (by decide +kernel : decode code 802 = .ok (.iload 4, 2)) (by decide +kernel : decode code 804 = .ok (.iconst 3, 1)) (by decide +kernel : decode code 805 = .ok (.iadd, 1)) (by decide +kernel : decode code 806 = .ok (.iaload, 1)) rfl (by omega) hS hl ?_
  refine gc_V (ci := 10) (x := 0) (As := [.int (xs (i + 1)), .int (xs (i + 2)), .int (xs (i + 3))]) (rest := []) C.1 (kX10_clash l) (by decide +kernel : decode code 807 = .ok (.invokevirtual 87, 3)) rfl qX10_clash tw4_123 tw4_124 tw4_125 tw1_1 tw4_126 (by decide) hrc rfl rfl (Nat.le_of_ble_eq_true rfl) hl.1 hP hS (l_clash hLR) (fun r w1 H1 locs1 hK1 hP1 hS1 st1 => ?_)
  refine lv_aload_n hx hb (by decide +kernel : decode code 810 = .ok (.aload_n 2, 1)) rfl (lv_at hl 2 rfl) ?_
  refine ld C (j := 1) (n := 1) (by decide +kernel : decode code 811 = .ok (.aload_n 0, 1)) (by decide +kernel : decode code 812 = .ok (.iload 4, 2)) (by decide +kernel : decode code 814 = .ok (.iconst 1, 1)) (by decide +kernel : decode code 815 = .ok (.iadd, 1)) (by decide +kernel : decode code 816 = .ok (.iaload, 1)) rfl (by omega) hS1 hl ?_
  refine ld C (j := 2) (n := 2) (by decide +kernel : decode code 817 = .ok (.aload_n 0, 1)) (by decide +kernel : decode code 818 = .ok (.iload 4, 2)) (by decide +kernel : decode code 820 = .ok (.iconst 2, 1)) (by decide +kernel : decode code 821 = .ok (.iadd, 1)) (by decide +kernel : decode code 822 = .ok (.iaload, 1)) rfl (by omega) hS1 hl ?_
  refine ld C (j := 3) (n := 3) (by decide +kernel : decode code 823 = .ok (.aload_n 0, 1)) (by decide +kernel : decode code 824 = .ok (.iload 4, 2)) (by decide +kernel : decode code 826 = .ok (.iconst 3, 1)) (by decide +kernel : decode code 827 = .ok (.iadd, 1)) (by decide +kernel : decode code 828 = .ok (.iaload, 1)) rfl (by omega) hS1 hl ?_
  refine gc_V (ci := 11) (x := 41) (As := [.int (xs (i + 1)), .int (xs (i + 2)), .int (xs (i + 3))]) (rest := (r.map (vl ad)).toList ++ []) C.1 (kX11_clash l) (by decide +kernel : decode code 829 = .ok (.invokevirtual 90, 3)) rfl qX11_clash tw7_89 tw7_90 tw7_91 tw1_12 tw7_92 (by decide) hrc rfl rfl (cat2 r ad) hl.1 hP1 hS1 hK1 (fun u w2 H2 locs2 hK2 hP2 hS2 st2 => ?_)
  obtain ⟨rfl, ⟨x, rfl⟩, hLR2⟩ := hK2
  refine lv_icmp_eq (tgt := 1891) hx hb (by decide +kernel : decode code 832 = .ok (.if_icmp .eq 1059, 3)) (by decide) (fun _ => ?_) (fun z => absurd rfl z)
  exact lc_end C nx hq (st1.tr st2) hLR2 hP2 hS2 hl
theorem lc_best (C : LX p s m meth c D ad adV cA b L xs ql sa) (hi : i + 6 ≤ L) (hk : k ≤ 512) (nx : NX p l e s m below meth c D ad cA b ql i (k + 1) 1891) (h : HD s D ad cA b ql i w f H ls) : W p l e room_1 s m #[Value.ref b] below meth c H [] (60 + k) (8000 + 6 * k) (lw_Z below #[Value.ref b] s) (F0 m 837 ls []) := by
  obtain ⟨hLR, hP, hS, hq, hl⟩ := h
  have hrc : 60 + k ≤ room_1.cells ∧ 8000 + 6 * k ≤ room_1.slots := ⟨by show 60 + k ≤ 601024; omega, by show 8000 + 6 * k ≤ 7293034; omega⟩
  have hx := C.1.1
  have hb := C.1.2.1
  refine lv_aload_n hx hb (by decide +kernel : decode code 837 = .ok (.aload_n 1, 1)) rfl (lv_at hl 1 rfl) ?_
  refine ld C (j := 1) (n := 1) (by decide +kernel : decode code 838 = .ok (.aload_n 0, 1)) (by decide +kernel : decode code 839 = .ok (.iload 4, 2)) (by decide +kernel : decode code 841 = .ok (.iconst 1, 1)) (by decide +kernel : decode code 842 = .ok (.iadd, 1)) (by decide +kernel : decode code 843 = .ok (.iaload, 1)) rfl (by omega) hS hl ?_
  refine ld C (j := 2) (n := 2) (by decide +kernel : decode code 844 = .ok (.aload_n 0, 1)) (by decide +kernel : decode code 845 = .ok (.iload 4, 2)) (by decide +kernel : decode code 847 = .ok (.iconst 2, 1)) (by decide +kernel : decode code 848 = .ok (.iadd, 1)) (by decide +kernel : decode code 849 = .ok (.iaload, 1)) rfl (by omega) hS hl ?_
  refine gc_V (ci := 10) (x := 0) (As := [.int (xs (i + 1)), .int (xs (i + 2))]) (rest := []) C.1 (kX10_best l) (by decide +kernel : decode code 850 = .ok (.invokevirtual 91, 3)) rfl qX10_best tw4_129 tw4_130 tw4_131 tw1_1 tw4_132 (by decide) hrc rfl rfl (Nat.le_of_ble_eq_true rfl) hl.1 hP hS (l_best hLR) (fun r w1 H1 locs1 hK1 hP1 hS1 st1 => ?_)
  refine lv_aload_n hx hb (by decide +kernel : decode code 853 = .ok (.aload_n 2, 1)) rfl (lv_at hl 2 rfl) ?_
  refine ld C (j := 1) (n := 1) (by decide +kernel : decode code 854 = .ok (.aload_n 0, 1)) (by decide +kernel : decode code 855 = .ok (.iload 4, 2)) (by decide +kernel : decode code 857 = .ok (.iconst 1, 1)) (by decide +kernel : decode code 858 = .ok (.iadd, 1)) (by decide +kernel : decode code 859 = .ok (.iaload, 1)) rfl (by omega) hS1 hl ?_
  refine ld C (j := 2) (n := 2) (by decide +kernel : decode code 860 = .ok (.aload_n 0, 1)) (by decide +kernel : decode code 861 = .ok (.iload 4, 2)) (by decide +kernel : decode code 863 = .ok (.iconst 2, 1)) (by decide +kernel : decode code 864 = .ok (.iadd, 1)) (by decide +kernel : decode code 865 = .ok (.iaload, 1)) rfl (by omega) hS1 hl ?_
  refine gc_V (ci := 11) (x := 41) (As := [.int (xs (i + 1)), .int (xs (i + 2))]) (rest := (r.map (vl ad)).toList ++ []) C.1 (kX11_best l) (by decide +kernel : decode code 866 = .ok (.invokevirtual 94, 3)) rfl qX11_best tw7_105 tw7_106 tw7_107 tw1_12 tw7_108 (by decide) hrc rfl rfl (cat2 r ad) hl.1 hP1 hS1 hK1 (fun u w2 H2 locs2 hK2 hP2 hS2 st2 => ?_)
  obtain ⟨rfl, ⟨x, rfl⟩, hLR2⟩ := hK2
  refine lv_icmp_eq (tgt := 1891) hx hb (by decide +kernel : decode code 869 = .ok (.if_icmp .eq 1022, 3)) (by decide) (fun _ => ?_) (fun z => absurd rfl z)
  exact lc_end C nx hq (st1.tr st2) hLR2 hP2 hS2 hl
theorem lc_bestOf (C : LX p s m meth c D ad adV cA b L xs ql sa) (hi : i + 6 ≤ L) (hk : k ≤ 512) (nx : NX p l e s m below meth c D ad cA b ql i (k + 1) 1891) (h : HD s D ad cA b ql i w f H ls) : W p l e room_1 s m #[Value.ref b] below meth c H [] (60 + k) (8000 + 6 * k) (lw_Z below #[Value.ref b] s) (F0 m 874 ls []) := by
  obtain ⟨hLR, hP, hS, hq, hl⟩ := h
  have hrc : 60 + k ≤ room_1.cells ∧ 8000 + 6 * k ≤ room_1.slots := ⟨by show 60 + k ≤ 601024; omega, by show 8000 + 6 * k ≤ 7293034; omega⟩
  have hx := C.1.1
  have hb := C.1.2.1
  refine lv_aload_n hx hb (by decide +kernel : decode code 874 = .ok (.aload_n 1, 1)) rfl (lv_at hl 1 rfl) ?_
  refine ld C (j := 1) (n := 1) (by decide +kernel : decode code 875 = .ok (.aload_n 0, 1)) (by decide +kernel : decode code 876 = .ok (.iload 4, 2)) (by decide +kernel : decode code 878 = .ok (.iconst 1, 1)) (by decide +kernel : decode code 879 = .ok (.iadd, 1)) (by decide +kernel : decode code 880 = .ok (.iaload, 1)) rfl (by omega) hS hl ?_
  refine ld C (j := 2) (n := 2) (by decide +kernel : decode code 881 = .ok (.aload_n 0, 1)) (by decide +kernel : decode code 882 = .ok (.iload 4, 2)) (by decide +kernel : decode code 884 = .ok (.iconst 2, 1)) (by decide +kernel : decode code 885 = .ok (.iadd, 1)) (by decide +kernel : decode code 886 = .ok (.iaload, 1)) rfl (by omega) hS hl ?_
  refine ld C (j := 3) (n := 3) (by decide +kernel : decode code 887 = .ok (.aload_n 0, 1)) (by decide +kernel : decode code 888 = .ok (.iload 4, 2)) (by decide +kernel : decode code 890 = .ok (.iconst 3, 1)) (by decide +kernel : decode code 891 = .ok (.iadd, 1)) (by decide +kernel : decode code 892 = .ok (.iaload, 1)) rfl (by omega) hS hl ?_
  refine gc_V (ci := 10) (x := 0) (As := [.int (xs (i + 1)), .int (xs (i + 2)), .int (xs (i + 3))]) (rest := []) C.1 (kX10_bestOf l) (by decide +kernel : decode code 893 = .ok (.invokevirtual 95, 3)) rfl qX10_bestOf tw4_168 tw4_169 tw4_170 tw1_1 tw4_171 (by decide) hrc rfl rfl (Nat.le_of_ble_eq_true rfl) hl.1 hP hS (l_bestOf hLR) (fun r w1 H1 locs1 hK1 hP1 hS1 st1 => ?_)
  refine lv_aload_n hx hb (by decide +kernel : decode code 896 = .ok (.aload_n 2, 1)) rfl (lv_at hl 2 rfl) ?_
  refine ld C (j := 1) (n := 1) (by decide +kernel : decode code 897 = .ok (.aload_n 0, 1)) (by decide +kernel : decode code 898 = .ok (.iload 4, 2)) (by decide +kernel : decode code 900 = .ok (.iconst 1, 1)) (by decide +kernel : decode code 901 = .ok (.iadd, 1)) (by decide +kernel : decode code 902 = .ok (.iaload, 1)) rfl (by omega) hS1 hl ?_
  refine ld C (j := 2) (n := 2) (by decide +kernel : decode code 903 = .ok (.aload_n 0, 1)) (by decide +kernel : decode code 904 = .ok (.iload 4, 2)) (by decide +kernel : decode code 906 = .ok (.iconst 2, 1)) (by decide +kernel : decode code 907 = .ok (.iadd, 1)) (by decide +kernel : decode code 908 = .ok (.iaload, 1)) rfl (by omega) hS1 hl ?_
  refine ld C (j := 3) (n := 3) (by decide +kernel : decode code 909 = .ok (.aload_n 0, 1)) (by decide +kernel : decode code 910 = .ok (.iload 4, 2)) (by decide +kernel : decode code 912 = .ok (.iconst 3, 1)) (by decide +kernel : decode code 913 = .ok (.iadd, 1)) (by decide +kernel : decode code 914 = .ok (.iaload, 1)) rfl (by omega) hS1 hl ?_
  refine gc_V (ci := 11) (x := 41) (As := [.int (xs (i + 1)), .int (xs (i + 2)), .int (xs (i + 3))]) (rest := (r.map (vl ad)).toList ++ []) C.1 (kX11_bestOf l) (by decide +kernel : decode code 915 = .ok (.invokevirtual 98, 3)) rfl qX11_bestOf tw7_129 tw7_130 tw7_131 tw1_12 tw7_132 (by decide) hrc rfl rfl (cat2 r ad) hl.1 hP1 hS1 hK1 (fun u w2 H2 locs2 hK2 hP2 hS2 st2 => ?_)
  obtain ⟨rfl, ⟨x, rfl⟩, hLR2⟩ := hK2
  refine lv_icmp_eq (tgt := 1891) hx hb (by decide +kernel : decode code 918 = .ok (.if_icmp .eq 973, 3)) (by decide) (fun _ => ?_) (fun z => absurd rfl z)
  exact lc_end C nx hq (st1.tr st2) hLR2 hP2 hS2 hl
theorem lc_pair (C : LX p s m meth c D ad adV cA b L xs ql sa) (hi : i + 6 ≤ L) (hk : k ≤ 512) (nx : NX p l e s m below meth c D ad cA b ql i (k + 1) 1891) (h : HD s D ad cA b ql i w f H ls) : W p l e room_1 s m #[Value.ref b] below meth c H [] (60 + k) (8000 + 6 * k) (lw_Z below #[Value.ref b] s) (F0 m 923 ls []) := by
  obtain ⟨hLR, hP, hS, hq, hl⟩ := h
  have hrc : 60 + k ≤ room_1.cells ∧ 8000 + 6 * k ≤ room_1.slots := ⟨by show 60 + k ≤ 601024; omega, by show 8000 + 6 * k ≤ 7293034; omega⟩
  have hx := C.1.1
  have hb := C.1.2.1
  refine lv_aload_n hx hb (by decide +kernel : decode code 923 = .ok (.aload_n 1, 1)) rfl (lv_at hl 1 rfl) ?_
  refine ld C (j := 1) (n := 1) (by decide +kernel : decode code 924 = .ok (.aload_n 0, 1)) (by decide +kernel : decode code 925 = .ok (.iload 4, 2)) (by decide +kernel : decode code 927 = .ok (.iconst 1, 1)) (by decide +kernel : decode code 928 = .ok (.iadd, 1)) (by decide +kernel : decode code 929 = .ok (.iaload, 1)) rfl (by omega) hS hl ?_
  refine ld C (j := 2) (n := 2) (by decide +kernel : decode code 930 = .ok (.aload_n 0, 1)) (by decide +kernel : decode code 931 = .ok (.iload 4, 2)) (by decide +kernel : decode code 933 = .ok (.iconst 2, 1)) (by decide +kernel : decode code 934 = .ok (.iadd, 1)) (by decide +kernel : decode code 935 = .ok (.iaload, 1)) rfl (by omega) hS hl ?_
  refine ld C (j := 3) (n := 3) (by decide +kernel : decode code 936 = .ok (.aload_n 0, 1)) (by decide +kernel : decode code 937 = .ok (.iload 4, 2)) (by decide +kernel : decode code 939 = .ok (.iconst 3, 1)) (by decide +kernel : decode code 940 = .ok (.iadd, 1)) (by decide +kernel : decode code 941 = .ok (.iaload, 1)) rfl (by omega) hS hl ?_
  refine gc_V (ci := 10) (x := 0) (As := [.int (xs (i + 1)), .int (xs (i + 2)), .int (xs (i + 3))]) (rest := []) C.1 (kX10_pair l) (by decide +kernel : decode code 942 = .ok (.invokevirtual 99, 3)) rfl qX10_pair tw4_172 tw4_173 tw4_174 tw1_1 tw4_175 (by decide) hrc rfl rfl (Nat.le_of_ble_eq_true rfl) hl.1 hP hS (l_pair hLR) (fun r w1 H1 locs1 hK1 hP1 hS1 st1 => ?_)
  refine lv_aload_n hx hb (by decide +kernel : decode code 945 = .ok (.aload_n 2, 1)) rfl (lv_at hl 2 rfl) ?_
  refine ld C (j := 1) (n := 1) (by decide +kernel : decode code 946 = .ok (.aload_n 0, 1)) (by decide +kernel : decode code 947 = .ok (.iload 4, 2)) (by decide +kernel : decode code 949 = .ok (.iconst 1, 1)) (by decide +kernel : decode code 950 = .ok (.iadd, 1)) (by decide +kernel : decode code 951 = .ok (.iaload, 1)) rfl (by omega) hS1 hl ?_
  refine ld C (j := 2) (n := 2) (by decide +kernel : decode code 952 = .ok (.aload_n 0, 1)) (by decide +kernel : decode code 953 = .ok (.iload 4, 2)) (by decide +kernel : decode code 955 = .ok (.iconst 2, 1)) (by decide +kernel : decode code 956 = .ok (.iadd, 1)) (by decide +kernel : decode code 957 = .ok (.iaload, 1)) rfl (by omega) hS1 hl ?_
  refine ld C (j := 3) (n := 3) (by decide +kernel : decode code 958 = .ok (.aload_n 0, 1)) (by decide +kernel : decode code 959 = .ok (.iload 4, 2)) (by decide +kernel : decode code 961 = .ok (.iconst 3, 1)) (by decide +kernel : decode code 962 = .ok (.iadd, 1)) (by decide +kernel : decode code 963 = .ok (.iaload, 1)) rfl (by omega) hS1 hl ?_
  refine gc_V (ci := 11) (x := 41) (As := [.int (xs (i + 1)), .int (xs (i + 2)), .int (xs (i + 3))]) (rest := (r.map (vl ad)).toList ++ []) C.1 (kX11_pair l) (by decide +kernel : decode code 964 = .ok (.invokevirtual 102, 3)) rfl qX11_pair tw7_133 tw7_134 tw7_135 tw1_12 tw7_136 (by decide) hrc rfl rfl (cat2 r ad) hl.1 hP1 hS1 hK1 (fun u w2 H2 locs2 hK2 hP2 hS2 st2 => ?_)
  obtain ⟨rfl, ⟨x, rfl⟩, hLR2⟩ := hK2
  refine lv_icmp_eq (tgt := 1891) hx hb (by decide +kernel : decode code 967 = .ok (.if_icmp .eq 924, 3)) (by decide) (fun _ => ?_) (fun z => absurd rfl z)
  exact lc_end C nx hq (st1.tr st2) hLR2 hP2 hS2 hl
theorem lc_breaches (C : LX p s m meth c D ad adV cA b L xs ql sa) (hi : i + 6 ≤ L) (hk : k ≤ 512) (nx : NX p l e s m below meth c D ad cA b ql i (k + 1) 1891) (h : HD s D ad cA b ql i w f H ls) : W p l e room_1 s m #[Value.ref b] below meth c H [] (60 + k) (8000 + 6 * k) (lw_Z below #[Value.ref b] s) (F0 m 972 ls []) := by
  obtain ⟨hLR, hP, hS, hq, hl⟩ := h
  have hrc : 60 + k ≤ room_1.cells ∧ 8000 + 6 * k ≤ room_1.slots := ⟨by show 60 + k ≤ 601024; omega, by show 8000 + 6 * k ≤ 7293034; omega⟩
  have hx := C.1.1
  have hb := C.1.2.1
  refine lv_aload_n hx hb (by decide +kernel : decode code 972 = .ok (.aload_n 1, 1)) rfl (lv_at hl 1 rfl) ?_
  refine gc_V (ci := 10) (x := 0) (As := []) (rest := []) C.1 (kX10_breaches l) (by decide +kernel : decode code 973 = .ok (.invokevirtual 103, 3)) rfl qX10_breaches tw4_190 tw4_191 tw4_192 tw1_1 tw4_193 (by decide) hrc rfl rfl (Nat.le_of_ble_eq_true rfl) hl.1 hP hS (l_breaches hLR) (fun r w1 H1 locs1 hK1 hP1 hS1 st1 => ?_)
  refine lv_aload_n hx hb (by decide +kernel : decode code 976 = .ok (.aload_n 2, 1)) rfl (lv_at hl 2 rfl) ?_
  refine gc_V (ci := 11) (x := 41) (As := []) (rest := (r.map (vl ad)).toList ++ []) C.1 (kX11_breaches l) (by decide +kernel : decode code 977 = .ok (.invokevirtual 106, 3)) rfl qX11_breaches tw7_141 tw7_142 tw7_143 tw1_12 tw7_144 (by decide) hrc rfl rfl (cat2 r ad) hl.1 hP1 hS1 hK1 (fun u w2 H2 locs2 hK2 hP2 hS2 st2 => ?_)
  obtain ⟨rfl, ⟨x, rfl⟩, hLR2⟩ := hK2
  refine lv_icmp_eq (tgt := 1891) hx hb (by decide +kernel : decode code 980 = .ok (.if_icmp .eq 911, 3)) (by decide) (fun _ => ?_) (fun z => absurd rfl z)
  exact lc_end C nx hq (st1.tr st2) hLR2 hP2 hS2 hl
theorem lc_breach (C : LX p s m meth c D ad adV cA b L xs ql sa) (hi : i + 6 ≤ L) (hk : k ≤ 512) (nx : NX p l e s m below meth c D ad cA b ql i (k + 1) 1891) (h : HD s D ad cA b ql i w f H ls) : W p l e room_1 s m #[Value.ref b] below meth c H [] (60 + k) (8000 + 6 * k) (lw_Z below #[Value.ref b] s) (F0 m 985 ls []) := by
  obtain ⟨hLR, hP, hS, hq, hl⟩ := h
  have hrc : 60 + k ≤ room_1.cells ∧ 8000 + 6 * k ≤ room_1.slots := ⟨by show 60 + k ≤ 601024; omega, by show 8000 + 6 * k ≤ 7293034; omega⟩
  have hx := C.1.1
  have hb := C.1.2.1
  refine lv_aload_n hx hb (by decide +kernel : decode code 985 = .ok (.aload_n 1, 1)) rfl (lv_at hl 1 rfl) ?_
  refine ld C (j := 1) (n := 1) (by decide +kernel : decode code 986 = .ok (.aload_n 0, 1)) (by decide +kernel : decode code 987 = .ok (.iload 4, 2)) (by decide +kernel : decode code 989 = .ok (.iconst 1, 1)) (by decide +kernel : decode code 990 = .ok (.iadd, 1)) (by decide +kernel : decode code 991 = .ok (.iaload, 1)) rfl (by omega) hS hl ?_
  refine gc_V (ci := 10) (x := 0) (As := [.int (xs (i + 1))]) (rest := []) C.1 (kX10_breach l) (by decide +kernel : decode code 992 = .ok (.invokevirtual 107, 3)) rfl qX10_breach tw4_194 tw4_195 tw4_196 tw1_1 tw4_197 (by decide) hrc rfl rfl (Nat.le_of_ble_eq_true rfl) hl.1 hP hS (l_breach hLR) (fun r w1 H1 locs1 hK1 hP1 hS1 st1 => ?_)
  refine lv_aload_n hx hb (by decide +kernel : decode code 995 = .ok (.aload_n 2, 1)) rfl (lv_at hl 2 rfl) ?_
  refine ld C (j := 1) (n := 1) (by decide +kernel : decode code 996 = .ok (.aload_n 0, 1)) (by decide +kernel : decode code 997 = .ok (.iload 4, 2)) (by decide +kernel : decode code 999 = .ok (.iconst 1, 1)) (by decide +kernel : decode code 1000 = .ok (.iadd, 1)) (by decide +kernel : decode code 1001 = .ok (.iaload, 1)) rfl (by omega) hS1 hl ?_
  refine gc_V (ci := 11) (x := 41) (As := [.int (xs (i + 1))]) (rest := (r.map (vl ad)).toList ++ []) C.1 (kX11_breach l) (by decide +kernel : decode code 1002 = .ok (.invokevirtual 110, 3)) rfl qX11_breach tw7_149 tw7_150 tw7_151 tw1_12 tw7_152 (by decide) hrc rfl rfl (cat2 r ad) hl.1 hP1 hS1 hK1 (fun u w2 H2 locs2 hK2 hP2 hS2 st2 => ?_)
  obtain ⟨rfl, ⟨x, rfl⟩, hLR2⟩ := hK2
  refine lv_icmp_eq (tgt := 1891) hx hb (by decide +kernel : decode code 1005 = .ok (.if_icmp .eq 886, 3)) (by decide) (fun _ => ?_) (fun z => absurd rfl z)
  exact lc_end C nx hq (st1.tr st2) hLR2 hP2 hS2 hl
theorem lc_work (C : LX p s m meth c D ad adV cA b L xs ql sa) (hi : i + 6 ≤ L) (hk : k ≤ 512) (nx : NX p l e s m below meth c D ad cA b ql i (k + 1) 1891) (h : HD s D ad cA b ql i w f H ls) : W p l e room_1 s m #[Value.ref b] below meth c H [] (60 + k) (8000 + 6 * k) (lw_Z below #[Value.ref b] s) (F0 m 1010 ls []) := by
  obtain ⟨hLR, hP, hS, hq, hl⟩ := h
  have hrc : 60 + k ≤ room_1.cells ∧ 8000 + 6 * k ≤ room_1.slots := ⟨by show 60 + k ≤ 601024; omega, by show 8000 + 6 * k ≤ 7293034; omega⟩
  have hx := C.1.1
  have hb := C.1.2.1
  refine lv_aload_n hx hb (by decide +kernel : decode code 1010 = .ok (.aload_n 1, 1)) rfl (lv_at hl 1 rfl) ?_
  refine ld C (j := 1) (n := 1) (by decide +kernel : decode code 1011 = .ok (.aload_n 0, 1)) (by decide +kernel : decode code 1012 = .ok (.iload 4, 2)) (by decide +kernel : decode code 1014 = .ok (.iconst 1, 1)) (by decide +kernel : decode code 1015 = .ok (.iadd, 1)) (by decide +kernel : decode code 1016 = .ok (.iaload, 1)) rfl (by omega) hS hl ?_
  refine ld C (j := 2) (n := 2) (by decide +kernel : decode code 1017 = .ok (.aload_n 0, 1)) (by decide +kernel : decode code 1018 = .ok (.iload 4, 2)) (by decide +kernel : decode code 1020 = .ok (.iconst 2, 1)) (by decide +kernel : decode code 1021 = .ok (.iadd, 1)) (by decide +kernel : decode code 1022 = .ok (.iaload, 1)) rfl (by omega) hS hl ?_
  refine gc_V (ci := 10) (x := 0) (As := [.int (xs (i + 1)), .int (xs (i + 2))]) (rest := []) C.1 (kX10_work l) (by decide +kernel : decode code 1023 = .ok (.invokevirtual 111, 3)) rfl qX10_work tw4_198 tw4_199 tw4_200 tw1_1 tw4_201 (by decide) hrc rfl rfl (Nat.le_of_ble_eq_true rfl) hl.1 hP hS (l_work hLR) (fun r w1 H1 locs1 hK1 hP1 hS1 st1 => ?_)
  refine lv_aload_n hx hb (by decide +kernel : decode code 1026 = .ok (.aload_n 2, 1)) rfl (lv_at hl 2 rfl) ?_
  refine ld C (j := 1) (n := 1) (by decide +kernel : decode code 1027 = .ok (.aload_n 0, 1)) (by decide +kernel : decode code 1028 = .ok (.iload 4, 2)) (by decide +kernel : decode code 1030 = .ok (.iconst 1, 1)) (by decide +kernel : decode code 1031 = .ok (.iadd, 1)) (by decide +kernel : decode code 1032 = .ok (.iaload, 1)) rfl (by omega) hS1 hl ?_
  refine ld C (j := 2) (n := 2) (by decide +kernel : decode code 1033 = .ok (.aload_n 0, 1)) (by decide +kernel : decode code 1034 = .ok (.iload 4, 2)) (by decide +kernel : decode code 1036 = .ok (.iconst 2, 1)) (by decide +kernel : decode code 1037 = .ok (.iadd, 1)) (by decide +kernel : decode code 1038 = .ok (.iaload, 1)) rfl (by omega) hS1 hl ?_
  refine gc_V (ci := 11) (x := 41) (As := [.int (xs (i + 1)), .int (xs (i + 2))]) (rest := (r.map (vl ad)).toList ++ []) C.1 (kX11_work l) (by decide +kernel : decode code 1039 = .ok (.invokevirtual 114, 3)) rfl qX11_work tw7_153 tw7_154 tw7_155 tw1_12 tw7_156 (by decide) hrc rfl rfl (cat2 r ad) hl.1 hP1 hS1 hK1 (fun u w2 H2 locs2 hK2 hP2 hS2 st2 => ?_)
  obtain ⟨rfl, ⟨x, rfl⟩, hLR2⟩ := hK2
  refine lv_icmp_eq (tgt := 1891) hx hb (by decide +kernel : decode code 1042 = .ok (.if_icmp .eq 849, 3)) (by decide) (fun _ => ?_) (fun z => absurd rfl z)
  exact lc_end C nx hq (st1.tr st2) hLR2 hP2 hS2 hl
end LAWC
