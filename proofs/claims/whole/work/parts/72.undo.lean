/-! undo() -/
section LOAD
variable {w : Wd} {K : Kt}
theorem c_loadT {b : Nat} (hb : b + 40 ≤ 1800) (h : ∀ w1, Off (fun c => c = 16 ∨ c = 18 ∨ c = 20) w w1 → (∀ j, j < 32 → w1.1 16 j = w.1 40 (b + j)) → (∀ j, j < 3 → w1.1 18 j = w.1 40 (b + 32 + j)) → (∀ j, j < 5 → w1.1 20 j = w.1 40 (b + 32 + 3 + j)) → K none w1) : fX9_loadFrom [.ref 13, .ref 40, .int (nI b)] w K := by
  refine tX9_loadFrom_0 ?_
  rw [nI_add b 32, nI_add (b + 32) 3]
  refine ⟨cpOk_N (by omega) (by omega) (by omega), cpOk_N (by omega) (by omega) (by omega), cpOk_N (by omega) (by omega) (by omega), ?_⟩
  rw [cpy_N (by omega) (by omega) (by omega), cpy_N (by omega) (by omega) (by omega), cpy_N (by omega) (by omega) (by omega), cpI_o (show (40 : Nat) ≠ 18 by decide), cpI_o (show (40 : Nat) ≠ 16 by decide)]
  have o1 : Off (fun c => c = 16 ∨ c = 18 ∨ c = 20) w (cpI w 16 (w.1 40) b 0 32) := Off.cpI (Or.inl rfl)
  have o2 : Off (fun c => c = 16 ∨ c = 18 ∨ c = 20) (cpI w 16 (w.1 40) b 0 32) (cpI (cpI w 16 (w.1 40) b 0 32) 18 (w.1 40) (b + 32) 0 3) := Off.cpI (Or.inr (Or.inl rfl))
  refine h _ ((o1.tr o2).tr (Off.cpI (Or.inr (Or.inr rfl)))) (fun j hj => ?_) (fun j hj => ?_) (fun j hj => ?_)
  · rw [cpI_o (show (16 : Nat) ≠ 20 by decide), cpI_o (show (16 : Nat) ≠ 18 by decide), cpI_c, pk_cpy_in (Nat.zero_le _) (by omega)]; rfl
  · rw [cpI_o (show (18 : Nat) ≠ 20 by decide), cpI_c, pk_cpy_in (Nat.zero_le _) (by omega)]; rfl
  · rw [cpI_c, pk_cpy_in (Nat.zero_le _) (by omega)]; rfl
def PRw (q h : Nat → Nat) (g k : Nat) : Prop := (∀ j, j < 106 ∨ 246 ≤ j → q j = h j) ∧ (∀ a, a < 20 → q (106 + a) = if a < g then h (106 + a) else if a = g then k else 0) ∧ (∀ a j, a < 20 → j < q (106 + a) → who q a j = who h a j ∧ thr q a j = thr h a j)
theorem PRw.add {q h : Nat → Nat} {g k : Nat} (hp : PRw q h g k) (hW : WFr h) (hg : g < 20) (hk : k < h (106 + g)) : PRw (addR q g (who h g k) (thr h g k)) h g (k + 1) := by
  have a3 := (hW.2.2.2.2.2.2.2.1 g hg).2.2.2
  obtain ⟨a, b, c⟩ := hp
  have qg : q (106 + g) = k := by rw [b g hg, if_neg (Nat.lt_irrefl g), if_pos rfl]
  have q2 : q (106 + g) ≤ 2 := by omega
  refine ⟨fun j hj => (addR_o hg q2 hj).trans (a j hj), fun u hu => ?_, fun u j hu hj => ?_⟩
  · rw [addR_f hg q2 u hu]
    by_cases e : u = g
    · rw [if_pos e, e, if_neg (Nat.lt_irrefl g), if_pos rfl, qg]
    · rw [if_neg e, b u hu]
      by_cases l : u < g
      · rw [if_pos l, if_pos l]
      · rw [if_neg l, if_neg e, if_neg l, if_neg e]
  · rw [addR_f hg q2 u hu] at hj
    have j3 : j < 3 := by
      by_cases e : u = g
      · rw [if_pos e] at hj; omega
      · rw [if_neg e, b u hu] at hj
        have := (hW.2.2.2.2.2.2.2.1 u hu).2.2.2
        by_cases l : u < g
        · rw [if_pos l] at hj; omega
        · rw [if_neg l, if_neg e] at hj; omega
    rw [(addR_w hg q2 u j hu j3).1, (addR_w hg q2 u j hu j3).2]
    by_cases e : u = g ∧ j = q (106 + g)
    · rw [if_pos e, if_pos e, e.1, e.2, qg]; exact ⟨rfl, rfl⟩
    · rw [if_neg e, if_neg e]
      refine c u j hu ?_
      by_cases l : u = g
      · rw [if_pos l] at hj
        rw [l]; omega
      · rw [if_neg l] at hj; exact hj
theorem PRw.next {q h : Nat → Nat} {g : Nat} (hp : PRw q h g (h (106 + g))) : PRw q h (g + 1) 0 := by
  obtain ⟨a, b, c⟩ := hp
  refine ⟨a, fun u hu => ?_, c⟩
  rw [b u hu]
  by_cases e : u = g
  · rw [e, if_neg (Nat.lt_irrefl g), if_pos rfl, if_pos (Nat.lt_succ_self g)]
  · by_cases l : u < g
    · rw [if_pos l, if_pos (by omega)]
    · rw [if_neg l, if_neg e, if_neg (show ¬ u < g + 1 by omega), ite_self]
theorem CP_ext {q h : Nat → Nat} (hW : WFr h) (hP : CP w q) (hf : ∀ a, a < 20 → q (106 + a) = h (106 + a)) (hc : ∀ a j, a < 20 → j < q (106 + a) → who q a j = who h a j ∧ thr q a j = thr h a j) : CP w h := by
  refine ⟨fun g hg => by rw [← hf g hg]; exact hP.1 g hg, fun g k hg hk => ?_, fun t g ht hg => ?_⟩
  · rw [← hf g hg] at hk
    rw [← (hc g k hg hk).1, ← (hc g k hg hk).2]
    exact hP.2.1 g k hg hk
  · have e : load h t g = load q t g := by
      unfold load
      rw [hf g hg]
      refine sumN_congr _ (fun k hk => ?_)
      rw [← hf g hg] at hk
      show (if who h g k = t then thr h g k else 0) = (if who q g k = t then thr q g k else 0)
      rw [(hc g k hg hk).1, (hc g k hg hk).2]
    rw [e]
    exact hP.2.2 t g ht hg
theorem c_loadP {q h : Nat → Nat} {N : Nat} (hN : N < 10) (hC : CT w q) (hP : CP w q) (hWq : WFr q) (hVq : VP q) (hW : WFr h) (hV : VP h) (hs : SV w N h) (he : ∀ j, j < 106 ∨ 246 ≤ j → q j = h j) (k : ∀ w1, Off SP w w1 → CT w1 h → CP w1 h → K none w1) : fX5_loadFrom [.ref 21, .ref 40, .int (nI (N * 180 + 40))] w K := by
  obtain ⟨-, -, -, s4, s5⟩ := hs
  refine tX5_loadFrom_0 (c_empty hC hP hWq hVq (fun w1 o1 hC1 hP1 => tX5_loadFrom_4 ?_))
  obtain ⟨hW1, -⟩ := em_ok hWq hVq 20 (Nat.le_refl _)
  have m40 : ∀ w2, Off SP w w2 → w2.1 40 = w.1 40 := fun w2 o => (o 40 (by unfold SP; omega)).1
  have L : ∀ (n g : Nat) (p : Nat → Nat) (u4 u5 u6 : Value) (w2 : Wd), g + n = 20 → Off SP w w2 → CT w2 p → CP w2 p → WFr p → PRw p h g 0 → RR (tl K lX5_loadFrom) 6 [.ref 21, .ref 40, .int (nI (N * 180 + 40)), .int (nI g), u4, u5, u6] [] w2 := by
    intro n
    induction n with
    | zero =>
      intro g p u4 u5 u6 w2 hg o2 hC2 hP2 hW2 pr
      have : g = 20 := by omega
      subst this
      refine tX5_loadFrom_6 ⟨fun _ => ?_, fun z => absurd (Int32.le_refl _) z⟩
      have hf : ∀ a, a < 20 → p (106 + a) = h (106 + a) := fun a ha => by rw [pr.2.1 a ha, if_pos ha]
      exact k w2 o2 (CT_same hC2 (fun j hj => (pr.1 j hj).symm) hW2) (CP_ext hW hP2 hf pr.2.2)
    | succ n ih =>
      intro g p u4 u5 u6 w2 hg o2 hC2 hP2 hW2 pr
      have a3 := (hW.2.2.2.2.2.2.2.1 g (by omega)).2.2.2
      refine tX5_loadFrom_6 ⟨fun z => absurd z (by rw [le_N (by omega) (by omega)]; omega), fun _ => ?_⟩
      have f1 : rd w2 40 (nI (N * 180 + 40 + g)) = nI (h (106 + g)) := by rw [rd_N (by omega), m40 w2 o2]; exact s4 g (by omega)
      rw [nI_add, f1]
      refine ⟨vp_in_nI (by omega) (by decide), ?_⟩
      have M : ∀ (m j : Nat) (p : Nat → Nat) (u6 : Value) (w3 : Wd), j + m = h (106 + g) → Off SP w w3 → CT w3 p → CP w3 p → WFr p → PRw p h g j → RR (tl K lX5_loadFrom) 22 [.ref 21, .ref 40, .int (nI (N * 180 + 40)), .int (nI g), .int (nI (h (106 + g))), .int (nI j), u6] [] w3 := by
        intro m
        induction m with
        | zero =>
          intro j p u6 w3 hj o3 hC3 hP3 hW3 pr3
          have : j = h (106 + g) := by omega
          subst this
          refine tX5_loadFrom_22 ⟨fun _ => ?_, fun z => absurd (Int32.le_refl _) z⟩
          rw [nI_add g 1]
          exact ih (g + 1) p _ _ _ w3 (by omega) o3 hC3 hP3 hW3 pr3.next
        | succ m ih2 =>
          intro j p u6 w3 hj o3 hC3 hP3 hW3 pr3
          have qg : p (106 + g) = j := by rw [pr3.2.1 g (by omega), if_neg (Nat.lt_irrefl g), if_pos rfl]
          have wj := hV.2.2.1 g j (by omega) (by omega)
          have bb := hW.2.2.2.2.2.2.2.2.1 (3 * g + j) (by omega)
          have w7 : who h g j ≤ 7 := bb.1
          have t120 : thr h g j ≤ 120 := bb.2
          have e1 : nI (N * 180 + 40) + nI 20 + nI g * nI 3 + nI j = nI (N * 180 + 60 + (g * 3 + j)) := by
            rw [pk_mul, nI_add, nI_add, nI_add]
            exact congrArg nI (by omega)
          have e2 : nI (N * 180 + 60 + (g * 3 + j)) + nI 60 = nI (N * 180 + 120 + (g * 3 + j)) := by
            rw [nI_add]
            exact congrArg nI (by omega)
          have f2 : rd w3 40 (nI (N * 180 + 60 + (g * 3 + j))) = nI (who h g j) := by rw [rd_N (by omega), m40 w3 o3]; exact (s5 g j (by omega) (by omega)).1
          have f3 : rd w3 40 (nI (N * 180 + 120 + (g * 3 + j))) = nI (thr h g j) := by rw [rd_N (by omega), m40 w3 o3]; exact (s5 g j (by omega) (by omega)).2
          refine tX5_loadFrom_22 ⟨fun z => absurd z (by rw [le_N (by omega) (by omega)]; omega), fun _ => ⟨fun z => absurd z (by rw [le_N (by omega) (by omega)]; omega), fun _ => ?_⟩⟩
          rw [e1, e2, f2, f3]
          refine ⟨vp_in_nI (by omega) (by decide), vp_in_nI (by omega) (by decide), ?_⟩
          have ni : ¬ isIn p (who h g j) g := fun ⟨i, hi, z⟩ => by
            rw [qg] at hi
            rw [(pr3.2.2 g i (by omega) (by omega)).1] at z
            exact hV.2.2.2.1 g i j (by omega) hi (by omega) z
          refine c_add hC3 hP3 hW3 (by omega) (by omega) (by omega) (load_no ni) (fun w4 o4 hC4 hP4 => tX5_loadFrom_64 ?_)
          rw [nI_add j 1]
          exact ih2 (j + 1) _ _ w4 (by omega) (o3.tr o4) hC4 hP4 (WFr_add hW3 (by omega) (by omega) t120 (by omega)) (pr3.add hW (by omega) (by omega))
      exact M (h (106 + g)) 0 p _ w2 (by omega) o2 hC2 hP2 hW2 pr
  refine L 20 0 (emR q 20) _ _ _ w1 rfl o1 hC1 hP1 hW1 ⟨fun j hj => ?_, fun a ha => ?_, fun a j ha hj => ?_⟩
  · rw [← he j hj]
    exact if_neg (by omega)
  · rw [if_neg (Nat.not_lt_zero a), ite_self]
    exact if_pos (by omega)
  · have : emR q 20 (106 + a) = 0 := if_pos (by omega)
    omega
end LOAD
/-- the plan of r, all else of h -/
def mxR (r h : Nat → Nat) : Nat → Nat := fun j => if 106 ≤ j ∧ j < 246 then r j else h j
theorem mxR_o {r h : Nat → Nat} {j : Nat} (hj : j < 106 ∨ 246 ≤ j) : mxR r h j = h j := if_neg (by omega)
theorem mxR_i {r h : Nat → Nat} {j : Nat} (h1 : 106 ≤ j) (h2 : j < 246) : mxR r h j = r j := if_pos ⟨h1, h2⟩
theorem WFr_mx {r h : Nat → Nat} (hW : WFr r) (hH : WFr h) : WFr (mxR r h) := by
  obtain ⟨a, -, -, -, -, -, -, m, n, -⟩ := hW
  obtain ⟨a2, b, c, d, f, k, l, m2, -, o⟩ := hH
  refine ⟨fun j => ?_, ?_, ?_, ?_, ?_, ?_, fun u hu => ?_, fun g hg => ?_, fun j hj => ?_, fun i hi => ?_⟩
  · unfold mxR
    split
    · exact a j
    · exact a2 j
  · rw [mxR_o (by omega)]; exact b
  · rw [mxR_o (by omega)]; exact c
  · rw [mxR_o (by omega)]; exact d
  · rw [mxR_o (by omega)]; exact f
  · rw [mxR_o (by omega)]; exact k
  · rw [mxR_o (by omega), mxR_o (by omega), mxR_o (by omega), mxR_o (by omega), mxR_o (by omega)]; exact l u hu
  · rw [mxR_o (show 46 + g < 106 ∨ 246 ≤ 46 + g by omega), mxR_o (show 66 + g < 106 ∨ 246 ≤ 66 + g by omega), mxR_o (show 86 + g < 106 ∨ 246 ≤ 86 + g by omega), mxR_i (by omega) (by omega)]
    exact ⟨(m2 g hg).1, (m2 g hg).2.1, (m2 g hg).2.2.1, (m g hg).2.2.2⟩
  · rw [mxR_i (by omega) (by omega), mxR_i (by omega) (by omega)]; exact n j hj
  · rw [mxR_o (by omega), mxR_o (by omega)]; exact o i hi
section UNDO
variable {w : Wd} {r : Nat → Nat}
/-- the class goes back to the row h -/
theorem c_goBack {K : Kt} {h : Nat → Nat} {N A : Nat} (hC : CT w r) (hP : CP w r) (hW : WFr r) (hV : VP r) (hN : N < 10) (hA : A < 10) (h3 : w.1 39 3 = nI N) (h4 : w.1 39 4 = nI (A + 1)) (hs : SV w ((N + 9) % 10) h) (hWh : WFr h) (hVh : VP h) (fx : ∀ j, FX j → h j = r j) (k : ∀ w1, Off (fun c => c = 16 ∨ c = 18 ∨ c = 20 ∨ SP c ∨ c = 39) w w1 → w1.1 39 3 = nI ((N + 9) % 10) → w1.1 39 4 = nI A → CT w1 h → CP w1 h → K none w1) : fX4_goBack [.ref 39] w K := by
  have h0 := hW.2.1
  have h1 := hW.2.2.1
  have h2 := hW.2.2.2.1
  have md : (nI N + nI 10 - nI 1) - (nI N + nI 10 - nI 1) / nI 10 * nI 10 = nI ((N + 9) % 10) := by
    rw [nI_add, sub_N (by omega), div_N (by omega) (by omega) (by omega), pk_mul, sub_N (Nat.div_mul_le_self _ _)]
    exact congrArg nI (by omega)
  refine tX4_goBack_0 ?_
  rw [h3, md]
  have r4 : (upI w 39 3 (nI ((N + 9) % 10))).1 39 4 - nI 1 = nI A := by rw [upI1, if_neg (by decide), h4, sub_N (by omega)]; rfl
  rw [r4]
  have r3 : (upI (upI w 39 3 (nI ((N + 9) % 10))) 39 4 (nI A)).1 39 3 = nI ((N + 9) % 10) := by rw [upI1, if_neg (by decide), upI1, if_pos ⟨rfl, rfl⟩]
  rw [r3, pk_mul]
  have r5 : (upI (upI w 39 3 (nI ((N + 9) % 10))) 39 4 (nI A)).1 39 4 = nI A := by rw [upI1, if_pos ⟨rfl, rfl⟩]
  have oa : Off (fun c => c = 39) w (upI w 39 3 (nI ((N + 9) % 10))) := Off.up rfl
  have o0 : Off (fun c => c = 39) w (upI (upI w 39 3 (nI ((N + 9) % 10))) 39 4 (nI A)) := oa.tr (Off.up rfl)
  generalize upI (upI w 39 3 (nI ((N + 9) % 10))) 39 4 (nI A) = w0 at r3 r5 o0 ⊢
  have m40 : w0.1 40 = w.1 40 := (o0 40 (by decide)).1
  have hC0 := hC.off o0 (fun c a b q => by omega)
  have hP0 := hP.off o0 (fun c a b q => by omega)
  refine c_loadT (by omega) (fun w1 o1 l16 l18 l20 => tX4_goBack_45 ?_)
  have e39 : w1.1 39 = w0.1 39 := (o1 39 (by decide)).1
  have e40 : w1.1 40 = w0.1 40 := (o1 40 (by decide)).1
  rw [e39, r3, pk_mul, nI_add]
  rw [m40] at l16 l18 l20
  have hs1 : SV w1 ((N + 9) % 10) h := SV_mem hWh hs (fun j _ _ => by rw [e40, m40])
  obtain ⟨s1, s2, s3, -, -⟩ := hs
  have x0 : h 0 = r 0 := fx 0 (by unfold FX; omega)
  have x1 : h 1 = r 1 := fx 1 (by unfold FX; omega)
  have x2 : h 2 = r 2 := fx 2 (by unfold FX; omega)
  have hC1 : CT w1 (mxR r h) := by
    have u13 : w1.1 13 = w0.1 13 := (o1 13 (by decide)).1
    have u15 : w1.1 15 = w0.1 15 := (o1 15 (by decide)).1
    have u17 : w1.1 17 = w0.1 17 := (o1 17 (by decide)).1
    have u19 : w1.1 19 = w0.1 19 := (o1 19 (by decide)).1
    obtain ⟨a, b, c, d, f, g, kk⟩ := hC0
    refine ⟨?_, ?_, ?_, fun t ht => ?_, fun u hu => ?_, ?_, fun j hj => ?_⟩
    · rw [u13, mxR_o (by omega), x0]; exact a
    · rw [u13, mxR_o (by omega), x1]; exact b
    · rw [u13, mxR_o (by omega), x2]; exact c
    · rw [mxR_o (by omega), x0] at ht
      rw [mxR_o (by omega), mxR_o (by omega), mxR_o (by omega), mxR_o (by omega), mxR_o (by omega), u15, l16 _ (by omega), l16 _ (by omega), l16 _ (by omega), l16 _ (by omega), fx (6 + t) (by unfold FX; omega)]
      exact ⟨(d t ht).1, s1 t (by omega)⟩
    · rw [mxR_o (by omega), x1] at hu
      rw [mxR_o (by omega), mxR_o (by omega), mxR_o (by omega), u17, fx (46 + u) (by unfold FX; omega), fx (66 + u) (by unfold FX; omega), fx (86 + u) (by unfold FX; omega)]
      exact f u hu
    · rw [mxR_o (by omega), mxR_o (by omega), mxR_o (by omega), l18 0 (by omega), l18 1 (by omega), l18 2 (by omega)]
      exact s2
    · rw [mxR_o (by omega), x2] at hj
      rw [mxR_o (by omega), mxR_o (by omega), u19, l20 j (by omega), fx (246 + j) (by unfold FX; omega)]
      exact ⟨(kk j hj).1, s3 j (by omega)⟩
  have hP1 : CP w1 (mxR r h) := CP_same hW (hP0.off o1 (fun c a b q => by omega)) (fun j a b => mxR_i a b)
  have hVm : VP (mxR r h) := VP_same hW hV (fun j hj => by
    by_cases q : 106 ≤ j ∧ j < 246
    · exact mxR_i q.1 q.2
    · rw [mxR_o (by omega)]; exact fx j (by unfold FX; omega)) (fun t ht => by rw [mxR_o (by omega)]; exact hVh.2.2.2.2.2.1 t (by omega))
  refine c_loadP (by omega) hC1 hP1 (WFr_mx hW hWh) hVm hWh hVh hs1 (fun j hj => mxR_o hj) (fun w2 o2 hC2 hP2 => tX4_goBack_67 ?_)
  have p0 : Off (fun c => c = 16 ∨ c = 18 ∨ c = 20 ∨ SP c ∨ c = 39) w w0 := o0.mono (fun c q => by omega)
  have p1 : Off (fun c => c = 16 ∨ c = 18 ∨ c = 20 ∨ SP c ∨ c = 39) w0 w1 := o1.mono (fun c q => by omega)
  have p2 : Off (fun c => c = 16 ∨ c = 18 ∨ c = 20 ∨ SP c ∨ c = 39) w1 w2 := o2.mono (fun c q => Or.inr (Or.inr (Or.inr (Or.inl q))))
  have e39b : w2.1 39 = w0.1 39 := ((o2 39 (by unfold SP; omega)).1).trans e39
  exact k w2 ((p0.tr p1).tr p2) (by rw [e39b, r3]) (by rw [e39b, r5]) hC2 hP2
theorem p_undo (hR : RH w r) : AP w r fX10_undo fX11_undo [.ref 0] [.ref 41] := by
  have hRR := hR
  obtain ⟨hRA, N, A, H, h3, h4, hw, hm, hv⟩ := hR
  obtain ⟨hM, hC, hP, hW, hV, h6, h7, h8⟩ := hRA
  have h1 := hW.2.2.1
  have h0 := hW.2.1
  have h2 := hW.2.2.2.1
  unfold AP
  refine tX10_undo_0 ⟨fun z => ⟨fun z1 => ?_, fun z1 => ?_⟩, fun z => ?_⟩
  · rw [g0_N hC hW] at z
    have hA := hm.2.1
    rw [h4, eq0_N (by omega)] at z1
    obtain ⟨A', rfl⟩ : ∃ A', A = A' + 1 := ⟨A - 1, by omega⟩
    obtain ⟨h, eh⟩ : ∃ h : Nat → Nat, h = fun j => if j < 256 then H A' j else r j := ⟨_, rfl⟩
    have hlo : ∀ j, j < 256 → h j = H A' j := fun j hj => by rw [eh]; exact if_pos hj
    have hhi : ∀ j, 256 ≤ j → h j = r j := fun j hj => by rw [eh]; exact if_neg (by omega)
    obtain ⟨sv0, wf0⟩ := hm.2.2 A' (by omega)
    obtain ⟨vp0, fx0⟩ := hv A' (by omega)
    rw [show (N + 10 - (A' + 1) + A') % 10 = (N + 9) % 10 by omega] at sv0
    have fx : ∀ j, FX j → h j = r j := fun j hj => by
      rw [hlo j (by unfold FX at hj; omega)]; exact fx0 j hj
    have wfh : WFr h := by
      obtain ⟨a, b, c, d, f, k, l, m, n, o⟩ := wf0
      refine ⟨fun j => ?_, ?_, ?_, ?_, ?_, ?_, fun u hu => ?_, fun g hg => ?_, fun j hj => ?_, fun i hi => ?_⟩
      · by_cases q : j < 256
        · rw [hlo j q]; exact a j
        · rw [hhi j (by omega)]; exact hW.1 j
      · rw [hlo _ (by omega)]; exact b
      · rw [hlo _ (by omega)]; exact c
      · rw [hlo _ (by omega)]; exact d
      · rw [hlo _ (by omega)]; exact f
      · rw [hlo _ (by omega)]; exact k
      · rw [hlo _ (by omega), hlo _ (by omega), hlo _ (by omega), hlo _ (by omega), hlo _ (by omega)]; exact l u hu
      · rw [hlo _ (by omega), hlo _ (by omega), hlo _ (by omega), hlo _ (by omega)]; exact m g hg
      · rw [hlo _ (by omega), hlo _ (by omega)]; exact n j hj
      · rw [hlo _ (by omega), hlo _ (by omega)]; exact o i hi
    have vph : VP h := VP_same wf0 vp0 (fun j hj => hlo j (by omega)) (fun t ht => by rw [hlo _ (by have := wf0.2.1; omega)]; exact vp0.2.2.2.2.2.1 t ht)
    have svh : SV w ((N + 9) % 10) h := by
      have b0 := wf0.2.1
      have b2 := wf0.2.2.2.1
      obtain ⟨a, b, c, d, e⟩ := sv0
      refine ⟨fun t ht => ?_, ?_, fun i hi => ?_, fun g hg => ?_, fun g k hg hk => ?_⟩
      · rw [hlo 0 (by omega)] at ht
        rw [hlo _ (by omega), hlo _ (by omega), hlo _ (by omega), hlo _ (by omega)]; exact a t ht
      · rw [hlo 3 (by omega), hlo 4 (by omega), hlo 5 (by omega)]; exact b
      · rw [hlo 2 (by omega)] at hi
        rw [hlo _ (by omega)]; exact c i hi
      · rw [hlo _ (by omega)]; exact d g hg
      · rw [hlo _ (by omega)] at hk
        have a3 := (wf0.2.2.2.2.2.2.2.1 g hg).2.2.2
        have e1 : who h g k = who (H A') g k := hlo _ (by omega)
        have e2 : thr h g k = thr (H A') g k := hlo _ (by omega)
        rw [e1, e2]; exact e g k hg hk
    refine c_goBack hC hP hW hV hm.1 (by omega) h3 h4 svh wfh vph fx (fun w1 o1 k3 k4 hC1 hP1 => tX10_undo_36 ?_)
    rw [k4]
    have oa : Off (fun c => c = 0) w1 (upI w1 0 10 (nI 0)) := Off.up rfl
    have ob : Off (fun c => c = 0) w1 (upI (upI w1 0 10 (nI 0)) 0 12 (-1)) := oa.tr (Off.up rfl)
    have c10 : (upI (upI w1 0 10 (nI 0)) 0 12 (-1)).1 0 10 = nI 0 := by rw [upI1, if_neg (by decide), upI1, if_pos ⟨rfl, rfl⟩]
    have c11 : (upI (upI w1 0 10 (nI 0)) 0 12 (-1)).1 0 11 = w.1 0 11 := by rw [upI1, if_neg (by decide), upI1, if_neg (by decide), (o1 0 (by unfold SP; omega)).1]
    have c12 : (upI (upI w1 0 10 (nI 0)) 0 12 (-1)).1 0 12 = -1 := by rw [upI1, if_pos ⟨rfl, rfl⟩]
    generalize upI (upI w1 0 10 (nI 0)) 0 12 (-1) = wc at ob c10 c11 c12 ⊢
    have oc : Off (fun c => c = 0 ∨ (16 ≤ c ∧ c ≤ 39)) w wc := (o1.mono (fun c q => by unfold SP at q; omega)).tr (ob.mono (fun c q => Or.inl q))
    have e41 : wc.1 41 = w.1 41 := (oc 41 (by omega)).1
    have e52 : wc.1 52 = w.1 52 := (oc 52 (by omega)).1
    have hMc : RM wc r := hM.off oc (by omega)
    have e39 : wc.1 39 = w1.1 39 := (ob 39 (by omega)).1
    refine tX11_undo_0 ⟨fun _ => ⟨fun _ => tX11_undo_24 ⟨fun _ => ?_, fun q => absurd rfl q⟩, fun q => absurd q (by rw [e41, hw.1, eq0_N (by omega)]; omega)⟩, fun q => absurd q (by rw [e41, h6, bI_t z]; decide)⟩
    have g24 : (rfs wc (nI 0)).1 41 24 - nI 1 = nI A' := by
      rw [(GF_r (w := wc) (T := nI 0)).2.2.2.2.2.2, e41, hw.1, sub_N (by omega)]; rfl
    rw [g24]
    have g24b : (upI (rfs wc (nI 0)) 41 24 (nI A')).1 41 24 = nI A' := by rw [upI1, if_pos ⟨rfl, rfl⟩]
    rw [g24b, pk_mul]
    obtain ⟨go, g1, g2, g3, g5, g6, -⟩ := GF_r (w := wc) (T := nI 0)
    have og : Off (fun c => c = 41) wc (upI (rfs wc (nI 0)) 41 24 (nI A')) := (((Off.up (S := fun c => c = 41) rfl).tr (Off.up rfl)).tr (Off.up rfl)).tr (Off.up rfl)
    have gk : ∀ j, j ≠ 24 → (upI (rfs wc (nI 0)) 41 24 (nI A')).1 41 j = (rfs wc (nI 0)).1 41 j := fun j hj => by rw [upI1, if_neg (fun q => hj q.2)]
    generalize upI (rfs wc (nI 0)) 41 24 (nI A') = wd at og gk g24b ⊢
    refine g_lays_u (by omega) (by omega) (fun w2 o2 hj2 => tX11_undo_65 ?_)
    have e41b : w2.1 41 = wd.1 41 := (o2 41 (by decide)).1
    rw [e41b, g24b]
    have o52 : w2.1 52 = w.1 52 := ((o2 52 (by decide)).1).trans (((og 52 (by decide)).1).trans e52)
    have hM2 : RM w2 h := fun i => by
      rw [hj2 i]
      by_cases q : i < 256
      · rw [if_pos (by omega), (og 52 (by decide)).1, e52, hlo i q, show 256 * A' + (i - 0) = 256 * A' + i by omega]
        exact hw.2.2 A' i (by omega) q
      · rw [if_neg (by omega), (og 43 (by decide)).1, hhi i (by omega)]
        exact hMc i
    have ot : Off (fun c => c = 0 ∨ (16 ≤ c ∧ c ≤ 39) ∨ c = 41 ∨ c = 43) w w2 := ((oc.mono (fun c q => by omega)).tr (og.mono (fun c q => by omega))).tr (o2.mono (fun c q => by omega))
    have f0 : w2.1 0 = wc.1 0 := ((o2 0 (by decide)).1).trans (og 0 (by decide)).1
    have f39 : w2.1 39 = w1.1 39 := ((o2 39 (by decide)).1).trans (((og 39 (by decide)).1).trans e39)
    have f40 : w2.1 40 = w.1 40 := (ot 40 (by omega)).1
    have oB : Off (fun c => c = 0 ∨ c = 41 ∨ c = 43) w1 w2 := ((ob.mono (fun c q => Or.inl q)).tr (og.mono (fun c q => Or.inr (Or.inl q)))).tr (o2.mono (fun c q => Or.inr (Or.inr q)))
    refine ⟨rfl, ⟨_, rfl⟩, ⟨ot.mono (fun c q => by unfold SA S51; omega), ?_, ?_, ?_, ?_, ?_, ?_⟩, h, ⟨⟨hM2, hC1.off oB (fun c a b q => by omega), hP1.off oB (fun c a b q => by omega), wfh, vph, ?_, ?_, ?_⟩, (N + 9) % 10, A', H, ?_, ?_, ⟨?_, by omega, fun i j hi hj => ?_⟩, ⟨by omega, by omega, fun i hi => ?_⟩, fun i hi => ?_⟩, fx⟩
    · rw [f0, c10, e41b, gk 1 (by decide)]; exact g1.symm
    · rw [f0, c11]
    · rw [f0, c12]
    · rw [e41b, gk 2 (by decide), g2, e41]
    · rw [e41b, gk 3 (by decide), g3]
    · rw [e41b, gk 5 (by decide), g5, e41]
    · rw [e41b, gk 6 (by decide), g6, e41, fx 1 (by unfold FX; omega)]; exact h6
    · rw [fx 0 (by unfold FX; omega), fx 1 (by unfold FX; omega), fx 2 (by unfold FX; omega)]; exact h7
    · rw [f39, k4, e41b, g24b]
    · rw [f39]; exact k3
    · rw [f39]; exact k4
    · rw [e41b]; exact g24b
    · rw [o52]; exact hw.2.2 i j (by omega) hj
    · obtain ⟨sa, sb⟩ := hm.2.2 i (by omega)
      rw [show (N + 10 - (A' + 1) + i) % 10 = ((N + 9) % 10 + 10 - A' + i) % 10 by omega] at sa
      exact ⟨SV_mem sb sa (fun j _ _ => by rw [f40]), sb⟩
    · obtain ⟨va, vb⟩ := hv i (by omega)
      exact ⟨va, fun j hj => (vb j hj).trans (fx j hj).symm⟩
  · rw [g0_N hC hW] at z
    rw [h4, eq0_N (by have := hm.2.1; omega)] at z1
    have h6' := txr (w1 := upI (upI w 0 10 (nI 5)) 0 12 (-1)) CF_r h6
    have h24 : (upI (upI w 0 10 (nI 5)) 0 12 (-1)).1 41 24 = nI A := by rw [tx_cf (CF_r (T := nI 5))]; exact hw.1
    refine tX11_undo_0 ⟨fun _ => ⟨fun q => absurd (by rw [h24, z1]; rfl) q, fun _ => ?_⟩, fun q => absurd q (by rw [h6', bI_t z]; decide)⟩
    exact tX11_undo_24 ⟨fun q => absurd q (by decide), fun _ => AK_of hRR (fin CF_r GF_r)⟩
  · rw [g0_N hC hW] at z
    have h6' := txr (w1 := upI (upI w 0 10 (nI 1)) 0 12 (-1)) CF_r h6
    refine tX11_undo_0 ⟨fun q => absurd (by rw [h6', bI_f z]; rfl) q, fun _ => ?_⟩
    exact tX11_undo_24 ⟨fun q => absurd q (by decide), fun _ => AK_of hRR (fin CF_r GF_r)⟩
end UNDO
