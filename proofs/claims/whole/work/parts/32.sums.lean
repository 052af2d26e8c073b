/-! sums over the games of a thrower -/
def fS (r : Nat → Nat) (t what g x : Nat) : Nat := if what = 0 then x else if what = 1 then (if 0 < x then 1 else 0) else if what = 2 then worthN r t g x else riskN r t x
theorem fS_0 (r : Nat → Nat) (t what g : Nat) : fS r t what g 0 = 0 := by
  unfold fS worthN riskN
  split
  · rfl
  · split
    · rfl
    · split
      · rw [Nat.zero_min, Nat.mul_zero, Nat.zero_sub, Nat.mul_zero]
      · rw [Nat.zero_sub, Nat.mul_zero]
theorem fS_in {r : Nat → Nat} (hV : VP r) {t what g : Nat} (hg : g < 20) : sumN (fun k => if who r g k = t then fS r t what g (thr r g k) else 0) (r (106 + g)) = fS r t what g (load r t g) := by
  rcases Classical.em (isIn r t g) with ⟨k, hk, hw⟩ | q
  · rw [sumN_one (a := k) _ hk]
    · rw [if_pos hw, load_of (fun j k a b => hV.2.2.2.1 g j k hg a b) hk hw]
    · intro j hj hne
      refine if_neg (fun z => ?_)
      rcases Nat.lt_trichotomy j k with p | p | p
      · exact hV.2.2.2.1 g j k hg p hk (z.trans hw.symm)
      · exact hne p
      · exact hV.2.2.2.1 g k j hg p hj (hw.trans z.symm)
  · rw [load_no q, fS_0]
    exact sumN_zero _ (fun k hk => if_neg (fun e => q ⟨k, hk, e⟩))
def sumT (r : Nat → Nat) (t what : Nat) : Nat := sumN (fun g => fS r t what g (load r t g)) (r 1)
section SUMS
variable {w : Wd} {r : Nat → Nat} {K : Kt} {t : Nat}
theorem g_sumOf (hM : RM w r) (hW : WFr r) (hV : VP r) {what : Nat} (hw : what ≤ 3) (ht : t < r 0) (h : K (some (.int (nI (sumT r t what)))) w) : fX11_sumOf [.ref 41, .int (nI t), .int (nI what)] w K := by
  have h0 := hW.2.1
  have h1 := hW.2.2.1
  refine tX11_sumOf_0 ?_
  have L : ∀ (n g : Nat) (a : Int32) (u5 u6 : Value), g + n = r 1 → a = nI (sumN (fun g => fS r t what g (load r t g)) g) → RR (tl K lX11_sumOf) 5 [.ref 41, .int (nI t), .int (nI what), .int a, .int (nI g), u5, u6] [] w := by
    intro n
    induction n with
    | zero =>
      intro g a u5 u6 hg ha
      refine tX11_sumOf_5 ⟨fun _ => ?_, fun z => absurd ?_ z⟩
      · rw [ha, show g = r 1 by omega]; exact h
      · rw [rdM hM (by omega), le_N (by omega) (by omega)]; omega
    | succ n ih =>
      intro g a u5 u6 hg ha
      have hG := hW.2.2.2.2.2.2.2.1 g (by omega)
      refine tX11_sumOf_5 ⟨fun z => absurd z ?_, fun _ => ?_⟩
      · rw [rdM hM (by omega), le_N (by omega) (by omega)]; omega
      have L2 : ∀ (m k : Nat) (b : Int32) (u6 : Value), k + m = r (106 + g) → b = nI (sumN (fun g => fS r t what g (load r t g)) g + sumN (fun k => if who r g k = t then fS r t what g (thr r g k) else 0) k) → RR (tl K lX11_sumOf) 19 [.ref 41, .int (nI t), .int (nI what), .int b, .int (nI g), .int (nI k), u6] [] w := by
        intro m
        induction m with
        | zero =>
          intro k b u6 hk hb
          refine tX11_sumOf_19 ⟨by rw [nI_add]; exact vp_in_nI (by omega) (by decide), fun _ => ?_, fun z => absurd ?_ z⟩
          · rw [nI_add g 1]
            refine ih (g + 1) _ _ _ (by omega) ?_
            rw [hb, show k = r (106 + g) by omega, fS_in hV (by omega)]
            rfl
          · rw [nI_add, rdM hM (by omega), le_N (by omega) (by omega)]; omega
        | succ m ih2 =>
          intro k b u6 hk hb
          have bb := hW.2.2.2.2.2.2.2.2.1 (3 * g + k) (by omega)
          have hv := hV.2.2.1 g k (by omega) (by omega)
          have e1 : nI 186 + (nI 3 * nI g + nI k) = nI (186 + (3 * g + k)) := by rw [pk_mul, nI_add, nI_add]
          have e2 : nI 126 + (nI 3 * nI g + nI k) = nI (126 + (3 * g + k)) := by rw [pk_mul, nI_add, nI_add]
          have r1 : rd w 43 (nI (186 + (3 * g + k))) = nI (thr r g k) := rdM hM (by omega)
          have r2 : rd w 43 (nI (126 + (3 * g + k))) = nI (who r g k) := rdM hM (by omega)
          have b1 : thr r g k ≤ 120 := bb.2
          have b2 : who r g k ≤ 7 := bb.1
          have go : ∀ (c : Int32) (u6 : Value), c = nI (sumN (fun g => fS r t what g (load r t g)) g + sumN (fun k => if who r g k = t then fS r t what g (thr r g k) else 0) (k + 1)) → RR (tl K lX11_sumOf) 19 [.ref 41, .int (nI t), .int (nI what), .int c, .int (nI g), .int (nI k + nI 1), u6] [] w := by
            intro c u6 hc
            rw [nI_add k 1]
            exact ih2 (k + 1) c u6 (by omega) hc
          have step : ∀ c : Nat, (if who r g k = t then fS r t what g (thr r g k) else 0) = c → b + nI c = nI (sumN (fun g => fS r t what g (load r t g)) g + sumN (fun k => if who r g k = t then fS r t what g (thr r g k) else 0) (k + 1)) := by
            intro c hc
            show _ = nI (_ + (sumN (fun k => if who r g k = t then fS r t what g (thr r g k) else 0) k + (if who r g k = t then fS r t what g (thr r g k) else 0)))
            rw [hb, nI_add, hc, Nat.add_assoc]
          refine tX11_sumOf_19 ⟨by rw [nI_add]; exact vp_in_nI (by omega) (by decide), fun z => absurd z ?_, fun _ => ⟨by rw [e1]; exact vp_in_nI (by omega) (by decide), by rw [e2]; exact vp_in_nI (by omega) (by decide), fun z => ⟨fun z0 => ⟨fun z1 => ⟨fun z2 => ?_, fun z2 => ?_⟩, fun z1 => ?_⟩, fun z0 => ?_⟩, fun z => ?_⟩⟩
          · rw [nI_add, rdM hM (by omega), le_N (by omega) (by omega)]; omega
          all_goals rw [e2, r2, eq_N (by omega) (by omega)] at z
          · rw [eq0_N (by omega)] at z0
            rw [eq_N (by omega) (by omega)] at z1 z2
            rw [e1, r1]
            refine g_riskOf hM hW (by omega) (by omega) (tX11_sumOf_103 (go _ _ (step _ ?_)))
            rw [if_pos z]; unfold fS; rw [if_neg z0, if_neg z1, if_neg z2]
          · rw [eq0_N (by omega)] at z0
            rw [eq_N (by omega) (by omega)] at z1 z2
            rw [e1, r1]
            refine g_worthOf hM hW (by omega) (by omega) (by omega) (tX11_sumOf_93 (go _ _ (step _ ?_)))
            rw [if_pos z]; unfold fS; rw [if_neg z0, if_neg z1, if_pos z2]
          · rw [eq0_N (by omega)] at z0
            rw [eq_N (by omega) (by omega)] at z1
            refine go _ _ (step _ ?_)
            rw [if_pos z]; unfold fS; rw [if_neg z0, if_pos z1, if_pos (by omega)]
          · rw [eq0_N (by omega)] at z0
            rw [e1, r1]
            refine go _ _ (step _ ?_)
            rw [if_pos z]; unfold fS; rw [if_pos z0]
          · refine go _ _ (step _ ?_)
            rw [if_neg z]
      exact L2 (r (106 + g)) 0 _ _ (by omega) (by rw [ha]; rfl)
  exact L (r 1) 0 _ _ _ (by omega) rfl
theorem c_allOutings (hC : CT w r) (hP : CP w r) (hW : WFr r) (h : K (some (.int (sumI (fun g => nI (r (106 + g))) (r 1)))) w) : fX1_allOutings [.ref 26] w K := by
  have h1 := hW.2.2.1
  refine tX1_allOutings_0 ?_
  have L : ∀ (n g : Nat) (a : Int32), g + n = r 1 → a = sumI (fun g => nI (r (106 + g))) g → RR (tl K lX1_allOutings) 4 [.ref 26, .int a, .int (nI g)] [] w := by
    intro n
    induction n with
    | zero =>
      intro g a hg ha
      refine tX1_allOutings_4 ⟨fun _ => ?_, fun z => absurd ?_ z⟩
      · rw [ha, show g = r 1 by omega]; exact h
      · rw [hC.2.1, le_N (by omega) (by omega)]; omega
    | succ n ih =>
      intro g a hg ha
      refine tX1_allOutings_4 ⟨fun z => absurd z ?_, fun _ => ⟨vp_in_nI (by omega) (by decide), ?_⟩⟩
      · rw [hC.2.1, le_N (by omega) (by omega)]; omega
      · rw [nI_add g 1, rd_N (by omega), hP.1 g (by omega)]
        exact ih (g + 1) _ (by omega) (by rw [ha]; rfl)
  exact L (r 1) 0 _ (by omega) rfl
theorem c_throwsOfArm (hC : CT w r) (hP : CP w r) (hW : WFr r) (ht : t < r 0) (h : K (some (.int (nI (sumT r t 0)))) w) : fX1_throwsOfArm [.ref 26, .int (nI t)] w K := by
  have h0 := hW.2.1
  have h1 := hW.2.2.1
  refine tX1_throwsOfArm_0 ?_
  have L : ∀ (n g : Nat) (a : Int32), g + n = r 1 → a = nI (sumN (fun g => fS r t 0 g (load r t g)) g) → RR (tl K lX1_throwsOfArm) 4 [.ref 26, .int (nI t), .int a, .int (nI g)] [] w := by
    intro n
    induction n with
    | zero =>
      intro g a hg ha
      refine tX1_throwsOfArm_4 ⟨fun _ => ?_, fun z => absurd ?_ z⟩
      · rw [ha, show g = r 1 by omega]; exact h
      · rw [hC.2.1, le_N (by omega) (by omega)]; omega
    | succ n ih =>
      intro g a hg ha
      refine tX1_throwsOfArm_4 ⟨fun z => absurd z ?_, fun _ => ⟨by rw [pk_mul, nI_add]; exact vp_in_nI (by omega) (by decide), ?_⟩⟩
      · rw [hC.2.1, le_N (by omega) (by omega)]; omega
      · rw [pk_mul, nI_add, nI_add g 1, rd_N (by omega), hP.2.2 t g (by omega) (by omega)]
        refine ih (g + 1) _ (by omega) ?_
        show _ = nI (sumN _ g + fS r t 0 g (load r t g))
        rw [ha, nI_add]; rfl
  exact L (r 1) 0 _ (by omega) rfl
theorem c_outingsOfArm (hC : CT w r) (hP : CP w r) (hW : WFr r) (ht : t < r 0) (h : K (some (.int (nI (sumT r t 1)))) w) : fX1_outingsOfArm [.ref 26, .int (nI t)] w K := by
  have h0 := hW.2.1
  have h1 := hW.2.2.1
  refine tX1_outingsOfArm_0 ?_
  have L : ∀ (n g : Nat) (a : Int32), g + n = r 1 → a = nI (sumN (fun g => fS r t 1 g (load r t g)) g) → RR (tl K lX1_outingsOfArm) 4 [.ref 26, .int (nI t), .int a, .int (nI g)] [] w := by
    intro n
    induction n with
    | zero =>
      intro g a hg ha
      refine tX1_outingsOfArm_4 ⟨fun _ => ?_, fun z => absurd ?_ z⟩
      · rw [ha, show g = r 1 by omega]; exact h
      · rw [hC.2.1, le_N (by omega) (by omega)]; omega
    | succ n ih =>
      intro g a hg ha
      have hl := load_le hW (t := t) (g := g) (by omega)
      have e : rd w 25 (nI t * nI 20 + nI g) = nI (load r t g) := by rw [pk_mul, nI_add, rd_N (by omega), hP.2.2 t g (by omega) (by omega)]
      have st : nI (sumN (fun g => fS r t 1 g (load r t g)) (g + 1)) = a + nI (if 0 < load r t g then 1 else 0) := by
        show nI (sumN _ g + fS r t 1 g (load r t g)) = _
        rw [ha, nI_add]; rfl
      refine tX1_outingsOfArm_4 ⟨fun z => absurd z ?_, fun _ => ⟨by rw [pk_mul, nI_add]; exact vp_in_nI (by omega) (by decide), fun z => ?_, fun z => ?_⟩⟩
      · rw [hC.2.1, le_N (by omega) (by omega)]; omega
      · rw [e, le0_N (by omega)] at z
        rw [nI_add g 1]
        refine ih (g + 1) _ (by omega) ?_
        rw [st, if_neg (by omega)]
      · rw [e, le0_N (by omega)] at z
        rw [nI_add g 1]
        refine ih (g + 1) _ (by omega) ?_
        rw [st, if_pos (by omega)]
  exact L (r 1) 0 _ (by omega) rfl
theorem c_valueOfArm (hC : CT w r) (hP : CP w r) (hW : WFr r) (hV : VP r) (ht : t < r 0) (h : K (some (.int (nI (sumT r t 2)))) w) : fX1_valueOfArm [.ref 26, .int (nI t)] w K := by
  have h0 := hW.2.1
  have h1 := hW.2.2.1
  refine tX1_valueOfArm_0 ?_
  have L : ∀ (n g : Nat) (a : Int32), g + n = r 1 → a = nI (sumN (fun g => fS r t 2 g (load r t g)) g) → RR (tl K lX1_valueOfArm) 4 [.ref 26, .int (nI t), .int a, .int (nI g)] [] w := by
    intro n
    induction n with
    | zero =>
      intro g a hg ha
      refine tX1_valueOfArm_4 ⟨fun _ => ?_, fun z => absurd ?_ z⟩
      · rw [ha, show g = r 1 by omega]; exact h
      · rw [hC.2.1, le_N (by omega) (by omega)]; omega
    | succ n ih =>
      intro g a hg ha
      have hl := load_le2 hW hV (t := t) (g := g) (by omega)
      refine tX1_valueOfArm_4 ⟨fun z => absurd z ?_, fun _ => ⟨by rw [pk_mul, nI_add]; exact vp_in_nI (by omega) (by decide), ?_⟩⟩
      · rw [hC.2.1, le_N (by omega) (by omega)]; omega
      · rw [pk_mul, nI_add, rd_N (by omega), hP.2.2 t g (by omega) (by omega)]
        refine c_valueOf hC hW ht (by omega) (by omega) (tX1_valueOfArm_31 ?_)
        rw [nI_add g 1]
        refine ih (g + 1) _ (by omega) ?_
        show _ = nI (sumN _ g + fS r t 2 g (load r t g))
        rw [ha, nI_add]; rfl
  exact L (r 1) 0 _ (by omega) rfl
theorem risk_e (hC : CT w r) (hW : WFr r) (ht : t < r 0) {x : Nat} (hx : x ≤ 500) : (rd w 16 (nI t * nI 4 + nI 3)) * (if nI 0 < nI x - rd w 16 (nI t * nI 4 + nI 2) then nI x - rd w 16 (nI t * nI 4 + nI 2) else nI 0) = nI (riskN r t x) := by
  have h0 := hW.2.1
  have hT := hW.2.2.2.2.2.2.1 t (by omega)
  have cT := hC.2.2.2.1 t ht
  rw [pk_mul, nI_add, nI_add, rd_N (by omega), rd_N (by omega), cT.2.2.2.1, cT.2.2.2.2]
  unfold riskN
  rw [← pk_mul]
  congr 1
  have z0 : (nI 0).toInt = 0 := by decide
  by_cases q : r (30 + t) ≤ x
  · rw [sub_N q]
    by_cases p : 0 < x - r (30 + t)
    · rw [if_pos ((lt_N (by omega) (by omega)).mpr p)]
    · rw [if_neg (fun z => p ((lt_N (by omega) (by omega)).mp z)), show x - r (30 + t) = 0 by omega]
  · rw [if_neg, show x - r (30 + t) = 0 by omega]
    intro z
    have z1 := Int32.lt_iff_toInt_lt.mp z
    rw [pk_sub_toInt (by omega) (by omega), z0] at z1
    omega
theorem c_riskAt (hC : CT w r) (hP : CP w r) (hW : WFr r) (hV : VP r) {g k : Nat} (hg : g < r 1) (hk : k < r (106 + g)) (h : K (some (.int (nI (riskN r (who r g k) (thr r g k))))) w) : fX1_riskAt [.ref 26, .int (nI g), .int (nI k)] w K := by
  have h0 := hW.2.1
  have h1 := hW.2.2.1
  have hG := hW.2.2.2.2.2.2.2.1 g (by omega)
  have b := hW.2.2.2.2.2.2.2.2.1 (3 * g + k) (by omega)
  have v := hV.2.2.1 g k (by omega) hk
  have p := hP.2.1 g k (by omega) hk
  have m3 : thr r g k ≤ 120 := b.2
  have e1 : rd w 23 (nI g * nI 3 + nI k) = nI (who r g k) := by rw [pk_mul, nI_add, rd_N (by omega), p.1]
  have e2 : rd w 24 (nI g * nI 3 + nI k) = nI (thr r g k) := by rw [pk_mul, nI_add, rd_N (by omega), p.2]
  refine tX1_riskAt_0 ⟨by rw [pk_mul, nI_add]; exact vp_in_nI (by omega) (by decide), ?_⟩
  rw [e1, e2, risk_e hC hW v.1 (by omega)]
  refine ⟨by rw [pk_mul, nI_add]; exact vp_in_nI (by omega) (by decide), by rw [pk_mul, nI_add]; exact vp_in_nI (by omega) (by decide), h⟩
end SUMS
