/-! questions: both sides answer alike (5): risk, hands, bare, gap -/
theorem add_z (a : Int32) : a + nI 0 = a := by
  have : nI 0 = 0 := by decide
  rw [this]
  exact Int32.add_zero a
def hndI (r : Nat → Nat) (g : Nat) (x2 : Int32) (k : Nat) : Int32 := if (if r (6 + who r g k) = 1 then nI 1 else nI 0) = x2 then nI (thr r g k) else nI 0
def cntE (r : Nat → Nat) (n : Nat) : Nat := sumN (fun g => if r (106 + g) = 0 then 1 else 0) n
theorem cntE_s (r : Nat → Nat) (n : Nat) : cntE r (n + 1) = cntE r n + if r (106 + n) = 0 then 1 else 0 := rfl
/-- fewest DAYS between neighbours so far, and the last game -/
noncomputable def gapS (r : Nat → Nat) (t : Nat) : Nat → Option Nat × Option Nat
  | 0 => (none, none)
  | g + 1 => bif dec (isIn r t g) then (match (gapS r t g).2 with
      | none => ((gapS r t g).1, some g)
      | some l => (some (match (gapS r t g).1 with
          | none => r (46 + g) - r (46 + l)
          | some f => min f (r (46 + g) - r (46 + l))), some g)) else gapS r t g
theorem gap_no {r : Nat → Nat} {t g : Nat} (h : ¬ isIn r t g) : gapS r t (g + 1) = gapS r t g := by
  rw [gapS, dec_f h]; rfl
theorem gap_1 {r : Nat → Nat} {t g : Nat} {f : Option Nat} (h : isIn r t g) (e : gapS r t g = (f, none)) : gapS r t (g + 1) = (f, some g) := by
  rw [gapS, dec_t h, e]; rfl
theorem gap_2 {r : Nat → Nat} {t g l : Nat} (h : isIn r t g) (e : gapS r t g = (none, some l)) : gapS r t (g + 1) = (some (r (46 + g) - r (46 + l)), some g) := by
  rw [gapS, dec_t h, e]; rfl
theorem gap_3 {r : Nat → Nat} {t g l f : Nat} (h : isIn r t g) (e : gapS r t g = (some f, some l)) : gapS r t (g + 1) = (some (min f (r (46 + g) - r (46 + l))), some g) := by
  rw [gapS, dec_t h, e]; rfl
section Q5
variable {w : Wd} {r : Nat → Nat}
theorem p_risk (hR : RA w r) {x1 : Int32} : QP w fX10_risk fX11_risk [.ref 0, .int x1] [.ref 41, .int x1] := by
  obtain ⟨hM, hC, hP, hW, hV, h6, h7, h8⟩ := hR
  have h0 := hW.2.1
  have h1 := hW.2.2.1
  unfold QP
  refine tX10_risk_0 ⟨fun z => ?_, fun z => ?_⟩
  · rw [hC.1] at z
    obtain ⟨t, ht, rfl⟩ := (rng (by omega)).mp z
    have L : ∀ (n g : Nat) (a : Int32), g + n = r 1 → a = nI (sumN (fun g => fS r t 3 g (load r t g)) g) → RR (tl (fun v w1 => fX11_risk [.ref 41, .int (nI t)] w1 (fun u w2 => QK w v u w2)) lX10_risk) 18 [.ref 0, .int (nI t), .int a, .int (nI g)] [] w := by
      intro n
      induction n with
      | zero =>
        intro g a hg ha
        refine tX10_risk_18 ⟨fun _ => ?_, fun q => absurd ?_ q⟩
        · rw [ha, show g = r 1 by omega]
          have hM1 : RM (upI (upI w 0 10 (nI 0)) 0 12 (-1)) r := RM_cf hM CF_r
          refine tX11_risk_0 ⟨fun _ => ?_, fun q => absurd ?_ q⟩
          · rw [rdM hM1 (by omega), bI_t z, un_1]
            exact g_sumOf (RM_rfs hM1) hW hV (by omega) ht (tX11_risk_25 (fin CF_r GF_r))
          · rw [rdM hM1 (by omega), bI_t z, un_1]; rfl
        · rw [hC.2.1, le_N (by omega) (by omega)]; omega
      | succ n ih =>
        intro g a hg ha
        have hl := load_le2 hW hV (t := t) (g := g) (by omega)
        refine tX10_risk_18 ⟨fun q => absurd q ?_, fun _ => ⟨by rw [pk_mul, nI_add]; exact vp_in_nI (by omega) (by decide), by rw [pk_mul, nI_add]; exact vp_in_nI (by omega) (by decide), by rw [pk_mul, nI_add]; exact vp_in_nI (by omega) (by decide), ?_⟩⟩
        · rw [hC.2.1, le_N (by omega) (by omega)]; omega
        · rw [show rd w 25 (nI t * nI 20 + nI g) = nI (load r t g) by rw [pk_mul, nI_add, rd_N (by omega), hP.2.2 t g (by omega) (by omega)], risk_e hC hW ht (by omega), nI_add g 1]
          refine ih (g + 1) _ (by omega) ?_
          show _ = nI (sumN _ g + fS r t 3 g (load r t g))
          rw [ha, nI_add]; rfl
    exact L (r 1) 0 _ (by omega) rfl
  · rw [hC.1] at z
    have hM1 : RM (upI (upI w 0 10 (nI 1)) 0 12 (-1)) r := RM_cf hM CF_r
    refine tX11_risk_0 ⟨fun q => absurd q ?_, fun _ => ?_⟩
    · rw [rdM hM1 (by omega), bI_f z, un_0]; decide
    · rw [rdM hM1 (by omega), bI_f z, un_0]
      exact fin CF_r GF_r
theorem p_hands (hR : RA w r) {x1 x2 : Int32} : QP w fX10_hands fX11_hands [.ref 0, .int x1, .int x2] [.ref 41, .int x1, .int x2] := by
  obtain ⟨hM, hC, hP, hW, hV, h6, h7, h8⟩ := hR
  have h0 := hW.2.1
  have h1 := hW.2.2.1
  unfold QP
  refine tX10_hands_0 ⟨fun z => ?_, fun z => ?_⟩
  · rw [hC.2.1] at z
    obtain ⟨g, hg, rfl⟩ := (rng (by omega)).mp z
    have hG := hW.2.2.2.2.2.2.2.1 g (by omega)
    have hand : ∀ k, k < r (106 + g) → who r g k < r 0 ∧ r (6 + who r g k) ≤ 1 ∧ who r g k ≤ 7 ∧ thr r g k ≤ 120 := fun k hk => by
      have b := hW.2.2.2.2.2.2.2.2.1 (3 * g + k) (by omega)
      have v := (hV.2.2.1 g k (by omega) hk).1
      exact ⟨v, (hW.2.2.2.2.2.2.1 (who r g k) (by omega)).1, b.1, b.2⟩
    have Y : fX11_hands [.ref 41, .int (nI g), .int x2] (upI (upI w 0 10 (nI 0)) 0 12 (-1)) (fun u w2 => QK w (some (.int (sumI (hndI r g x2) (r (106 + g))))) u w2) := by
      have hM1 : RM (upI (upI w 0 10 (nI 0)) 0 12 (-1)) r := RM_cf hM CF_r
      have hM2 : RM (rfs (upI (upI w 0 10 (nI 0)) 0 12 (-1)) (nI 0)) r := RM_rfs hM1
      refine tX11_hands_0 ⟨fun _ => ?_, fun q => absurd ?_ q⟩
      · rw [rdM hM1 (by omega), bI_t z, un_1]
        have L : ∀ (n k : Nat) (a : Int32), k + n = r (106 + g) → a = sumI (hndI r g x2) k → RR (tl (fun u w2 => QK w (some (.int (sumI (hndI r g x2) (r (106 + g))))) u w2) lX11_hands) 22 [.ref 41, .int (nI g), .int x2, .int a, .int (nI k)] [] (rfs (upI (upI w 0 10 (nI 0)) 0 12 (-1)) (nI 0)) := by
          intro n
          induction n with
          | zero =>
            intro k a hk ha
            refine tX11_hands_22 ⟨by rw [nI_add]; exact vp_in_nI (by omega) (by decide), fun _ => ?_, fun q => absurd ?_ q⟩
            · rw [ha, show k = r (106 + g) by omega]; exact fin CF_r GF_r
            · rw [nI_add, rdM hM2 (by omega), le_N (by omega) (by omega)]; omega
          | succ n ih =>
            intro k a hk ha
            obtain ⟨a1, a2, a3, a4⟩ := hand k (by omega)
            have e1 : nI 186 + (nI 3 * nI g + nI k) = nI (186 + (3 * g + k)) := by rw [pk_mul, nI_add, nI_add]
            have e2 : nI 126 + (nI 3 * nI g + nI k) = nI (126 + (3 * g + k)) := by rw [pk_mul, nI_add, nI_add]
            have r1 : rd (rfs (upI (upI w 0 10 (nI 0)) 0 12 (-1)) (nI 0)) 43 (nI (186 + (3 * g + k))) = nI (thr r g k) := rdM hM2 (by omega)
            have r2 : rd (rfs (upI (upI w 0 10 (nI 0)) 0 12 (-1)) (nI 0)) 43 (nI (126 + (3 * g + k))) = nI (who r g k) := rdM hM2 (by omega)
            have S : ∀ y : Int32, y = (if r (6 + who r g k) = 1 then nI 1 else nI 0) → RR (tl (fun u w2 => QK w (some (.int (sumI (hndI r g x2) (r (106 + g))))) u w2) lX11_hands) 61 [.ref 41, .int (nI g), .int x2, .int a, .int (nI k)] [.int y, .int a] (rfs (upI (upI w 0 10 (nI 0)) 0 12 (-1)) (nI 0)) := by
              intro y hy
              refine tX11_hands_61 ⟨fun q => ?_, fun q => ⟨by rw [e1]; exact vp_in_nI (by omega) (by decide), ?_⟩⟩
              · rw [nI_add k 1]
                refine ih (k + 1) _ (by omega) ?_
                show _ = sumI _ k + hndI r g x2 k
                rw [ha, hndI, ← hy, if_neg q]
              · rw [e1, r1, nI_add k 1]
                refine ih (k + 1) _ (by omega) ?_
                show _ = sumI _ k + hndI r g x2 k
                rw [ha, hndI, ← hy, if_pos q]
            refine tX11_hands_22 ⟨by rw [nI_add]; exact vp_in_nI (by omega) (by decide), fun q => absurd q ?_, fun _ => ⟨by rw [e2]; exact vp_in_nI (by omega) (by decide), by rw [e2, r2, nI_add]; exact vp_in_nI (by omega) (by decide), fun q => S _ ?_, fun q => S _ ?_⟩⟩
            · rw [nI_add, rdM hM2 (by omega), le_N (by omega) (by omega)]; omega
            · rw [e2, r2, nI_add, rdM hM2 (by omega), eq_N (by omega) (by omega)] at q
              rw [if_neg q]
            · rw [e2, r2, nI_add, rdM hM2 (by omega), eq_N (by omega) (by omega)] at q
              rw [if_pos q]
        exact L (r (106 + g)) 0 _ (by omega) rfl
      · rw [rdM hM1 (by omega), bI_t z, un_1]; rfl
    have L : ∀ (n k : Nat) (a : Int32) (u : Value), k + n = r (106 + g) → a = sumI (hndI r g x2) k → RR (tl (fun v w1 => fX11_hands [.ref 41, .int (nI g), .int x2] w1 (fun u w2 => QK w v u w2)) lX10_hands) 19 [.ref 0, .int (nI g), .int x2, .int a, .int (nI k), u] [] w := by
      intro n
      induction n with
      | zero =>
        intro k a u hk ha
        refine tX10_hands_19 ⟨vp_in_nI (by omega) (by decide), fun _ => ?_, fun q => absurd ?_ q⟩
        · rw [ha, show k = r (106 + g) by omega]; exact Y
        · rw [rd_N (by omega), hP.1 g (by omega), le_N (by omega) (by omega)]; omega
      | succ n ih =>
        intro k a u hk ha
        obtain ⟨a1, a2, a3, a4⟩ := hand k (by omega)
        have p := hP.2.1 g k (by omega) (by omega)
        have e3 : nI g * nI 3 + nI k = nI (g * 3 + k) := by rw [pk_mul, nI_add]
        have e4 : rd w 23 (nI g * nI 3 + nI k) = nI (who r g k) := by rw [e3, rd_N (by omega), p.1]
        have e5 : rd w 15 (nI (who r g k)) = nI (r (6 + who r g k)) := by rw [rd_N (by omega)]; exact (hC.2.2.2.1 _ a1).1
        have S : ∀ y : Int32, y = (if r (6 + who r g k) = 1 then nI 1 else nI 0) → RR (tl (fun v w1 => fX11_hands [.ref 41, .int (nI g), .int x2] w1 (fun u w2 => QK w v u w2)) lX10_hands) 60 [.ref 0, .int (nI g), .int x2, .int a, .int (nI k), u] [.int y] w := by
          intro y hy
          refine tX10_hands_60 ⟨fun q => ?_, fun q => ⟨by rw [e3]; exact vp_in_nI (by omega) (by decide), ?_⟩⟩
          · rw [nI_add k 1]
            refine ih (k + 1) _ _ (by omega) ?_
            show _ = sumI _ k + hndI r g x2 k
            rw [ha, hndI, ← hy, if_neg q, add_z]
          · rw [e3, rd_N (by omega), p.2, nI_add k 1]
            refine ih (k + 1) _ _ (by omega) ?_
            show _ = sumI _ k + hndI r g x2 k
            rw [ha, hndI, ← hy, if_pos q]
        refine tX10_hands_19 ⟨vp_in_nI (by omega) (by decide), fun q => absurd q ?_, fun _ => ⟨by rw [e3]; exact vp_in_nI (by omega) (by decide), by rw [e4]; exact vp_in_nI (by omega) (by decide), fun q => S _ ?_, fun q => S _ ?_⟩⟩
        · rw [rd_N (by omega), hP.1 g (by omega), le_N (by omega) (by omega)]; omega
        · rw [e4, e5, eq_N (by omega) (by omega)] at q
          rw [if_neg q]
        · rw [e4, e5, eq_N (by omega) (by omega)] at q
          rw [if_pos q]
    exact L (r (106 + g)) 0 _ _ (by omega) rfl
  · rw [hC.2.1] at z
    have hM1 : RM (upI (upI w 0 10 (nI 1)) 0 12 (-1)) r := RM_cf hM CF_r
    refine tX11_hands_0 ⟨fun q => absurd q ?_, fun _ => ?_⟩
    · rw [rdM hM1 (by omega), bI_f z, un_0]; decide
    · rw [rdM hM1 (by omega), bI_f z, un_0]
      exact fin CF_r GF_r
theorem p_bare (hR : RA w r) {x1 : Int32} : QP w fX10_bare fX11_bare [.ref 0, .int x1] [.ref 41, .int x1] := by
  obtain ⟨hM, hC, hP, hW, hV, h6, h7, h8⟩ := hR
  have h1 := hW.2.2.1
  have N : ¬ (0 < r 1 ∧ (¬ x1 < 0)) → fX11_bare [.ref 41, .int x1] (upI (upI w 0 10 (nI 1)) 0 12 (-1)) (fun u w2 => QK w (some (.int (-1))) u w2) := fun hn => n_bare (RM_cf hM CF_r) hW (txr CF_r h6) hn (fin CF_r GF_r)
  unfold QP
  refine tX10_bare_0 ⟨fun z => ?_, fun z => ⟨fun z2 => ?_, fun z2 => ?_⟩⟩
  · rw [g0_N hC hW] at z; exact N (fun q => z q.1)
  · rw [g0_N hC hW] at z
    have z3 : ¬ x1 < 0 := Int32.not_lt.mpr z2
    obtain ⟨i, hi, rfl⟩ := nI_of z3
    have cb : ∀ n, cntE r n ≤ n := fun n => by
      have := sumN_le (f := fun g => if r (106 + g) = 0 then 1 else 0) (b := 1) n (fun k _ => by
        show (if _ then 1 else 0) ≤ 1
        split <;> omega)
      unfold cntE; omega
    have Y : ∀ v : Int32, FirstV (fun h => r (106 + h) = 0 ∧ cntE r h = i) 0 (r 1) (-2) v → fX11_bare [.ref 41, .int (nI i)] (upI (upI w 0 10 (nI 0)) 0 12 (-1)) (fun u w2 => QK w (some (.int v)) u w2) := by
      intro v hv
      have hM2 : RM (rfs (upI (upI w 0 10 (nI 0)) 0 12 (-1)) (nI 0)) r := RM_rfs (RM_cf hM CF_r)
      have L : ∀ (n g : Nat), g + n = r 1 → cntE r g ≤ i → (∀ j, 0 ≤ j → j < g → ¬ (r (106 + j) = 0 ∧ cntE r j = i)) → RR (tl (fun u w2 => QK w (some (.int v)) u w2) lX11_bare) 32 [.ref 41, .int (nI i), .int (nI (i - cntE r g)), .int (nI g)] [] (rfs (upI (upI w 0 10 (nI 0)) 0 12 (-1)) (nI 0)) := by
        intro n
        induction n with
        | zero =>
          intro g hg hc hj
          refine tX11_bare_32 ⟨fun _ => ?_, fun q => absurd ?_ q⟩
          · rcases hv with ⟨k, a1, a2, a3, a4, a5⟩ | ⟨a1, a2⟩
            · exact absurd a3 (hj k a1 (by omega))
            · rw [a2]; exact fin CF_r GF_r
          · rw [rdM hM2 (by omega), le_N (by omega) (by omega)]; omega
        | succ n ih =>
          intro g hg hc hj
          have hG := hW.2.2.2.2.2.2.2.1 g (by omega)
          have cs := cntE_s r g
          refine tX11_bare_32 ⟨fun q => absurd q ?_, fun _ => ⟨by rw [nI_add]; exact vp_in_nI (by omega) (by decide), fun q => ?_, fun q => ⟨fun q2 => ?_, fun q2 => ?_⟩⟩⟩
          · rw [rdM hM2 (by omega), le_N (by omega) (by omega)]; omega
          · rw [nI_add, rdM hM2 (by omega), eq0_N (by omega)] at q
            rw [if_neg q] at cs
            have hc1 : cntE r (g + 1) = cntE r g := by omega
            rw [nI_add g 1, ← hc1]
            refine ih (g + 1) (by omega) (by omega) (fun j a b => ?_)
            by_cases e : j = g
            · rw [e]; exact fun p => q p.1
            · exact hj j a (by omega)
          · rw [nI_add, rdM hM2 (by omega), eq0_N (by omega)] at q
            rw [if_pos q] at cs
            rw [eq0_N (by omega)] at q2
            rw [m1_N (by omega), nI_add g 1, show i - cntE r g - 1 = i - cntE r (g + 1) by omega]
            refine ih (g + 1) (by omega) (by omega) (fun j a b => ?_)
            by_cases e : j = g
            · rw [e]; exact fun p => q2 (by omega)
            · exact hj j a (by omega)
          · rw [nI_add, rdM hM2 (by omega), eq0_N (by omega)] at q
            rw [eq0_N (by omega)] at q2
            have Pg : r (106 + g) = 0 ∧ cntE r g = i := ⟨q, by omega⟩
            rcases hv with ⟨k, a1, a2, a3, a4, a5⟩ | ⟨a1, a2⟩
            · have e : k = g := by
                rcases Nat.lt_trichotomy k g with p | p | p
                · exact absurd a3 (hj k a1 p)
                · exact p
                · exact absurd Pg (a4 g (by omega) p)
              rw [a5, e]; exact fin CF_r GF_r
            · exact absurd Pg (a1 g (by omega) (by omega))
      refine y_bare (RM_cf hM CF_r) hW (txr CF_r h6) z z3 ?_
      have := L (r 1) 0 (by omega) (Nat.zero_le _) (fun j a b => by omega)
      exact this
    have L : ∀ (n g : Nat), g + n = r 1 → cntE r g ≤ i → (∀ j, 0 ≤ j → j < g → ¬ (r (106 + j) = 0 ∧ cntE r j = i)) → RR (tl (fun v w1 => fX11_bare [.ref 41, .int (nI i)] w1 (fun u w2 => QK w v u w2)) lX10_bare) 21 [.ref 0, .int (nI i), .int (nI (cntE r g)), .int (nI g)] [] w := by
      intro n
      induction n with
      | zero =>
        intro g hg hc hj
        refine tX10_bare_21 ⟨fun _ => Y _ (Or.inr ⟨fun j a b => hj j a (by omega), rfl⟩), fun q => absurd ?_ q⟩
        rw [hC.2.1, le_N (by omega) (by omega)]; omega
      | succ n ih =>
        intro g hg hc hj
        have hG := hW.2.2.2.2.2.2.2.1 g (by omega)
        have cs := cntE_s r g
        have := cb g
        refine tX10_bare_21 ⟨fun q => absurd q ?_, fun _ => ⟨vp_in_nI (by omega) (by decide), fun q => ⟨fun q2 => ?_, fun q2 => ?_⟩, fun q => ?_⟩⟩
        · rw [hC.2.1, le_N (by omega) (by omega)]; omega
        · rw [rd_N (by omega), hP.1 g (by omega), le0_N (by omega)] at q
          rw [if_pos q] at cs
          rw [eq_N (by omega) hi] at q2
          rw [nI_add g 1, nI_add, ← cs]
          refine ih (g + 1) (by omega) (by omega) (fun j a b => ?_)
          by_cases e : j = g
          · rw [e]; exact fun p => q2 p.2
          · exact hj j a (by omega)
        · rw [rd_N (by omega), hP.1 g (by omega), le0_N (by omega)] at q
          rw [eq_N (by omega) hi] at q2
          exact Y _ (Or.inl ⟨g, Nat.zero_le _, by omega, ⟨q, q2⟩, hj, rfl⟩)
        · rw [rd_N (by omega), hP.1 g (by omega), le0_N (by omega)] at q
          rw [if_neg q] at cs
          have hc1 : cntE r (g + 1) = cntE r g := by omega
          rw [nI_add g 1, ← hc1]
          refine ih (g + 1) (by omega) (by omega) (fun j a b => ?_)
          by_cases e : j = g
          · rw [e]; exact fun p => q p.1
          · exact hj j a (by omega)
    have := L (r 1) 0 (by omega) (Nat.zero_le _) (fun j a b => by omega)
    exact this
  · exact N (fun q => z2 (Int32.not_lt.mp q.2))
end Q5
