/-! questions: both sides answer alike (6): gap, work, busiest, idle -/
def okN (no : Int32) : Option Nat → Int32
  | none => no
  | some n => nI n
section GAP
variable {w : Wd} {r : Nat → Nat}
theorem gap_b {r : Nat → Nat} (hW : WFr r) {t : Nat} : ∀ g, g ≤ 20 → (∀ l, (gapS r t g).2 = some l → l < g) ∧ (∀ f, (gapS r t g).1 = some f → f ≤ 59)
  | 0, _ => ⟨fun l h => (by cases h), fun f h => (by cases h)⟩
  | g + 1, hg => by
    obtain ⟨i1, i2⟩ := gap_b hW (t := t) g (by omega)
    have hG := hW.2.2.2.2.2.2.2.1 g (by omega)
    by_cases q : isIn r t g
    · rcases e : gapS r t g with ⟨f, l⟩
      rw [e] at i1 i2
      cases l with
      | none =>
        rw [gap_1 q e]
        exact ⟨fun l h => by cases h; omega, fun f h => i2 f h⟩
      | some l =>
        cases f with
        | none =>
          rw [gap_2 q e]
          exact ⟨fun l h => by cases h; omega, fun f h => by cases h; omega⟩
        | some f =>
          rw [gap_3 q e]
          exact ⟨fun l h => by cases h; omega, fun f h => by cases h; omega⟩
    · rw [gap_no q]
      exact ⟨fun l h => by have := i1 l h; omega, i2⟩
theorem p_gap (hR : RA w r) {x1 : Int32} : QP w fX10_gap fX11_gap [.ref 0, .int x1] [.ref 41, .int x1] := by
  obtain ⟨hM, hC, hP, hW, hV, h6, h7, h8⟩ := hR
  have h0 := hW.2.1
  have h1 := hW.2.2.1
  unfold QP
  refine tX10_gap_0 ⟨fun z => ?_, fun z => ?_⟩
  · rw [hC.1] at z
    obtain ⟨t, ht, rfl⟩ := (rng (by omega)).mp z
    have dl : ∀ l g, l < g → g < r 1 → r (46 + l) ≤ r (46 + g) := fun l g a b => Nat.le_of_lt (hV.1 l g a b)
    have Y : fX11_gap [.ref 41, .int (nI t)] (upI (upI w 0 10 (nI 0)) 0 12 (-1)) (fun u w2 => QK w (some (.int (okN (-2) (gapS r t (r 1)).1))) u w2) := by
      have hM1 : RM (upI (upI w 0 10 (nI 0)) 0 12 (-1)) r := RM_cf hM CF_r
      have hM2 : RM (rfs (upI (upI w 0 10 (nI 0)) 0 12 (-1)) (nI 0)) r := RM_rfs hM1
      refine tX11_gap_0 ⟨fun _ => ?_, fun q => absurd ?_ q⟩
      · rw [rdM hM1 (by omega), bI_t z, un_1]
        have L : ∀ (n g : Nat) (a b : Int32) (u : Value), g + n = r 1 → a = okN (-2) (gapS r t g).1 → b = okN (-2) ((gapS r t g).2.map (fun l => r (46 + l))) → RR (tl (fun u w2 => QK w (some (.int (okN (-2) (gapS r t (r 1)).1))) u w2) lX11_gap) 26 [.ref 41, .int (nI t), .int a, .int b, .int (nI g), u] [] (rfs (upI (upI w 0 10 (nI 0)) 0 12 (-1)) (nI 0)) := by
          intro n
          induction n with
          | zero =>
            intro g a b u hg ha hb
            refine tX11_gap_26 ⟨fun _ => ?_, fun q => absurd ?_ q⟩
            · rw [ha, show g = r 1 by omega]; exact fin CF_r GF_r
            · rw [rdM hM2 (by omega), le_N (by omega) (by omega)]; omega
          | succ n ih =>
            intro g a b u hg ha hb
            have hG := hW.2.2.2.2.2.2.2.1 g (by omega)
            obtain ⟨gb1, gb2⟩ := gap_b hW (t := t) g (by omega)
            refine tX11_gap_26 ⟨fun q => absurd q ?_, fun _ => ?_⟩
            · rw [rdM hM2 (by omega), le_N (by omega) (by omega)]; omega
            refine g_isIn hM2 hW (by omega) (by omega) (fun v hv => ?_)
            have hv : isB v (isIn r t g) := hv
            refine tX11_gap_44 ⟨fun q => ?_, fun q => ?_⟩
            · rw [nI_add g 1]
              exact ih (g + 1) a b u (by omega) (by rw [gap_no (hv.f q)]; exact ha) (by rw [gap_no (hv.f q)]; exact hb)
            · have qi := hv.t q
              have e46 : rd (rfs (upI (upI w 0 10 (nI 0)) 0 12 (-1)) (nI 0)) 43 (nI 46 + nI g) = nI (r (46 + g)) := by rw [nI_add, rdM hM2 (by omega)]
              rw [e46]
              rcases e : gapS r t g with ⟨f, l⟩
              rw [e] at ha hb gb1 gb2
              have m2 : ∀ x, x < 2147483648 → ¬ nI x = -2 := fun x hx z => by
                have := congrArg Int32.toInt z
                rw [nI_toInt hx] at this
                have e2 : (-2 : Int32).toInt = -2 := by decide
                omega
              refine ⟨by rw [nI_add]; exact vp_in_nI (by omega) (by decide), fun q1 => ?_, fun q1 => ⟨fun q2 => ?_, fun q2 => ?_⟩⟩
              · cases l with
                | none =>
                  rw [nI_add g 1]
                  exact ih (g + 1) _ _ _ (by omega) (by rw [gap_1 qi e]; exact ha) (by rw [gap_1 qi e]; rfl)
                | some l =>
                  have hl := gb1 l rfl
                  have hL := hW.2.2.2.2.2.2.2.1 l (by omega)
                  exact absurd (show nI (r (46 + l)) = -2 from (show b = nI (r (46 + l)) from hb).symm.trans q1) (m2 _ (by omega))
              · cases l with
                | none => exact absurd hb q1
                | some l =>
                  have hl := gb1 l rfl
                  have hL := hW.2.2.2.2.2.2.2.1 l (by omega)
                  have hd := dl l g hl (by omega)
                  have hb2 : b = nI (r (46 + l)) := hb
                  clear hb
                  cases f with
                  | none =>
                    rw [nI_add g 1]
                    exact ih (g + 1) _ _ _ (by omega) (by rw [gap_2 qi e, hb2, sub_N hd]; rfl) (by rw [gap_2 qi e]; rfl)
                  | some f =>
                    have := gb2 f rfl
                    exact absurd (ha ▸ q2) (m2 _ (by omega))
              · cases l with
                | none => exact absurd hb q1
                | some l =>
                  have hl := gb1 l rfl
                  have hL := hW.2.2.2.2.2.2.2.1 l (by omega)
                  have hd := dl l g hl (by omega)
                  have hb2 : b = nI (r (46 + l)) := hb
                  clear hb
                  cases f with
                  | none => exact absurd ha q2
                  | some f =>
                    have := gb2 f rfl
                    have ha2 : a = nI f := ha
                    refine ⟨fun q3 => ?_, fun q3 => ?_⟩
                    · rw [ha2, hb2, sub_N hd, le_N (by omega) (by omega)] at q3
                      rw [nI_add g 1]
                      refine ih (g + 1) _ _ _ (by omega) ?_ (by rw [gap_3 qi e]; rfl)
                      rw [gap_3 qi e, ha2, Nat.min_eq_left q3]; rfl
                    · rw [ha2, hb2, sub_N hd, le_N (by omega) (by omega)] at q3
                      rw [nI_add g 1]
                      refine ih (g + 1) _ _ _ (by omega) ?_ (by rw [gap_3 qi e]; rfl)
                      rw [gap_3 qi e, hb2, sub_N hd, Nat.min_eq_right (by omega)]; rfl
        exact L (r 1) 0 _ _ _ (by omega) rfl rfl
      · rw [rdM hM1 (by omega), bI_t z, un_1]; rfl
    have L : ∀ (n g : Nat) (a b : Int32), g + n = r 1 → a = okN (nI 1000000) (gapS r t g).1 → b = okN (-1) (gapS r t g).2 → RR (tl (fun v w1 => fX11_gap [.ref 41, .int (nI t)] w1 (fun u w2 => QK w v u w2)) lX10_gap) 23 [.ref 0, .int (nI t), .int a, .int b, .int (nI g)] [] w := by
      intro n
      induction n with
      | zero =>
        intro g a b hg ha hb
        have hg1 : g = r 1 := by omega
        rw [hg1] at ha hb
        obtain ⟨gb1, gb2⟩ := gap_b hW (t := t) (r 1) (by omega)
        refine tX10_gap_23 ⟨fun _ => ⟨fun q => ?_, fun q => ?_⟩, fun q => absurd ?_ q⟩
        · rcases e : (gapS r t (r 1)).1 with _ | f
          · rw [e] at ha; exact absurd ha q
          · rw [e] at ha
            rw [e] at Y
            rw [ha]; exact Y
        · rcases e : (gapS r t (r 1)).1 with _ | f
          · rw [e] at Y; exact Y
          · rw [e] at ha
            have := gb2 f e
            rw [ha] at q
            exact absurd ((eq_N (a := f) (by omega) (by omega)).mp q) (by omega)
        · rw [hC.2.1, le_N (by omega) (by omega)]; omega
      | succ n ih =>
        intro g a b hg ha hb
        have hG := hW.2.2.2.2.2.2.2.1 g (by omega)
        have hl0 := load_le hW (t := t) (g := g) (by omega)
        have eL : rd w 25 (nI t * nI 20 + nI g) = nI (load r t g) := by rw [pk_mul, nI_add, rd_N (by omega), hP.2.2 t g (by omega) (by omega)]
        obtain ⟨gb1, gb2⟩ := gap_b hW (t := t) g (by omega)
        refine tX10_gap_23 ⟨fun q => absurd q ?_, fun _ => ⟨by rw [pk_mul, nI_add]; exact vp_in_nI (by omega) (by decide), fun q => ?_, fun q => ?_⟩⟩
        · rw [hC.2.1, le_N (by omega) (by omega)]; omega
        · rw [eL, le0_N (by omega)] at q
          have nin : ¬ isIn r t g := fun p => by
            have := (load_pos hV (t := t) (g := g) (by omega)).mpr p
            omega
          rw [nI_add g 1]
          exact ih (g + 1) a b (by omega) (by rw [gap_no nin]; exact ha) (by rw [gap_no nin]; exact hb)
        · rw [eL, le0_N (by omega)] at q
          have qi := (load_pos hV (t := t) (g := g) (by omega)).mp (by omega)
          rcases e : gapS r t g with ⟨f, l⟩
          rw [e] at ha hb gb1 gb2
          have m1 : ∀ x, x < 2147483648 → ¬ nI x = -1 := fun x hx z => by
            have := congrArg Int32.toInt z
            rw [nI_toInt hx] at this
            have e2 : (-1 : Int32).toInt = -1 := by decide
            omega
          refine ⟨fun q1 => ?_, fun q1 => ?_⟩
          · cases l with
            | none =>
              rw [nI_add g 1]
              exact ih (g + 1) _ _ (by omega) (by rw [gap_1 qi e]; exact ha) (by rw [gap_1 qi e]; rfl)
            | some l =>
              have hl := gb1 l rfl
              exact absurd (hb ▸ q1) (m1 _ (by omega))
          · cases l with
            | none => exact absurd hb q1
            | some l =>
              have hl := gb1 l rfl
              have hL := hW.2.2.2.2.2.2.2.1 l (by omega)
              have hd := dl l g hl (by omega)
              have hb2 : b = nI l := hb
              clear hb
              have d1 : rd w 17 (nI g * nI 3 + nI 0) = nI (r (46 + g)) := by rw [pk_mul, nI_add, rd_N (by omega)]; exact (hC.2.2.2.2.1 g (by omega)).1
              have d2 : rd w 17 (nI l * nI 3 + nI 0) = nI (r (46 + l)) := by rw [pk_mul, nI_add, rd_N (by omega)]; exact (hC.2.2.2.2.1 l (by omega)).1
              refine ⟨by rw [pk_mul, nI_add]; exact vp_in_nI (by omega) (by decide), by rw [hb2, pk_mul, nI_add]; exact vp_in_nI (by omega) (by decide), ?_⟩
              rw [hb2, d1, d2, sub_N hd, nI_add g 1]
              cases f with
              | none =>
                have ha2 : a = nI 1000000 := ha
                refine ih (g + 1) _ _ (by omega) ?_ (by rw [gap_2 qi e]; rfl)
                rw [gap_2 qi e, ha2, min_I (by omega) (by omega), Nat.min_eq_right (by omega)]; rfl
              | some f =>
                have := gb2 f rfl
                have ha2 : a = nI f := ha
                refine ih (g + 1) _ _ (by omega) ?_ (by rw [gap_3 qi e]; rfl)
                rw [gap_3 qi e, ha2, min_I (by omega) (by omega)]; rfl
    exact L (r 1) 0 _ _ (by omega) rfl rfl
  · rw [hC.1] at z
    have hM1 : RM (upI (upI w 0 10 (nI 1)) 0 12 (-1)) r := RM_cf hM CF_r
    refine tX11_gap_0 ⟨fun q => absurd q ?_, fun _ => ?_⟩
    · rw [rdM hM1 (by omega), bI_f z, un_0]; decide
    · rw [rdM hM1 (by omega), bI_f z, un_0]
      exact fin CF_r GF_r
end GAP
/-- his throws in the 7 days up to d, all games -/
def wkN (r : Nat → Nat) (t d : Nat) : Nat := sumN (fun h => if r (46 + h) ≤ d ∧ d < r (46 + h) + 7 then load r t h else 0) (r 1)
theorem day00 (r : Nat → Nat) (t e : Nat) : dayN r t 0 0 e = sumN (fun h => if r (46 + h) = e then load r t h else 0) (r 1) := by
  unfold dayN
  refine sumN_congr _ (fun h hh => ?_)
  unfold dayG
  rw [if_neg (by omega)]
theorem late_all {r : Nat → Nat} (hW : WFr r) (t d : Nat) : lateN (dayN r t 0 0) d = wkN r t d := by
  have hr := hW.2.2.1
  have hG : ∀ h, h < r 1 → r (46 + h) ≤ 59 := fun h hh => (hW.2.2.2.2.2.2.2.1 h (by omega)).1
  unfold lateN wkN
  have e1 : sumN (fun j => if 6 ≤ d + j ∧ d + j < 66 then dayN r t 0 0 (d + j - 6) else 0) 7 = sumN (fun j => sumN (fun h => if r (46 + h) + 6 = d + j then load r t h else 0) (r 1)) 7 := by
    refine sumN_congr 7 (fun j hj => ?_)
    by_cases q : 6 ≤ d + j ∧ d + j < 66
    · rw [if_pos q, day00]
      refine sumN_congr _ (fun h hh => ?_)
      by_cases p : r (46 + h) = d + j - 6
      · rw [if_pos p, if_pos (show r (46 + h) + 6 = d + j by omega)]
      · rw [if_neg p, if_neg (show ¬ r (46 + h) + 6 = d + j by omega)]
    · rw [if_neg q]
      refine (sumN_zero _ (fun h hh => ?_)).symm
      have := hG h hh
      exact if_neg (by omega)
  rw [e1, sumN_swap]
  refine sumN_congr _ (fun h hh => ?_)
  by_cases q : r (46 + h) ≤ d ∧ d < r (46 + h) + 7
  · rw [sumN_one (a := r (46 + h) + 6 - d) 7 (by omega), if_pos (by omega), if_pos q]
    intro k hk hne
    exact if_neg (by omega)
  · rw [sumN_zero 7 (fun j hj => if_neg (by omega)), if_neg q]
theorem wkN_le {r : Nat → Nat} (hW : WFr r) (t d : Nat) : wkN r t d ≤ 7200 := by
  have hr := hW.2.2.1
  have := sumN_le (f := fun h => if r (46 + h) ≤ d ∧ d < r (46 + h) + 7 then load r t h else 0) (b := 360) (r 1) (fun k hk => by
    show (if _ then load r t k else 0) ≤ 360
    split
    · exact load_le hW (by omega)
    · omega)
  have m : r 1 * 360 ≤ 20 * 360 := Nat.mul_le_mul_right _ hr
  unfold wkN
  omega
section WORK
variable {w : Wd} {r : Nat → Nat} {K : Kt} {t : Nat}
theorem c_weekOfArm (hC : CT w r) (hP : CP w r) (hW : WFr r) (ht : t < r 0) {d : Nat} (hd : d < 60) (h : K (some (.int (nI (wkN r t d)))) w) : fX1_weekOfArm [.ref 26, .int (nI t), .int (nI d)] w K := by
  have h0 := hW.2.1
  have h1 := hW.2.2.1
  refine tX1_weekOfArm_0 ?_
  have L : ∀ (n g : Nat) (a : Int32), g + n = r 1 → a = nI (sumN (fun h => if r (46 + h) ≤ d ∧ d < r (46 + h) + 7 then load r t h else 0) g) → RR (tl K lX1_weekOfArm) 5 [.ref 26, .int (nI t), .int (nI d), .int a, .int (nI g)] [] w := by
    intro n
    induction n with
    | zero =>
      intro g a hg ha
      refine tX1_weekOfArm_5 ⟨fun _ => ?_, fun q => absurd ?_ q⟩
      · rw [ha, show g = r 1 by omega]; exact h
      · rw [hC.2.1, le_N (by omega) (by omega)]; omega
    | succ n ih =>
      intro g a hg ha
      have hG := hW.2.2.2.2.2.2.2.1 g (by omega)
      have d1 : rd w 17 (nI g * nI 3 + nI 0) = nI (r (46 + g)) := by rw [pk_mul, nI_add, rd_N (by omega)]; exact (hC.2.2.2.2.1 g (by omega)).1
      have st : nI (sumN (fun h => if r (46 + h) ≤ d ∧ d < r (46 + h) + 7 then load r t h else 0) (g + 1)) = a + nI (if r (46 + g) ≤ d ∧ d < r (46 + g) + 7 then load r t g else 0) := by
        show nI (sumN _ g + _) = _
        rw [ha, nI_add]
      have cd : ((nI d - nI 7) + nI 1 ≤ nI (r (46 + g)) ∧ nI (r (46 + g)) ≤ nI d) ↔ (r (46 + g) ≤ d ∧ d < r (46 + g) + 7) := by
        have e : nI d - nI 7 + nI 1 = nI (d + 1) - nI 7 := by
          rw [← nI_add]
          generalize nI d = a
          generalize nI 7 = b
          generalize nI 1 = c
          grind
        rw [e, le_N (by omega) (by omega), Int32.le_iff_toInt_le, pk_sub_toInt (by omega) (by omega), nI_toInt (by omega)]
        constructor
        · rintro ⟨a, b⟩; exact ⟨by omega, by omega⟩
        · rintro ⟨a, b⟩; exact ⟨by omega, by omega⟩
      refine tX1_weekOfArm_5 ⟨fun q => absurd q ?_, fun _ => ⟨by rw [pk_mul, nI_add]; exact vp_in_nI (by omega) (by decide), fun q => ?_, fun q => ⟨by rw [pk_mul, nI_add]; exact vp_in_nI (by omega) (by decide), ?_⟩⟩⟩
      · rw [hC.2.1, le_N (by omega) (by omega)]; omega
      · rw [d1, cd] at q
        rw [nI_add g 1]
        exact ih (g + 1) _ (by omega) (by rw [st, if_neg q, add_z])
      · rw [d1, cd] at q
        rw [pk_mul, nI_add, nI_add g 1, rd_N (by omega), hP.2.2 t g (by omega) (by omega)]
        exact ih (g + 1) _ (by omega) (by rw [st, if_pos q])
  exact L (r 1) 0 _ (by omega) rfl
end WORK
section Q6
variable {w : Wd} {r : Nat → Nat}
theorem p_work (hR : RA w r) {x1 x2 : Int32} : QP w fX10_work fX11_work [.ref 0, .int x1, .int x2] [.ref 41, .int x1, .int x2] := by
  obtain ⟨hM, hC, hP, hW, hV, h6, h7, h8⟩ := hR
  have h0 := hW.2.1
  have h1 := hW.2.2.1
  unfold QP
  refine tX10_work_0 ⟨fun z => ⟨fun z2 => ?_, fun z2 => ?_⟩, fun z => ?_⟩
  · rw [hC.1] at z
    obtain ⟨t, ht, rfl⟩ := (rng (by omega)).mp z
    obtain ⟨d, hd, hd2, rfl⟩ := (rng2 (by omega) (by omega)).mp z2
    refine c_weekOfArm hC hP hW ht (by omega) (tX10_work_40 ?_)
    have hM1 : RM (upI (upI w 0 10 (nI 0)) 0 12 (-1)) r := RM_cf hM CF_r
    refine tX11_work_0 ⟨fun _ => ?_, fun q => absurd ?_ q⟩
    · rw [rdM hM1 (by omega), bI_t z, bI_t z2, un2_11]
      refine g_laysDays (RM_rfs hM1) hW (by omega) (by omega) (by omega) (fun w2 ho hD => tX11_work_31 (g_lately hD (by omega) (tX11_work_36 ?_)))
      rw [late_all hW]
      exact fin CF_r (GF_a (GO_47 ho))
    · rw [rdM hM1 (by omega), bI_t z, bI_t z2, un2_11]; rfl
  · rw [hC.1] at z
    have hM1 : RM (upI (upI w 0 10 (nI 2)) 0 12 (-1)) r := RM_cf hM CF_r
    refine tX11_work_0 ⟨fun q => absurd q ?_, fun _ => ?_⟩
    · rw [rdM hM1 (by omega), bI_t z, bI_f z2, un2_10]; decide
    · rw [rdM hM1 (by omega), bI_t z, bI_f z2, un2_10]; exact fin CF_r GF_r
  · rw [hC.1] at z
    have hM1 : RM (upI (upI w 0 10 (nI 1)) 0 12 (-1)) r := RM_cf hM CF_r
    refine tX11_work_0 ⟨fun q => absurd q ?_, fun _ => ?_⟩
    · rw [rdM hM1 (by omega), bI_f z, un2_0]; decide
    · rw [rdM hM1 (by omega), bI_f z, un2_0]; exact fin CF_r GF_r
end Q6
/-- the first day with the most throws in the week up to it, of the days before d -/
def busN (r : Nat → Nat) (t : Nat) : Nat → Nat
  | 0 => 0
  | d + 1 => if wkN r t (busN r t d) < wkN r t d then d else busN r t d
theorem busN_le (r : Nat → Nat) (t : Nat) : ∀ d, busN r t d ≤ d
  | 0 => Nat.le_refl _
  | d + 1 => by
    unfold busN
    split
    · omega
    · have := busN_le r t d; omega
section Q6B
variable {w : Wd} {r : Nat → Nat}
theorem p_busiest (hR : RA w r) {x1 x2 : Int32} : QP w fX10_busiest fX11_busiest [.ref 0, .int x1, .int x2] [.ref 41, .int x1, .int x2] := by
  obtain ⟨hM, hC, hP, hW, hV, h6, h7, h8⟩ := hR
  have h0 := hW.2.1
  have h1 := hW.2.2.1
  have N : ¬ ((nI 0 ≤ x1 ∧ x1 ≤ nI (r 0) - nI 1) ∧ (nI 0 ≤ x2 ∧ x2 ≤ nI 1)) → fX11_busiest [.ref 41, .int x1, .int x2] (upI (upI w 0 10 (nI 1)) 0 12 (-1)) (fun u w2 => QK w (some (.int (-1))) u w2) := fun hn => n_busiest (RM_cf hM CF_r) hW (txr CF_r h6) hn (fin CF_r GF_r)
  unfold QP
  refine tX10_busiest_0 ⟨fun z => ?_, fun z => ⟨fun z2 => ?_, fun z2 => ?_⟩⟩
  · rw [hC.1] at z; exact N (fun q => z q.1)
  · rw [hC.1] at z
    obtain ⟨t, ht, rfl⟩ := (rng (by omega)).mp z
    have wb := wkN_le hW t
    have Y : ∀ v : Int32, (x2 = 0 → v = nI (wkN r t (busN r t 60))) → (¬ x2 = 0 → v = nI (busN r t 60)) → fX11_busiest [.ref 41, .int (nI t), .int x2] (upI (upI w 0 10 (nI 0)) 0 12 (-1)) (fun u w2 => QK w (some (.int v)) u w2) := by
      intro v v0 v1
      have hM1 : RM (upI (upI w 0 10 (nI 0)) 0 12 (-1)) r := RM_cf hM CF_r
      refine y_busiest hM1 hW (txr CF_r h6) z z2 (g_laysDays (RM_rfs hM1) hW (by omega) (by omega) (by omega) (fun w2 ho hD => tX11_busiest_41 ?_))
      have L : ∀ (n d : Nat) (a : Int32), d + n = 60 → 1 ≤ d → a = nI (busN r t d) → RR (tl (fun u w2 => QK w (some (.int v)) u w2) lX11_busiest) 46 [.ref 41, .int (nI t), .int x2, .int a, .int (nI d)] [] w2 := by
        intro n
        induction n with
        | zero =>
          intro d a hd h1d ha
          have := busN_le r t d
          refine tX11_busiest_46 ⟨fun _ => ⟨fun q => ?_, fun q => ?_⟩, fun q => absurd ?_ q⟩
          · rw [ha, show d = 60 by omega, ← v1 q]; exact fin CF_r (GF_a (GO_47 ho))
          · rw [ha]
            refine g_lately hD (by omega) (tX11_busiest_89 ?_)
            rw [late_all hW, show d = 60 by omega, ← v0 q]
            exact fin CF_r (GF_a (GO_47 ho))
          · rw [le_N (by omega) (by omega)]; omega
        | succ n ih =>
          intro d a hd h1d ha
          have := busN_le r t d
          have b1 := wb d
          have b2 := wb (busN r t d)
          refine tX11_busiest_46 ⟨fun q => absurd q ?_, fun _ => ?_⟩
          · rw [le_N (by omega) (by omega)]; omega
          rw [ha]
          refine g_lately hD (by omega) (tX11_busiest_59 (g_lately hD (by omega) (tX11_busiest_64 ⟨fun q => ?_, fun q => ?_⟩)))
          · rw [late_all hW, late_all hW, le_N (by omega) (by omega)] at q
            rw [nI_add d 1]
            exact ih (d + 1) _ (by omega) (by omega) (by rw [busN, if_neg (by omega)])
          · rw [late_all hW, late_all hW, le_N (by omega) (by omega)] at q
            rw [nI_add d 1]
            exact ih (d + 1) _ (by omega) (by omega) (by rw [busN, if_pos (by omega)])
      exact L 59 1 _ (by omega) (by omega) (by rw [busN, busN, if_neg (by omega)])
    have L : ∀ (n d : Nat) (a b : Int32) (u : Value), d + n = 60 → a = nI (if d = 0 then 0 else wkN r t (busN r t d)) → b = nI (busN r t d) → RR (tl (fun v w1 => fX11_busiest [.ref 41, .int (nI t), .int x2] w1 (fun u w2 => QK w v u w2)) lX10_busiest) 31 [.ref 0, .int (nI t), .int x2, .int a, .int b, .int (nI d), u] [] w := by
      intro n
      induction n with
      | zero =>
        intro d a b u hd ha hb
        refine tX10_busiest_31 ⟨fun _ => ⟨fun q => Y _ (fun e => absurd e q) (fun _ => ?_), fun q => Y _ (fun _ => ?_) (fun e => absurd q e)⟩, fun q => absurd ?_ q⟩
        · rw [hb, show d = 60 by omega]
        · rw [ha, show d = 60 by omega]; rfl
        · rw [le_N (by omega) (by omega)]; omega
      | succ n ih =>
        intro d a b u hd ha hb
        have b1 := wb d
        have b2 := wb (busN r t d)
        refine tX10_busiest_31 ⟨fun q => absurd q ?_, fun _ => ?_⟩
        · rw [le_N (by omega) (by omega)]; omega
        refine c_weekOfArm hC hP hW ht (by omega) ?_
        have hz : d = 0 → busN r t (d + 1) = 0 := fun e => by rw [e, busN, busN, if_neg (by omega)]
        have hi : (if d = 0 then 0 else wkN r t (busN r t d)) ≤ 7200 := by split <;> omega
        refine tX10_busiest_48 ⟨fun q => ?_, fun q => ?_⟩
        · rw [ha, le_N (by omega) (by omega)] at q
          rw [nI_add d 1]
          refine ih (d + 1) _ _ _ (by omega) ?_ ?_
          · rw [ha, if_neg (show ¬ d + 1 = 0 by omega)]
            by_cases e : d = 0
            · rw [hz e, if_pos e]
              rw [if_pos e, e] at q
              congr 1
              omega
            · rw [if_neg e]
              rw [if_neg e] at q
              rw [busN, if_neg (by omega)]
          · by_cases e : d = 0
            · rw [hz e, hb, e]; rfl
            · rw [if_neg e] at q
              rw [hb]
              conv => rhs; rw [busN, if_neg (show ¬ wkN r t (busN r t d) < wkN r t d by omega)]
        · rw [ha, le_N (by omega) (by omega)] at q
          rw [nI_add d 1]
          refine ih (d + 1) _ _ _ (by omega) ?_ ?_
          · rw [if_neg (show ¬ d + 1 = 0 by omega)]
            by_cases e : d = 0
            · rw [hz e, e]
            · rw [if_neg e] at q
              rw [busN, if_pos (by omega)]
          · by_cases e : d = 0
            · rw [hz e, e]
            · rw [if_neg e] at q
              rw [busN, if_pos (by omega)]
    exact L 60 0 _ _ _ (by omega) rfl rfl
  · exact N (fun q => z2 q.2)
end Q6B
