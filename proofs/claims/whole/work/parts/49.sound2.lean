section SOUND
variable {w : Wd} {r : Nat → Nat}
/-- the end of both: a part by the common divisor -/
theorem snd_div {p G : Nat} (hp : p < 2 ^ 63) (hG : 0 < G) (hG2 : G < 2 ^ 63) (hle : G ≤ 1) : lN p / lN G = lN p := by
  rw [pk_lDiv hp hG hG2, show G = 1 by omega, Nat.div_one]
noncomputable def abK (r : Nat → Nat) (t g k f : Nat) (x : Nat) : Nat := bif dec (∃ j, j < k ∧ who r g j = t) then x * f else x
theorem abK_0 {r : Nat → Nat} {t g f x : Nat} : abK r t g 0 f x = x := by
  unfold abK; rw [dec_f (fun ⟨j, a, _⟩ => by omega)]; rfl
theorem abK_n {r : Nat → Nat} {t g k f x : Nat} (h : who r g k ≠ t) : abK r t g (k + 1) f x = abK r t g k f x := by
  unfold abK
  rw [dec_congr (show (∃ j, j < k + 1 ∧ who r g j = t) ↔ (∃ j, j < k ∧ who r g j = t) from ⟨fun ⟨j, a, b⟩ => ⟨j, by
    rcases Nat.lt_or_ge j k with c | c
    · exact c
    · rw [show j = k by omega] at b; exact absurd b h, b⟩, fun ⟨j, a, b⟩ => ⟨j, by omega, b⟩⟩)]
theorem abK_y {r : Nat → Nat} {t g k f x : Nat} (h : who r g k = t) : abK r t g (k + 1) f x = x * f := by
  unfold abK; rw [dec_t ⟨k, by omega, h⟩]; rfl
theorem abK_y0 {r : Nat → Nat} {t g k f x : Nat} (h : ∀ j, j < k → who r g j ≠ t) : abK r t g k f x = x := by
  unfold abK; rw [dec_f (fun ⟨j, a, b⟩ => h j a b)]; rfl
theorem abK_e {r : Nat → Nat} (hV : VP r) {t g f x : Nat} (hg : g < 20) : abK r t g (r (106 + g)) f x = x * (if 0 < load r t g then f else 1) := by
  unfold abK
  by_cases q : isIn r t g
  · rw [dec_t (show ∃ j, j < r (106 + g) ∧ who r g j = t from q), if_pos ((load_pos hV hg).mpr q)]; rfl
  · rw [dec_f (show ¬ ∃ j, j < r (106 + g) ∧ who r g j = t from q), if_neg (fun z => q ((load_pos hV hg).mp z)), Nat.mul_one]; rfl
theorem p_sound (hR : RA w r) {x1 x2 : Int32} : QPL w fX10_sound fX11_sound [.ref 0, .int x1, .int x2] [.ref 41, .int x1, .int x2] := by
  obtain ⟨hM, hC, hP, hW, hV, h6, h7, h8⟩ := hR
  have h0 := hW.2.1
  have h1 := hW.2.2.1
  have N : ¬ ((nI 0 ≤ x1 ∧ x1 ≤ nI (r 0) - nI 1) ∧ (nI 0 ≤ x2 ∧ x2 ≤ nI 1)) → fX11_sound [.ref 41, .int x1, .int x2] (upI (upI w 0 10 (nI 1)) 0 12 (-1)) (fun u w2 => QKL w (some (.long (Int32.toInt64 (-1)))) u w2) := by
    intro hn
    have hM1 : RM (upI (upI w 0 10 (nI 1)) 0 12 (-1)) r := RM_cf hM CF_r
    have Z : RR (tl (fun u w2 => QKL w (some (.long (Int32.toInt64 (-1)))) u w2) lX11_sound) 22 [.ref 41, .int x1, .int x2, .null, .null, .null, .null, .null, .null, .null, .null] [.int (nI 0)] (upI (upI w 0 10 (nI 1)) 0 12 (-1)) := by
      refine tX11_sound_22 ⟨fun q => absurd (un_0 ▸ q) (by decide), fun _ => tX11_sound_51 ⟨fun q => absurd (un_0 ▸ q) (by decide), fun _ => ?_⟩⟩
      rw [un_0, m1L]
      exact finL CF_r GF_r
    refine tX11_sound_0 ⟨fun _ => tX11_sound_21 Z, fun a => ⟨fun _ => tX11_sound_21 Z, fun b => absurd ⟨?_, b⟩ hn⟩⟩
    rw [rdM hM1 (by omega)] at a; exact a
  unfold QPL
  refine tX10_sound_0 ⟨fun z => ?_, fun z => ⟨fun z2 => ?_, fun z2 => ?_⟩⟩
  · rw [hC.1] at z; exact N (fun q => z q.1)
  · rw [hC.1] at z
    obtain ⟨t, ht, rfl⟩ := (rng (by omega)).mp z
    have sb : sumT r t 1 ≤ 20 := by
      have := sumN_le (f := fun g => fS r t 1 g (load r t g)) (b := 1) (r 1) (fun k hk => by
        show (if 0 < load r t k then 1 else 0) ≤ 1
        split <;> omega)
      unfold sumT; omega
    -- the reference up to its loop
    have R0 : ∀ (w1 : Wd) (K : Kt), RM w1 r → (sumT r t 1 ≤ 6 → ∀ x3, RR (tl K lX11_sound) 70 [.ref 41, .int (nI t), .int x2, .int x3, .long (lN 1), .null, .long (lN 1), .null, .int (nI 0), .null, .null] [] (rfs w1 (nI 0))) → (¬ sumT r t 1 ≤ 6 → K (some (.long (-1))) (rfs w1 (nI 5))) → fX11_sound [.ref 41, .int (nI t), .int x2] w1 K := by
      intro w1 K hM1 ha hb
      refine tX11_sound_0 ⟨fun q => absurd (by rw [rdM hM1 (by omega)]; exact z) q, fun _ => ⟨fun q => absurd z2 q, fun _ => tX11_sound_22 ⟨fun _ => ?_, fun q => absurd un_1 q⟩⟩⟩
      refine g_sumOf hM1 hW hV (by omega) ht (tX11_sound_41 ⟨fun q => ?_, fun q => ?_⟩)
      · rw [le_N (by omega) (by omega)] at q
        exact tX11_sound_51 ⟨fun _ => ha q _, fun q => absurd rfl q⟩
      · rw [le_N (by omega) (by omega)] at q
        exact tX11_sound_51 ⟨fun q => absurd q (by decide), fun _ => hb q⟩
    refine c_outingsOfArm hC hP hW ht (tX10_sound_32 ⟨fun q6 => ?_, fun q6 => ?_⟩)
    · rw [le_N (by omega) (by omega)] at q6
      have hc : CF w (upI (upI w 0 10 (nI 0)) 0 12 (-1)) (nI 0) := CF_r
      have hC1 : CT (upI (upI w 0 10 (nI 0)) 0 12 (-1)) r := hC.off hc.1 (fun c a b q => by unfold S38 at q; omega)
      have hP1 : CP (upI (upI w 0 10 (nI 0)) 0 12 (-1)) r := hP.off hc.1 (fun c a b q => by unfold S38 at q; omega)
      have hM1 : RM (upI (upI w 0 10 (nI 0)) 0 12 (-1)) r := RM_cf hM hc
      generalize upI (upI w 0 10 (nI 0)) 0 12 (-1) = w1 at hc hC1 hP1 hM1 ⊢
      obtain ⟨le1, pos⟩ := ab_le r t (r 1)
      have bl := bl_le q6
      have ba : abN r t (r 1) < 2 ^ 63 := by
        have : (1000000000000000000 : Nat) < 2 ^ 63 := by decide
        omega
      have bb : blN r t (r 1) < 2 ^ 63 := by
        have : (1000000000000000000 : Nat) < 2 ^ 63 := by decide
        omega
      obtain ⟨G, hG⟩ : ∃ G, G = Nat.gcd (abN r t (r 1)) (blN r t (r 1)) := ⟨_, rfl⟩
      have hG2 : G = Nat.gcd (blN r t (r 1)) (abN r t (r 1)) := by rw [hG, Nat.gcd_comm]
      have Gp : 0 < G := by rw [hG]; exact Nat.gcd_pos_of_pos_right _ pos
      have Gb : G < 2 ^ 63 := by
        have : G ≤ blN r t (r 1) := by rw [hG]; exact Nat.gcd_le_right _ pos
        omega
      -- the reference's answer
      have Y : ∀ (v : Int64), (x2 = 0 → v = lN (abN r t (r 1)) / lN G) → (¬ x2 = 0 → v = lN (blN r t (r 1)) / lN G) → fX11_sound [.ref 41, .int (nI t), .int x2] w1 (fun u w2 => QKL w (some (.long v)) u w2) := by
        intro v v0 v1
        refine R0 w1 _ hM1 (fun _ x3 => ?_) (fun p => absurd q6 p)
        have hM2 : RM (rfs w1 (nI 0)) r := RM_rfs hM1
        have nG : ¬ lN G = 0 := fun e => by
          have := (pk_lEQ (b := 0) Gb (by decide)).mp e
          omega
        have L : ∀ (n g : Nat) (u9 u10 : Value), g + n = r 1 → RR (tl (fun u w2 => QKL w (some (.long v)) u w2) lX11_sound) 70 [.ref 41, .int (nI t), .int x2, .int x3, .long (lN (abN r t g)), .null, .long (lN (blN r t g)), .null, .int (nI g), u9, u10] [] (rfs w1 (nI 0)) := by
          intro n
          induction n with
          | zero =>
            intro g u9 u10 hg
            have e : g = r 1 := by omega
            subst e
            refine tX11_sound_70 ⟨fun _ => ⟨fun q => ?_, fun q => ?_⟩, fun q => absurd ?_ q⟩
            · refine g_common bb ba (don_ba le1 pos (by omega)) (tX11_sound_185 ?_)
              rw [← hG2]
              refine ⟨nG, ?_⟩
              rw [← v1 q]
              exact finL hc GF_r
            · refine g_common bb ba (don_ba le1 pos (by omega)) (tX11_sound_185 ?_)
              rw [← hG2]
              refine ⟨nG, ?_⟩
              rw [← v0 q]
              exact finL hc GF_r
            · rw [rdM hM2 (by omega), le_N (by omega) (by omega)]; omega
          | succ n ih =>
            intro g u9 u10 hg
            have hGm := hW.2.2.2.2.2.2.2.1 g (by omega)
            refine tX11_sound_70 ⟨fun q => absurd q ?_, fun _ => ?_⟩
            · rw [rdM hM2 (by omega), le_N (by omega) (by omega)]; omega
            have L2 : ∀ (m k : Nat) (u10 : Value), k + m = r (106 + g) → RR (tl (fun u w2 => QKL w (some (.long v)) u w2) lX11_sound) 84 [.ref 41, .int (nI t), .int x2, .int x3, .long (lN (abK r t g k (1000 - riskN r t (load r t g)) (abN r t g))), .null, .long (lN (abK r t g k 1000 (blN r t g))), .null, .int (nI g), .int (nI k), u10] [] (rfs w1 (nI 0)) := by
              intro m
              induction m with
              | zero =>
                intro k u10 hk
                have e : k = r (106 + g) := by omega
                subst e
                refine tX11_sound_84 ⟨by rw [nI_add]; exact vp_in_nI (by omega) (by decide), fun _ => ?_, fun q => absurd ?_ q⟩
                · rw [nI_add g 1, abK_e hV (by omega), abK_e hV (by omega)]
                  exact ih (g + 1) _ _ (by omega)
                · rw [nI_add, rdM hM2 (by omega), le_N (by omega) (by omega)]; omega
              | succ m ih2 =>
                intro k u10 hk
                have b := hW.2.2.2.2.2.2.2.2.1 (3 * g + k) (by omega)
                have m3 : thr r g k ≤ 120 := b.2
                have m4 : who r g k ≤ 7 := b.1
                have e1 : nI 186 + (nI 3 * nI g + nI k) = nI (186 + (3 * g + k)) := by rw [pk_mul, nI_add, nI_add]
                have e2 : nI 126 + (nI 3 * nI g + nI k) = nI (126 + (3 * g + k)) := by rw [pk_mul, nI_add, nI_add]
                have r1 : rd (rfs w1 (nI 0)) 43 (nI (186 + (3 * g + k))) = nI (thr r g k) := rdM hM2 (by omega)
                have r2 : rd (rfs w1 (nI 0)) 43 (nI (126 + (3 * g + k))) = nI (who r g k) := rdM hM2 (by omega)
                refine tX11_sound_84 ⟨by rw [nI_add]; exact vp_in_nI (by omega) (by decide), fun q => absurd q ?_, fun _ => ⟨by rw [e2]; exact vp_in_nI (by omega) (by decide), fun q => ?_, fun q => ⟨by rw [e1]; exact vp_in_nI (by omega) (by decide), ?_⟩⟩⟩
                · rw [nI_add, rdM hM2 (by omega), le_N (by omega) (by omega)]; omega
                · rw [e2, r2, eq_N (by omega) (by omega)] at q
                  rw [nI_add k 1]
                  have := ih2 (k + 1) u10 (by omega)
                  rw [abK_n q, abK_n q] at this
                  exact this
                · rw [e2, r2, eq_N (by omega) (by omega)] at q
                  rw [e1, r1]
                  have hl : load r t g = thr r g k := load_of (fun j k a b => hV.2.2.2.1 g j k (by omega) a b) (by omega) q
                  have first : ∀ j, j < k → who r g j ≠ t := fun j hj e => hV.2.2.2.1 g j k (by omega) hj (by omega) (e.trans q.symm)
                  have rl := risk_le hW (t := t) (x := thr r g k) (by omega) m3
                  refine g_riskOf hM2 hW (by omega) (by omega) ?_
                  have nx := fun u => ih2 (k + 1) u (by omega)
                  rw [abK_y q, abK_y q, hl] at nx
                  rw [abK_y0 first, abK_y0 first]
                  refine tX11_sound_127 ⟨fun p => ?_, fun p => ?_⟩
                  · have p2 := Int32.le_iff_toInt_le.mp p
                    rw [pk_sub_toInt (by omega) (by omega)] at p2
                    have z0 : (0 : Int32).toInt = 0 := by decide
                    rw [sub_N (by omega), nI_l (by omega), lN_mul, lN_mul, nI_add k 1]
                    exact nx _
                  · have p2 : ¬ (0 : Int32).toInt ≤ (nI 1000 - nI (riskN r t (thr r g k))).toInt := fun z => p (Int32.le_iff_toInt_le.mpr z)
                    rw [pk_sub_toInt (by omega) (by omega)] at p2
                    have z0 : (0 : Int32).toInt = 0 := by decide
                    rw [lN_mul, lN_mul, nI_add k 1]
                    have e0 : 1000 - riskN r t (thr r g k) = 0 := by omega
                    rw [e0] at nx
                    exact nx _
            have := L2 (r (106 + g)) 0 u10 (by omega)
            rw [abK_0, abK_0] at this
            exact this
        exact L (r 1) 0 _ _ (by omega)
      -- the class
      have L : ∀ (n g : Nat) (u8 u9 u10 : Value), g + n = r 1 → RR (tl (fun v w1 => fX11_sound [.ref 41, .int (nI t), .int x2] w1 (fun u w2 => QKL w v u w2)) lX10_sound) 58 [.ref 0, .int (nI t), .int x2, .long (lN (abN r t g)), .null, .long (lN (blN r t g)), .null, .int (nI g), u8, u9, u10] [] w1 := by
        intro n
        induction n with
        | zero =>
          intro g u8 u9 u10 hg
          have e : g = r 1 := by omega
          subst e
          refine tX10_sound_58 ⟨fun _ => ?_, fun q => absurd ?_ q⟩
          · refine c_common ba bb (don_ab le1 pos (by omega)) ?_
            rw [← hG]
            refine tX10_sound_133 ⟨fun q => tX10_sound_145 ⟨fun p => ?_, fun p => ⟨?_, ?_⟩⟩, fun q => tX10_sound_145 ⟨fun p => ?_, fun p => ⟨?_, ?_⟩⟩⟩
            · rw [lg_cmp_le, pk_lLE Gb (by decide)] at p
              exact Y _ (fun e => absurd e q) (fun _ => (snd_div bb Gp Gb p).symm)
            · intro e
              have := (pk_lEQ (b := 0) Gb (by decide)).mp e
              omega
            · exact Y _ (fun e => absurd e q) (fun _ => rfl)
            · rw [lg_cmp_le, pk_lLE Gb (by decide)] at p
              exact Y _ (fun _ => (snd_div ba Gp Gb p).symm) (fun e => absurd q e)
            · intro e
              have := (pk_lEQ (b := 0) Gb (by decide)).mp e
              omega
            · exact Y _ (fun _ => rfl) (fun e => absurd q e)
          · rw [hC1.2.1, le_N (by omega) (by omega)]; omega
        | succ n ih =>
          intro g u8 u9 u10 hg
          have hl := load_le2 hW hV (t := t) (g := g) (by omega)
          have eL : rd w1 25 (nI t * nI 20 + nI g) = nI (load r t g) := by rw [pk_mul, nI_add, rd_N (by omega), hP1.2.2 t g (by omega) (by omega)]
          have rl := risk_le hW (t := t) (x := load r t g) (by omega) hl
          have nx := fun u8 u9 u10 => ih (g + 1) u8 u9 u10 (by omega)
          refine tX10_sound_58 ⟨fun q => absurd q ?_, fun _ => ⟨by rw [pk_mul, nI_add]; exact vp_in_nI (by omega) (by decide), fun q => ?_, fun q => ⟨by rw [pk_mul, nI_add]; exact vp_in_nI (by omega) (by decide), by rw [pk_mul, nI_add]; exact vp_in_nI (by omega) (by decide), ?_⟩⟩⟩
          · rw [hC1.2.1, le_N (by omega) (by omega)]; omega
          · rw [eL, le0_N (by omega)] at q
            rw [nI_add g 1]
            rw [abN, blN, if_neg (by omega), if_neg (by omega), Nat.mul_one, Nat.mul_one] at nx
            exact nx _ _ _
          · rw [eL, le0_N (by omega)] at q
            rw [eL, risk_e hC1 hW ht (by omega), sub_max (by omega), nI_l (by omega), lN_mul, lN_mul, nI_add g 1]
            rw [abN, blN, if_pos (by omega), if_pos (by omega)] at nx
            exact nx _ _ _
      exact L (r 1) 0 _ _ _ (by omega)
    · rw [le_N (by omega) (by omega)] at q6
      refine R0 _ _ (RM_cf hM CF_r) (fun p => absurd p q6) (fun _ => ?_)
      rw [m1L]
      exact finL CF_r GF_r
  · exact N (fun q => z2 q.2)
end SOUND
