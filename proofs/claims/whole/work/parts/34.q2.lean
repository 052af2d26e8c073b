/-! questions: both sides answer alike (2) -/
/-- the first of a row of numbers -/
def FirstV (P : Nat → Prop) (a n : Nat) (no v : Int32) : Prop := (∃ h, a ≤ h ∧ h < n ∧ P h ∧ (∀ j, a ≤ j → j < h → ¬ P j) ∧ v = nI h) ∨ ((∀ j, a ≤ j → j < n → ¬ P j) ∧ v = no)
theorem sumI_zero {f : Nat → Int32} : ∀ n, (∀ k, k < n → f k = nI 0) → sumI f n = nI 0
  | 0, _ => rfl
  | n + 1, h => by
    show sumI f n + f n = nI 0
    rw [sumI_zero n (fun k hk => h k (by omega)), h n (by omega)]
    rfl
section Q2
variable {w : Wd} {r : Nat → Nat}
theorem p_about (hR : RA w r) {x1 : Int32} : QP w fX10_about fX11_about [.ref 0, .int x1] [.ref 41, .int x1] := by
  obtain ⟨hM, hC, hP, hW, hV, h6, h7, h8⟩ := hR
  have h0 := hW.2.1
  have h1 := hW.2.2.1
  have N : ¬ (0 < r 1 ∧ (nI 0 ≤ x1 ∧ x1 ≤ nI 7)) → fX11_about [.ref 41, .int x1] (upI (upI w 0 10 (nI 1)) 0 12 (-1)) (fun u w2 => QK w (some (.int (-1))) u w2) := fun hn => n_about (RM_cf hM CF_r) hW (txr CF_r h6) hn (fin CF_r GF_r)
  unfold QP
  refine tX10_about_0 ⟨fun z => ?_, fun z => ⟨fun z2 => ?_, fun z2 => ?_⟩⟩
  · rw [g0_N hC hW] at z; exact N (fun q => z q.1)
  · rw [g0_N hC hW] at z
    obtain ⟨x, hx, hx2, rfl⟩ := (rng2 (by omega) (by omega)).mp z2
    have hM1 : RM (rfs (upI (upI w 0 10 (nI 0)) 0 12 (-1)) (nI 0)) r := RM_rfs (RM_cf hM CF_r)
    have tI : (nI x).toInt = (x : Int) := nI_toInt (by omega)
    have e24 : (rfs (upI (upI w 0 10 (nI 0)) 0 12 (-1)) (nI 0)).1 41 24 = w.1 41 24 := rfl
    have Y : ∀ v : Int32, ((x = 0 → v = nI (r 0)) ∧ (x = 1 → v = nI (r 1)) ∧ (x = 2 → v = sumI (fun g => nI (r (106 + g))) (r 1)) ∧ (x = 3 → v = nI (r 3)) ∧ (x = 4 → v = nI (r 4)) ∧ (x = 5 → v = nI (r 5)) ∧ (x = 6 → v = nI (r 2)) ∧ (x = 7 → v = w.1 41 24)) → RR (tl (fun v w1 => fX11_about [.ref 41, .int (nI x)] w1 (fun u w2 => QK w v u w2)) lX10_about) 29 [.ref 0, .int (nI x)] [.int v, .ref 0] w := by
      intro v ⟨v0, v1, v2, v3, v4, v5, v6, v7⟩
      refine tX10_about_29 (y_about (RM_cf hM CF_r) hW (txr CF_r h6) z z2 ⟨fun q => ?_, fun q => ?_, fun q => ?_, fun q => ?_, fun q => ?_, fun q => ?_, fun q => ?_, fun q => ?_⟩)
      all_goals rw [tI] at q
      · rw [v7 (by omega), e24]; exact fin CF_r GF_r
      · rw [v0 (by omega), rdM hM1 (by omega)]; exact fin CF_r GF_r
      · rw [v1 (by omega), rdM hM1 (by omega)]; exact fin CF_r GF_r
      · rw [v2 (by omega)]; exact g_outingsAll hM1 hW (tX11_about_94 (fin CF_r GF_r))
      · rw [v3 (by omega), rdM hM1 (by omega)]; exact fin CF_r GF_r
      · rw [v4 (by omega), rdM hM1 (by omega)]; exact fin CF_r GF_r
      · rw [v5 (by omega), rdM hM1 (by omega)]; exact fin CF_r GF_r
      · rw [v6 (by omega), rdM hM1 (by omega)]; exact fin CF_r GF_r
    refine tX10_tellAll_0 ⟨fun q => ?_, fun q => ?_, fun q => ?_, fun q => ?_, fun q => ?_, fun q => ?_, fun q => ?_, fun q => ?_⟩
    all_goals rw [tI] at q
    · rw [h8]; exact Y _ ⟨fun e => by omega, fun e => by omega, fun e => by omega, fun e => by omega, fun e => by omega, fun e => by omega, fun e => by omega, fun e => rfl⟩
    · rw [hC.1]; exact Y _ ⟨fun e => rfl, fun e => by omega, fun e => by omega, fun e => by omega, fun e => by omega, fun e => by omega, fun e => by omega, fun e => by omega⟩
    · rw [hC.2.1]; exact Y _ ⟨fun e => by omega, fun e => rfl, fun e => by omega, fun e => by omega, fun e => by omega, fun e => by omega, fun e => by omega, fun e => by omega⟩
    · exact c_allOutings hC hP hW (tX10_tellAll_67 (Y _ ⟨fun e => by omega, fun e => by omega, fun e => rfl, fun e => by omega, fun e => by omega, fun e => by omega, fun e => by omega, fun e => by omega⟩))
    · rw [rd_N (by omega), hC.2.2.2.2.2.1.1]; exact Y _ ⟨fun e => by omega, fun e => by omega, fun e => by omega, fun e => rfl, fun e => by omega, fun e => by omega, fun e => by omega, fun e => by omega⟩
    · rw [rd_N (by omega), hC.2.2.2.2.2.1.2.1]; exact Y _ ⟨fun e => by omega, fun e => by omega, fun e => by omega, fun e => by omega, fun e => rfl, fun e => by omega, fun e => by omega, fun e => by omega⟩
    · rw [rd_N (by omega), hC.2.2.2.2.2.1.2.2]; exact Y _ ⟨fun e => by omega, fun e => by omega, fun e => by omega, fun e => by omega, fun e => by omega, fun e => rfl, fun e => by omega, fun e => by omega⟩
    · rw [hC.2.2.1]; exact Y _ ⟨fun e => by omega, fun e => by omega, fun e => by omega, fun e => by omega, fun e => by omega, fun e => by omega, fun e => rfl, fun e => by omega⟩
  · exact N (fun q => z2 q.2)
theorem p_arm (hR : RA w r) {x1 x2 : Int32} : QP w fX10_arm fX11_arm [.ref 0, .int x1, .int x2] [.ref 41, .int x1, .int x2] := by
  obtain ⟨hM, hC, hP, hW, hV, h6, h7, h8⟩ := hR
  have h0 := hW.2.1
  have h1 := hW.2.2.1
  have N : ¬ ((nI 0 ≤ x1 ∧ x1 ≤ nI (r 0) - nI 1) ∧ (nI 0 ≤ x2 ∧ x2 ≤ nI 7)) → fX11_arm [.ref 41, .int x1, .int x2] (upI (upI w 0 10 (nI 1)) 0 12 (-1)) (fun u w2 => QK w (some (.int (-1))) u w2) := fun hn => n_arm (RM_cf hM CF_r) hW (txr CF_r h6) hn (fin CF_r GF_r)
  unfold QP
  refine tX10_arm_0 ⟨fun z => ?_, fun z => ⟨fun z2 => ?_, fun z2 => ?_⟩⟩
  · rw [hC.1] at z; exact N (fun q => z q.1)
  · rw [hC.1] at z
    obtain ⟨t, ht, rfl⟩ := (rng (by omega)).mp z
    obtain ⟨x, hx, hx2, rfl⟩ := (rng2 (by omega) (by omega)).mp z2
    have cT := hC.2.2.2.1 t ht
    have hM1 : RM (rfs (upI (upI w 0 10 (nI 0)) 0 12 (-1)) (nI 0)) r := RM_rfs (RM_cf hM CF_r)
    have tI : (nI x).toInt = (x : Int) := nI_toInt (by omega)
    have Y : ∀ v : Int32, ((x < 5 → v = nI (r (6 + 8 * x + t))) ∧ (5 ≤ x → v = nI (sumT r t (x - 5)))) → RR (tl (fun v w1 => fX11_arm [.ref 41, .int (nI t), .int (nI x)] w1 (fun u w2 => QK w v u w2)) lX10_arm) 31 [.ref 0, .int (nI t), .int (nI x)] [.int v, .ref 0] w := by
      intro v ⟨v0, v1⟩
      refine tX10_arm_31 (y_arm (RM_cf hM CF_r) hW (txr CF_r h6) z z2 ⟨fun q => ?_, fun q => ⟨?_, ?_⟩⟩)
      · rw [le_N (by omega) (by omega)] at q
        rw [sub_N q, v1 q]
        exact g_sumOf hM1 hW hV (by omega) ht (tX11_arm_65 (fin CF_r GF_r))
      · rw [le_N (by omega) (by omega)] at q
        rw [pk_mul, nI_add, nI_add]; exact vp_in_nI (by omega) (by decide)
      · rw [le_N (by omega) (by omega)] at q
        rw [pk_mul, nI_add, nI_add, rdM hM1 (by omega), v0 (by omega)]; exact fin CF_r GF_r
    refine tX10_tellArm_0 ⟨fun q => ?_, fun q => ⟨?_, ?_⟩, fun q => ⟨?_, ?_⟩, fun q => ⟨?_, ?_⟩, fun q => ⟨?_, ?_⟩, fun q => ⟨?_, ?_⟩, fun q => ?_, fun q => ?_⟩
    all_goals rw [tI] at q
    · exact c_valueOfArm hC hP hW hV ht (tX10_tellArm_120 (Y _ ⟨fun e => by omega, fun e => by rw [show x - 5 = 2 by omega]⟩))
    · exact vp_in_nI (by omega) (by decide)
    · rw [rd_N (by omega), cT.1]; exact Y _ ⟨fun e => by rw [show 6 + 8 * x + t = 6 + t by omega], fun e => by omega⟩
    · rw [pk_mul, nI_add]; exact vp_in_nI (by omega) (by decide)
    · rw [pk_mul, nI_add, rd_N (by omega), cT.2.1]; exact Y _ ⟨fun e => by rw [show 6 + 8 * x + t = 14 + t by omega], fun e => by omega⟩
    · rw [pk_mul, nI_add]; exact vp_in_nI (by omega) (by decide)
    · rw [pk_mul, nI_add, rd_N (by omega), cT.2.2.1]; exact Y _ ⟨fun e => by rw [show 6 + 8 * x + t = 22 + t by omega], fun e => by omega⟩
    · rw [pk_mul, nI_add]; exact vp_in_nI (by omega) (by decide)
    · rw [pk_mul, nI_add, rd_N (by omega), cT.2.2.2.1]; exact Y _ ⟨fun e => by rw [show 6 + 8 * x + t = 30 + t by omega], fun e => by omega⟩
    · rw [pk_mul, nI_add]; exact vp_in_nI (by omega) (by decide)
    · rw [pk_mul, nI_add, rd_N (by omega), cT.2.2.2.2]; exact Y _ ⟨fun e => by rw [show 6 + 8 * x + t = 38 + t by omega], fun e => by omega⟩
    · exact c_throwsOfArm hC hP hW ht (tX10_tellArm_102 (Y _ ⟨fun e => by omega, fun e => by rw [show x - 5 = 0 by omega]⟩))
    · exact c_outingsOfArm hC hP hW ht (tX10_tellArm_111 (Y _ ⟨fun e => by omega, fun e => by rw [show x - 5 = 1 by omega]⟩))
  · exact N (fun q => z2 q.2)
theorem p_outing (hR : RA w r) {x1 x2 x3 : Int32} : QP w fX10_outing fX11_outing [.ref 0, .int x1, .int x2, .int x3] [.ref 41, .int x1, .int x2, .int x3] := by
  obtain ⟨hM, hC, hP, hW, hV, h6, h7, h8⟩ := hR
  have h0 := hW.2.1
  have h1 := hW.2.2.1
  have N : (∀ g k, x1 = nI g → x2 = nI k → g < r 1 → k < r (106 + g) → ¬ (nI 0 ≤ x3 ∧ x3 ≤ nI 4)) → fX11_outing [.ref 41, .int x1, .int x2, .int x3] (upI (upI w 0 10 (nI 1)) 0 12 (-1)) (fun u w2 => QK w (some (.int (-1))) u w2) := by
    intro hn
    have hM1 : RM (upI (upI w 0 10 (nI 1)) 0 12 (-1)) r := RM_cf hM CF_r
    have Z : RR (tl (fun u w2 => QK w (some (.int (-1))) u w2) lX11_outing) 42 [.ref 41, .int x1, .int x2, .int x3, .null, .null] [.int (nI 0), .ref 41] (upI (upI w 0 10 (nI 1)) 0 12 (-1)) := tX11_outing_42 ⟨fun q => absurd (un_0 ▸ q) (by decide), fun _ => by rw [un_0]; exact fin CF_r GF_r⟩
    refine tX11_outing_0 ⟨fun _ => tX11_outing_41 Z, fun a => ?_⟩
    rw [rdM hM1 (by omega)] at a
    obtain ⟨g, hg, rfl⟩ := (rng (by omega)).mp a
    have hG := hW.2.2.2.2.2.2.2.1 g (by omega)
    refine ⟨by rw [nI_add]; exact vp_in_nI (by omega) (by decide), fun _ => tX11_outing_41 Z, fun b => ?_⟩
    rw [nI_add, rdM hM1 (by omega)] at b
    obtain ⟨k, hk, rfl⟩ := (rng (by omega)).mp b
    exact ⟨fun _ => tX11_outing_41 Z, fun c => absurd c (hn g k rfl rfl hg hk)⟩
  unfold QP
  refine tX10_outing_0 ⟨fun z => ?_, fun z => ?_, fun z => ?_⟩
  · rw [hC.2.1] at z
    obtain ⟨g, hg, rfl⟩ := (rng (by omega)).mp z
    exact vp_in_nI (by omega) (by decide)
  · refine N (fun g k e1 e2 hg hk => absurd ?_ z)
    have hG := hW.2.2.2.2.2.2.2.1 g (by omega)
    rw [e1, e2, hC.2.1]
    refine ⟨(rng (by omega)).mpr ⟨g, hg, rfl⟩, ?_⟩
    rw [rd_N (by omega), hP.1 g (by omega)]
    exact (rng (by omega)).mpr ⟨k, hk, rfl⟩
  · obtain ⟨z, zk⟩ := z
    rw [hC.2.1] at z
    obtain ⟨g, hg, rfl⟩ := (rng (by omega)).mp z
    have hG := hW.2.2.2.2.2.2.2.1 g (by omega)
    rw [rd_N (by omega), hP.1 g (by omega)] at zk
    obtain ⟨k, hk, rfl⟩ := (rng (by omega)).mp zk
    refine ⟨fun z2 => ?_, fun z2 => ?_⟩
    · obtain ⟨x, hx, hx2, rfl⟩ := (rng2 (by omega) (by omega)).mp z2
      have tI : (nI x).toInt = (x : Int) := nI_toInt (by omega)
      have b := hW.2.2.2.2.2.2.2.2.1 (3 * g + k) (by omega)
      have vv := hV.2.2.1 g k (by omega) hk
      have p := hP.2.1 g k (by omega) hk
      have m3 : thr r g k ≤ 120 := b.2
      have m4 : who r g k ≤ 7 := b.1
      have Y : ∀ (w1 : Wd) (v : Int32), Off S27 w w1 → ((x = 0 → v = nI (who r g k)) ∧ (x = 1 → v = nI (thr r g k)) ∧ (x = 2 → v = nI (worthN r (who r g k) g (thr r g k))) ∧ (x = 3 → v = nI (riskN r (who r g k) (thr r g k))) ∧ (x = 4 → isB v (allowT r (load r (who r g k)) (who r g k) g (thr r g k)))) → RR (tl (fun v w1 => fX11_outing [.ref 41, .int (nI g), .int (nI k), .int (nI x)] w1 (fun u w2 => QK w v u w2)) lX10_outing) 32 [.ref 0, .int (nI g), .int (nI k), .int (nI x)] [.int v, .ref 0] w1 := by
        intro w1 v ho ⟨v0, v1, v2, v3, v4⟩
        have hc : CF w (upI (upI w1 0 10 (nI 0)) 0 12 (-1)) (nI 0) := CF_a (off27 ho)
        have hM1 := RM_cf hM hc
        have hM2 : RM (rfs (upI (upI w1 0 10 (nI 0)) 0 12 (-1)) (nI 0)) r := RM_rfs hM1
        have e1 : nI 186 + (nI 3 * nI g + nI k) = nI (186 + (3 * g + k)) := by rw [pk_mul, nI_add, nI_add]
        have e2 : nI 126 + (nI 3 * nI g + nI k) = nI (126 + (3 * g + k)) := by rw [pk_mul, nI_add, nI_add]
        have r1 : rd (rfs (upI (upI w1 0 10 (nI 0)) 0 12 (-1)) (nI 0)) 43 (nI (186 + (3 * g + k))) = nI (thr r g k) := rdM hM2 (by omega)
        have r2 : rd (rfs (upI (upI w1 0 10 (nI 0)) 0 12 (-1)) (nI 0)) 43 (nI (126 + (3 * g + k))) = nI (who r g k) := rdM hM2 (by omega)
        refine tX10_outing_32 (tX11_outing_0 ⟨fun q => absurd (by rw [rdM hM1 (by omega)]; exact z) q, fun _ => ⟨by rw [nI_add]; exact vp_in_nI (by omega) (by decide), fun q => absurd (by rw [nI_add, rdM hM1 (by omega)]; exact zk) q, fun _ => ⟨fun q => absurd z2 q, fun _ => tX11_outing_42 ⟨fun _ => ?_, fun q => absurd un_1 q⟩⟩⟩⟩)
        rw [un_1, e1, e2, r1, r2]
        refine ⟨vp_in_nI (by omega) (by decide), vp_in_nI (by omega) (by decide), fun q => ?_, fun q => ?_, fun q => ?_, fun q => ?_, fun q => ?_⟩
        all_goals rw [tI] at q
        · have hv := v4 (by omega)
          refine g_isAllowedAt hM2 hW hV.1 (by omega) (by omega) (fun w2 u ho2 hu => tX11_outing_131 ⟨fun q => ?_, fun q => ?_⟩)
          · have n1 := hu.f q
            rw [allow_iff hW hV.1 hg (TD_day hV.1 _ g)] at n1
            rcases hv with ⟨ev, pv⟩ | ⟨ev, pv⟩
            · exact absurd pv n1
            · rw [ev]; exact fin hc (GF_a (GO_47 ho2))
          · have n1 := hu.t q
            rw [allow_iff hW hV.1 hg (TD_day hV.1 _ g)] at n1
            rcases hv with ⟨ev, pv⟩ | ⟨ev, pv⟩
            · rw [ev]; exact fin hc (GF_a (GO_47 ho2))
            · exact absurd n1 pv
        · rw [v0 (by omega)]; exact fin hc GF_r
        · rw [v1 (by omega)]; exact fin hc GF_r
        · rw [v2 (by omega)]; exact g_worthOf hM2 hW (by omega) (by omega) (by omega) (tX11_outing_115 (fin hc GF_r))
        · rw [v3 (by omega)]; exact g_riskOf hM2 hW (by omega) (by omega) (tX11_outing_124 (fin hc GF_r))
      have e3 : nI g * nI 3 + nI k = nI (g * 3 + k) := by rw [pk_mul, nI_add]
      refine tX10_tellOuting_0 ⟨fun q => ?_, fun q => ⟨?_, ?_⟩, fun q => ⟨?_, ?_⟩, fun q => ?_, fun q => ?_⟩
      all_goals rw [tI] at q
      · refine c_allowsAt hC hP hW hV hg hk (fun w1 v ho hv => tX10_tellOuting_81 ⟨fun q => ?_, fun q => ?_⟩)
        · exact Y w1 _ ho ⟨fun e => by omega, fun e => by omega, fun e => by omega, fun e => by omega, fun e => Or.inr ⟨rfl, hv.f q⟩⟩
        · exact Y w1 _ ho ⟨fun e => by omega, fun e => by omega, fun e => by omega, fun e => by omega, fun e => Or.inl ⟨rfl, hv.t q⟩⟩
      · rw [e3]; exact vp_in_nI (by omega) (by decide)
      · rw [e3, rd_N (by omega), p.1]; exact Y w _ Off.rf ⟨fun e => rfl, fun e => by omega, fun e => by omega, fun e => by omega, fun e => by omega⟩
      · rw [e3]; exact vp_in_nI (by omega) (by decide)
      · rw [e3, rd_N (by omega), p.2]; exact Y w _ Off.rf ⟨fun e => by omega, fun e => rfl, fun e => by omega, fun e => by omega, fun e => by omega⟩
      · exact c_valueAt hC hP hW hV hg hk (tX10_tellOuting_61 (Y w _ Off.rf ⟨fun e => by omega, fun e => by omega, fun e => rfl, fun e => by omega, fun e => by omega⟩))
      · exact c_riskAt hC hP hW hV hg hk (tX10_tellOuting_71 (Y w _ Off.rf ⟨fun e => by omega, fun e => by omega, fun e => by omega, fun e => rfl, fun e => by omega⟩))
    · exact N (fun _ _ _ _ _ _ => z2)
end Q2
