theorem CP_same {w : Wd} {r r1 : Nat → Nat} (hW : WFr r) (h : CP w r) (e : ∀ j, 106 ≤ j → j < 246 → r1 j = r j) : CP w r1 := by
  have h3a : ∀ h, h < 20 → r (106 + h) ≤ 3 := fun h hh => (hW.2.2.2.2.2.2.2.1 h hh).2.2.2
  have ef : ∀ h, h < 20 → r1 (106 + h) = r (106 + h) := fun h hh => e _ (by omega) (by omega)
  have ew : ∀ h j, h < 20 → j < 3 → who r1 h j = who r h j ∧ thr r1 h j = thr r h j := fun h j hh hj => ⟨e _ (by omega) (by omega), e _ (by omega) (by omega)⟩
  refine ⟨fun g hg => by rw [ef g hg]; exact h.1 g hg, fun g k hg hk => ?_, fun t g ht hg => ?_⟩
  · rw [ef g hg] at hk
    have := h3a g hg
    rw [(ew g k hg (by omega)).1, (ew g k hg (by omega)).2]
    exact h.2.1 g k hg hk
  · have := h3a g hg
    have el : load r1 t g = load r t g := by
      unfold load
      rw [ef g hg]
      refine sumN_congr _ (fun k hk => ?_)
      show (if who r1 g k = t then thr r1 g k else 0) = (if who r g k = t then thr r g k else 0)
      rw [(ew g k hg (by omega)).1, (ew g k hg (by omega)).2]
    rw [el]
    exact h.2.2 t g ht hg
section RESTS2
variable {w : Wd} {r : Nat → Nat}
theorem p_rests (hR : RH w r) {x1 x2 : Int32} : AP w r fX10_rests fX11_rests [.ref 0, .int x1, .int x2] [.ref 41, .int x1, .int x2] := by
  have hRR := hR
  obtain ⟨hRA, N, A, H, h3, h4, hw, hm, hv⟩ := hR
  have hRA0 := hRA
  obtain ⟨hM, hC, hP, hW, hV, h6, h7, h8⟩ := hRA
  have h1 := hW.2.2.1
  have h2 := hW.2.2.2.1
  have N1 : ¬ (nI 0 ≤ x1 ∧ x1 ≤ nI (r 2) - nI 1) → fX11_rests [.ref 41, .int x1, .int x2] (upI (upI w 0 10 (nI 1)) 0 12 (-1)) (fun u w2 => AK w r (some (.int (-1))) u w2) := by
    intro z
    have hM1 : RM (upI (upI w 0 10 (nI 1)) 0 12 (-1)) r := RM_cf hM CF_r
    refine tX11_rests_0 ⟨fun q => absurd q ?_, fun _ => ?_⟩
    · rw [rdM hM1 (by omega), bI_f z, un2_0]; decide
    · rw [rdM hM1 (by omega), bI_f z, un2_0]; exact AK_of hRR (fin CF_r GF_r)
  unfold AP
  refine tX10_rests_0 ⟨fun z => ?_, fun z => ⟨fun z1 => ⟨fun z2 => ?_, fun z2 => ?_⟩, fun z1 => ?_⟩⟩
  · rw [g0_N hC hW] at z
    refine N1 (fun q => ?_)
    have e := h7 (by omega)
    obtain ⟨i, hi, -⟩ := (rng (by omega)).mp q
    omega
  · rw [hC.2.2.1] at z1
    obtain ⟨i, hi, rfl⟩ := (rng (by omega)).mp z1
    obtain ⟨v, hv1, hv2, rfl⟩ := (rng2 (by omega) (by omega)).mp z2
    refine c_keep hC hP hW hm.1 hm.2.1 h3 h4 (fun w1 o1 k3 k4 ks km => tX10_rests_53 ⟨vp_in_nI (by omega) (by decide), ?_⟩)
    have hC1 := hC.off o1 (fun c a b q => by omega)
    have hP1 := hP.off o1 (fun c a b q => by omega)
    rw [rd_N (by omega), (hC1.2.2.2.2.2.2 i hi).2, wr_N (by omega)]
    have o2 : Off (fun c => 15 ≤ c ∧ c ≤ 38) w1 (upI w1 20 i (nI v)) := Off.up (by omega)
    have hP2 : CP (upI w1 20 i (nI v)) (upR r (251 + i) v) := by
      have oo : Off (fun c => c = 20) w1 (upI w1 20 i (nI v)) := Off.up rfl
      exact CP_same hW (hP1.off oo (fun c a b q => by omega)) (fun j a b => upR_n (by omega))
    have hC2 : CT (upI w1 20 i (nI v)) (upR r (251 + i) v) := by
      have e : ∀ j, j < 251 → upR r (251 + i) v j = r j := fun j hj => upR_n (by omega)
      have h0 := hW.2.1
      obtain ⟨a, b, c, d, f, g, k⟩ := hC1
      refine ⟨?_, ?_, ?_, fun t ht => ?_, fun u hu => ?_, ?_, fun j hj => ?_⟩
      · rw [upI1, if_neg (fun z => absurd z.1 (by decide)), e 0 (by omega)]; exact a
      · rw [upI1, if_neg (fun z => absurd z.1 (by decide)), e 1 (by omega)]; exact b
      · rw [upI1, if_neg (fun z => absurd z.1 (by decide)), e 2 (by omega)]; exact c
      · rw [e 0 (by omega)] at ht
        rw [e _ (by omega), e _ (by omega), e _ (by omega), e _ (by omega), e _ (by omega)]
        simp only [upI1]
        rw [if_neg (fun z => absurd z.1 (by decide)), if_neg (fun z => absurd z.1 (by decide)), if_neg (fun z => absurd z.1 (by decide)), if_neg (fun z => absurd z.1 (by decide)), if_neg (fun z => absurd z.1 (by decide))]
        exact d t ht
      · rw [e 1 (by omega)] at hu
        rw [e _ (by omega), e _ (by omega), e _ (by omega)]
        simp only [upI1]
        rw [if_neg (fun z => absurd z.1 (by decide)), if_neg (fun z => absurd z.1 (by decide)), if_neg (fun z => absurd z.1 (by decide))]
        exact f u hu
      · rw [e 3 (by omega), e 4 (by omega), e 5 (by omega)]
        simp only [upI1]
        rw [if_neg (fun z => absurd z.1 (by decide)), if_neg (fun z => absurd z.1 (by decide)), if_neg (fun z => absurd z.1 (by decide))]
        exact g
      · rw [e 2 (by omega)] at hj
        rw [e _ (by omega)]
        refine ⟨?_, ?_⟩
        · rw [upI1, if_neg (fun z => absurd z.1 (by decide))]; exact (k j hj).1
        · rw [upI1]
          by_cases q : j = i
          · rw [if_pos ⟨rfl, q⟩, q, upR_e]
          · rw [if_neg (fun z => q z.2), upR_n (by omega)]; exact (k j hj).2
    have hca := CA_mk hW hm.1 hm.2.1 h3 h4 o1 k3 k4 ks km o2 hC2 hP2
    have hMc := RM_ca hca hM
    have hwc := HW_ca hca hw
    generalize upI (upI (upI w1 20 i (nI v)) 0 10 (nI 0)) 0 12 (-1) = wc at hca hMc hwc ⊢
    refine tX11_rests_0 ⟨fun _ => ?_, fun q => absurd ?_ q⟩
    · rw [rdM hMc (by omega), bI_t z1, bI_t z2, un2_11]
      refine g_remembers (RM_rfs hMc) (HW_rfs hwc) (fun w2 og kg hg => tX11_rests_36 ⟨by rw [nI_add]; exact vp_in_nI (by omega) (by decide), ?_⟩)
      have hM2 : RM w2 r := (RM_rfs hMc).off og (by decide)
      rw [nI_add, rdM hM2 (by omega), wr_N (by omega)]
      exact act_fin hRA0 h3 h4 hw hm hv hca (GA_mk og kg hg (Off.up (Or.inl rfl)) (RM_set hM2 (251 + i) v)) (WFr_251 hW (by omega) hv2) (VP_same hW hV (fun j hj => upR_n (by omega)) (fun t ht => by rw [upR_n (by have := hW.2.1; omega)]; exact hV.2.2.2.2.2.1 t ht)) (FX_251 (by omega))
    · rw [rdM hMc (by omega), bI_t z1, bI_t z2, un2_11]; rfl
  · rw [hC.2.2.1] at z1
    have hM1 : RM (upI (upI w 0 10 (nI 2)) 0 12 (-1)) r := RM_cf hM CF_r
    refine tX11_rests_0 ⟨fun q => absurd q ?_, fun _ => ?_⟩
    · rw [rdM hM1 (by omega), bI_t z1, bI_f z2, un2_10]; decide
    · rw [rdM hM1 (by omega), bI_t z1, bI_f z2, un2_10]; exact AK_of hRR (fin CF_r GF_r)
  · rw [hC.2.2.1] at z1
    exact N1 z1
end RESTS2
