/-! rule() -/
def loB (i : Nat) : Nat := if i = 2 then 1 else 0
def hiB (i : Nat) : Nat := if i = 0 then 500 else if i = 1 then 9 else 60
theorem ro_lo : ∀ i, i < 3 → ro 104 (nI i) = nI (loB i) := by decide
theorem ro_hi : ∀ i, i < 3 → ro 105 (nI i) = nI (hiB i) := by decide
theorem hiB_le (i : Nat) : hiB i ≤ 500 := by
  unfold hiB
  split
  · omega
  · split <;> omega
theorem WFr_3 {r : Nat → Nat} (hW : WFr r) {i v : Nat} (hi : i < 3) (hv : v ≤ hiB i) : WFr (upR r (3 + i) v) := by
  obtain ⟨a, b, c, d, f, k, l, m, n, o⟩ := hW
  have hl := hiB_le i
  have e : ∀ j, j < 3 ∨ 6 ≤ j → upR r (3 + i) v j = r j := fun j hj => upR_n (by omega)
  refine ⟨fun j => ?_, ?_, ?_, ?_, ?_, ?_, fun u hu => ?_, fun h hh => ?_, fun j hj => ?_, fun i2 hi2 => ?_⟩
  · have := a j
    unfold upR
    split
    · omega
    · exact this
  · rw [e 0 (by omega)]; exact b
  · rw [e 1 (by omega)]; exact c
  · rw [e 2 (by omega)]; exact d
  · by_cases q : i = 1
    · subst q
      rw [show (4 : Nat) = 3 + 1 from rfl, upR_e]; exact hv
    · rw [upR_n (by omega)]; exact f
  · by_cases q : i = 2
    · subst q
      rw [show (5 : Nat) = 3 + 2 from rfl, upR_e]; exact hv
    · rw [upR_n (by omega)]; exact k
  · rw [e _ (by omega), e _ (by omega), e _ (by omega), e _ (by omega), e _ (by omega)]; exact l u hu
  · rw [e _ (by omega), e _ (by omega), e _ (by omega), e _ (by omega)]; exact m h hh
  · rw [e _ (by omega), e _ (by omega)]; exact n j hj
  · rw [e _ (by omega), e _ (by omega)]; exact o i2 hi2
section RULE
variable {w : Wd} {r : Nat → Nat}
theorem g_rule0 {K : Kt} {x1 x2 : Int32} (h : ∀ y, (∀ i, i < 3 → x1 = nI i → y = bI (nI (loB i) ≤ x2 ∧ x2 ≤ nI (hiB i))) → (y = nI 0 ∨ y = nI 1) → RR (tl K lX11_rule) 37 [.ref 41, .int x1, .int x2, .null, .null] [.int y] w) : fX11_rule [.ref 41, .int x1, .int x2] w K := by
  refine tX11_rule_0 ⟨fun q => ⟨fun q1 => h _ (fun i hi e => ?_) (bI_01 _), fun q1 => h _ (fun i hi e => ?_) (bI_01 _)⟩, fun q => h _ (fun i hi e => ?_) (bI_01 _)⟩
  · have : i = 2 := by
      rw [e, eq0_N (by omega)] at q
      rw [e, eq_N (by omega) (by omega)] at q1
      omega
    subst this; rfl
  · have : i = 1 := by
      rw [e, eq_N (by omega) (by omega)] at q1
      omega
    subst this; rfl
  · have : i = 0 := by
      rw [e, eq0_N (by omega)] at q
      omega
    subst this; rfl
theorem p_rule (hR : RH w r) {x1 x2 : Int32} : AP w r fX10_rule fX11_rule [.ref 0, .int x1, .int x2] [.ref 41, .int x1, .int x2] := by
  have hRR := hR
  obtain ⟨hRA, N, A, H, h3, h4, hw, hm, hv⟩ := hR
  have hRA0 := hRA
  obtain ⟨hM, hC, hP, hW, hV, h6, h7, h8⟩ := hRA
  have h1 := hW.2.2.1
  have h0 := hW.2.1
  have N1 : ¬ (0 < r 1 ∧ (nI 0 ≤ x1 ∧ x1 ≤ nI 2)) → fX11_rule [.ref 41, .int x1, .int x2] (upI (upI w 0 10 (nI 1)) 0 12 (-1)) (fun u w2 => AK w r (some (.int (-1))) u w2) := by
    intro hn
    have h6' := txr (w1 := upI (upI w 0 10 (nI 1)) 0 12 (-1)) CF_r h6
    refine g_rule0 (fun y _ _ => ?_)
    have Z : RR (tl (fun u w2 => AK w r (some (.int (-1))) u w2) lX11_rule) 60 [.ref 41, .int x1, .int x2, .int y, .null] [.int (nI 0), .ref 41] (upI (upI w 0 10 (nI 1)) 0 12 (-1)) := tX11_rule_60 ⟨fun q => absurd q (by rw [un2_0]; decide), fun _ => by rw [un2_0]; exact AK_of hRR (fin CF_r GF_r)⟩
    exact tX11_rule_37 ⟨fun _ => tX11_rule_59 Z, fun q => ⟨fun _ => tX11_rule_59 Z, fun q2 => absurd ⟨Classical.byContradiction (fun p => q (by rw [h6', bI_f p]; rfl)), q2⟩ hn⟩⟩
  unfold AP
  refine tX10_rule_0 ⟨fun z => ?_, fun z => ⟨fun z1 => ?_, fun z1 => N1 (fun q => z1 q.2)⟩⟩
  · rw [g0_N hC hW] at z; exact N1 (fun q => z q.1)
  rw [g0_N hC hW] at z
  obtain ⟨i, -, hi2, rfl⟩ := (rng2 (by omega) (by omega)).mp z1
  have hi : i < 3 := by omega
  rw [ro_lo i hi, ro_hi i hi]
  have hl := hiB_le i
  have lb : loB i ≤ 1 := by unfold loB; split <;> omega
  refine ⟨vp_in_nI (by omega) (by decide), fun z2 => ?_, fun z2 => ?_⟩
  · obtain ⟨v, hv1, hv2, rfl⟩ := (rng2 (by omega) (by omega)).mp z2
    refine c_keep hC hP hW hm.1 hm.2.1 h3 h4 (fun w1 o1 k3 k4 ks km => tX10_rule_52 ⟨vp_in_nI (by omega) (by decide), ?_⟩)
    have hC1 := hC.off o1 (fun c a b q => by omega)
    have hP1 := hP.off o1 (fun c a b q => by omega)
    have e18 : w1.1 18 i = nI (r (3 + i)) := by
      have : i = 0 ∨ i = 1 ∨ i = 2 := by omega
      rcases this with rfl | rfl | rfl
      · exact hC1.2.2.2.2.2.1.1
      · exact hC1.2.2.2.2.2.1.2.1
      · exact hC1.2.2.2.2.2.1.2.2
    rw [rd_N (by omega), e18, wr_N (by omega)]
    have o2 : Off (fun c => 15 ≤ c ∧ c ≤ 38) w1 (upI w1 18 i (nI v)) := Off.up (by omega)
    have hP2 : CP (upI w1 18 i (nI v)) (upR r (3 + i) v) := by
      have oo : Off (fun c => c = 18) w1 (upI w1 18 i (nI v)) := Off.up rfl
      exact CP_same hW (hP1.off oo (fun c a b q => by omega)) (fun j a b => upR_n (by omega))
    have hC2 : CT (upI w1 18 i (nI v)) (upR r (3 + i) v) := by
      have e : ∀ j, j < 3 ∨ 6 ≤ j → upR r (3 + i) v j = r j := fun j hj => upR_n (by omega)
      obtain ⟨a, b, c, d, f, g, k⟩ := hC1
      have e3 : ∀ j, j < 3 → (upI w1 18 i (nI v)).1 18 j = nI (upR r (3 + i) v (3 + j)) := by
        intro j hj
        rw [upI1]
        by_cases q : j = i
        · rw [if_pos ⟨rfl, q⟩, q, upR_e]
        · rw [if_neg (fun z => q z.2), upR_n (by omega)]
          have : j = 0 ∨ j = 1 ∨ j = 2 := by omega
          rcases this with rfl | rfl | rfl
          · exact g.1
          · exact g.2.1
          · exact g.2.2
      refine ⟨?_, ?_, ?_, fun t ht => ?_, fun u hu => ?_, ⟨e3 0 (by omega), e3 1 (by omega), e3 2 (by omega)⟩, fun j hj => ?_⟩
      · rw [upI1, if_neg (fun z => absurd z.1 (by decide)), e 0 (by omega)]; exact a
      · rw [upI1, if_neg (fun z => absurd z.1 (by decide)), e 1 (by omega)]; exact b
      · rw [upI1, if_neg (fun z => absurd z.1 (by decide)), e 2 (by omega)]; exact c
      · rw [e 0 (by omega)] at ht
        rw [e _ (by omega), e _ (by omega), e _ (by omega), e _ (by omega), e _ (by omega)]
        simp only [upI1]
        rw [if_neg (fun z => absurd z.1 (by decide)), if_neg (fun z => absurd z.1 (by decide)), if_neg (fun z => absurd z.1 (by decide)), if_neg (fun z => absurd z.1 (by decide)), if_neg (fun z => absurd z.1 (by decide))]
        exact d t ht
      · rw [e 1 (by omega)] at hu
        rw [e _ (by omega), e _ (by omega), e _ (by omega)]
        simp only [upI1]
        rw [if_neg (fun z => absurd z.1 (by decide)), if_neg (fun z => absurd z.1 (by decide)), if_neg (fun z => absurd z.1 (by decide))]
        exact f u hu
      · rw [e 2 (by omega)] at hj
        rw [e _ (by omega), e _ (by omega)]
        refine ⟨?_, ?_⟩
        · rw [upI1, if_neg (fun z => absurd z.1 (by decide))]; exact (k j hj).1
        · rw [upI1, if_neg (fun z => absurd z.1 (by decide))]; exact (k j hj).2
    have hca := CA_mk hW hm.1 hm.2.1 h3 h4 o1 k3 k4 ks km o2 hC2 hP2
    have hMc := RM_ca hca hM
    have hwc := HW_ca hca hw
    have h6c : (upI (upI (upI w1 18 i (nI v)) 0 10 (nI 0)) 0 12 (-1)).1 41 6 = bI (0 < r 1) := by rw [(hca.1 41 (by omega)).1]; exact h6
    generalize upI (upI (upI w1 18 i (nI v)) 0 10 (nI 0)) 0 12 (-1) = wc at hca hMc hwc h6c ⊢
    refine g_rule0 (fun y hy _ => ?_)
    have hy2 : y = nI 1 := by rw [hy i hi rfl, bI_t z2]
    refine tX11_rule_37 ⟨fun q => by rw [h6c, bI_t z] at q; exact absurd q (by decide), fun _ => ⟨fun q => absurd z1 q, fun _ => tX11_rule_60 ⟨fun _ => ?_, fun q => absurd (by rw [hy2]; exact un2_11) q⟩⟩⟩
    rw [hy2, un2_11]
    refine g_remembers (RM_rfs hMc) (HW_rfs hwc) (fun w2 og kg hg => tX11_rule_76 ⟨by rw [nI_add]; exact vp_in_nI (by omega) (by decide), ?_⟩)
    have hM2 : RM w2 r := (RM_rfs hMc).off og (by decide)
    rw [nI_add, rdM hM2 (by omega), wr_N (by omega)]
    exact act_fin hRA0 h3 h4 hw hm hv hca (GA_mk og kg hg (Off.up (Or.inl rfl)) (RM_set hM2 (3 + i) v)) (WFr_3 hW hi hv2) (VP_same hW hV (fun j hj => upR_n (by omega)) (fun t ht => by rw [upR_n (by omega)]; exact hV.2.2.2.2.2.1 t ht)) (fun j hj => upR_n (by unfold FX at hj; omega))
  · have h6' := txr (w1 := upI (upI w 0 10 (nI 2)) 0 12 (-1)) CF_r h6
    refine g_rule0 (fun y hy _ => ?_)
    have hy2 : y = nI 0 := by rw [hy i hi rfl, bI_f z2]
    refine tX11_rule_37 ⟨fun q => by rw [h6', bI_t z] at q; exact absurd q (by decide), fun _ => ⟨fun q => absurd z1 q, fun _ => tX11_rule_60 ⟨fun q => absurd q (by rw [hy2, un2_10]; decide), fun _ => by rw [hy2, un2_10]; exact AK_of hRR (fin CF_r GF_r)⟩⟩⟩
end RULE
