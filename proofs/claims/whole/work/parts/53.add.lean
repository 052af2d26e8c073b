/-! an outing more, on both sides -/
theorem CT_same {w : Wd} {r r1 : Nat → Nat} (h : CT w r) (hr : ∀ j, j < 106 ∨ 246 ≤ j → r1 j = r j) (hW : WFr r) : CT w r1 := by
  obtain ⟨a, b, c, d, e, f, g⟩ := h
  have h0 := hW.2.1
  have h1 := hW.2.2.1
  refine ⟨?_, ?_, ?_, fun t ht => ?_, fun g hg => ?_, ?_, fun i hi => ?_⟩
  · rw [hr 0 (by omega)]; exact a
  · rw [hr 1 (by omega)]; exact b
  · rw [hr 2 (by omega)]; exact c
  · rw [hr 0 (by omega)] at ht
    rw [hr (6 + t) (by omega), hr (14 + t) (by omega), hr (22 + t) (by omega), hr (30 + t) (by omega), hr (38 + t) (by omega)]
    exact d t ht
  · rw [hr 1 (by omega)] at hg
    rw [hr (46 + g) (by omega), hr (66 + g) (by omega), hr (86 + g) (by omega)]
    exact e g hg
  · rw [hr 3 (by omega), hr 4 (by omega), hr 5 (by omega)]; exact f
  · rw [hr 2 (by omega)] at hi
    rw [hr (246 + i) (by omega), hr (251 + i) (by omega)]
    exact g i hi
def SP (c : Nat) : Prop := 22 ≤ c ∧ c ≤ 25
section ADD2
variable {w : Wd} {r : Nat → Nat} {K : Kt}
theorem c_add (hC : CT w r) (hP : CP w r) (hW : WFr r) {g t x : Nat} (hg : g < 20) (ht : t < 8) (h3 : r (106 + g) ≤ 2) (hl : load r t g = 0) (h : ∀ w1, Off SP w w1 → CT w1 (addR r g t x) → CP w1 (addR r g t x) → K none w1) : fX5_add [.ref 21, .int (nI g), .int (nI t), .int (nI x)] w K := by
  have h3a : ∀ h, h < 20 → r (106 + h) ≤ 3 := fun h hh => (hW.2.2.2.2.2.2.2.1 h hh).2.2.2
  have f0 : rd w 22 (nI g) = nI (r (106 + g)) := by rw [rd_N (by omega)]; exact hP.1 g hg
  refine tX5_add_0 ⟨vp_in_nI hg (by decide), fun q => absurd q ?_, fun _ => ?_⟩
  · rw [f0, le_N (by omega) (by omega)]; omega
  rw [f0]
  have e1 : nI g * nI 3 + nI (r (106 + g)) = nI (g * 3 + r (106 + g)) := by rw [pk_mul, nI_add]
  have e2 : nI t * nI 20 + nI g = nI (t * 20 + g) := by rw [pk_mul, nI_add]
  rw [e1, e2]
  refine ⟨vp_in_nI (by omega) (by decide), vp_in_nI (by omega) (by decide), ?_⟩
  rw [wr_N (show g * 3 + r (106 + g) < 2147483648 by omega), wr_N (show g * 3 + r (106 + g) < 2147483648 by omega), wr_N (show t * 20 + g < 2147483648 by omega)]
  have f1 : rd (upI (upI (upI w 23 (g * 3 + r (106 + g)) (nI t)) 24 (g * 3 + r (106 + g)) (nI x)) 25 (t * 20 + g) (nI x)) 22 (nI g) = nI (r (106 + g)) := by
    rw [rd_N (by omega), upI1, if_neg (fun z => absurd z.1 (by decide)), upI1, if_neg (fun z => absurd z.1 (by decide)), upI1, if_neg (fun z => absurd z.1 (by decide))]
    exact hP.1 g hg
  rw [f1, nI_add, wr_N (by omega)]
  have s22 : SP 22 := by unfold SP; omega
  have s23 : SP 23 := by unfold SP; omega
  have s24 : SP 24 := by unfold SP; omega
  have s25 : SP 25 := by unfold SP; omega
  have o1 : Off SP w (upI w 23 (g * 3 + r (106 + g)) (nI t)) := Off.up s23
  have o2 : Off SP (upI w 23 (g * 3 + r (106 + g)) (nI t)) (upI (upI w 23 (g * 3 + r (106 + g)) (nI t)) 24 (g * 3 + r (106 + g)) (nI x)) := Off.up s24
  have o3 : Off SP (upI (upI w 23 (g * 3 + r (106 + g)) (nI t)) 24 (g * 3 + r (106 + g)) (nI x)) (upI (upI (upI w 23 (g * 3 + r (106 + g)) (nI t)) 24 (g * 3 + r (106 + g)) (nI x)) 25 (t * 20 + g) (nI x)) := Off.up s25
  have oo : Off SP w (upI (upI (upI (upI w 23 (g * 3 + r (106 + g)) (nI t)) 24 (g * 3 + r (106 + g)) (nI x)) 25 (t * 20 + g) (nI x)) 22 g (nI (r (106 + g) + 1))) := ((o1.tr o2).tr o3).tr (Off.up s22)
  refine h _ oo (CT_same (hC.off oo (fun c a b q => by unfold SP at q; omega)) (fun j hj => addR_o hg h3 hj) hW) ⟨fun h hh => ?_, fun h k hh hk => ?_, fun u h hu hh => ?_⟩
  · rw [addR_f hg h3 h hh, upI1]
    by_cases q : h = g
    · rw [if_pos ⟨rfl, q⟩, if_pos q]
    · rw [if_neg (fun z => q z.2), if_neg q, upI1, if_neg (fun z => absurd z.1 (by decide)), upI1, if_neg (fun z => absurd z.1 (by decide)), upI1, if_neg (fun z => absurd z.1 (by decide))]
      exact hP.1 h hh
  · rw [addR_f hg h3 h hh] at hk
    have k3 : k < 3 := by
      have := h3a h hh
      by_cases q : h = g
      · rw [if_pos q] at hk; omega
      · rw [if_neg q] at hk; omega
    obtain ⟨e3, e4⟩ := addR_w (t := t) (x := x) hg h3 h k hh k3
    rw [e3, e4]
    constructor
    · rw [upI1, if_neg (fun z => absurd z.1 (by decide)), upI1, if_neg (fun z => absurd z.1 (by decide)), upI1, if_neg (fun z => absurd z.1 (by decide)), upI1]
      by_cases q : h = g ∧ k = r (106 + g)
      · rw [if_pos q, if_pos ⟨rfl, by rw [q.1, q.2]⟩]
      · rw [if_neg q, if_neg (fun z => q (by have := z.2; have := h3a g hg; omega))]
        exact (hP.2.1 h k hh (by
          by_cases p : h = g
          · rw [if_pos p] at hk; rw [p]; omega
          · rw [if_neg p] at hk; exact hk)).1
    · rw [upI1, if_neg (fun z => absurd z.1 (by decide)), upI1, if_neg (fun z => absurd z.1 (by decide)), upI1]
      by_cases q : h = g ∧ k = r (106 + g)
      · rw [if_pos q, if_pos ⟨rfl, by rw [q.1, q.2]⟩]
      · rw [if_neg q, if_neg (fun z => q (by have := z.2; have := h3a g hg; omega)), upI1, if_neg (fun z => absurd z.1 (by decide))]
        exact (hP.2.1 h k hh (by
          by_cases p : h = g
          · rw [if_pos p] at hk; rw [p]; omega
          · rw [if_neg p] at hk; exact hk)).2
  · rw [addR_l hg h3 u h hh h3a, upI1, if_neg (fun z => absurd z.1 (by decide)), upI1]
    by_cases q : h = g ∧ u = t
    · rw [if_pos q, if_pos ⟨rfl, by rw [q.1, q.2]⟩, q.1, q.2, hl, Nat.zero_add]
    · rw [if_neg q, if_neg (fun z => q (by have := z.2; omega)), upI1, if_neg (fun z => absurd z.1 (by decide)), upI1, if_neg (fun z => absurd z.1 (by decide)), Nat.add_zero]
      exact hP.2.2 u h hu hh
theorem g_comes (hM : RM w r) {g t x : Nat} (hg : g < 20) (h3 : r (106 + g) ≤ 2) (h : ∀ w1, Off (· = 43) w w1 → RM w1 (addR r g t x) → K none w1) : fX11_comes [.ref 41, .int (nI g), .int (nI t), .int (nI x)] w K := by
  have f0 : rd w 43 (nI 106 + nI g) = nI (r (106 + g)) := by rw [nI_add, rdM hM (by omega)]
  have e1 : nI 126 + (nI 3 * nI g + nI (r (106 + g))) = nI (126 + (3 * g + r (106 + g))) := by rw [pk_mul, nI_add, nI_add]
  have e2 : nI 186 + (nI 3 * nI g + nI (r (106 + g))) = nI (186 + (3 * g + r (106 + g))) := by rw [pk_mul, nI_add, nI_add]
  refine tX11_comes_0 ⟨by rw [nI_add]; exact vp_in_nI (by omega) (by decide), ?_⟩
  rw [f0, e1, wr_N (show 126 + (3 * g + r (106 + g)) < 2147483648 by omega)]
  have m1 := RM_set hM (126 + (3 * g + r (106 + g))) t
  have f1 : rd (upI w 43 (126 + (3 * g + r (106 + g))) (nI t)) 43 (nI 106 + nI g) = nI (r (106 + g)) := by
    rw [nI_add, rdM m1 (by omega), upR_n (by omega)]
  rw [f1, e2, wr_N (show 186 + (3 * g + r (106 + g)) < 2147483648 by omega)]
  have m2 := RM_set m1 (186 + (3 * g + r (106 + g))) x
  have f2 : rd (upI (upI w 43 (126 + (3 * g + r (106 + g))) (nI t)) 43 (186 + (3 * g + r (106 + g))) (nI x)) 43 (nI 106 + nI g) = nI (r (106 + g)) := by
    rw [nI_add, rdM m2 (by omega), upR_n (by omega), upR_n (by omega)]
  rw [f2, nI_add (r (106 + g)) 1, nI_add 106 g, wr_N (by omega)]
  refine ⟨vp_in_nI (by omega) (by decide), vp_in_nI (by omega) (by decide), ?_⟩
  have o1 : Off (· = 43) w (upI w 43 (126 + (3 * g + r (106 + g))) (nI t)) := Off.up rfl
  have o2 : Off (· = 43) (upI w 43 (126 + (3 * g + r (106 + g))) (nI t)) (upI (upI w 43 (126 + (3 * g + r (106 + g))) (nI t)) 43 (186 + (3 * g + r (106 + g))) (nI x)) := Off.up rfl
  exact h _ ((o1.tr o2).tr (Off.up rfl)) (RM_set m2 (106 + g) (r (106 + g) + 1))
end ADD2
