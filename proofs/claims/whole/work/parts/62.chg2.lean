section CHG2
variable {w : Wd} {r : Nat → Nat} {K : Kt}
theorem c_change (hC : CT w r) (hP : CP w r) (hW : WFr r) (hV : VP r) {g k t x : Nat} (hg : g < 20) (hk : k < r (106 + g)) (ht : t < 8) (hn : ∀ j, j < r (106 + g) → j ≠ k → who r g j ≠ t) (h : ∀ w1, Off SP w w1 → CT w1 (chgR r g k t x) → CP w1 (chgR r g k t x) → K none w1) : fX5_change [.ref 21, .int (nI g), .int (nI k), .int (nI t), .int (nI x)] w K := by
  have h3a : ∀ h, h < 20 → r (106 + h) ≤ 3 := fun h hh => (hW.2.2.2.2.2.2.2.1 h hh).2.2.2
  have a3 := h3a g hg
  have b := hW.2.2.2.2.2.2.2.2.1 (3 * g + k) (by omega)
  have m4 : who r g k ≤ 7 := b.1
  have p := hP.2.1 g k hg hk
  have e1 : nI g * nI 3 + nI k = nI (g * 3 + k) := by rw [pk_mul, nI_add]
  have e2 : nI t * nI 20 + nI g = nI (t * 20 + g) := by rw [pk_mul, nI_add]
  have f0 : rd w 23 (nI (g * 3 + k)) = nI (who r g k) := by rw [rd_N (by omega)]; exact p.1
  have e3 : nI (who r g k) * nI 20 + nI g = nI (who r g k * 20 + g) := by rw [pk_mul, nI_add]
  refine tX5_change_0 ?_
  rw [e1, e2, f0, e3, wr_N (show who r g k * 20 + g < 2147483648 by omega), wr_N (show g * 3 + k < 2147483648 by omega), wr_N (show g * 3 + k < 2147483648 by omega), wr_N (show t * 20 + g < 2147483648 by omega)]
  refine ⟨vp_in_nI (by omega) (by decide), vp_in_nI (by omega) (by decide), vp_in_nI (by omega) (by decide), ?_⟩
  obtain ⟨wa, hwa⟩ : ∃ wa, wa = upI w 25 (who r g k * 20 + g) (nI 0) := ⟨_, rfl⟩
  rw [← hwa]
  have s23 : SP 23 := by unfold SP; omega
  have s24 : SP 24 := by unfold SP; omega
  have s25 : SP 25 := by unfold SP; omega
  have o0 : Off SP w wa := by rw [hwa]; exact Off.up s25
  have o1 : Off SP wa (upI wa 23 (g * 3 + k) (nI t)) := Off.up s23
  have o2 : Off SP (upI wa 23 (g * 3 + k) (nI t)) (upI (upI wa 23 (g * 3 + k) (nI t)) 24 (g * 3 + k) (nI x)) := Off.up s24
  have oo : Off SP w (upI (upI (upI wa 23 (g * 3 + k) (nI t)) 24 (g * 3 + k) (nI x)) 25 (t * 20 + g) (nI x)) := ((o0.tr o1).tr o2).tr (Off.up s25)
  have n25 : ∀ c j, c ≠ 25 → wa.1 c j = w.1 c j := fun c j hc => by rw [hwa, upI1, if_neg (fun z => hc z.1)]
  have lk := chgR_l (r := r) (g := g) (k := k) (t := t) (x := x) hg hk h3a (fun i j q1 q2 => hV.2.2.2.1 g i j hg q1 q2) hn
  refine h _ oo (CT_same (hC.off oo (fun c a b q => by unfold SP at q; omega)) (fun j hj => chgR_o hg (by omega) (by omega)) hW) ⟨fun h hh => ?_, fun h j hh hj => ?_, fun u h hu hh => ?_⟩
  · rw [chgR_o hg (by omega) (by omega), upI1, if_neg (fun z => absurd z.1 (by decide)), upI1, if_neg (fun z => absurd z.1 (by decide)), upI1, if_neg (fun z => absurd z.1 (by decide)), n25 22 h (by decide)]
    exact hP.1 h hh
  · rw [chgR_o hg (by omega) (by omega)] at hj
    have := h3a h hh
    obtain ⟨w1, w2⟩ := chgR_w (r := r) (t := t) (x := x) hg (show k < 3 by omega) h j hh (by omega)
    rw [w1, w2]
    constructor
    · rw [upI1, if_neg (fun z => absurd z.1 (by decide)), upI1, if_neg (fun z => absurd z.1 (by decide)), upI1]
      by_cases q : h = g ∧ j = k
      · rw [if_pos q, if_pos ⟨rfl, by rw [q.1, q.2]⟩]
      · rw [if_neg q, if_neg (fun z => q (by have := z.2; omega)), n25 23 _ (by decide)]
        exact (hP.2.1 h j hh hj).1
    · rw [upI1, if_neg (fun z => absurd z.1 (by decide)), upI1]
      by_cases q : h = g ∧ j = k
      · rw [if_pos q, if_pos ⟨rfl, by rw [q.1, q.2]⟩]
      · rw [if_neg q, if_neg (fun z => q (by have := z.2; omega)), upI1, if_neg (fun z => absurd z.1 (by decide)), n25 24 _ (by decide)]
        exact (hP.2.1 h j hh hj).2
  · rw [lk u h hh, upI1]
    by_cases q : h = g ∧ u = t
    · rw [if_pos q, if_pos ⟨rfl, by rw [q.1, q.2]⟩]
    · rw [if_neg q, if_neg (fun z => q (by have := z.2; omega)), upI1, if_neg (fun z => absurd z.1 (by decide)), upI1, if_neg (fun z => absurd z.1 (by decide)), hwa, upI1]
      by_cases s : h = g ∧ u = who r g k
      · rw [if_pos s, if_pos ⟨rfl, by rw [s.1, s.2]⟩]
      · rw [if_neg s, if_neg (fun z => s (by have := z.2; omega))]
        exact hP.2.2 u h hu hh
end CHG2
