theorem WFr_chg {r : Nat → Nat} (hW : WFr r) {g k t x : Nat} (hg : g < 20) (hk : k < 3) (ht : t < 8) (hx : x ≤ 120) : WFr (chgR r g k t x) := by
  have e := fun j (hj : j < 126 ∨ 246 ≤ j) => chgR_o (r := r) (t := t) (x := x) hg hk hj
  obtain ⟨a, b, c, d, f, m1, l, m, n, o⟩ := hW
  refine ⟨fun j => ?_, ?_, ?_, ?_, ?_, ?_, fun u hu => ?_, fun h hh => ?_, fun j hj => ?_, fun i hi => ?_⟩
  · unfold chgR upR
    have := a j
    split
    · omega
    · split
      · omega
      · exact this
  · rw [e 0 (by omega)]; exact b
  · rw [e 1 (by omega)]; exact c
  · rw [e 2 (by omega)]; exact d
  · rw [e 4 (by omega)]; exact f
  · rw [e 5 (by omega)]; exact m1
  · rw [e _ (by omega), e _ (by omega), e _ (by omega), e _ (by omega), e _ (by omega)]; exact l u hu
  · rw [e _ (by omega), e _ (by omega), e _ (by omega), e _ (by omega)]; exact m h hh
  · have q := n j hj
    have hw := chgR_w (r := r) (t := t) (x := x) hg hk (j / 3) (j % 3) (by omega) (by omega)
    unfold who thr at hw
    rw [show 126 + (3 * (j / 3) + j % 3) = 126 + j by omega, show 186 + (3 * (j / 3) + j % 3) = 186 + j by omega] at hw
    rw [hw.1, hw.2]
    constructor
    · split
      · omega
      · exact q.1
    · split
      · omega
      · exact q.2
  · rw [e _ (by omega), e _ (by omega)]; exact o i hi
theorem VP_chg {r : Nat → Nat} (hW : WFr r) (hV : VP r) {g k t x : Nat} (hg : g < r 1) (hk : k < r (106 + g)) (ht : t < r 0) (hx : 1 ≤ x) (hn : ∀ j, j < r (106 + g) → j ≠ k → who r g j ≠ t) (hs : sumN (thr (chgR r g k t x) g) (r (106 + g)) ≤ r (86 + g)) : VP (chgR r g k t x) := by
  have h1 := hW.2.2.1
  have h3a : ∀ h, h < 20 → r (106 + h) ≤ 3 := fun h hh => (hW.2.2.2.2.2.2.2.1 h hh).2.2.2
  have a3 := h3a g (by omega)
  have e := fun j (hj : j < 126 ∨ 246 ≤ j) => chgR_o (r := r) (g := g) (k := k) (t := t) (x := x) (by omega) (by omega) hj
  have wh := chgR_w (r := r) (g := g) (k := k) (t := t) (x := x) (by omega) (by omega)
  obtain ⟨a, b, c, d, f, k1, l⟩ := hV
  refine ⟨fun u v huv hv => ?_, fun h hh1 hh2 => ?_, fun h j hh hj => ?_, fun h i j hh hij hj => ?_, fun h hh => ?_, fun u hu => ?_, fun h hh => ?_⟩
  · rw [e 1 (by omega)] at hv
    rw [e _ (by omega), e _ (by omega)]; exact a u v huv hv
  · rw [e 1 (by omega)] at hh1
    rw [e _ (by omega)]; exact b h hh1 hh2
  · rw [e _ (by omega)] at hj
    have := h3a h hh
    obtain ⟨w1, w2⟩ := wh h j hh (by omega)
    rw [w1, w2, e 0 (by omega)]
    by_cases q : h = g ∧ j = k
    · rw [if_pos q, if_pos q]; exact ⟨ht, hx⟩
    · rw [if_neg q, if_neg q]; exact c h j hh hj
  · rw [e _ (by omega)] at hj
    have := h3a h hh
    rw [(wh h i hh (by omega)).1, (wh h j hh (by omega)).1]
    by_cases q : h = g ∧ i = k
    · rw [if_pos q, if_neg (fun (z : h = g ∧ j = k) => by omega), q.1]
      rw [q.1] at hj
      exact fun z => hn j hj (by omega) z.symm
    · rw [if_neg q]
      by_cases p : h = g ∧ j = k
      · rw [if_pos p, p.1]
        exact hn i (by omega) (by omega)
      · rw [if_neg p]; exact d h i j hh hij hj
  · rw [e _ (by omega), e _ (by omega)]
    have := h3a h hh
    by_cases q : h = g
    · rw [q]; exact hs
    · rw [sumN_congr (f := thr (chgR r g k t x) h) (g := thr r h) _ (fun j hj => by rw [(wh h j hh (by omega)).2, if_neg (fun z => q z.1)])]
      exact f h hh
  · rw [e 0 (by omega)] at hu
    have := hW.2.1
    rw [e _ (by omega)]; exact k1 u hu
  · rw [e 1 (by omega)] at hh
    rw [e _ (by omega)]; exact l h hh
