/-! rows that can come: with one outing more -/
theorem WFr_add {r : Nat → Nat} (hW : WFr r) {g t x : Nat} (hg : g < 20) (ht : t < 8) (hx : x ≤ 120) (h3 : r (106 + g) ≤ 2) : WFr (addR r g t x) := by
  have e := fun j (hj : j < 106 ∨ 246 ≤ j) => addR_o (t := t) (x := x) hg h3 hj
  obtain ⟨a, b, c, d, f, k, l, m, n, o⟩ := hW
  refine ⟨fun j => ?_, ?_, ?_, ?_, ?_, ?_, fun u hu => ?_, fun h hh => ?_, fun j hj => ?_, fun i hi => ?_⟩
  · unfold addR upR
    have := a j
    split
    · omega
    · split
      · omega
      · split
        · omega
        · exact this
  · rw [e 0 (by omega)]; exact b
  · rw [e 1 (by omega)]; exact c
  · rw [e 2 (by omega)]; exact d
  · rw [e 4 (by omega)]; exact f
  · rw [e 5 (by omega)]; exact k
  · rw [e _ (by omega), e _ (by omega), e _ (by omega), e _ (by omega), e _ (by omega)]; exact l u hu
  · have q := m h hh
    rw [e _ (by omega), e _ (by omega), e _ (by omega), addR_f hg h3 h hh]
    refine ⟨q.1, q.2.1, q.2.2.1, ?_⟩
    split
    · omega
    · exact q.2.2.2
  · have q := n j hj
    have hw := addR_w (t := t) (x := x) hg h3 (j / 3) (j % 3) (by omega) (by omega)
    unfold who thr at hw
    rw [show 126 + (3 * (j / 3) + j % 3) = 126 + j by omega, show 186 + (3 * (j / 3) + j % 3) = 186 + j by omega] at hw
    rw [hw.1, hw.2]
    constructor
    · split
      · omega
      · exact q.1
    · split
      · omega
      · exact q.2
  · rw [e _ (by omega), e _ (by omega)]; exact o i hi
theorem VP_add {r : Nat → Nat} (hW : WFr r) (hV : VP r) {g t x : Nat} (hg : g < r 1) (ht : t < r 0) (hx : 1 ≤ x) (h3 : r (106 + g) ≤ 2) (hl : x ≤ leftN r g) (hn : ¬ isIn r t g) : VP (addR r g t x) := by
  have h1 := hW.2.2.1
  have h3a : ∀ h, h < 20 → r (106 + h) ≤ 3 := fun h hh => (hW.2.2.2.2.2.2.2.1 h hh).2.2.2
  have e := fun j (hj : j < 106 ∨ 246 ≤ j) => addR_o (r := r) (g := g) (t := t) (x := x) (by omega) h3 hj
  have fl := addR_f (r := r) (g := g) (t := t) (x := x) (by omega) h3
  have wh := addR_w (r := r) (g := g) (t := t) (x := x) (by omega) h3
  obtain ⟨a, b, c, d, f, k, l⟩ := hV
  have lt3 : ∀ h j, h < 20 → j < addR r g t x (106 + h) → j < 3 ∧ (¬ (h = g ∧ j = r (106 + g)) → j < r (106 + h)) := by
    intro h j hh hj
    rw [fl h hh] at hj
    have := h3a h hh
    by_cases q : h = g
    · subst q
      rw [if_pos rfl] at hj
      exact ⟨by omega, fun p => by omega⟩
    · rw [if_neg q] at hj
      exact ⟨by omega, fun _ => hj⟩
  refine ⟨fun u v huv hv => ?_, fun h hh1 hh2 => ?_, fun h j hh hj => ?_, fun h i j hh hij hj => ?_, fun h hh => ?_, fun u hu => ?_, fun h hh => ?_⟩
  · rw [e 1 (by omega)] at hv
    rw [e _ (by omega), e _ (by omega)]
    exact a u v huv hv
  · rw [e 1 (by omega)] at hh1
    rw [fl h hh2, if_neg (by omega)]
    exact b h hh1 hh2
  · obtain ⟨j3, jl⟩ := lt3 h j hh hj
    obtain ⟨w1, w2⟩ := wh h j hh j3
    rw [w1, w2, e 0 (by omega)]
    by_cases q : h = g ∧ j = r (106 + g)
    · rw [if_pos q, if_pos q]; exact ⟨ht, hx⟩
    · rw [if_neg q, if_neg q]; exact c h j hh (jl q)
  · obtain ⟨j3, jl⟩ := lt3 h j hh hj
    obtain ⟨w1, -⟩ := wh h j hh j3
    obtain ⟨w3, -⟩ := wh h i hh (by omega)
    rw [w1, w3]
    have ni : ¬ (h = g ∧ i = r (106 + g)) := fun z => by
      rw [fl h hh, if_pos z.1] at hj
      omega
    rw [if_neg ni]
    by_cases q : h = g ∧ j = r (106 + g)
    · rw [if_pos q]
      intro z
      exact hn ⟨i, by omega, by rw [← q.1]; exact z⟩
    · rw [if_neg q]
      exact d h i j hh hij (jl q)
  · rw [fl h hh, e (86 + h) (by omega)]
    have same : ∀ n, n ≤ 3 → (h = g → n ≤ r (106 + g)) → sumN (thr (addR r g t x) h) n = sumN (thr r h) n := fun n hn3 hn2 => sumN_congr n (fun j hj => by
      rw [(wh h j hh (by omega)).2, if_neg (fun z => by have := hn2 z.1; omega)])
    have := h3a h hh
    by_cases q : h = g
    · subst q
      rw [if_pos rfl]
      show sumN (thr (addR r h t x) h) (r (106 + h)) + thr (addR r h t x) h (r (106 + h)) ≤ r (86 + h)
      rw [same _ (by omega) (fun _ => Nat.le_refl _), (wh h (r (106 + h)) hh (by omega)).2, if_pos ⟨rfl, rfl⟩]
      have := f h hh
      unfold leftN at hl
      omega
    · rw [if_neg q, same _ (by omega) (fun z => absurd z q)]
      exact f h hh
  · rw [e 0 (by omega)] at hu
    have := hW.2.1
    rw [e _ (by omega)]; exact k u hu
  · rw [e 1 (by omega)] at hh
    rw [e _ (by omega)]; exact l h hh
