/-! take() -/
def remR (r : Nat → Nat) (g k n i : Nat) : Nat → Nat := fun j => if j = 106 + g then n else if 126 + (3 * g + k) ≤ j ∧ j < 126 + (3 * g + i) then r (j + 1) else if 186 + (3 * g + k) ≤ j ∧ j < 186 + (3 * g + i) then r (j + 1) else r j
theorem sumN_rem {f : Nat → Nat} {k : Nat} : ∀ n, k ≤ n → sumN (fun j => f (if k ≤ j then j + 1 else j)) n + f k = sumN f (n + 1)
  | 0, h => by
    have : k = 0 := by omega
    subst this; rfl
  | n + 1, h => by
    show sumN (fun j => f (if k ≤ j then j + 1 else j)) n + f (if k ≤ n then n + 1 else n) + f k = sumN f (n + 1) + f (n + 1)
    by_cases q : k ≤ n
    · have := sumN_rem (f := f) n q
      rw [if_pos q]
      omega
    · have e : k = n + 1 := by omega
      rw [if_neg q, sumN_congr (g := f) n (fun j hj => by
        show f (if k ≤ j then j + 1 else j) = f j
        rw [if_neg (show ¬ k ≤ j by omega)]), e]
      rfl
section TAKE1
variable {r : Nat → Nat} {g k n i : Nat}
theorem remR_o (hg : g < 20) (hi : i < 3) {j : Nat} (hj : j < 106 ∨ 246 ≤ j) : remR r g k n i j = r j := by
  unfold remR
  rw [if_neg (by omega), if_neg (by omega), if_neg (by omega)]
theorem remR_f (hg : g < 20) (hi : i < 3) {h : Nat} (hh : h < 20) : remR r g k n i (106 + h) = if h = g then n else r (106 + h) := by
  unfold remR
  by_cases q : h = g
  · rw [if_pos (by omega), if_pos q]
  · rw [if_neg (by omega), if_neg (by omega), if_neg (by omega), if_neg q]
theorem remR_w (hg : g < 20) (hi : i < 3) : ∀ h j, h < 20 → j < 3 → who (remR r g k n i) h j = (if h = g ∧ k ≤ j ∧ j < i then who r g (j + 1) else who r h j) ∧ thr (remR r g k n i) h j = (if h = g ∧ k ≤ j ∧ j < i then thr r g (j + 1) else thr r h j) := by
  intro h j hh hj
  unfold who thr remR
  by_cases q : h = g ∧ k ≤ j ∧ j < i
  · obtain ⟨q1, q2, q3⟩ := q
    subst q1
    rw [if_neg (by omega), if_pos (by omega), if_pos ⟨rfl, q2, q3⟩, if_neg (by omega), if_neg (by omega), if_pos (by omega), if_pos ⟨rfl, q2, q3⟩]
    exact ⟨congrArg r (by omega), congrArg r (by omega)⟩
  · rw [if_neg q, if_neg q, if_neg (by omega), if_neg (by omega), if_neg (by omega), if_neg (by omega), if_neg (by omega), if_neg (by omega)]
    exact ⟨rfl, rfl⟩
theorem remR_0 (hg : g < 20) : remR r g k n k = upR r (106 + g) n := by
  funext j
  unfold remR upR
  by_cases q : j = 106 + g
  · rw [if_pos q, if_pos q]
  · rw [if_neg q, if_neg q, if_neg (by omega), if_neg (by omega)]
theorem remR_s (hg : g < 20) (hk : k ≤ i) (hi : i + 1 < 3) : upR (upR (remR r g k n i) (126 + (3 * g + i)) (who r g (i + 1))) (186 + (3 * g + i)) (thr r g (i + 1)) = remR r g k n (i + 1) := by
  funext j
  by_cases c1 : j = 186 + (3 * g + i)
  · rw [c1, upR_e]
    have := (remR_w (r := r) (g := g) (k := k) (n := n) (i := i + 1) hg hi g i hg (by omega)).2
    rw [if_pos ⟨rfl, hk, by omega⟩] at this
    exact this.symm
  · rw [upR_n c1]
    by_cases c2 : j = 126 + (3 * g + i)
    · rw [c2, upR_e]
      have := (remR_w (r := r) (g := g) (k := k) (n := n) (i := i + 1) hg hi g i hg (by omega)).1
      rw [if_pos ⟨rfl, hk, by omega⟩] at this
      exact this.symm
    · rw [upR_n c2]
      unfold remR
      by_cases c3 : j = 106 + g
      · rw [if_pos c3, if_pos c3]
      · rw [if_neg c3, if_neg c3]
        by_cases c4 : 126 + (3 * g + k) ≤ j ∧ j < 126 + (3 * g + i)
        · rw [if_pos c4, if_pos (by omega)]
        · rw [if_neg c4, if_neg (show ¬ (126 + (3 * g + k) ≤ j ∧ j < 126 + (3 * g + (i + 1))) by omega)]
          by_cases c5 : 186 + (3 * g + k) ≤ j ∧ j < 186 + (3 * g + i)
          · rw [if_pos c5, if_pos (by omega)]
          · rw [if_neg c5, if_neg (by omega)]
theorem remR_ix (hg : g < 20) (hn : n < 3) {j : Nat} (hj : j < n) : who (remR r g k n n) g j = who r g (if k ≤ j then j + 1 else j) ∧ thr (remR r g k n n) g j = thr r g (if k ≤ j then j + 1 else j) := by
  have := remR_w (r := r) (g := g) (k := k) (n := n) (i := n) hg hn g j hg (by omega)
  rw [this.1, this.2]
  by_cases q : k ≤ j
  · rw [if_pos (show g = g ∧ k ≤ j ∧ j < n from ⟨rfl, q, hj⟩), if_pos (show g = g ∧ k ≤ j ∧ j < n from ⟨rfl, q, hj⟩), if_pos q]; exact ⟨rfl, rfl⟩
  · rw [if_neg (fun (z : g = g ∧ k ≤ j ∧ j < n) => q z.2.1), if_neg (fun (z : g = g ∧ k ≤ j ∧ j < n) => q z.2.1), if_neg q]; exact ⟨rfl, rfl⟩
theorem remR_l (hg : g < 20) (hf : r (106 + g) = n + 1) (hn : n < 3) (hk : k ≤ n) (h3 : ∀ h, h < 20 → r (106 + h) ≤ 3) (hd : ∀ i j, i < j → j < r (106 + g) → who r g i ≠ who r g j) : ∀ u h, h < 20 → load (remR r g k n n) u h = if h = g ∧ u = who r g k then 0 else load r u h := by
  intro u h hh
  by_cases q : h = g
  · subst q
    have s := sumN_rem (f := fun j => if who r h j = u then thr r h j else 0) n hk
    have e1 : load (remR r h k n n) u h = sumN (fun j => (fun j => if who r h j = u then thr r h j else 0) (if k ≤ j then j + 1 else j)) n := by
      unfold load
      rw [remR_f hg hn hg, if_pos rfl]
      refine sumN_congr _ (fun j hj => ?_)
      have := remR_ix (r := r) (k := k) hg hn hj
      show (if who (remR r h k n n) h j = u then thr (remR r h k n n) h j else 0) = _
      rw [this.1, this.2]
    have e2 : load r u h = sumN (fun j => if who r h j = u then thr r h j else 0) (n + 1) := by unfold load; rw [hf]
    rw [← e1, ← e2] at s
    have s : load (remR r h k n n) u h + (if who r h k = u then thr r h k else 0) = load r u h := s
    by_cases p : u = who r h k
    · rw [if_pos ⟨rfl, p⟩]
      rw [if_pos p.symm, load_of hd (by omega) p.symm] at s
      omega
    · rw [if_neg (fun z => p z.2)]
      rw [if_neg (fun z => p z.symm)] at s
      omega
  · rw [if_neg (fun z => q z.1)]
    unfold load
    rw [remR_f hg hn hh, if_neg q]
    have := h3 h hh
    refine sumN_congr _ (fun j hj => ?_)
    obtain ⟨e1, e2⟩ := remR_w (r := r) (g := g) (k := k) (n := n) (i := n) hg hn h j hh (by omega)
    rw [if_neg (fun (z : h = g ∧ k ≤ j ∧ j < n) => q z.1)] at e1 e2
    show (if who (remR r g k n n) h j = u then thr (remR r g k n n) h j else 0) = (if who r h j = u then thr r h j else 0)
    rw [e1, e2]
theorem WFr_rem (hW : WFr r) (hg : g < 20) (hi : i < 3) (hn : n ≤ 3) : WFr (remR r g k n i) := by
  have e := fun j (hj : j < 106 ∨ 246 ≤ j) => remR_o (r := r) (g := g) (k := k) (n := n) (i := i) hg hi hj
  obtain ⟨a, b, c, d, f, m1, l, m, o, p⟩ := hW
  refine ⟨fun j => ?_, ?_, ?_, ?_, ?_, ?_, fun u hu => ?_, fun h hh => ?_, fun j hj => ?_, fun i hi => ?_⟩
  · unfold remR
    have := a j
    have := a (j + 1)
    split
    · omega
    · split
      · omega
      · split
        · omega
        · omega
  · rw [e 0 (by omega)]; exact b
  · rw [e 1 (by omega)]; exact c
  · rw [e 2 (by omega)]; exact d
  · rw [e 4 (by omega)]; exact f
  · rw [e 5 (by omega)]; exact m1
  · rw [e _ (by omega), e _ (by omega), e _ (by omega), e _ (by omega), e _ (by omega)]; exact l u hu
  · rw [e _ (by omega), e _ (by omega), e _ (by omega), remR_f hg hi hh]
    have q := m h hh
    refine ⟨q.1, q.2.1, q.2.2.1, ?_⟩
    split
    · exact hn
    · exact q.2.2.2
  · have q := o j hj
    have hw := remR_w (r := r) (k := k) (n := n) hg hi (j / 3) (j % 3) (by omega) (by omega)
    unfold who thr at hw
    rw [show 126 + (3 * (j / 3) + j % 3) = 126 + j by omega, show 186 + (3 * (j / 3) + j % 3) = 186 + j by omega] at hw
    rw [hw.1, hw.2]
    constructor
    · split
      · exact (o (3 * g + (j % 3 + 1)) (by omega)).1
      · exact q.1
    · split
      · exact (o (3 * g + (j % 3 + 1)) (by omega)).2
      · exact q.2
  · rw [e _ (by omega), e _ (by omega)]; exact p i hi
theorem VP_rem (hW : WFr r) (hV : VP r) (hg : g < r 1) (hf : r (106 + g) = n + 1) (hk : k ≤ n) : VP (remR r g k n n) := by
  have h1 := hW.2.2.1
  have h3a : ∀ h, h < 20 → r (106 + h) ≤ 3 := fun h hh => (hW.2.2.2.2.2.2.2.1 h hh).2.2.2
  have g20 : g < 20 := by omega
  have a3 := h3a g g20
  have hn : n < 3 := by omega
  have e := fun j (hj : j < 106 ∨ 246 ≤ j) => remR_o (r := r) (g := g) (k := k) (n := n) (i := n) g20 hn hj
  have fl := fun h (hh : h < 20) => remR_f (r := r) (g := g) (k := k) (n := n) (i := n) g20 hn hh
  have wh := remR_w (r := r) (g := g) (k := k) (n := n) (i := n) g20 hn
  have ix := fun j (hj : j < n) => remR_ix (r := r) (g := g) (k := k) (n := n) g20 hn hj
  have oth : ∀ h j, h < 20 → j < 3 → h ≠ g → who (remR r g k n n) h j = who r h j ∧ thr (remR r g k n n) h j = thr r h j := fun h j hh hj hne => by
    obtain ⟨e1, e2⟩ := wh h j hh hj
    rw [if_neg (fun (z : h = g ∧ k ≤ j ∧ j < n) => hne z.1)] at e1 e2
    exact ⟨e1, e2⟩
  obtain ⟨a, b, c, d, f, k1, l⟩ := hV
  refine ⟨fun u v huv hv => ?_, fun h hh1 hh2 => ?_, fun h j hh hj => ?_, fun h i j hh hij hj => ?_, fun h hh => ?_, fun u hu => ?_, fun h hh => ?_⟩
  · rw [e 1 (by omega)] at hv
    rw [e _ (by omega), e _ (by omega)]; exact a u v huv hv
  · rw [e 1 (by omega)] at hh1
    rw [fl h hh2, if_neg (by omega)]; exact b h hh1 hh2
  · rw [fl h hh] at hj
    rw [e 0 (by omega)]
    by_cases q : h = g
    · subst q
      rw [if_pos rfl] at hj
      rw [(ix j hj).1, (ix j hj).2]
      refine c h _ hh ?_
      split <;> omega
    · rw [if_neg q] at hj
      have := h3a h hh
      rw [(oth h j hh (by omega) q).1, (oth h j hh (by omega) q).2]
      exact c h j hh hj
  · rw [fl h hh] at hj
    by_cases q : h = g
    · subst q
      rw [if_pos rfl] at hj
      rw [(ix j hj).1, (ix i (by omega)).1]
      refine d h _ _ hh ?_ ?_
      · split <;> split <;> omega
      · split <;> omega
    · rw [if_neg q] at hj
      have := h3a h hh
      rw [(oth h j hh (by omega) q).1, (oth h i hh (by omega) q).1]
      exact d h i j hh hij hj
  · rw [fl h hh, e _ (by omega)]
    by_cases q : h = g
    · subst q
      rw [if_pos rfl]
      have s := sumN_rem (f := thr r h) n hk
      rw [sumN_congr (g := fun j => thr r h (if k ≤ j then j + 1 else j)) n (fun j hj => (ix j hj).2)]
      have := f h hh
      rw [hf] at this
      omega
    · rw [if_neg q]
      have := h3a h hh
      rw [sumN_congr (g := thr r h) _ (fun j hj => (oth h j hh (by omega) q).2)]
      exact f h hh
  · rw [e 0 (by omega)] at hu
    have := hW.2.1
    rw [e _ (by omega)]; exact k1 u hu
  · rw [e 1 (by omega)] at hh
    rw [e _ (by omega)]; exact l h hh
end TAKE1
section TAKE2
variable {w : Wd} {r : Nat → Nat} {K : Kt}
theorem c_remove (hC : CT w r) (hP : CP w r) (hW : WFr r) (hV : VP r) {g k n : Nat} (hg : g < 20) (hf : r (106 + g) = n + 1) (hk : k ≤ n) (h : ∀ w1, Off SP w w1 → CT w1 (remR r g k n n) → CP w1 (remR r g k n n) → K none w1) : fX5_remove [.ref 21, .int (nI g), .int (nI k)] w K := by
  have h3a : ∀ h, h < 20 → r (106 + h) ≤ 3 := fun h hh => (hW.2.2.2.2.2.2.2.1 h hh).2.2.2
  have a3 := h3a g hg
  have hn : n < 3 := by omega
  have m7 : ∀ j, j < 3 → who r g j ≤ 7 := fun j hj => (hW.2.2.2.2.2.2.2.2.1 (3 * g + j) (by omega)).1
  have e1 : nI g * nI 3 + nI k = nI (g * 3 + k) := by rw [pk_mul, nI_add]
  have fk : rd w 23 (nI (g * 3 + k)) = nI (who r g k) := by rw [rd_N (by omega)]; exact (hP.2.1 g k hg (by omega)).1
  have e3 : nI (who r g k) * nI 20 + nI g = nI (who r g k * 20 + g) := by rw [pk_mul, nI_add]
  have mk := m7 k (by omega)
  have s22 : SP 22 := by unfold SP; omega
  have s23 : SP 23 := by unfold SP; omega
  have s24 : SP 24 := by unfold SP; omega
  have s25 : SP 25 := by unfold SP; omega
  have hdd := fun i j q1 q2 => hV.2.2.2.1 g i j hg q1 q2
  have hd := distinct_V hV hg (show k < r (106 + g) by omega)
  -- what the loop keeps
  have L : ∀ (m i : Nat) (w1 : Wd), i + m = n → k ≤ i → Off SP w w1 → w1.1 22 = w.1 22 → (∀ h j, h < 20 → j < r (106 + h) → w1.1 23 (h * 3 + j) = (if h = g ∧ k ≤ j ∧ j < i then nI (who r g (j + 1)) else nI (who r h j)) ∧ w1.1 24 (h * 3 + j) = (if h = g ∧ k ≤ j ∧ j < i then nI (thr r g (j + 1)) else nI (thr r h j))) → (∀ u h, u < 8 → h < 20 → w1.1 25 (u * 20 + h) = if h = g ∧ u = who r g k then nI 0 else nI (load r u h)) → RR (tl K lX5_remove) 19 [.ref 21, .int (nI g), .int (nI k), .int (nI i)] [] w1 := by
    intro m
    induction m with
    | zero =>
      intro i w1 hi hki ho e22 e23 e25
      have ei : i = n := by omega
      subst ei
      have f0 : rd w1 22 (nI g) = nI (i + 1) := by rw [rd_N (by omega), e22, hP.1 g hg, hf]
      refine tX5_remove_19 ⟨vp_in_nI (by omega) (by decide), fun _ => ?_, fun q => absurd (by rw [f0, nI_add i 1, le_N (by omega) (by omega)]; exact Nat.le_refl _) q⟩
      rw [f0, sub_N (by omega), wr_N (by omega), show i + 1 - 1 = i by omega]
      have oo : Off SP w1 (upI w1 22 g (nI i)) := Off.up s22
      refine h _ (ho.tr oo) (CT_same (hC.off (ho.tr oo) (fun c a b q => by unfold SP at q; omega)) (fun j hj => remR_o hg hn (by omega)) hW) ⟨fun a ha => ?_, fun a j ha hj => ?_, fun u a hu ha => ?_⟩
      · rw [remR_f hg hn ha, upI1]
        by_cases q : a = g
        · rw [if_pos ⟨rfl, q⟩, if_pos q]
        · rw [if_neg (fun z => q z.2), if_neg q, e22]; exact hP.1 a ha
      · rw [remR_f hg hn ha] at hj
        have b3 := h3a a ha
        have jl : j < r (106 + a) := by
          by_cases q : a = g
          · rw [if_pos q] at hj; rw [q, hf]; omega
          · rw [if_neg q] at hj; exact hj
        obtain ⟨w2, w3⟩ := remR_w (r := r) (g := g) (k := k) (n := i) (i := i) hg hn a j ha (by omega)
        obtain ⟨x2, x3⟩ := e23 a j ha jl
        rw [w2, w3]
        constructor
        · rw [upI1, if_neg (fun z => absurd z.1 (by decide)), x2]
          by_cases q : a = g ∧ k ≤ j ∧ j < i
          · rw [if_pos q, if_pos q]
          · rw [if_neg q, if_neg q]
        · rw [upI1, if_neg (fun z => absurd z.1 (by decide)), x3]
          by_cases q : a = g ∧ k ≤ j ∧ j < i
          · rw [if_pos q, if_pos q]
          · rw [if_neg q, if_neg q]
      · rw [upI1, if_neg (fun z => absurd z.1 (by decide)), e25 u a hu ha, remR_l hg hf hn hk h3a hdd u a ha]
        by_cases q : a = g ∧ u = who r g k
        · rw [if_pos q, if_pos q]
        · rw [if_neg q, if_neg q]
    | succ m ih =>
      intro i w1 hi hki ho e22 e23 e25
      have f0 : rd w1 22 (nI g) = nI (n + 1) := by rw [rd_N (by omega), e22, hP.1 g hg, hf]
      have x1 : nI g * nI 3 + (nI i + nI 1) = nI (g * 3 + (i + 1)) := by rw [pk_mul, nI_add i 1, nI_add]
      have x2 : nI g * nI 3 + nI i = nI (g * 3 + i) := by rw [pk_mul, nI_add]
      obtain ⟨y1, y2⟩ := e23 g (i + 1) hg (by omega)
      rw [if_neg (fun (z : g = g ∧ k ≤ i + 1 ∧ i + 1 < i) => by omega)] at y1 y2
      have f1 : rd w1 23 (nI (g * 3 + (i + 1))) = nI (who r g (i + 1)) := by rw [rd_N (by omega)]; exact y1
      have f2 : rd w1 24 (nI (g * 3 + (i + 1))) = nI (thr r g (i + 1)) := by rw [rd_N (by omega)]; exact y2
      have x3 : nI (who r g (i + 1)) * nI 20 + nI g = nI (who r g (i + 1) * 20 + g) := by rw [pk_mul, nI_add]
      have m1 := m7 (i + 1) (by omega)
      refine tX5_remove_19 ⟨vp_in_nI (by omega) (by decide), fun q => absurd q (by rw [f0, nI_add i 1, le_N (by omega) (by omega)]; omega), fun _ => ?_⟩
      rw [x1, x2, f1, f2, x3, wr_N (show g * 3 + i < 2147483648 by omega), wr_N (show g * 3 + i < 2147483648 by omega), wr_N (show who r g (i + 1) * 20 + g < 2147483648 by omega), nI_add i 1]
      refine ⟨vp_in_nI (by omega) (by decide), vp_in_nI (by omega) (by decide), vp_in_nI (by omega) (by decide), ?_⟩
      have o1 : Off SP w1 (upI w1 23 (g * 3 + i) (nI (who r g (i + 1)))) := Off.up s23
      have o2 : Off SP (upI w1 23 (g * 3 + i) (nI (who r g (i + 1)))) (upI (upI w1 23 (g * 3 + i) (nI (who r g (i + 1)))) 24 (g * 3 + i) (nI (thr r g (i + 1)))) := Off.up s24
      refine ih (i + 1) _ (by omega) (by omega) (((ho.tr o1).tr o2).tr (Off.up s25)) ?_ (fun a j ha hj => ?_) (fun u a hu ha => ?_)
      · rw [← e22]
        funext b
        rw [upI1, if_neg (fun z => absurd z.1 (by decide)), upI1, if_neg (fun z => absurd z.1 (by decide)), upI1, if_neg (fun z => absurd z.1 (by decide))]
      · have b3 := h3a a ha
        obtain ⟨z1, z2⟩ := e23 a j ha hj
        constructor
        · rw [upI1, if_neg (fun z => absurd z.1 (by decide)), upI1, if_neg (fun z => absurd z.1 (by decide)), upI1]
          by_cases q : a = g ∧ j = i
          · rw [if_pos ⟨rfl, by rw [q.1, q.2]⟩, if_pos ⟨q.1, by omega, by omega⟩, q.2]
          · rw [if_neg (fun z => q (by have := z.2; omega)), z1]
            by_cases p : a = g ∧ k ≤ j ∧ j < i
            · rw [if_pos p, if_pos ⟨p.1, p.2.1, by omega⟩]
            · rw [if_neg p, if_neg (fun z => p ⟨z.1, z.2.1, by omega⟩)]
        · rw [upI1, if_neg (fun z => absurd z.1 (by decide)), upI1]
          by_cases q : a = g ∧ j = i
          · rw [if_pos ⟨rfl, by rw [q.1, q.2]⟩, if_pos ⟨q.1, by omega, by omega⟩, q.2]
          · rw [if_neg (fun z => q (by have := z.2; omega)), upI1, if_neg (fun z => absurd z.1 (by decide)), z2]
            by_cases p : a = g ∧ k ≤ j ∧ j < i
            · rw [if_pos p, if_pos ⟨p.1, p.2.1, by omega⟩]
            · rw [if_neg p, if_neg (fun z => p ⟨z.1, z.2.1, by omega⟩)]
      · rw [upI1]
        by_cases q : a = g ∧ u = who r g (i + 1)
        · rw [if_pos ⟨rfl, by rw [q.1, q.2]⟩, if_neg (fun z => hd (i + 1) (by omega) (by omega) (q.2.symm.trans z.2)), q.1, load_of hdd (show i + 1 < r (106 + g) by omega) q.2.symm]
        · rw [if_neg (fun z => q (by have := z.2; omega)), upI1, if_neg (fun z => absurd z.1 (by decide)), upI1, if_neg (fun z => absurd z.1 (by decide))]
          exact e25 u a hu ha
  refine tX5_remove_0 ?_
  rw [e1, fk, e3, wr_N (show who r g k * 20 + g < 2147483648 by omega)]
  refine ⟨vp_in_nI (by omega) (by decide), vp_in_nI (by omega) (by decide), L (n - k) k _ (by omega) (Nat.le_refl _) (Off.up s25) ?_ (fun a j ha hj => ?_) (fun u a hu ha => ?_)⟩
  · funext b
    rw [upI1, if_neg (fun z => absurd z.1 (by decide))]
  · rw [if_neg (by omega), if_neg (by omega), upI1, if_neg (fun z => absurd z.1 (by decide)), upI1, if_neg (fun z => absurd z.1 (by decide))]
    exact hP.2.1 a j ha hj
  · rw [upI1]
    by_cases q : a = g ∧ u = who r g k
    · rw [if_pos ⟨rfl, by rw [q.1, q.2]⟩, if_pos q]
    · rw [if_neg (fun z => q (by have := z.2; omega)), if_neg q]
      exact hP.2.2 u a hu ha
theorem g_takes (hM : RM w r) {g k n : Nat} {u3 u4 : Value} (hg : g < 20) (hf : r (106 + g) = n + 1) (hn : n < 3) (hk : k ≤ n) (h : ∀ w1, Off (fun c => c = 43) w w1 → RM w1 (remR r g k n n) → K (some (.int (nI (thr r g k)))) w1) : RR (tl K lX11_take) 48 [.ref 41, .int (nI g), .int (nI k), u3, u4] [] w := by
  have L : ∀ (m i : Nat) (w1 : Wd), i + m = n → k ≤ i → Off (fun c => c = 43) w w1 → RM w1 (remR r g k n i) → RR (tl K lX11_take) 71 [.ref 41, .int (nI g), .int (nI k), .int (nI (thr r g k)), .int (nI i)] [] w1 := by
    intro m
    induction m with
    | zero =>
      intro i w1 hi hki ho hM1
      have ei : i = n := by omega
      subst ei
      refine tX11_take_71 ⟨by rw [nI_add]; exact vp_in_nI (by omega) (by decide), fun _ => h w1 ho hM1, fun q => absurd ?_ q⟩
      rw [nI_add, rdM hM1 (by omega), remR_f hg hn hg, if_pos rfl, le_N (by omega) (by omega)]
      exact Nat.le_refl _
    | succ m ih =>
      intro i w1 hi hki ho hM1
      have x1 : nI 3 * nI g + (nI i + nI 1) = nI (3 * g + (i + 1)) := by rw [pk_mul, nI_add i 1, nI_add]
      have x2 : nI 3 * nI g + nI i = nI (3 * g + i) := by rw [pk_mul, nI_add]
      have ww := remR_w (r := r) (g := g) (k := k) (n := n) (i := i) hg (by omega) g (i + 1) hg (by omega)
      rw [if_neg (fun (z : g = g ∧ k ≤ i + 1 ∧ i + 1 < i) => by omega), if_neg (fun (z : g = g ∧ k ≤ i + 1 ∧ i + 1 < i) => by omega)] at ww
      have f1 : rd w1 43 (nI (126 + (3 * g + (i + 1)))) = nI (who r g (i + 1)) := by rw [rdM hM1 (by omega), ← ww.1]; rfl
      have hM2 := RM_set hM1 (126 + (3 * g + i)) (who r g (i + 1))
      have f2 : rd (upI w1 43 (126 + (3 * g + i)) (nI (who r g (i + 1)))) 43 (nI (186 + (3 * g + (i + 1)))) = nI (thr r g (i + 1)) := by
        rw [rdM hM2 (by omega), upR_n (by omega), ← ww.2]; rfl
      refine tX11_take_71 ⟨by rw [nI_add]; exact vp_in_nI (by omega) (by decide), fun q => absurd q ?_, fun _ => ?_⟩
      · rw [nI_add, rdM hM1 (by omega), remR_f hg (by omega) hg, if_pos rfl, le_N (by omega) (by omega)]
        omega
      · rw [x1, x2, nI_add 126 (3 * g + (i + 1)), nI_add 126 (3 * g + i), nI_add 186 (3 * g + (i + 1)), nI_add 186 (3 * g + i), f1, wr_N (show 126 + (3 * g + i) < 2147483648 by omega), f2, wr_N (show 186 + (3 * g + i) < 2147483648 by omega), nI_add i 1]
        refine ⟨vp_in_nI (by omega) (by decide), vp_in_nI (by omega) (by decide), vp_in_nI (by omega) (by decide), vp_in_nI (by omega) (by decide), ?_⟩
        have o1 : Off (fun c => c = 43) w1 (upI w1 43 (126 + (3 * g + i)) (nI (who r g (i + 1)))) := Off.up rfl
        have hM3 := RM_set hM2 (186 + (3 * g + i)) (thr r g (i + 1))
        rw [remR_s hg hki (by omega)] at hM3
        exact ih (i + 1) _ (by omega) (by omega) ((ho.tr o1).tr (Off.up rfl)) hM3
  have e1 : nI 3 * nI g + nI k = nI (3 * g + k) := by rw [pk_mul, nI_add]
  have f1 : rd w 43 (nI (186 + (3 * g + k))) = nI (thr r g k) := by rw [rdM hM (by omega)]; rfl
  refine tX11_take_48 ?_
  rw [e1, nI_add 186 (3 * g + k), nI_add 106 g, f1, rdM hM (by omega), hf, sub_N (by omega), wr_N (by omega), show n + 1 - 1 = n by omega]
  refine ⟨vp_in_nI (by omega) (by decide), vp_in_nI (by omega) (by decide), L (n - k) k _ (by omega) (Nat.le_refl _) (Off.up rfl) ?_⟩
  rw [remR_0 hg]
  exact RM_set hM (106 + g) n
end TAKE2
section TAKE3
variable {w : Wd} {r : Nat → Nat}
theorem p_take (hR : RH w r) {x1 x2 : Int32} : AP w r fX10_take fX11_take [.ref 0, .int x1, .int x2] [.ref 41, .int x1, .int x2] := by
  have hRR := hR
  obtain ⟨hRA, N, A, H, h3, h4, hw, hm, hv⟩ := hR
  have hRA0 := hRA
  obtain ⟨hM, hC, hP, hW, hV, h6, h7, h8⟩ := hRA
  have h1 := hW.2.2.1
  have h0 := hW.2.1
  have N1 : ¬ (∃ g k, g < r 1 ∧ k < r (106 + g) ∧ x1 = nI g ∧ x2 = nI k) → fX11_take [.ref 41, .int x1, .int x2] (upI (upI w 0 10 (nI 1)) 0 12 (-1)) (fun u w2 => AK w r (some (.int (-1))) u w2) := by
    intro hn
    have hM1 : RM (upI (upI w 0 10 (nI 1)) 0 12 (-1)) r := RM_cf hM CF_r
    have Z : RR (tl (fun u w2 => AK w r (some (.int (-1))) u w2) lX11_take) 32 [.ref 41, .int x1, .int x2, .null, .null] [.ref 41] (upI (upI w 0 10 (nI 1)) 0 12 (-1)) := by
      refine tX11_take_32 (tX11_take_33 ⟨fun q => absurd q (by rw [un_0]; decide), fun _ => ?_⟩)
      rw [un_0]
      exact AK_of hRR (fin CF_r GF_r)
    refine tX11_take_0 ⟨fun _ => Z, fun a => ?_⟩
    rw [rdM hM1 (by omega)] at a
    obtain ⟨g, hg, rfl⟩ := (rng (by omega)).mp a
    have hG := hW.2.2.2.2.2.2.2.1 g (by omega)
    refine ⟨by rw [nI_add]; exact vp_in_nI (by omega) (by decide), fun _ => Z, fun b => ?_⟩
    rw [nI_add, rdM hM1 (by omega)] at b
    obtain ⟨k, hk, rfl⟩ := (rng (by omega)).mp b
    exact absurd ⟨g, k, hg, hk, rfl, rfl⟩ hn
  unfold AP
  refine tX10_take_0 ⟨fun z => ?_, fun z => ?_, fun z => ?_⟩
  · rw [hC.2.1] at z
    obtain ⟨g, hg, rfl⟩ := (rng (by omega)).mp z
    exact vp_in_nI (by omega) (by decide)
  · obtain ⟨z1, z2⟩ := z
    rw [hC.2.1] at z1
    obtain ⟨g, hg, rfl⟩ := (rng (by omega)).mp z1
    have hG := hW.2.2.2.2.2.2.2.1 g (by omega)
    have f0 : rd w 22 (nI g) = nI (r (106 + g)) := by rw [rd_N (by omega)]; exact hP.1 g (by omega)
    rw [f0] at z2
    obtain ⟨k, hk, rfl⟩ := (rng (by omega)).mp z2
    obtain ⟨n, hn⟩ : ∃ n, r (106 + g) = n + 1 := ⟨r (106 + g) - 1, by omega⟩
    refine c_keep hC hP hW hm.1 hm.2.1 h3 h4 (fun w1 o1 k3 k4 ks km => tX10_take_22 ?_)
    have hC1 := hC.off o1 (fun c a b q => by omega)
    have hP1 := hP.off o1 (fun c a b q => by omega)
    have e1 : nI g * nI 3 + nI k = nI (g * 3 + k) := by rw [pk_mul, nI_add]
    have fb : rd w1 24 (nI (g * 3 + k)) = nI (thr r g k) := by rw [rd_N (by omega)]; exact (hP1.2.1 g k (by omega) hk).2
    rw [e1, fb]
    refine ⟨vp_in_nI (by omega) (by decide), c_remove hC1 hP1 hW hV (by omega) hn (by omega) (fun w2 o2 hC2 hP2 => tX10_take_41 ?_)⟩
    have hca := CA_mk hW hm.1 hm.2.1 h3 h4 o1 k3 k4 ks km (o2.mono (fun c q => by unfold SP at q; omega)) hC2 hP2
    have hMc := RM_ca hca hM
    have hwc := HW_ca hca hw
    generalize upI (upI w2 0 10 (nI 0)) 0 12 (-1) = wc at hca hMc hwc ⊢
    refine tX11_take_0 ⟨fun q => absurd (by rw [rdM hMc (by omega)]; exact z1) q, fun _ => ⟨by rw [nI_add]; exact vp_in_nI (by omega) (by decide), fun q => absurd (by rw [nI_add, rdM hMc (by omega)]; exact z2) q, fun _ => tX11_take_33 ⟨fun _ => ?_, fun q => absurd un_1 q⟩⟩⟩
    rw [un_1]
    refine g_remembers (RM_rfs hMc) (HW_rfs hwc) (fun w4 og kg hgm => ?_)
    have hM4 : RM w4 r := (RM_rfs hMc).off og (by decide)
    refine g_takes hM4 (by omega) hn (by omega) (by omega) (fun w5 o5 hM5 => ?_)
    exact act_fin hRA0 h3 h4 hw hm hv hca (GA_mk og kg hgm (o5.mono (fun c q => Or.inl q)) hM5) (WFr_rem hW (by omega) (by omega) (by omega)) (VP_rem hW hV hg hn (by omega)) (fun j hj => remR_o (by omega) (by omega) (by unfold FX at hj; omega))
  · refine N1 (fun q => z ?_)
    obtain ⟨g, k, hg, hk, rfl, rfl⟩ := q
    have hG := hW.2.2.2.2.2.2.2.1 g (by omega)
    rw [hC.2.1, rd_N (by omega), hP.1 g (by omega)]
    exact ⟨(rng (by omega)).mpr ⟨g, hg, rfl⟩, (rng (by omega)).mpr ⟨k, hk, rfl⟩⟩
end TAKE3
