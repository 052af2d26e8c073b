/-! an outing changed -/
def chgR (r : Nat → Nat) (g k t x : Nat) : Nat → Nat := upR (upR r (126 + (3 * g + k)) t) (186 + (3 * g + k)) x
section CHG
variable {r : Nat → Nat} {g k t x : Nat}
theorem chgR_o (hg : g < 20) (hk : k < 3) {j : Nat} (hj : j < 126 ∨ 246 ≤ j) : chgR r g k t x j = r j := by
  unfold chgR
  rw [upR_n (by omega), upR_n (by omega)]
theorem chgR_w (hg : g < 20) (hk : k < 3) : ∀ h j, h < 20 → j < 3 → who (chgR r g k t x) h j = (if h = g ∧ j = k then t else who r h j) ∧ thr (chgR r g k t x) h j = (if h = g ∧ j = k then x else thr r h j) := by
  intro h j hh hj
  unfold who thr chgR
  by_cases q : h = g ∧ j = k
  · rw [if_pos q, if_pos q, q.1, q.2]
    constructor
    · rw [upR_n (by omega), upR_e]
    · rw [upR_e]
  · rw [if_neg q, if_neg q]
    constructor
    · rw [upR_n (by omega), upR_n (by omega)]
    · rw [upR_n (by omega), upR_n (by omega)]
theorem chgR_l (hg : g < 20) (hk : k < r (106 + g)) (h3 : ∀ h, h < 20 → r (106 + h) ≤ 3) (hd : ∀ i j, i < j → j < r (106 + g) → who r g i ≠ who r g j) (hn : ∀ j, j < r (106 + g) → j ≠ k → who r g j ≠ t) : ∀ u h, h < 20 → load (chgR r g k t x) u h = if h = g ∧ u = t then x else if h = g ∧ u = who r g k then 0 else load r u h := by
  intro u h hh
  have a := h3 h hh
  have a2 := h3 g hg
  have ef : chgR r g k t x (106 + h) = r (106 + h) := chgR_o hg (by omega) (by omega)
  by_cases q : h = g
  · subst q
    by_cases p : u = t
    · subst p
      rw [if_pos ⟨rfl, rfl⟩]
      unfold load
      rw [ef, sumN_one (a := k) _ hk]
      · obtain ⟨e1, e2⟩ := chgR_w (r := r) (g := h) (k := k) (t := u) (x := x) hg (by omega) h k hh (by omega)
        rw [if_pos ⟨rfl, rfl⟩] at e1 e2
        rw [e1, e2, if_pos rfl]
      · intro j hj hne
        obtain ⟨e1, e2⟩ := chgR_w (r := r) (g := h) (k := k) (t := u) (x := x) hg (by omega) h j hh (by omega)
        rw [if_neg (fun (z : h = h ∧ j = k) => hne z.2)] at e1
        rw [e1]
        exact if_neg (hn j hj hne)
    · rw [if_neg (fun z => p z.2)]
      by_cases o : u = who r h k
      · rw [if_pos ⟨rfl, o⟩]
        unfold load
        rw [ef]
        refine sumN_zero _ (fun j hj => ?_)
        obtain ⟨e1, e2⟩ := chgR_w (r := r) (g := h) (k := k) (t := t) (x := x) hg (by omega) h j hh (by omega)
        show (if who (chgR r h k t x) h j = u then thr (chgR r h k t x) h j else 0) = 0
        by_cases c : j = k
        · rw [if_pos (⟨rfl, c⟩ : h = h ∧ j = k)] at e1
          rw [e1, if_neg (fun z => p z.symm)]
        · rw [if_neg (fun (z : h = h ∧ j = k) => c z.2)] at e1
          rw [e1]
          refine if_neg (fun z => ?_)
          rcases Nat.lt_trichotomy j k with s | s | s
          · exact hd j k s hk (z.trans o)
          · exact c s
          · exact hd k j s hj (o.symm.trans z.symm)
      · rw [if_neg (fun z => o z.2)]
        unfold load
        rw [ef]
        refine sumN_congr _ (fun j hj => ?_)
        obtain ⟨e1, e2⟩ := chgR_w (r := r) (g := h) (k := k) (t := t) (x := x) hg (by omega) h j hh (by omega)
        show (if who (chgR r h k t x) h j = u then thr (chgR r h k t x) h j else 0) = (if who r h j = u then thr r h j else 0)
        by_cases c : j = k
        · rw [if_pos (⟨rfl, c⟩ : h = h ∧ j = k)] at e1
          rw [e1, if_neg (fun z => p z.symm), c, if_neg (fun z => o z.symm)]
        · rw [if_neg (fun (z : h = h ∧ j = k) => c z.2)] at e1 e2
          rw [e1, e2]
  · rw [if_neg (fun z => q z.1), if_neg (fun z => q z.1)]
    unfold load
    rw [ef]
    refine sumN_congr _ (fun j hj => ?_)
    obtain ⟨e1, e2⟩ := chgR_w (r := r) (g := g) (k := k) (t := t) (x := x) hg (by omega) h j hh (by omega)
    show (if who (chgR r g k t x) h j = u then thr (chgR r g k t x) h j else 0) = (if who r h j = u then thr r h j else 0)
    rw [if_neg (fun (z : h = g ∧ j = k) => q z.1)] at e1 e2
    rw [e1, e2]
end CHG
