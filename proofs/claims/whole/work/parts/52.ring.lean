/-! the ring of the class beside the rows of the reference -/
theorem SV_mem {w w1 : Wd} {q : Nat} {h : Nat → Nat} (hW : WFr h) (hs : SV w q h) (hm : ∀ j, q * 180 ≤ j → j < q * 180 + 180 → w1.1 40 j = w.1 40 j) : SV w1 q h := by
  obtain ⟨a, b, c, d, e⟩ := hs
  have h0 := hW.2.1
  have h2 := hW.2.2.2.1
  refine ⟨fun t ht => ?_, ?_, fun i hi => ?_, fun g hg => ?_, fun g k hg hk => ?_⟩
  · rw [hm _ (by omega) (by omega), hm _ (by omega) (by omega), hm _ (by omega) (by omega), hm _ (by omega) (by omega)]
    exact a t ht
  · rw [hm _ (by omega) (by omega), hm _ (by omega) (by omega), hm _ (by omega) (by omega)]
    exact b
  · rw [hm _ (by omega) (by omega)]; exact c i hi
  · rw [hm _ (by omega) (by omega)]; exact d g hg
  · have hG := hW.2.2.2.2.2.2.2.1 g hg
    rw [hm _ (by omega) (by omega), hm _ (by omega) (by omega)]
    exact e g k hg hk
def HM (w : Wd) (N A : Nat) (H : Nat → Nat → Nat) : Prop := N < 10 ∧ A ≤ 10 ∧ ∀ i, i < A → SV w ((N + 10 - A + i) % 10) (H i) ∧ WFr (H i)
theorem HM_off {S : Nat → Prop} {w w1 : Wd} {N A : Nat} {H : Nat → Nat → Nat} (h : HM w N A H) (ho : Off S w w1) (hs : ¬ S 40) : HM w1 N A H := ⟨h.1, h.2.1, fun i hi => ⟨SV_mem (h.2.2 i hi).2 (h.2.2 i hi).1 (fun j _ _ => by rw [(ho 40 hs).1]), (h.2.2 i hi).2⟩⟩
theorem ring_keep {w w1 : Wd} {N A : Nat} {H : Nat → Nat → Nat} {r : Nat → Nat} (h : HM w N A H) (hW : WFr r) (hs : SV w1 N r) (hm : ∀ j, j < N * 180 ∨ N * 180 + 180 ≤ j → w1.1 40 j = w.1 40 j) : HM w1 ((N + 1) % 10) (min (A + 1) 10) (remH r A H) := by
  obtain ⟨hN, hA, hH⟩ := h
  have keep : ∀ q h, q < 10 → q ≠ N → WFr h → SV w q h → SV w1 q h := fun q h hq hne hw hsv => SV_mem hw hsv (fun j a b => hm j (by omega))
  refine ⟨by omega, by omega, fun i hi => ?_⟩
  by_cases c : A = 10
  · have e : remH r A H i = if i = 9 then r else H (i + 1) := by
      show (if A = 10 then _ else _) = _
      rw [if_pos c]
    rw [e, show min (A + 1) 10 = 10 by omega]
    by_cases q : i = 9
    · rw [if_pos q, show ((N + 1) % 10 + 10 - 10 + i) % 10 = N by omega]
      exact ⟨hs, hW⟩
    · rw [if_neg q]
      obtain ⟨s1, s2⟩ := hH (i + 1) (by omega)
      rw [show (N + 10 - A + (i + 1)) % 10 = ((N + 1) % 10 + 10 - 10 + i) % 10 by omega] at s1
      exact ⟨keep _ _ (by omega) (by omega) s2 s1, s2⟩
  · have e : remH r A H i = if i = A then r else H i := by
      show (if A = 10 then _ else _) = _
      rw [if_neg c]
    rw [e, show min (A + 1) 10 = A + 1 by omega]
    by_cases q : i = A
    · rw [if_pos q, show ((N + 1) % 10 + 10 - (A + 1) + i) % 10 = N by omega]
      exact ⟨hs, hW⟩
    · rw [if_neg q]
      obtain ⟨s1, s2⟩ := hH i (by omega)
      rw [show (N + 10 - A + i) % 10 = ((N + 1) % 10 + 10 - (A + 1) + i) % 10 by omega] at s1
      exact ⟨keep _ _ (by omega) (by omega) s2 s1, s2⟩
/-- the row with one number changed -/
def upR (r : Nat → Nat) (a v : Nat) : Nat → Nat := fun j => if j = a then v else r j
theorem upR_e (r : Nat → Nat) (a v : Nat) : upR r a v a = v := if_pos rfl
theorem upR_n {r : Nat → Nat} {a v j : Nat} (h : j ≠ a) : upR r a v j = r j := if_neg h
theorem RM_set {w : Wd} {r : Nat → Nat} (h : RM w r) (a v : Nat) : RM (upI w 43 a (nI v)) (upR r a v) := fun i => by
  rw [upI1]
  show _ = nI (if i = a then v else r i)
  by_cases q : i = a
  · rw [if_pos ⟨rfl, q⟩, if_pos q]
  · rw [if_neg (fun z => q z.2), if_neg q]; exact h i
/-- the class's plan: one more outing -/
def addR (r : Nat → Nat) (g t x : Nat) : Nat → Nat := upR (upR (upR r (126 + (3 * g + r (106 + g))) t) (186 + (3 * g + r (106 + g))) x) (106 + g) (r (106 + g) + 1)
section ADD
variable {w : Wd} {r : Nat → Nat} {K : Kt}
theorem addR_f {r : Nat → Nat} {g t x : Nat} (hg : g < 20) (h3 : r (106 + g) ≤ 2) : ∀ h, h < 20 → addR r g t x (106 + h) = if h = g then r (106 + g) + 1 else r (106 + h) := by
  intro h hh
  unfold addR
  by_cases q : h = g
  · subst q
    rw [upR_e, if_pos rfl]
  · rw [if_neg q, upR_n (by omega), upR_n (by omega), upR_n (by omega)]
theorem addR_w {r : Nat → Nat} {g t x : Nat} (hg : g < 20) (h3 : r (106 + g) ≤ 2) : ∀ h k, h < 20 → k < 3 → who (addR r g t x) h k = (if h = g ∧ k = r (106 + g) then t else who r h k) ∧ thr (addR r g t x) h k = (if h = g ∧ k = r (106 + g) then x else thr r h k) := by
  intro h k hh hk
  unfold who thr addR
  by_cases q : h = g ∧ k = r (106 + g)
  · rw [if_pos q, if_pos q, q.1, q.2]
    constructor
    · rw [upR_n (by omega), upR_n (by omega), upR_e]
    · rw [upR_n (by omega), upR_e]
  · rw [if_neg q, if_neg q]
    constructor
    · rw [upR_n (by omega), upR_n (by omega), upR_n (by omega)]
    · rw [upR_n (by omega), upR_n (by omega), upR_n (by omega)]
theorem addR_o {r : Nat → Nat} {g t x : Nat} (hg : g < 20) (h3 : r (106 + g) ≤ 2) {j : Nat} (hj : j < 106 ∨ 246 ≤ j) : addR r g t x j = r j := by
  unfold addR
  rw [upR_n (by omega), upR_n (by omega), upR_n (by omega)]
theorem addR_l {r : Nat → Nat} {g t x : Nat} (hg : g < 20) (h3 : r (106 + g) ≤ 2) : ∀ u h, h < 20 → (∀ h, h < 20 → r (106 + h) ≤ 3) → load (addR r g t x) u h = load r u h + (if h = g ∧ u = t then x else 0) := by
  intro u h hh h3a
  have a := h3a h hh
  unfold load
  rw [addR_f hg h3 h hh]
  have base : ∀ n, n ≤ (if h = g then r (106 + g) else r (106 + h)) → sumN (fun k => if who (addR r g t x) h k = u then thr (addR r g t x) h k else 0) n = sumN (fun k => if who r h k = u then thr r h k else 0) n := by
    intro n hn
    refine sumN_congr n (fun k hk => ?_)
    have k3 : k < 3 := by
      by_cases q : h = g
      · rw [if_pos q] at hn; omega
      · rw [if_neg q] at hn; omega
    obtain ⟨e1, e2⟩ := addR_w (t := t) (x := x) hg h3 h k hh k3
    have ne : ¬ (h = g ∧ k = r (106 + g)) := fun z => by
      rw [if_pos z.1] at hn; omega
    show (if who (addR r g t x) h k = u then thr (addR r g t x) h k else 0) = (if who r h k = u then thr r h k else 0)
    rw [e1, e2, if_neg ne, if_neg ne]
  by_cases q : h = g
  · subst q
    rw [if_pos rfl]
    rw [if_pos rfl] at base
    show sumN _ (r (106 + h)) + (if who (addR r h t x) h (r (106 + h)) = u then thr (addR r h t x) h (r (106 + h)) else 0) = _
    obtain ⟨e1, e2⟩ := addR_w (t := t) (x := x) hg h3 h (r (106 + h)) hh (by omega)
    rw [if_pos ⟨rfl, rfl⟩] at e1 e2
    rw [base _ (Nat.le_refl _), e1, e2]
    by_cases p : t = u
    · rw [if_pos p, if_pos ⟨rfl, p.symm⟩]
    · rw [if_neg p, if_neg (fun z => p z.2.symm)]
  · rw [if_neg q]
    rw [if_neg q] at base
    rw [base _ (Nat.le_refl _), if_neg (fun z => q z.1), Nat.add_zero]
end ADD
