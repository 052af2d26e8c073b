/-! the plan emptied -/
theorem m1s (m : Nat) (hm : m < 2147483648) : nI m + (-1) = nI m - nI 1 := by
  cases m with
  | zero => decide
  | succ m => rw [m1_N (by omega), sub_N (by omega)]
theorem WFr_0 {r : Nat → Nat} (hW : WFr r) {g : Nat} (hg : g < 20) : WFr (upR r (106 + g) 0) := by
  have := WFr_rem (r := r) (g := g) (k := 0) (n := 0) (i := 0) hW hg (by omega) (by omega)
  rw [remR_0 hg] at this
  exact this
theorem VP_0 {r : Nat → Nat} (hW : WFr r) (hV : VP r) {g : Nat} (hg : g < 20) : VP (upR r (106 + g) 0) := by
  have h1 := hW.2.2.1
  have h0 := hW.2.1
  have h3a : ∀ h, h < 20 → r (106 + h) ≤ 3 := fun h hh => (hW.2.2.2.2.2.2.2.1 h hh).2.2.2
  have e : ∀ j, j < 106 ∨ 126 ≤ j → upR r (106 + g) 0 j = r j := fun j hj => upR_n (by omega)
  have fl : ∀ h, h < 20 → upR r (106 + g) 0 (106 + h) = if h = g then 0 else r (106 + h) := fun h hh => by
    by_cases q : h = g
    · rw [q, upR_e, if_pos rfl]
    · rw [upR_n (by omega), if_neg q]
  have nw : ∀ h j, who (upR r (106 + g) 0) h j = who r h j ∧ thr (upR r (106 + g) 0) h j = thr r h j := fun h j => ⟨e _ (by omega), e _ (by omega)⟩
  obtain ⟨a, b, c, d, f, k1, l⟩ := hV
  refine ⟨fun u v huv hv => ?_, fun h hh1 hh2 => ?_, fun h j hh hj => ?_, fun h i j hh hij hj => ?_, fun h hh => ?_, fun u hu => ?_, fun h hh => ?_⟩
  · rw [e 1 (by omega)] at hv
    rw [e _ (by omega), e _ (by omega)]; exact a u v huv hv
  · rw [e 1 (by omega)] at hh1
    rw [fl h hh2]
    split
    · rfl
    · exact b h hh1 hh2
  · rw [fl h hh] at hj
    by_cases q : h = g
    · rw [if_pos q] at hj; omega
    · rw [if_neg q] at hj
      rw [(nw h j).1, (nw h j).2, e 0 (by omega)]; exact c h j hh hj
  · rw [fl h hh] at hj
    by_cases q : h = g
    · rw [if_pos q] at hj; omega
    · rw [if_neg q] at hj
      rw [(nw h i).1, (nw h j).1]; exact d h i j hh hij hj
  · rw [fl h hh, e (86 + h) (by omega)]
    by_cases q : h = g
    · rw [if_pos q]; exact Nat.zero_le _
    · rw [if_neg q, sumN_congr (g := thr r h) _ (fun j _ => (nw h j).2)]; exact f h hh
  · rw [e 0 (by omega)] at hu
    rw [e _ (by omega)]; exact k1 u hu
  · rw [e 1 (by omega)] at hh
    rw [e _ (by omega)]; exact l h hh
def emR (r : Nat → Nat) (n : Nat) : Nat → Nat := fun j => if 106 ≤ j ∧ j < 106 + n then 0 else r j
theorem emR_0 (r : Nat → Nat) : emR r 0 = r := by
  funext j
  exact if_neg (by omega)
theorem emR_s (r : Nat → Nat) (n : Nat) : upR (emR r n) (106 + n) 0 = emR r (n + 1) := by
  funext j
  unfold upR emR
  by_cases q : j = 106 + n
  · rw [if_pos q, if_pos (by omega)]
  · rw [if_neg q]
    by_cases p : 106 ≤ j ∧ j < 106 + n
    · rw [if_pos p, if_pos (by omega)]
    · rw [if_neg p, if_neg (by omega)]
section EMPTY
variable {w : Wd} {r : Nat → Nat} {K : Kt}
theorem c_emptyGame (hC : CT w r) (hP : CP w r) (hW : WFr r) (hV : VP r) {g : Nat} (hg : g < 20) (h : ∀ w1, Off SP w w1 → CT w1 (upR r (106 + g) 0) → CP w1 (upR r (106 + g) 0) → K none w1) : fX5_emptyGame [.ref 21, .int (nI g)] w K := by
  have L : ∀ (n : Nat) (q : Nat → Nat) (w1 : Wd), q (106 + g) = n → Off SP w w1 → CT w1 q → CP w1 q → WFr q → VP q → upR q (106 + g) 0 = upR r (106 + g) 0 → RR (tl K lX5_emptyGame) 9 [.ref 21, .int (nI g), .int (nI n - nI 1)] [] w1 := by
    intro n
    induction n with
    | zero =>
      intro q w1 hn ho hC1 hP1 hW1 hV1 e
      refine tX5_emptyGame_9 ⟨fun _ => ?_, fun z => absurd (by decide) z⟩
      have eq : q = upR r (106 + g) 0 := by
        rw [← e]
        have := upR_same q (106 + g)
        rw [hn] at this
        exact this.symm
      rw [eq] at hC1 hP1
      exact h w1 ho hC1 hP1
    | succ n ih =>
      intro q w1 hn ho hC1 hP1 hW1 hV1 e
      have a3 := (hW1.2.2.2.2.2.2.2.1 g hg).2.2.2
      have hg1 : g < q 1 := Classical.byContradiction (fun z => by
        have := hV1.2.1 g (by omega) hg
        omega)
      have e1 : nI (n + 1) - nI 1 = nI n := by rw [sub_N (by omega)]; rfl
      rw [e1]
      refine tX5_emptyGame_9 ⟨fun z => ((lt0_N (by omega)).mp z).elim, fun _ => ?_⟩
      refine c_remove hC1 hP1 hW1 hV1 hg hn (Nat.le_refl _) (fun w2 o2 hC2 hP2 => tX5_emptyGame_19 ?_)
      have hW2 := WFr_rem (k := n) (n := n) (i := n) hW1 hg (by omega) (by omega)
      have hV2 := VP_rem hW1 hV1 hg1 hn (Nat.le_refl n)
      rw [remR_0 hg] at hC2 hP2 hW2 hV2
      rw [m1s n (by omega)]
      refine ih (upR q (106 + g) n) w2 (upR_e _ _ _) (ho.tr o2) hC2 hP2 hW2 hV2 ?_
      rw [← e]
      funext j
      unfold upR
      by_cases c : j = 106 + g
      · rw [if_pos c, if_pos c]
      · rw [if_neg c, if_neg c, if_neg c]
  refine tX5_emptyGame_0 ⟨vp_in_nI (by omega) (by decide), ?_⟩
  rw [rd_N (by omega), hP.1 g hg]
  exact L (r (106 + g)) r w rfl Off.rf hC hP hW hV rfl
theorem em_ok (hW : WFr r) (hV : VP r) : ∀ n, n ≤ 20 → WFr (emR r n) ∧ VP (emR r n) := by
  intro n
  induction n with
  | zero => intro _; rw [emR_0]; exact ⟨hW, hV⟩
  | succ n ih =>
    intro hn
    obtain ⟨a, b⟩ := ih (by omega)
    rw [← emR_s]
    exact ⟨WFr_0 a (by omega), VP_0 a b (by omega)⟩
theorem c_empty (hC : CT w r) (hP : CP w r) (hW : WFr r) (hV : VP r) (h : ∀ w1, Off SP w w1 → CT w1 (emR r 20) → CP w1 (emR r 20) → K none w1) : fX5_empty [.ref 21] w K := by
  have L : ∀ (n g : Nat) (w1 : Wd), g + n = 20 → Off SP w w1 → CT w1 (emR r g) → CP w1 (emR r g) → RR (tl K lX5_empty) 2 [.ref 21, .int (nI g)] [] w1 := by
    intro n
    induction n with
    | zero =>
      intro g w1 hg ho hC1 hP1
      have : g = 20 := by omega
      subst this
      exact tX5_empty_2 ⟨fun _ => h w1 ho hC1 hP1, fun q => absurd (Int32.le_refl _) q⟩
    | succ n ih =>
      intro g w1 hg ho hC1 hP1
      obtain ⟨a, b⟩ := em_ok hW hV g (by omega)
      refine tX5_empty_2 ⟨fun q => absurd q (by rw [le_N (by omega) (by omega)]; omega), fun _ => ?_⟩
      refine c_emptyGame hC1 hP1 a b (by omega) (fun w2 o2 hC2 hP2 => tX5_empty_13 ?_)
      rw [emR_s] at hC2 hP2
      rw [nI_add g 1]
      exact ih (g + 1) w2 (by omega) (ho.tr o2) hC2 hP2
  refine tX5_empty_0 (L 20 0 w rfl Off.rf ?_ ?_)
  · rw [emR_0]; exact hC
  · rw [emR_0]; exact hP
end EMPTY
