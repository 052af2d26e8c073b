/-! two throwers exchanged -/
theorem restN_row {r r1 : Nat → Nat} (e : ∀ j, j < 126 ∨ 246 ≤ j → r1 j = r j) (x : Nat) : restN r1 x = restN r x := by
  unfold restN
  rw [e 2 (by omega)]
  have key : ∀ n, restL r1 x n = restL r x n := by
    intro n
    induction n with
    | zero => rfl
    | succ n ih =>
      unfold restL
      rw [e _ (by omega), e _ (by omega), ih]
  exact key _
theorem wsum_row {r r1 T : Nat → Nat} (e : ∀ j, j < 126 ∨ 246 ≤ j → r1 j = r j) (h1 : r 1 ≤ 20) (g last : Nat) : wsum r1 T g last = wsum r T g last := by
  unfold wsum
  rw [e 1 (by omega)]
  refine sumN_congr _ (fun k hk => ?_)
  show (if k ≠ g ∧ r1 (46 + k) ≤ last ∧ last < r1 (46 + k) + 7 then T k else 0) = (if k ≠ g ∧ r (46 + k) ≤ last ∧ last < r (46 + k) + 7 then T k else 0)
  rw [e _ (by omega)]
theorem allowT_row {r r1 T : Nat → Nat} (e : ∀ j, j < 126 ∨ 246 ≤ j → r1 j = r j) (h1 : r 1 ≤ 20) {t g x : Nat} (ht : t < 8) (hg : g < r 1) : allowT r1 T t g x ↔ allowT r T t g x := by
  have a : rested r1 T g ↔ rested r T g := by
    unfold rested
    constructor
    · intro q h hh hp
      have := q h hh hp
      rw [restN_row e, e _ (by omega), e _ (by omega)] at this
      exact this
    · intro q h hh hp
      rw [restN_row e, e _ (by omega), e _ (by omega)]
      exact q h hh hp
  have b : nextOk r1 T g x ↔ nextOk r T g x := by
    unfold nextOk
    rw [e 1 (by omega)]
    constructor
    · intro q h hh hh2 hp
      have := q h hh hh2 hp
      rw [restN_row e, e _ (by omega), e _ (by omega)] at this
      exact this
    · intro q h hh hh2 hp
      rw [restN_row e, e _ (by omega), e _ (by omega)]
      exact q h hh hh2 hp
  have c : wkOk r1 T g x ↔ wkOk r T g x := by
    unfold wkOk
    constructor
    · intro q f hf hp
      have := q f hf (by rw [e _ (by omega), e _ (by omega)]; exact hp)
      rw [wsum_row e h1, e _ (by omega), e _ (by omega)] at this
      exact this
    · intro q f hf hp
      rw [e _ (by omega), e _ (by omega)] at hp
      rw [wsum_row e h1, e _ (by omega), e _ (by omega)]
      exact q f hf hp
  unfold allowT
  rw [a, b, c, e _ (by omega), e _ (by omega)]
def exR (r : Nat → Nat) (g k h j : Nat) : Nat → Nat := upR (upR r (126 + (3 * g + k)) (who r h j)) (126 + (3 * h + j)) (who r g k)
section EX
variable {r : Nat → Nat} {g k h j : Nat}
theorem exR_chg (hg : g < 20) (hk : k < 3) (hh : h < 20) (hj : j < 3) (hn : g ≠ h) : exR r g k h j = chgR (chgR r g k (who r h j) (thr r g k)) h j (who r g k) (thr r h j) := by
  funext i
  unfold exR chgR thr
  by_cases c1 : i = 186 + (3 * h + j)
  · rw [c1, upR_e, upR_n (by omega), upR_n (by omega)]
  · rw [upR_n (a := 186 + (3 * h + j)) c1]
    by_cases c2 : i = 126 + (3 * h + j)
    · rw [c2, upR_e, upR_e]
    · rw [upR_n c2, upR_n c2]
      by_cases c3 : i = 186 + (3 * g + k)
      · rw [c3, upR_e, upR_n (by omega)]
      · rw [upR_n c3]
theorem exR_back (hg : g < 20) (hk : k < 3) (hh : h < 20) (hj : j < 3) (hn : g ≠ h) : exR (exR r g k h j) g k h j = r := by
  have e1 : who (exR r g k h j) h j = who r g k := by unfold exR who; rw [upR_e]
  have e2 : who (exR r g k h j) g k = who r h j := by unfold exR who; rw [upR_n (by omega), upR_e]
  funext i
  show upR (upR (exR r g k h j) (126 + (3 * g + k)) (who (exR r g k h j) h j)) (126 + (3 * h + j)) (who (exR r g k h j) g k) i = r i
  rw [e1, e2]
  by_cases c2 : i = 126 + (3 * h + j)
  · rw [c2, upR_e]; rfl
  · rw [upR_n c2]
    by_cases c3 : i = 126 + (3 * g + k)
    · rw [c3, upR_e]; rfl
    · rw [upR_n c3]
      unfold exR
      rw [upR_n c2, upR_n c3]
theorem g_exchanges {w : Wd} {K : Kt} (hM : RM w r) (hg : g < 20) (hk : k < 3) (hh : h < 20) (hj : j < 3) (q : ∀ w1, Off (fun c => c = 43) w w1 → w1.2 = w.2 → RM w1 (exR r g k h j) → K none w1) : fX11_exchanges [.ref 41, .int (nI g), .int (nI k), .int (nI h), .int (nI j)] w K := by
  have e1 : nI 3 * nI g + nI k = nI (3 * g + k) := by rw [pk_mul, nI_add]
  have e2 : nI 3 * nI h + nI j = nI (3 * h + j) := by rw [pk_mul, nI_add]
  have f1 : rd w 43 (nI (126 + (3 * g + k))) = nI (who r g k) := by rw [rdM hM (by omega)]; rfl
  have f2 : rd w 43 (nI (126 + (3 * h + j))) = nI (who r h j) := by rw [rdM hM (by omega)]; rfl
  refine tX11_exchanges_0 ?_
  rw [e1, e2, nI_add, nI_add, f1, f2, wr_N (show 126 + (3 * g + k) < 2147483648 by omega), wr_N (show 126 + (3 * h + j) < 2147483648 by omega)]
  have oo : Off (fun c => c = 43) w (upI w 43 (126 + (3 * g + k)) (nI (who r h j))) := Off.up rfl
  exact ⟨vp_in_nI (by omega) (by decide), vp_in_nI (by omega) (by decide), q _ (oo.tr (Off.up rfl)) rfl (RM_set (RM_set hM _ _) _ _)⟩
theorem off43 {w w4 : Wd} (ho : Off (fun c => c = 43 ∨ c = 47) w w4) (hl : w4.2 43 = w.2 43) (hM : RM w r) (hM4 : RM w4 r) : Off (· = 47) w w4 := by
  intro c hc
  by_cases q : c = 43
  · subst q
    refine ⟨?_, hl⟩
    funext i
    rw [hM i, hM4 i]
  · exact ho c (fun z => by rcases z with z | z; exact q z; exact hc z)
/-- what is known of two outings that may be exchanged -/
def EXok (r : Nat → Nat) (g k h j : Nat) : Prop := g < r 1 ∧ k < r (106 + g) ∧ h < r 1 ∧ j < r (106 + h) ∧ g ≠ h ∧ ¬ isIn r (who r g k) h ∧ ¬ isIn r (who r h j) g
theorem EXok.sum {r1 : Nat → Nat} {g : Nat} (e : r1 (106 + g) = r (106 + g)) (ha : ∀ i, i < r (106 + g) → thr r1 g i = thr r g i) (hV : VP r) (hg : g < 20) : sumN (thr r1 g) (r (106 + g)) ≤ r (86 + g) := by
  rw [sumN_congr _ ha]
  exact hV.2.2.2.2.1 g hg
theorem ex_facts (hW : WFr r) (hV : VP r) (hx : EXok r g k h j) : WFr (exR r g k h j) ∧ VP (exR r g k h j) ∧ (∀ i, i < 126 ∨ 246 ≤ i → exR r g k h j i = r i) ∧ who (exR r g k h j) g k = who r h j ∧ who (exR r g k h j) h j = who r g k ∧ thr (exR r g k h j) g k = thr r g k ∧ thr (exR r g k h j) h j = thr r h j ∧ (∀ u i, i < 20 → load (exR r g k h j) u i = if i = h ∧ u = who r g k then thr r h j else if i = h ∧ u = who r h j then 0 else if i = g ∧ u = who r h j then thr r g k else if i = g ∧ u = who r g k then 0 else load r u i) := by
  obtain ⟨hg, hk, hh, hj, hn, n1, n2⟩ := hx
  have h1 := hW.2.2.1
  have h0 := hW.2.1
  have h3a : ∀ h, h < 20 → r (106 + h) ≤ 3 := fun h hh => (hW.2.2.2.2.2.2.2.1 h hh).2.2.2
  have a3 := h3a g (by omega)
  have b3 := h3a h (by omega)
  have wg := hV.2.2.1 g k (by omega) hk
  have wh := hV.2.2.1 h j (by omega) hj
  have tg : thr r g k ≤ 120 := (hW.2.2.2.2.2.2.2.2.1 (3 * g + k) (by omega)).2
  have th : thr r h j ≤ 120 := (hW.2.2.2.2.2.2.2.2.1 (3 * h + j) (by omega)).2
  have g20 : g < 20 := by omega
  have h20 : h < 20 := by omega
  have k3 : k < 3 := by omega
  have j3 : j < 3 := by omega
  rw [exR_chg g20 k3 h20 j3 hn]
  have o1 := fun i (hi : i < 126 ∨ 246 ≤ i) => chgR_o (r := r) (t := who r h j) (x := thr r g k) g20 k3 hi
  have w1 := chgR_w (r := r) (t := who r h j) (x := thr r g k) g20 k3
  have hna : ∀ i, i < r (106 + g) → i ≠ k → who r g i ≠ who r h j := fun i hi _ z => n2 ⟨i, hi, z⟩
  have s1 : sumN (thr (chgR r g k (who r h j) (thr r g k)) g) (r (106 + g)) ≤ r (86 + g) := by
    rw [sumN_congr (g := thr r g) _ (fun i hi => by
      rw [(w1 g i g20 (by omega)).2]
      by_cases c : i = k
      · rw [if_pos ⟨rfl, c⟩, c]
      · rw [if_neg (fun z => c z.2)])]
    exact hV.2.2.2.2.1 g g20
  have hW1 := WFr_chg (r := r) hW g20 k3 (show who r h j < 8 by omega) tg
  have hV1 := VP_chg hW hV hg hk wh.1 wg.2 hna s1
  have l1 := chgR_l (r := r) (g := g) (k := k) (t := who r h j) (x := thr r g k) g20 hk h3a (fun i j q1 q2 => hV.2.2.2.1 g i j g20 q1 q2) hna
  obtain ⟨r1, hr1⟩ : ∃ r1, r1 = chgR r g k (who r h j) (thr r g k) := ⟨_, rfl⟩
  rw [← hr1] at o1 w1 s1 hW1 hV1 l1 ⊢
  have e106 : r1 (106 + h) = r (106 + h) := o1 _ (by omega)
  have hwh : ∀ i, i < 3 → who r1 h i = who r h i ∧ thr r1 h i = thr r h i := fun i hi => by
    have := w1 h i h20 hi
    rw [if_neg (fun (z : h = g ∧ i = k) => hn z.1.symm), if_neg (fun (z : h = g ∧ i = k) => hn z.1.symm)] at this
    exact this
  have hnb : ∀ i, i < r1 (106 + h) → i ≠ j → who r1 h i ≠ who r g k := fun i hi _ z => by
    rw [e106] at hi
    rw [(hwh i (by omega)).1] at z
    exact n1 ⟨i, hi, z⟩
  have o2 := fun i (hi : i < 126 ∨ 246 ≤ i) => chgR_o (r := r1) (t := who r g k) (x := thr r h j) h20 j3 hi
  have w2 := chgR_w (r := r1) (t := who r g k) (x := thr r h j) h20 j3
  have s2 : sumN (thr (chgR r1 h j (who r g k) (thr r h j)) h) (r1 (106 + h)) ≤ r1 (86 + h) := by
    rw [sumN_congr (g := thr r h) _ (fun i hi => by
      rw [e106] at hi
      rw [(w2 h i h20 (by omega)).2]
      by_cases c : i = j
      · rw [if_pos ⟨rfl, c⟩, c]
      · rw [if_neg (fun z => c z.2), (hwh i (by omega)).2]), e106, o1 _ (by omega)]
    exact hV.2.2.2.2.1 h h20
  have l2 := chgR_l (r := r1) (g := h) (k := j) (t := who r g k) (x := thr r h j) h20 (by rw [e106]; exact hj) (fun i hi => by rw [o1 _ (by omega)]; exact h3a i hi) (fun i j q1 q2 => hV1.2.2.2.1 h i j h20 q1 q2) hnb
  rw [(hwh j j3).1] at l2
  refine ⟨WFr_chg hW1 h20 j3 (by omega) th, VP_chg hW1 hV1 (by rw [o1 1 (by omega)]; exact hh) (by rw [e106]; exact hj) (by rw [o1 0 (by omega)]; exact wg.1) wh.2 hnb s2, fun i hi => (o2 i hi).trans (o1 i hi), ?_, ?_, ?_, ?_, fun u i hi => ?_⟩
  · rw [(w2 g k g20 k3).1, if_neg (fun (z : g = h ∧ k = j) => hn z.1), (w1 g k g20 k3).1, if_pos ⟨rfl, rfl⟩]
  · rw [(w2 h j h20 j3).1, if_pos ⟨rfl, rfl⟩]
  · rw [(w2 g k g20 k3).2, if_neg (fun (z : g = h ∧ k = j) => hn z.1), (w1 g k g20 k3).2, if_pos ⟨rfl, rfl⟩]
  · rw [(w2 h j h20 j3).2, if_pos ⟨rfl, rfl⟩]
  · rw [l2 u i hi, l1 u i hi]
/-- the two questions of an exchange, in the row before -/
theorem ex_allow (hW : WFr r) (hV : VP r) (hx : EXok r g k h j) : (allowN (exR r g k h j) (dayN (exR r g k h j) (who r h j) g 1) (who r h j) (exR r g k h j (46 + g)) (thr r g k) ↔ allowT r (fun i => if i = h then 0 else ldT r (who r h j) i) (who r h j) g (thr r g k)) ∧ (allowN (exR r g k h j) (dayN (exR r g k h j) (who r g k) h 1) (who r g k) (exR r g k h j (46 + h)) (thr r h j) ↔ allowT r (fun i => if i = g then 0 else ldT r (who r g k) i) (who r g k) h (thr r h j)) := by
  obtain ⟨hW2, hV2, o, -, -, -, -, l⟩ := ex_facts hW hV hx
  obtain ⟨hg, hk, hh, hj, hn, n1, n2⟩ := hx
  have h1 := hW.2.2.1
  have h0 := hW.2.1
  have wg := hV.2.2.1 g k (by omega) hk
  have wh := hV.2.2.1 h j (by omega) hj
  have ne : who r h j ≠ who r g k := fun z => n1 ⟨j, hj, z⟩
  constructor
  · rw [allow_iff hW2 hV2.1 (by rw [o 1 (by omega)]; exact hg) (TD_day hV2.1 _ g)]
    refine (allowT_row (T := load (exR r g k h j) (who r h j)) o h1 (t := who r h j) (g := g) (x := thr r g k) (by omega) hg).trans (allowT_same hg (fun i hi hng => ?_))
    rw [l _ _ (by omega), if_neg (fun z => ne z.2)]
    by_cases c : i = h
    · rw [if_pos ⟨c, rfl⟩, if_pos c]
    · rw [if_neg (fun z => c z.1), if_neg (fun z => hng z.1), if_neg (fun z => hng z.1), if_neg c, ldT_lt (by omega)]
  · rw [allow_iff hW2 hV2.1 (by rw [o 1 (by omega)]; exact hh) (TD_day hV2.1 _ h)]
    refine (allowT_row (T := load (exR r g k h j) (who r g k)) o h1 (t := who r g k) (g := h) (x := thr r h j) (by omega) hh).trans (allowT_same hh (fun i hi hng => ?_))
    rw [l _ _ (by omega), if_neg (fun z => hng z.1), if_neg (fun z => hng z.1), if_neg (fun z => ne z.2.symm)]
    by_cases c : i = g
    · rw [if_pos ⟨c, rfl⟩, if_pos c]
    · rw [if_neg (fun z => c z.1), if_neg c, ldT_lt (by omega)]
end EX
