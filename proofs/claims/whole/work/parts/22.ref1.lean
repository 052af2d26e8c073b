/-! the reference's reading methods -/
section REF
variable {w : Wd} {r : Nat → Nat} {K : Kt}
theorem g_restOf (hM : RM w r) (hW : WFr r) {x : Nat} (hx : x ≤ 500) (h : K (some (.int (nI (restN r x)))) w) : fX11_restOf [.ref 41, .int (nI x)] w K := by
  obtain ⟨hB, -, -, h2, -⟩ := hW
  refine tX11_restOf_0 ?_
  have L : ∀ (n k : Nat) (a : Int32), k + n = r 2 → a = nI (restL r x k) → RR (tl K lX11_restOf) 4 [.ref 41, .int (nI x), .int a, .int (nI k)] [] w := by
    intro n
    induction n with
    | zero =>
      intro k a hk ha
      refine tX11_restOf_4 ⟨fun _ => ?_, fun z => absurd ?_ z⟩
      · rw [ha, show k = r 2 by omega]; exact h
      · rw [rdM hM (by omega), le_N (by omega) (by omega)]; omega
    | succ n ih =>
      intro k a hk ha
      have b1 := hB (246 + k)
      refine tX11_restOf_4 ⟨fun z => absurd z ?_, fun _ => ⟨?_, fun z => ?_, fun z => ⟨?_, ?_⟩⟩⟩
      · rw [rdM hM (by omega), le_N (by omega) (by omega)]; omega
      · rw [nI_add]; exact vp_in_nI (by omega) (by decide)
      · rw [nI_add, rdM hM (by omega), lt_N (by omega) (by omega)] at z
        rw [nI_add]
        exact ih (k + 1) _ (by omega) (by rw [ha, restL, if_neg (by omega)])
      · rw [nI_add]; exact vp_in_nI (by omega) (by decide)
      · rw [nI_add, rdM hM (by omega), lt_N (by omega) (by omega)] at z
        rw [nI_add, rdM hM (by omega), nI_add]
        exact ih (k + 1) _ (by omega) (by rw [restL, if_pos (by omega)])
  exact L (r 2) 0 _ (by omega) rfl
theorem g_pointsOf (hM : RM w r) (hW : WFr r) {t g : Nat} (ht : t < 8) (hg : g < 20) (h : K (some (.int (nI (pointsN r t g)))) w) : fX11_pointsOf [.ref 41, .int (nI t), .int (nI g)] w K := by
  have hT := hW.2.2.2.2.2.2.1 t ht
  have hG := hW.2.2.2.2.2.2.2.1 g hg
  have h4 := hW.2.2.2.2.1
  have J : ∀ (y : Int32) (u v : Value), y = nI (ownN r t g) → RR (tl K lX11_pointsOf) 36 [.ref 41, .int (nI t), .int (nI g), u, v] [.int y] w := by
    intro y u v hy
    have ho := own_le (t := t) hG.2.1
    obtain ⟨X, hX⟩ : ∃ X, X = r 4 * (2 * ownN r t g) := ⟨_, rfl⟩
    have m1 : r 4 * (2 * ownN r t g) ≤ 9 * 18 := Nat.mul_le_mul h4 (by omega)
    have hp := points_le hW ht hg
    have hpe : pointsN r t g = r (14 + t) + X - r 4 * 9 := by rw [hX]; rfl
    have e : (rd w 43 (nI 14 + nI t) + rd w 43 (nI 4) * (y - (nI 9 - y))).toInt = ((r (14 + t) + X : Nat) : Int) - ((r 4 * 9 : Nat) : Int) := by
      rw [nI_add, rdM hM (by omega), rdM hM (by omega), hy]
      have e1 : nI (r (14 + t)) + nI (r 4) * (nI (ownN r t g) - (nI 9 - nI (ownN r t g))) = nI (r (14 + t) + X) - nI (r 4 * 9) := by
        rw [hX, show r 4 * (2 * ownN r t g) = r 4 * ownN r t g + r 4 * ownN r t g by rw [Nat.two_mul, Nat.mul_add], ← nI_add, ← nI_add, ← pk_mul, ← pk_mul]
        generalize nI (r (14 + t)) = a
        generalize nI (r 4) = b
        generalize nI (ownN r t g) = o
        generalize nI 9 = n
        grind
      rw [e1, pk_sub_toInt (by omega) (by omega)]
    clear hX m1
    have z0 : (0 : Int32).toInt = 0 := by decide
    refine tX11_pointsOf_36 ⟨?_, fun z => ?_, fun z => ?_⟩
    · rw [nI_add]; exact vp_in_nI (by omega) (by decide)
    · have z1 := Int32.le_iff_toInt_le.mp z
      rw [e, z0] at z1
      have e2 : rd w 43 (nI 14 + nI t) + rd w 43 (nI 4) * (y - (nI 9 - y)) = nI (pointsN r t g) := by
        apply Int32.toInt_inj.mp
        rw [e, nI_toInt (by omega), hpe]
        omega
      rw [e2]
      exact h
    · have z1 : ¬ (0 : Int32).toInt ≤ _ := fun q => z (Int32.le_iff_toInt_le.mpr q)
      rw [e, z0] at z1
      have e2 : pointsN r t g = 0 := by
        rw [hpe]
        omega
      rw [e2] at h
      exact h
  have b6 := hT.1
  refine tX11_pointsOf_0 ⟨?_, fun z => ⟨?_, J _ _ _ ?_⟩, fun z => ⟨?_, J _ _ _ ?_⟩⟩
  · rw [nI_add]; exact vp_in_nI (by omega) (by decide)
  · rw [nI_add]; exact vp_in_nI (by omega) (by decide)
  · rw [nI_add, rdM hM (by omega), eq0_N (by omega)] at z
    rw [nI_add, rdM hM (by omega), sub_N hG.2.1, ownN, if_neg z]
  · rw [nI_add]; exact vp_in_nI (by omega) (by decide)
  · rw [nI_add, rdM hM (by omega), eq0_N (by omega)] at z
    rw [nI_add, rdM hM (by omega), ownN, if_pos z]
theorem g_worthOf (hM : RM w r) (hW : WFr r) {t g x : Nat} (ht : t < 8) (hg : g < 20) (hx : x ≤ 200) (h : K (some (.int (nI (worthN r t g x)))) w) : fX11_worthOf [.ref 41, .int (nI t), .int (nI g), .int (nI x)] w K := by
  have hT := hW.2.2.2.2.2.2.1 t ht
  have hp := points_le hW ht hg
  refine tX11_worthOf_0 ⟨by rw [nI_add]; exact vp_in_nI (by omega) (by decide), g_pointsOf hM hW ht hg ?_⟩
  refine tX11_worthOf_14 (g_pointsOf hM hW ht hg ?_)
  refine tX11_worthOf_25 ?_
  have e : nI (pointsN r t g) * (nI x - abI (rd w 43 (nI 30 + nI t)) (nI x)) + nI (pointsN r t g) * abI (rd w 43 (nI 30 + nI t)) (nI x) / nI 2 = nI (worthN r t g x) := by
    have m1 : pointsN r t g * (x - r (30 + t)) ≤ 180 * 200 := Nat.mul_le_mul hp (by omega)
    rw [nI_add, rdM hM (by omega), abI_N (by omega) (by omega), sub_N (by omega), pk_mul, pk_mul, div_N (by omega) (by omega) (by omega), nI_add]
    unfold worthN
    congr 3
    omega
  rw [e]
  exact h
theorem g_riskOf (hM : RM w r) (hW : WFr r) {t x : Nat} (ht : t < 8) (hx : x ≤ 200) (h : K (some (.int (nI (riskN r t x)))) w) : fX11_riskOf [.ref 41, .int (nI t), .int (nI x)] w K := by
  have hT := hW.2.2.2.2.2.2.1 t ht
  refine tX11_riskOf_0 ⟨by rw [nI_add]; exact vp_in_nI (by omega) (by decide), by rw [nI_add]; exact vp_in_nI (by omega) (by decide), ?_⟩
  rw [nI_add, nI_add, rdM hM (by omega), rdM hM (by omega), abI_N (by omega) (by omega), pk_mul]
  exact h
theorem g_leftOf (hM : RM w r) (hW : WFr r) {g : Nat} (hg : g < 20) (hs : sumN (thr r g) (r (106 + g)) ≤ r (86 + g)) (h : K (some (.int (nI (leftN r g)))) w) : fX11_leftOf [.ref 41, .int (nI g)] w K := by
  have hG := hW.2.2.2.2.2.2.2.1 g hg
  refine tX11_leftOf_0 ⟨by rw [nI_add]; exact vp_in_nI (by omega) (by decide), ?_⟩
  have L : ∀ (n k : Nat) (a : Int32), k + n = r (106 + g) → a = nI (r (86 + g) - sumN (thr r g) k) → RR (tl K lX11_leftOf) 12 [.ref 41, .int (nI g), .int a, .int (nI k)] [] w := by
    intro n
    induction n with
    | zero =>
      intro k a hk ha
      refine tX11_leftOf_12 ⟨by rw [nI_add]; exact vp_in_nI (by omega) (by decide), fun _ => ?_, fun z => absurd ?_ z⟩
      · rw [ha, show k = r (106 + g) by omega]; exact h
      · rw [nI_add, rdM hM (by omega), le_N (by omega) (by omega)]; omega
    | succ n ih =>
      intro k a hk ha
      have b := hW.2.2.2.2.2.2.2.2.1 (3 * g + k) (by omega)
      refine tX11_leftOf_12 ⟨by rw [nI_add]; exact vp_in_nI (by omega) (by decide), fun z => absurd z ?_, fun _ => ⟨?_, ?_⟩⟩
      · rw [nI_add, rdM hM (by omega), le_N (by omega) (by omega)]; omega
      · rw [pk_mul, nI_add, nI_add]; exact vp_in_nI (by omega) (by decide)
      · rw [nI_add k 1]
        refine ih (k + 1) _ (by omega) ?_
        have m : sumN (thr r g) (k + 1) ≤ sumN (thr r g) (r (106 + g)) := sumN_mono (by omega)
        have m2 : sumN (thr r g) (k + 1) = sumN (thr r g) k + r (186 + (3 * g + k)) := rfl
        rw [pk_mul, nI_add, nI_add, rdM hM (by omega), ha, sub_N (by omega)]
        congr 1
        omega
  exact L (r (106 + g)) 0 _ (by omega) (by rw [nI_add, rdM hM (by omega)]; rfl)
theorem g_valueOf (hM : RM w r) (hW : WFr r) {g : Nat} (hg : g < 20) (h : K (some (.int (valI r g))) w) : fX11_valueOf [.ref 41, .int (nI g)] w K := by
  have hG := hW.2.2.2.2.2.2.2.1 g hg
  refine tX11_valueOf_0 ?_
  have L : ∀ (n k : Nat) (a : Int32), k + n = r (106 + g) → a = sumI (fun k => nI (worthN r (who r g k) g (thr r g k))) k → RR (tl K lX11_valueOf) 4 [.ref 41, .int (nI g), .int a, .int (nI k)] [] w := by
    intro n
    induction n with
    | zero =>
      intro k a hk ha
      refine tX11_valueOf_4 ⟨by rw [nI_add]; exact vp_in_nI (by omega) (by decide), fun _ => ?_, fun z => absurd ?_ z⟩
      · rw [ha, show k = r (106 + g) by omega]; exact h
      · rw [nI_add, rdM hM (by omega), le_N (by omega) (by omega)]; omega
    | succ n ih =>
      intro k a hk ha
      have b := hW.2.2.2.2.2.2.2.2.1 (3 * g + k) (by omega)
      refine tX11_valueOf_4 ⟨by rw [nI_add]; exact vp_in_nI (by omega) (by decide), fun z => absurd z ?_, fun _ => ⟨?_, ?_, ?_⟩⟩
      · rw [nI_add, rdM hM (by omega), le_N (by omega) (by omega)]; omega
      · rw [pk_mul, nI_add, nI_add]; exact vp_in_nI (by omega) (by decide)
      · rw [pk_mul, nI_add, nI_add]; exact vp_in_nI (by omega) (by decide)
      · rw [pk_mul, nI_add, nI_add, nI_add, rdM hM (by omega), rdM hM (by omega)]
        refine g_worthOf hM hW (by omega) hg (by omega) ?_
        refine tX11_valueOf_35 ?_
        rw [nI_add k 1]
        exact ih (k + 1) _ (by omega) (by rw [ha]; rfl)
  exact L (r (106 + g)) 0 _ (by omega) rfl
theorem g_isIn (hM : RM w r) (hW : WFr r) {t g : Nat} (ht : t < 2147483648) (hg : g < 20) (h : ∀ v : Int32, (v = nI 1 ∧ isIn r t g) ∨ (v = nI 0 ∧ ¬ isIn r t g) → K (some (.int v)) w) : fX11_isIn [.ref 41, .int (nI t), .int (nI g)] w K := by
  have hG := hW.2.2.2.2.2.2.2.1 g hg
  refine tX11_isIn_0 ?_
  have L : ∀ (n k : Nat) (a : Int32), k + n = r (106 + g) → ((a = nI 1 ∧ ∃ j, j < k ∧ who r g j = t) ∨ (a = nI 0 ∧ ¬ ∃ j, j < k ∧ who r g j = t)) → RR (tl K lX11_isIn) 5 [.ref 41, .int (nI t), .int (nI g), .int a, .int (nI k)] [] w := by
    intro n
    induction n with
    | zero =>
      intro k a hk ha
      have e : k = r (106 + g) := by omega
      subst e
      refine tX11_isIn_5 ⟨by rw [nI_add]; exact vp_in_nI (by omega) (by decide), fun _ => ⟨?_, h a ha⟩, fun z => absurd ?_ z⟩
      · rcases ha with ha | ha
        · exact Or.inr ha.1
        · exact Or.inl ha.1
      · rw [nI_add, rdM hM (by omega), le_N (by omega) (by omega)]; omega
    | succ n ih =>
      intro k a hk ha
      have b := hW.2.2.2.2.2.2.2.2.1 (3 * g + k) (by omega)
      refine tX11_isIn_5 ⟨by rw [nI_add]; exact vp_in_nI (by omega) (by decide), fun z => absurd z ?_, fun _ => ⟨fun z => ?_, fun z => ⟨?_, fun z2 => ?_, fun z2 => ?_⟩⟩⟩
      · rw [nI_add, rdM hM (by omega), le_N (by omega) (by omega)]; omega
      · rw [nI_add]
        refine ih (k + 1) _ (by omega) (Or.inl ⟨rfl, ?_⟩)
        rcases ha with ⟨-, j, hj, e⟩ | ha
        · exact ⟨j, by omega, e⟩
        · exact absurd ha.1 z
      · rw [pk_mul, nI_add, nI_add]; exact vp_in_nI (by omega) (by decide)
      · rw [pk_mul, nI_add, nI_add, rdM hM (by omega), eq_N (by omega) (by omega)] at z2
        rw [nI_add]
        refine ih (k + 1) _ (by omega) (Or.inr ⟨rfl, ?_⟩)
        rintro ⟨j, hj, e⟩
        rcases ha with ha | ha
        · rw [ha.1] at z
          exact absurd z (by decide)
        · rcases Nat.lt_or_ge j k with q | q
          · exact ha.2 ⟨j, q, e⟩
          · rw [show j = k by omega] at e
            exact z2 e
      · rw [pk_mul, nI_add, nI_add, rdM hM (by omega), eq_N (by omega) (by omega)] at z2
        rw [nI_add]
        exact ih (k + 1) _ (by omega) (Or.inl ⟨rfl, k, by omega, z2⟩)
  exact L (r (106 + g)) 0 _ (by omega) (Or.inr ⟨rfl, by rintro ⟨j, hj, -⟩; omega⟩)
theorem g_outingsAll (hM : RM w r) (hW : WFr r) (h : K (some (.int (sumI (fun g => nI (r (106 + g))) (r 1)))) w) : fX11_outingsAll [.ref 41] w K := by
  have h1 := hW.2.2.1
  refine tX11_outingsAll_0 ?_
  have L : ∀ (n k : Nat) (a : Int32), k + n = r 1 → a = sumI (fun g => nI (r (106 + g))) k → RR (tl K lX11_outingsAll) 4 [.ref 41, .int a, .int (nI k)] [] w := by
    intro n
    induction n with
    | zero =>
      intro k a hk ha
      refine tX11_outingsAll_4 ⟨fun _ => ?_, fun z => absurd ?_ z⟩
      · rw [ha, show k = r 1 by omega]; exact h
      · rw [rdM hM (by omega), le_N (by omega) (by omega)]; omega
    | succ n ih =>
      intro k a hk ha
      refine tX11_outingsAll_4 ⟨fun z => absurd z ?_, fun _ => ⟨by rw [nI_add]; exact vp_in_nI (by omega) (by decide), ?_⟩⟩
      · rw [rdM hM (by omega), le_N (by omega) (by omega)]; omega
      · rw [nI_add, nI_add, rdM hM (by omega)]
        exact ih (k + 1) _ (by omega) (by rw [ha]; rfl)
  exact L (r 1) 0 _ (by omega) rfl
end REF
