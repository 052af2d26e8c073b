/-! the class: what its cells hold of the row -/
def CT (w : Wd) (r : Nat → Nat) : Prop :=
  w.1 13 0 = nI (r 0) ∧ w.1 13 4 = nI (r 1) ∧ w.1 13 7 = nI (r 2) ∧
  (∀ t, t < r 0 → w.1 15 t = nI (r (6 + t)) ∧ w.1 16 (t * 4 + 0) = nI (r (14 + t)) ∧ w.1 16 (t * 4 + 1) = nI (r (22 + t)) ∧ w.1 16 (t * 4 + 2) = nI (r (30 + t)) ∧ w.1 16 (t * 4 + 3) = nI (r (38 + t))) ∧
  (∀ g, g < r 1 → w.1 17 (g * 3 + 0) = nI (r (46 + g)) ∧ w.1 17 (g * 3 + 1) = nI (r (66 + g)) ∧ w.1 17 (g * 3 + 2) = nI (r (86 + g))) ∧
  (w.1 18 0 = nI (r 3) ∧ w.1 18 1 = nI (r 4) ∧ w.1 18 2 = nI (r 5)) ∧
  (∀ i, i < r 2 → w.1 19 i = nI (r (246 + i)) ∧ w.1 20 i = nI (r (251 + i)))
def CP (w : Wd) (r : Nat → Nat) : Prop :=
  (∀ g, g < 20 → w.1 22 g = nI (r (106 + g))) ∧
  (∀ g k, g < 20 → k < r (106 + g) → w.1 23 (g * 3 + k) = nI (who r g k) ∧ w.1 24 (g * 3 + k) = nI (thr r g k)) ∧
  (∀ t g, t < 8 → g < 20 → w.1 25 (t * 20 + g) = nI (load r t g))
/-- what holds of every row that can come -/
def VP (r : Nat → Nat) : Prop :=
  DayUp r ∧ (∀ g, r 1 ≤ g → g < 20 → r (106 + g) = 0) ∧ (∀ g k, g < 20 → k < r (106 + g) → who r g k < r 0 ∧ 1 ≤ thr r g k) ∧
  (∀ g j k, g < 20 → j < k → k < r (106 + g) → who r g j ≠ who r g k) ∧ (∀ g, g < 20 → sumN (thr r g) (r (106 + g)) ≤ r (86 + g)) ∧ (∀ t, t < r 0 → 1 ≤ r (22 + t)) ∧ (∀ g, g < r 1 → 1 ≤ r (86 + g))
theorem CT.off {S : Nat → Prop} {w w1 : Wd} {r : Nat → Nat} (h : CT w r) (ho : Off S w w1) (hs : ∀ c, 13 ≤ c → c ≤ 20 → ¬ S c) : CT w1 r := by
  unfold CT at h ⊢
  rw [(ho 13 (hs 13 (by decide) (by decide))).1, (ho 15 (hs 15 (by decide) (by decide))).1, (ho 16 (hs 16 (by decide) (by decide))).1, (ho 17 (hs 17 (by decide) (by decide))).1, (ho 18 (hs 18 (by decide) (by decide))).1, (ho 19 (hs 19 (by decide) (by decide))).1, (ho 20 (hs 20 (by decide) (by decide))).1]
  exact h
theorem CP.off {S : Nat → Prop} {w w1 : Wd} {r : Nat → Nat} (h : CP w r) (ho : Off S w w1) (hs : ∀ c, 21 ≤ c → c ≤ 25 → ¬ S c) : CP w1 r := by
  unfold CP at h ⊢
  rw [(ho 22 (hs 22 (by decide) (by decide))).1, (ho 23 (hs 23 (by decide) (by decide))).1, (ho 24 (hs 24 (by decide) (by decide))).1, (ho 25 (hs 25 (by decide) (by decide))).1]
  exact h
theorem load_of {r : Nat → Nat} {t g : Nat} (hd : ∀ j k, j < k → k < r (106 + g) → who r g j ≠ who r g k) {k : Nat} (hk : k < r (106 + g)) (hw : who r g k = t) : load r t g = thr r g k := by
  unfold load
  have key : ∀ n, n ≤ r (106 + g) → sumN (fun k => if who r g k = t then thr r g k else 0) n = if k < n then thr r g k else 0 := by
    intro n
    induction n with
    | zero => intro _; rfl
    | succ n ih =>
      intro hn
      show sumN _ n + (if who r g n = t then thr r g n else 0) = _
      rw [ih (by omega)]
      rcases Nat.lt_trichotomy k n with q | q | q
      · rw [if_pos q, if_pos (show k < n + 1 by omega), if_neg (fun e => hd k n q (by omega) (hw.trans e.symm))]
        rfl
      · subst q
        rw [if_neg (show ¬ k < k by omega), if_pos hw, if_pos (show k < k + 1 by omega), Nat.zero_add]
      · rw [if_neg (show ¬ k < n by omega), if_neg (show ¬ k < n + 1 by omega), if_neg (fun (e : who r g n = t) => hd n k q hk (e.trans hw.symm))]
  rw [key _ (Nat.le_refl _), if_pos hk]
theorem load_no {r : Nat → Nat} {t g : Nat} (h : ¬ isIn r t g) : load r t g = 0 := by
  unfold load
  refine sumN_zero _ (fun k hk => ?_)
  show (if who r g k = t then _ else _) = 0
  rw [if_neg (fun e => h ⟨k, hk, e⟩)]
theorem load_pos {r : Nat → Nat} (hV : VP r) {t g : Nat} (hg : g < 20) : 0 < load r t g ↔ isIn r t g := by
  constructor
  · intro h
    refine Classical.byContradiction (fun q => ?_)
    rw [load_no q] at h
    omega
  · rintro ⟨k, hk, hw⟩
    rw [load_of (fun j k a b => hV.2.2.2.1 g j k hg a b) hk hw]
    exact (hV.2.2.1 g k hg hk).2
theorem load_le2 {r : Nat → Nat} (hW : WFr r) (hV : VP r) {t g : Nat} (hg : g < 20) : load r t g ≤ 120 := by
  rcases Classical.em (isIn r t g) with ⟨k, hk, hw⟩ | q
  · rw [load_of (fun j k a b => hV.2.2.2.1 g j k hg a b) hk hw]
    have := (hW.2.2.2.2.2.2.2.1 g hg).2.2.2
    exact (hW.2.2.2.2.2.2.2.2.1 (3 * g + k) (by omega)).2
  · rw [load_no q]
    omega
theorem pts_e {r : Nat → Nat} (hW : WFr r) {t g : Nat} (ht : t < 8) (hg : g < 20) : (nI (r (14 + t)) + nI (r 4) * (nI (ownN r t g) - (nI 9 - nI (ownN r t g)))).toInt = ((r (14 + t) + r 4 * (2 * ownN r t g) : Nat) : Int) - ((r 4 * 9 : Nat) : Int) := by
  have hT := hW.2.2.2.2.2.2.1 t ht
  have hG := hW.2.2.2.2.2.2.2.1 g hg
  have h4 := hW.2.2.2.2.1
  have ho := own_le (t := t) hG.2.1
  have m1 : r 4 * (2 * ownN r t g) ≤ 9 * 18 := Nat.mul_le_mul h4 (by omega)
  have e1 : nI (r (14 + t)) + nI (r 4) * (nI (ownN r t g) - (nI 9 - nI (ownN r t g))) = nI (r (14 + t) + r 4 * (2 * ownN r t g)) - nI (r 4 * 9) := by
    rw [show r 4 * (2 * ownN r t g) = r 4 * ownN r t g + r 4 * ownN r t g by rw [Nat.two_mul, Nat.mul_add], ← nI_add, ← nI_add, ← pk_mul, ← pk_mul]
    generalize nI (r (14 + t)) = a
    generalize nI (r 4) = b
    generalize nI (ownN r t g) = o
    generalize nI 9 = n
    grind
  rw [e1, pk_sub_toInt (by omega) (by omega)]
theorem pts_v {r : Nat → Nat} (hW : WFr r) {t g : Nat} (ht : t < 8) (hg : g < 20) {v : Int32} (hv : v = nI (r (14 + t)) + nI (r 4) * (nI (ownN r t g) - (nI 9 - nI (ownN r t g)))) : (if nI 0 < v then v else nI 0) = nI (pointsN r t g) := by
  have e := pts_e hW ht hg
  rw [← hv] at e
  have hp := points_le hW ht hg
  have z0 : (nI 0).toInt = 0 := by decide
  obtain ⟨X, hX⟩ : ∃ X, X = r 4 * (2 * ownN r t g) := ⟨_, rfl⟩
  have hpe : pointsN r t g = r (14 + t) + X - r 4 * 9 := by rw [hX]; rfl
  rw [← hX] at e
  clear hX
  by_cases q : nI 0 < v
  · rw [if_pos q]
    have q2 := Int32.lt_iff_toInt_lt.mp q
    rw [e, z0] at q2
    apply Int32.toInt_inj.mp
    rw [e, nI_toInt (by omega), hpe]
    omega
  · rw [if_neg q]
    have q2 : ¬ (nI 0).toInt < v.toInt := fun z => q (Int32.lt_iff_toInt_lt.mpr z)
    rw [e, z0] at q2
    have e2 : pointsN r t g = 0 := by omega
    rw [e2]
section CLS
variable {w : Wd} {r : Nat → Nat} {K : Kt}
theorem c_restAfter (hC : CT w r) (hW : WFr r) {x : Nat} (hx : x ≤ 500) (h : K (some (.int (nI (restN r x)))) w) : fX9_restAfter [.ref 13, .int (nI x)] w K := by
  have h2 := hW.2.2.2.1
  refine tX9_restAfter_0 ?_
  have L : ∀ n, n ≤ r 2 → restL r x n = restN r x → RR (tl K lX9_restAfter) 7 [.ref 13, .int (nI x), .int (nI n - nI 1)] [] w := by
    intro n
    induction n with
    | zero =>
      intro _ e
      have e0 : nI 0 - nI 1 = -1 := by decide
      refine tX9_restAfter_7 ⟨fun _ => ?_, fun z => absurd ?_ z⟩
      · rw [← e] at h; exact h
      · rw [e0]; decide
    | succ n ih =>
      intro hn e
      have b := hW.2.2.2.2.2.2.2.2.2 n (by omega)
      rw [show nI (n + 1) - nI 1 = nI n by rw [sub_N (by omega)]; rfl]
      refine tX9_restAfter_7 ⟨fun z => absurd z ?_, fun _ => ⟨vp_in_nI (by omega) (by decide), fun z => ?_, fun z => ?_⟩⟩
      · rw [lt0_N (by omega)]; exact id
      · rw [rd_N (by omega), (hC.2.2.2.2.2.2 n (by omega)).1, lt_N (by omega) (by omega)] at z
        have e1 : nI n + (-1) = nI n - nI 1 := by
          generalize nI n = a
          have : nI 1 = 1 := by decide
          rw [this]
          grind
        rw [e1]
        exact ih (by omega) (by rw [← e]; conv => rhs; unfold restL; rw [if_neg (show ¬ r (246 + n) ≤ x by omega)])
      · rw [rd_N (by omega), (hC.2.2.2.2.2.2 n (by omega)).1, lt_N (by omega) (by omega)] at z
        rw [rd_N (by omega), (hC.2.2.2.2.2.2 n (by omega)).2]
        rw [← e, restL, if_pos (by omega)] at h
        exact h
  rw [hC.2.2.1]
  exact L (r 2) (Nat.le_refl _) rfl
theorem c_pointsOf (hC : CT w r) (hW : WFr r) {t g : Nat} (ht : t < r 0) (hg : g < r 1) (h : K (some (.int (nI (pointsN r t g)))) w) : fX1_pointsOf [.ref 26, .int (nI t), .int (nI g)] w K := by
  have h0 := hW.2.1
  have h1 := hW.2.2.1
  have hT := hW.2.2.2.2.2.2.1 t (by omega)
  have hG := hW.2.2.2.2.2.2.2.1 g (by omega)
  have cT := hC.2.2.2.1 t ht
  have cG := hC.2.2.2.2.1 g hg
  have J : ∀ (a b y : Int32) (u : Value), y = nI (ownN r t g) - (nI 9 - nI (ownN r t g)) → RR (tl K lX1_pointsOf) 40 [.ref 26, .int (nI t), .int (nI g), .int a, .int b, u] [.int y] w := by
    intro a b y u hy
    refine tX1_pointsOf_40 ⟨by rw [pk_mul, nI_add]; exact vp_in_nI (by omega) (by decide), ?_⟩
    rw [pts_v hW (t := t) (g := g) (by omega) (by omega)]
    · exact h
    · rw [pk_mul, nI_add, rd_N (by omega), rd_N (by omega), cT.2.1, hC.2.2.2.2.2.1.2.1, hy]
  refine tX1_pointsOf_0 ⟨by rw [pk_mul, nI_add]; exact vp_in_nI (by omega) (by decide), vp_in_nI (by omega) (by decide), fun z => ?_, fun z => ?_⟩
  · rw [rd_N (by omega), cT.1, eq_N (by omega) (by omega)] at z
    refine J _ _ _ _ ?_
    rw [pk_mul, nI_add, rd_N (by omega), cG.2.1, ownN, if_pos (by omega)]
  · rw [rd_N (by omega), cT.1, eq_N (by omega) (by omega)] at z
    refine J _ _ _ _ ?_
    rw [pk_mul, nI_add, rd_N (by omega), cG.2.1, ownN, if_neg (by omega), ← sub_N hG.2.1]
    generalize nI 9 = a
    generalize nI (r (66 + g)) = b
    grind
theorem c_valueOf (hC : CT w r) (hW : WFr r) {t g x : Nat} (ht : t < r 0) (hg : g < r 1) (hx : x ≤ 200) (h : K (some (.int (nI (worthN r t g x)))) w) : fX1_valueOf [.ref 26, .int (nI t), .int (nI g), .int (nI x)] w K := by
  have h0 := hW.2.1
  have h1 := hW.2.2.1
  have hT := hW.2.2.2.2.2.2.1 t (by omega)
  have cT := hC.2.2.2.1 t ht
  have hp := points_le hW (t := t) (g := g) (by omega) (by omega)
  refine tX1_valueOf_0 ⟨by rw [pk_mul, nI_add]; exact vp_in_nI (by omega) (by decide), c_pointsOf hC hW ht hg ?_⟩
  refine tX1_valueOf_21 ?_
  have e1 : (if rd w 16 (nI t * nI 4 + nI 2) < nI x then rd w 16 (nI t * nI 4 + nI 2) else nI x) = nI (min x (r (30 + t))) := by
    rw [pk_mul, nI_add, rd_N (by omega), cT.2.2.2.1]
    by_cases q : r (30 + t) < x
    · rw [if_pos ((lt_N (by omega) (by omega)).mpr q), Nat.min_eq_right (by omega)]
    · rw [if_neg (fun z => q ((lt_N (by omega) (by omega)).mp z)), Nat.min_eq_left (by omega)]
  have m1 : pointsN r t g * (x - r (30 + t)) ≤ 180 * 200 := Nat.mul_le_mul hp (by omega)
  rw [e1, sub_N (by omega), show x - min x (r (30 + t)) = x - r (30 + t) by omega, pk_mul, pk_mul, div_N (by omega) (by omega) (by omega), nI_add]
  exact h
theorem c_leftIn (hC : CT w r) (hP : CP w r) (hW : WFr r) (hV : VP r) {g : Nat} (hg : g < r 1) (h : K (some (.int (nI (leftN r g)))) w) : fX1_leftIn [.ref 26, .int (nI g)] w K := by
  have h1 := hW.2.2.1
  have hG := hW.2.2.2.2.2.2.2.1 g (by omega)
  have hs := hV.2.2.2.2.1 g (by omega)
  refine tX1_leftIn_0 ⟨by rw [pk_mul, nI_add]; exact vp_in_nI (by omega) (by decide), ?_⟩
  have L : ∀ (n k : Nat) (a : Int32), k + n = r (106 + g) → a = nI (r (86 + g) - sumN (thr r g) k) → RR (tl K lX1_leftIn) 12 [.ref 26, .int (nI g), .int a, .int (nI k)] [] w := by
    intro n
    induction n with
    | zero =>
      intro k a hk ha
      refine tX1_leftIn_12 ⟨vp_in_nI (by omega) (by decide), fun _ => ?_, fun z => absurd ?_ z⟩
      · rw [ha, show k = r (106 + g) by omega]; exact h
      · rw [rd_N (by omega), hP.1 g (by omega), le_N (by omega) (by omega)]; omega
    | succ n ih =>
      intro k a hk ha
      have b := hW.2.2.2.2.2.2.2.2.1 (3 * g + k) (by omega)
      refine tX1_leftIn_12 ⟨vp_in_nI (by omega) (by decide), fun z => absurd z ?_, fun _ => ⟨?_, ?_⟩⟩
      · rw [rd_N (by omega), hP.1 g (by omega), le_N (by omega) (by omega)]; omega
      · rw [pk_mul, nI_add]; exact vp_in_nI (by omega) (by decide)
      · rw [nI_add k 1]
        refine ih (k + 1) _ (by omega) ?_
        have m : sumN (thr r g) (k + 1) ≤ sumN (thr r g) (r (106 + g)) := sumN_mono (by omega)
        have m2 : sumN (thr r g) (k + 1) = sumN (thr r g) k + thr r g k := rfl
        have m3 : thr r g k ≤ 120 := b.2
        rw [pk_mul, nI_add, rd_N (by omega), (hP.2.1 g k (by omega) (by omega)).2, ha, sub_N (by omega)]
        congr 1
        omega
  exact L (r (106 + g)) 0 _ (by omega) (by rw [pk_mul, nI_add, rd_N (by omega), (hC.2.2.2.2.1 g hg).2.2]; rfl)
theorem c_valueAt (hC : CT w r) (hP : CP w r) (hW : WFr r) (hV : VP r) {g k : Nat} (hg : g < r 1) (hk : k < r (106 + g)) (h : K (some (.int (nI (worthN r (who r g k) g (thr r g k))))) w) : fX1_valueAt [.ref 26, .int (nI g), .int (nI k)] w K := by
  have h1 := hW.2.2.1
  have hG := hW.2.2.2.2.2.2.2.1 g (by omega)
  have b := hW.2.2.2.2.2.2.2.2.1 (3 * g + k) (by omega)
  have v := hV.2.2.1 g k (by omega) hk
  have p := hP.2.1 g k (by omega) hk
  have m3 : thr r g k ≤ 120 := b.2
  refine tX1_valueAt_0 ⟨by rw [pk_mul, nI_add]; exact vp_in_nI (by omega) (by decide), ?_⟩
  rw [pk_mul, nI_add, rd_N (by omega), rd_N (by omega), p.1, p.2]
  exact c_valueOf hC hW v.1 hg (by omega) (tX1_valueAt_23 h)
theorem c_valueOfGame (hC : CT w r) (hP : CP w r) (hW : WFr r) (hV : VP r) {g : Nat} (hg : g < r 1) (h : K (some (.int (valI r g))) w) : fX1_valueOfGame [.ref 26, .int (nI g)] w K := by
  have h1 := hW.2.2.1
  have hG := hW.2.2.2.2.2.2.2.1 g (by omega)
  refine tX1_valueOfGame_0 ?_
  have L : ∀ (n k : Nat) (a : Int32), k + n = r (106 + g) → a = sumI (fun k => nI (worthN r (who r g k) g (thr r g k))) k → RR (tl K lX1_valueOfGame) 4 [.ref 26, .int (nI g), .int a, .int (nI k)] [] w := by
    intro n
    induction n with
    | zero =>
      intro k a hk ha
      refine tX1_valueOfGame_4 ⟨vp_in_nI (by omega) (by decide), fun _ => ?_, fun z => absurd ?_ z⟩
      · rw [ha, show k = r (106 + g) by omega]; exact h
      · rw [rd_N (by omega), hP.1 g (by omega), le_N (by omega) (by omega)]; omega
    | succ n ih =>
      intro k a hk ha
      refine tX1_valueOfGame_4 ⟨vp_in_nI (by omega) (by decide), fun z => absurd z ?_, fun _ => ?_⟩
      · rw [rd_N (by omega), hP.1 g (by omega), le_N (by omega) (by omega)]; omega
      · refine c_valueAt hC hP hW hV hg (by omega) ?_
        refine tX1_valueOfGame_24 ?_
        rw [nI_add k 1]
        exact ih (k + 1) _ (by omega) (by rw [ha]; rfl)
  exact L (r (106 + g)) 0 _ (by omega) rfl
end CLS
