/-! the diary -/
def DI (w : Wd) (T : Nat → Nat) (t : Nat) : Prop := w.1 27 2 = nI t ∧ ∀ h, h < 20 → w.1 28 h = nI (T h)
noncomputable def orB (a : Int32) (p : Prop) (k : Nat) : Int32 := bif dec p then a ||| nI k else a
theorem orB_t {a : Int32} {p : Prop} {k : Nat} (h : p) : orB a p k = a ||| nI k := by unfold orB; rw [dec_t h]; rfl
theorem orB_f {a : Int32} {p : Prop} {k : Nat} (h : ¬ p) : orB a p k = a := by unfold orB; rw [dec_f h]; rfl
noncomputable def clashB (p1 p2 p4 p8 : Prop) : Int32 := orB (orB (orB (orB (nI 0) p1 1) p2 2) p4 4) p8 8
theorem clash_0 {p1 p2 p4 p8 : Prop} : clashB p1 p2 p4 p8 = 0 ↔ ¬ p1 ∧ ¬ p2 ∧ ¬ p4 ∧ ¬ p8 := by
  unfold clashB
  rcases Classical.em p1 with a | a <;> rcases Classical.em p2 with b | b <;> rcases Classical.em p4 with c | c <;> rcases Classical.em p8 with d | d <;>
    simp only [orB_t, orB_f, a, b, c, d, not_true_eq_false, not_false_eq_true, and_true, true_and, and_false, false_and, iff_true, iff_false] <;> decide
section CLS2
variable {w : Wd} {r T : Nat → Nat} {K : Kt} {t : Nat}
theorem c_isRested (hC : CT w r) (hW : WFr r) (hd : DayUp r) (hI : DI w T t) (hTb : ∀ h, T h ≤ 500) {g : Nat} (hg : g < r 1) (h : ∀ v, isB v (rested r T g) → K (some (.int v)) w) : fX3_isRested [.ref 27, .int (nI g)] w K := by
  have h1 := hW.2.2.1
  have hG : ∀ h, h < r 1 → r (46 + h) ≤ 59 := fun h hh => (hW.2.2.2.2.2.2.2.1 h (by omega)).1
  have rb : ∀ y, restN r y ≤ 9 := fun y => restL_le (fun i hi => (hW.2.2.2.2.2.2.2.2.2 i hi).2) y (r 2) hW.2.2.2.1
  refine tX3_isRested_0 ?_
  have L : ∀ (n k : Nat), k + n = g → (∀ q, q < k → 0 < T q → restN r (T q) < r (46 + g) - r (46 + q)) → RR (tl K lX3_isRested) 2 [.ref 27, .int (nI g), .int (nI k)] [] w := by
    intro n
    induction n with
    | zero =>
      intro k hk hR
      refine tX3_isRested_2 ⟨fun _ => h _ (Or.inl ⟨rfl, ?_⟩), fun z => absurd ?_ z⟩
      · rw [show k = g by omega] at hR; exact hR
      · rw [le_N (by omega) (by omega)]; omega
    | succ n ih =>
      intro k hk hR
      have bT := hTb k
      have b1 := hG k (by omega)
      have b2 := hG g hg
      have up := hd k g (by omega) hg
      have next : (0 < T k → restN r (T k) < r (46 + g) - r (46 + k)) → RR (tl K lX3_isRested) 2 [.ref 27, .int (nI g), .int (nI k + nI 1)] [] w := by
        intro ho
        rw [nI_add]
        refine ih (k + 1) (by omega) (fun q hq => ?_)
        rcases Nat.lt_or_ge q k with p | p
        · exact hR q p
        · rw [show q = k by omega]; exact ho
      refine tX3_isRested_2 ⟨fun z => absurd z ?_, fun _ => ⟨vp_in_nI (by omega) (by decide), fun z => next ?_, fun z => ⟨?_, ?_, ?_⟩⟩⟩
      · rw [le_N (by omega) (by omega)]; omega
      · rw [rd_N (by omega), hI.2 k (by omega), le0_N (by omega)] at z
        intro p
        omega
      · rw [pk_mul, nI_add]; exact vp_in_nI (by omega) (by decide)
      · rw [pk_mul, nI_add]; exact vp_in_nI (by omega) (by decide)
      · rw [rd_N (by omega), hI.2 k (by omega), le0_N (by omega)] at z
        rw [rd_N (by omega), hI.2 k (by omega)]
        refine c_restAfter hC hW bT ?_
        have rb1 := rb (T k)
        have e : rd w 17 (nI g * nI 3 + nI 0) - rd w 17 (nI k * nI 3 + nI 0) = nI (r (46 + g) - r (46 + k)) := by
          rw [pk_mul, pk_mul, nI_add, nI_add, rd_N (by omega), rd_N (by omega), (hC.2.2.2.2.1 g hg).1, (hC.2.2.2.2.1 k (by omega)).1, sub_N (by omega)]
        refine tX3_isRested_44 ⟨fun z2 => next ?_, fun z2 => h _ (Or.inr ⟨rfl, ?_⟩)⟩
        · rw [e, lt_N (by omega) (by omega)] at z2
          exact fun _ => z2
        · rw [e, lt_N (by omega) (by omega)] at z2
          exact fun q => z2 (q k (by omega) (by omega))
  exact L g 0 (by omega) (fun q hq => by omega)
theorem c_daysToNext (hC : CT w r) (hW : WFr r) (hd : DayUp r) (hI : DI w T t) (hTb : ∀ h, T h ≤ 500) {g : Nat} (hg : g < r 1) (h : ∀ n, n ≤ 1000000 → (∀ x, nextOk r T g x ↔ restN r x < n) → K (some (.int (nI n))) w) : fX3_daysToNext [.ref 27, .int (nI g)] w K := by
  have h1 := hW.2.2.1
  have hG : ∀ h, h < r 1 → r (46 + h) ≤ 59 := fun h hh => (hW.2.2.2.2.2.2.2.1 h (by omega)).1
  have rb : ∀ y, restN r y ≤ 9 := fun y => restL_le (fun i hi => (hW.2.2.2.2.2.2.2.2.2 i hi).2) y (r 2) hW.2.2.2.1
  refine tX3_daysToNext_0 ?_
  rw [nI_add]
  have L : ∀ (n k : Nat), k + n = r 1 → g < k → (∀ q, g < q → q < k → T q = 0) → RR (tl K lX3_daysToNext) 4 [.ref 27, .int (nI g), .int (nI k)] [] w := by
    intro n
    induction n with
    | zero =>
      intro k hk hgk hR
      refine tX3_daysToNext_4 ⟨fun _ => h 1000000 (Nat.le_refl _) (fun x => ⟨fun _ => ?_, fun _ q h1 h2 h3 => ?_⟩), fun z => absurd ?_ z⟩
      · have := rb x; omega
      · have := hR q h1 (by omega); omega
      · rw [hC.2.1, le_N (by omega) (by omega)]; omega
    | succ n ih =>
      intro k hk hgk hR
      have bT := hTb k
      have b1 := hG k (by omega)
      have up := hd g k hgk (by omega)
      refine tX3_daysToNext_4 ⟨fun z => absurd z ?_, fun _ => ⟨vp_in_nI (by omega) (by decide), fun z => ?_, fun z => ⟨?_, ?_, ?_⟩⟩⟩
      · rw [hC.2.1, le_N (by omega) (by omega)]; omega
      · rw [rd_N (by omega), hI.2 k (by omega), le0_N (by omega)] at z
        rw [nI_add]
        refine ih (k + 1) (by omega) (by omega) (fun q h1 h2 => ?_)
        rcases Nat.lt_or_ge q k with p | p
        · exact hR q h1 p
        · rw [show q = k by omega]; exact z
      · rw [pk_mul, nI_add]; exact vp_in_nI (by omega) (by decide)
      · rw [pk_mul, nI_add]; exact vp_in_nI (by omega) (by decide)
      · rw [rd_N (by omega), hI.2 k (by omega), le0_N (by omega)] at z
        rw [pk_mul, pk_mul, nI_add, nI_add, rd_N (by omega), rd_N (by omega), (hC.2.2.2.2.1 g hg).1, (hC.2.2.2.2.1 k (by omega)).1, sub_N (by omega)]
        refine h _ (by omega) (fun x => ⟨fun q => q k hgk (by omega) (by omega), fun q j h1 h2 h3 => ?_⟩)
        have kj : k ≤ j := by
          rcases Nat.lt_or_ge j k with p | p
          · have := hR j h1 p; omega
          · exact p
        rcases Nat.lt_or_ge k j with p | p
        · have := hd k j p h2; omega
        · rw [show j = k by omega]; exact q
  exact L (r 1 - (g + 1)) (g + 1) (by omega) (by omega) (fun q h1 h2 => by omega)
theorem c_weekFrom (hC : CT w r) (hW : WFr r) (hd : DayUp r) (hI : DI w T t) {f g : Nat} (hf : f ≤ g) (hg : g < r 1) (h : K (some (.int (nI (wsum r T g (r (46 + f) + 6))))) w) : fX3_weekFrom [.ref 27, .int (nI f), .int (nI g)] w K := by
  have h1 := hW.2.2.1
  have hG : ∀ h, h < r 1 → r (46 + h) ≤ 59 := fun h hh => (hW.2.2.2.2.2.2.2.1 h (by omega)).1
  refine tX3_weekFrom_0 ?_
  have F : Nat → Nat := fun k => 0
  have L : ∀ (n k : Nat) (a : Int32), k + n = r 1 → f ≤ k → a = nI (sumN (fun h => if h ≠ g ∧ r (46 + h) ≤ r (46 + f) + 6 ∧ r (46 + f) + 6 < r (46 + h) + 7 then T h else 0) k) → RR (tl K lX3_weekFrom) 5 [.ref 27, .int (nI f), .int (nI g), .int a, .int (nI k)] [] w := by
    intro n
    induction n with
    | zero =>
      intro k a hk hfk ha
      refine tX3_weekFrom_5 ⟨fun _ => ?_, fun z => absurd ?_ z⟩
      · rw [ha, show k = r 1 by omega]; exact h
      · rw [hC.2.1, le_N (by omega) (by omega)]; omega
    | succ n ih =>
      intro k a hk hfk ha
      have b1 := hG k (by omega)
      have hle : r (46 + f) ≤ r (46 + k) := by
        rcases Nat.lt_or_ge f k with p | p
        · exact Nat.le_of_lt (hd f k p (by omega))
        · rw [show f = k by omega]; exact Nat.le_refl _
      have e : rd w 17 (nI k * nI 3 + nI 0) - rd w 17 (nI f * nI 3 + nI 0) = nI (r (46 + k) - r (46 + f)) := by
        rw [pk_mul, pk_mul, nI_add, nI_add, rd_N (by omega), rd_N (by omega), (hC.2.2.2.2.1 f (by omega)).1, (hC.2.2.2.2.1 k (by omega)).1, sub_N hle]
      refine tX3_weekFrom_5 ⟨fun z => absurd z ?_, fun _ => ⟨?_, ?_, fun z => ⟨fun z2 => ⟨vp_in_nI (by omega) (by decide), ?_⟩, fun z2 => ?_⟩, fun z => ?_⟩⟩
      · rw [hC.2.1, le_N (by omega) (by omega)]; omega
      · rw [pk_mul, nI_add]; exact vp_in_nI (by omega) (by decide)
      · rw [pk_mul, nI_add]; exact vp_in_nI (by omega) (by decide)
      · rw [e, lt_N (by omega) (by omega)] at z
        rw [eq_N (by omega) (by omega)] at z2
        rw [nI_add]
        refine ih (k + 1) _ (by omega) (by omega) ?_
        rw [ha, rd_N (by omega), hI.2 k (by omega), nI_add]
        congr 1
        show _ = sumN _ k + (if k ≠ g ∧ r (46 + k) ≤ r (46 + f) + 6 ∧ r (46 + f) + 6 < r (46 + k) + 7 then T k else 0)
        rw [if_pos ⟨z2, by omega, by omega⟩]
      · rw [eq_N (by omega) (by omega)] at z2
        rw [nI_add]
        refine ih (k + 1) _ (by omega) (by omega) ?_
        rw [ha, nI_add]
        congr 1
        show _ = sumN _ k + (if k ≠ g ∧ r (46 + k) ≤ r (46 + f) + 6 ∧ r (46 + f) + 6 < r (46 + k) + 7 then T k else 0)
        rw [if_neg (fun q => q.1 z2)]
      · rw [e, lt_N (by omega) (by omega)] at z
        have tail : ∀ m, k + m ≤ r 1 → sumN (fun h => if h ≠ g ∧ r (46 + h) ≤ r (46 + f) + 6 ∧ r (46 + f) + 6 < r (46 + h) + 7 then T h else 0) (k + m) = sumN (fun h => if h ≠ g ∧ r (46 + h) ≤ r (46 + f) + 6 ∧ r (46 + f) + 6 < r (46 + h) + 7 then T h else 0) k := by
          intro m
          induction m with
          | zero => intro _; rfl
          | succ m ihm =>
            intro hm
            show sumN _ (k + m) + (if k + m ≠ g ∧ r (46 + (k + m)) ≤ r (46 + f) + 6 ∧ r (46 + f) + 6 < r (46 + (k + m)) + 7 then T (k + m) else 0) = _
            have up : r (46 + k) ≤ r (46 + (k + m)) := by
              rcases Nat.eq_zero_or_pos m with p | p
              · subst p; exact Nat.le_refl _
              · exact Nat.le_of_lt (hd k (k + m) (by omega) (by omega))
            rw [ihm (by omega), if_neg (fun q => by omega)]
            rfl
        have e3 := tail (n + 1) (by omega)
        rw [show k + (n + 1) = r 1 by omega] at e3
        unfold wsum at h
        rw [e3] at h
        rw [ha]
        exact h
  have z0 : sumN (fun h => if h ≠ g ∧ r (46 + h) ≤ r (46 + f) + 6 ∧ r (46 + f) + 6 < r (46 + h) + 7 then T h else 0) f = 0 := by
    refine sumN_zero f (fun k hk => ?_)
    have := hd k f hk (by omega)
    exact if_neg (fun q => by omega)
  exact L (r 1 - f) f _ (by omega) (Nat.le_refl _) (by rw [z0])
theorem wsum_le (hW : WFr r) (hTb : ∀ h, T h ≤ 500) (g last : Nat) : wsum r T g last ≤ 10000 := by
  have h1 := hW.2.2.1
  have := sumN_le (f := fun h => if h ≠ g ∧ r (46 + h) ≤ last ∧ last < r (46 + h) + 7 then T h else 0) (b := 500) (r 1) (fun k _ => by
    show (if _ then _ else _) ≤ 500
    split
    · exact hTb k
    · omega)
  unfold wsum
  omega
theorem c_roomInWeek (hC : CT w r) (hW : WFr r) (hd : DayUp r) (hI : DI w T t) (hTb : ∀ h, T h ≤ 500) {g : Nat} (hg : g < r 1) (h : ∀ v : Int32, ((r 3 = 0 ∧ v = nI 1000000) ∨ (r 3 ≠ 0 ∧ ∃ H, H ≤ 10000 ∧ v = nI (r 3) - nI H ∧ ∀ x, wkOk r T g x ↔ x + H ≤ r 3)) → K (some (.int v)) w) : fX3_roomInWeek [.ref 27, .int (nI g)] w K := by
  have h1 := hW.2.2.1
  have h3 := hW.1 3
  have hG : ∀ h, h < r 1 → r (46 + h) ≤ 59 := fun h hh => (hW.2.2.2.2.2.2.2.1 h (by omega)).1
  have c3 : rd w 18 (nI 0) = nI (r 3) := by rw [rd_N (by omega)]; exact hC.2.2.2.2.2.1.1
  refine tX3_roomInWeek_0 ⟨fun z => ?_, fun z => h _ (Or.inl ⟨?_, rfl⟩)⟩
  · rw [c3, eq0_N (by omega)] at z
    have fin : ∀ (k H : Nat), k ≤ g → H ≤ 10000 → (∀ q, k ≤ q → q ≤ g → wsum r T g (r (46 + q) + 6) ≤ H) → (∀ q, q < k → r (46 + q) + 7 ≤ r (46 + g)) → (∃ q, k ≤ q ∧ q ≤ g ∧ r (46 + g) < r (46 + q) + 7 ∧ wsum r T g (r (46 + q) + 6) = H) → K (some (.int (nI (r 3) - nI H))) w := by
      intro k H hk hH hm hlo hex
      refine h _ (Or.inr ⟨z, H, hH, rfl, fun x => ⟨fun q => ?_, fun q f hf hw => ?_⟩⟩)
      · obtain ⟨f, hf1, hf2, hf3, hf4⟩ := hex
        have := q f hf2 hf3
        omega
      · have kf : k ≤ f := by
          rcases Nat.lt_or_ge f k with p | p
          · have := hlo f p; omega
          · exact p
        have := hm f kf hf
        omega
    -- k + 1 games are still to be looked at
    have L : ∀ (k H : Nat), k ≤ g → H ≤ 10000 → (∀ q, k ≤ q → q ≤ g → wsum r T g (r (46 + q) + 6) ≤ H) → (∃ q, k ≤ q ∧ q ≤ g ∧ r (46 + g) < r (46 + q) + 7 ∧ wsum r T g (r (46 + q) + 6) = H) → RR (tl K lX3_roomInWeek) 25 [.ref 27, .int (nI g), .int (rd w 18 (nI 0)), .int (nI H), .int (nI k - nI 1)] [] w := by
      intro k
      induction k with
      | zero =>
        intro H hk hH hm hex
        have e0 : nI 0 - nI 1 = -1 := by decide
        refine tX3_roomInWeek_25 ⟨fun _ => ?_, fun z => absurd ?_ z⟩
        · rw [c3]
          exact fin 0 H hk hH hm (fun q hq => by omega) hex
        · rw [e0]; decide
      | succ k ih =>
        intro H hk hH hm hex
        have b1 := hG k (by omega)
        have b2 := hG g hg
        have up := hd k g (by omega) hg
        have e : rd w 17 (nI g * nI 3 + nI 0) - rd w 17 (nI k * nI 3 + nI 0) = nI (r (46 + g) - r (46 + k)) := by
          rw [pk_mul, pk_mul, nI_add, nI_add, rd_N (by omega), rd_N (by omega), (hC.2.2.2.2.1 g (by omega)).1, (hC.2.2.2.2.1 k (by omega)).1, sub_N (by omega)]
        rw [show nI (k + 1) - nI 1 = nI k by rw [sub_N (by omega)]; rfl]
        refine tX3_roomInWeek_25 ⟨fun z => absurd z ?_, fun _ => ⟨?_, ?_, fun z => ?_, fun z => ?_⟩⟩
        · rw [lt0_N (by omega)]; exact id
        · rw [pk_mul, nI_add]; exact vp_in_nI (by omega) (by decide)
        · rw [pk_mul, nI_add]; exact vp_in_nI (by omega) (by decide)
        · rw [e, lt_N (by omega) (by omega)] at z
          refine c_weekFrom hC hW hd hI (by omega) hg ?_
          have wb := wsum_le hW hTb g (r (46 + k) + 6)
          refine tX3_roomInWeek_59 ?_
          have e1 : (if nI H < nI (wsum r T g (r (46 + k) + 6)) then nI (wsum r T g (r (46 + k) + 6)) else nI H) = nI (max H (wsum r T g (r (46 + k) + 6))) := by
            by_cases q : H < wsum r T g (r (46 + k) + 6)
            · rw [if_pos ((lt_N (by omega) (by omega)).mpr q), Nat.max_eq_right (by omega)]
            · rw [if_neg (fun z => q ((lt_N (by omega) (by omega)).mp z)), Nat.max_eq_left (by omega)]
          have e2 : nI k + (-1) = nI k - nI 1 := by
            have : nI 1 = 1 := by decide
            rw [this]
            generalize nI k = a
            grind
          rw [e1, e2]
          refine ih _ (by omega) (by omega) (fun q h1 h2 => ?_) ?_
          · rcases Nat.lt_or_ge k q with p | p
            · have := hm q (by omega) h2; omega
            · rw [show q = k by omega]; omega
          · rcases Nat.lt_or_ge H (wsum r T g (r (46 + k) + 6)) with p | p
            · exact ⟨k, Nat.le_refl _, by omega, by omega, by omega⟩
            · obtain ⟨q, h1, h2, h3, h4⟩ := hex
              exact ⟨q, by omega, h2, h3, by omega⟩
        · rw [e, lt_N (by omega) (by omega)] at z
          rw [c3]
          refine fin (k + 1) H hk hH hm (fun q hq => ?_) hex
          rcases Nat.lt_or_ge q k with p | p
          · have := hd q k p (by omega); omega
          · rw [show q = k by omega]; omega
    -- the game itself first
    have wb := wsum_le hW hTb g (r (46 + g) + 6)
    have b2 := hG g hg
    have e : rd w 17 (nI g * nI 3 + nI 0) - rd w 17 (nI g * nI 3 + nI 0) = nI 0 := by
      generalize rd w 17 (nI g * nI 3 + nI 0) = a
      have : nI 0 = 0 := by decide
      rw [this]
      grind
    refine tX3_roomInWeek_25 ⟨fun z => absurd z ?_, fun _ => ⟨?_, ?_, fun z => ?_, fun z => absurd ?_ z⟩⟩
    · rw [lt0_N (by omega)]; exact id
    · rw [pk_mul, nI_add]; exact vp_in_nI (by omega) (by decide)
    · rw [pk_mul, nI_add]; exact vp_in_nI (by omega) (by decide)
    · refine c_weekFrom hC hW hd hI (Nat.le_refl _) hg ?_
      refine tX3_roomInWeek_59 ?_
      have e1 : (if nI 0 < nI (wsum r T g (r (46 + g) + 6)) then nI (wsum r T g (r (46 + g) + 6)) else nI 0) = nI (wsum r T g (r (46 + g) + 6)) := by
        by_cases q : 0 < wsum r T g (r (46 + g) + 6)
        · rw [if_pos ((lt_N (by omega) (by omega)).mpr q)]
        · rw [if_neg (fun z => q ((lt_N (by omega) (by omega)).mp z)), show wsum r T g (r (46 + g) + 6) = 0 by omega]
      have e2 : nI g + (-1) = nI g - nI 1 := by
        have : nI 1 = 1 := by decide
        rw [this]
        generalize nI g = a
        grind
      rw [e1, e2]
      refine L g _ (Nat.le_refl _) wb (fun q h1 h2 => ?_) ⟨g, Nat.le_refl _, Nat.le_refl _, by omega, rfl⟩
      rw [show q = g by omega]
      exact Nat.le_refl _
    · rw [e]; decide
  · rw [c3, eq0_N (by omega)] at z
    exact z
end CLS2
