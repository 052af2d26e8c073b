/-! questions: both sides answer alike (7): idle, ranked -/
/-- days without an outing up to e: the row that ends there, the longest -/
def runN (D : Nat → Nat) : Nat → Nat
  | 0 => 0
  | e + 1 => if 0 < D e then 0 else runN D e + 1
def lngN (D : Nat → Nat) : Nat → Nat
  | 0 => 0
  | e + 1 => max (lngN D e) (runN D (e + 1))
theorem run_le (D : Nat → Nat) : ∀ e, runN D e ≤ e ∧ lngN D e ≤ e
  | 0 => ⟨Nat.le_refl _, Nat.le_refl _⟩
  | e + 1 => by
    obtain ⟨a, b⟩ := run_le D e
    have c : runN D (e + 1) ≤ e + 1 := by
      unfold runN
      split <;> omega
    refine ⟨c, ?_⟩
    show max (lngN D e) (runN D (e + 1)) ≤ e + 1
    omega
theorem run_from {D : Nat → Nat} {s : Nat} (h : runN D s = 0) : ∀ k, (∀ j, s ≤ j → j < s + k → D j = 0) → runN D (s + k) = k ∧ lngN D (s + k) = max (lngN D s) k
  | 0, _ => ⟨h, by show lngN D s = _; omega⟩
  | k + 1, hz => by
    obtain ⟨a, b⟩ := run_from h k (fun j p q => hz j p (by omega))
    have z := hz (s + k) (by omega) (by omega)
    have r1 : runN D (s + (k + 1)) = k + 1 := by
      show (if 0 < D (s + k) then 0 else runN D (s + k) + 1) = k + 1
      rw [if_neg (by omega), a]
    refine ⟨r1, ?_⟩
    show max (lngN D (s + k)) (runN D (s + (k + 1))) = _
    rw [r1, b]
    omega
theorem max_I {a b : Nat} (ha : a < 2147483648) (hb : b < 2147483648) : (if nI a < nI b then nI b else nI a) = nI (max a b) := by
  by_cases q : a < b
  · rw [if_pos ((lt_N ha hb).mpr q), Nat.max_eq_right (by omega)]
  · rw [if_neg (fun z => q ((lt_N ha hb).mp z)), Nat.max_eq_left (by omega)]
section Q7
variable {w : Wd} {r : Nat → Nat}
theorem day_at {r : Nat → Nat} (hd : DayUp r) {t h : Nat} (hh : h < r 1) : dayN r t 0 0 (r (46 + h)) = load r t h := by
  rw [day00, sumN_one (a := h) (r 1) hh, if_pos rfl]
  intro k hk hne
  exact if_neg (fun z => hne (dayUp_inj hd hk hh z))
theorem day_no {r : Nat → Nat} {t e : Nat} (h : ∀ g, g < r 1 → r (46 + g) = e → load r t g = 0) : dayN r t 0 0 e = 0 := by
  rw [day00]
  refine sumN_zero _ (fun k hk => ?_)
  show (if r (46 + k) = e then load r t k else 0) = 0
  by_cases q : r (46 + k) = e
  · rw [if_pos q, h k hk q]
  · rw [if_neg q]
theorem p_idle (hR : RA w r) {x1 : Int32} : QP w fX10_idle fX11_idle [.ref 0, .int x1] [.ref 41, .int x1] := by
  obtain ⟨hM, hC, hP, hW, hV, h6, h7, h8⟩ := hR
  have h0 := hW.2.1
  have h1 := hW.2.2.1
  unfold QP
  refine tX10_idle_0 ⟨fun z => ?_, fun z => ?_⟩
  · rw [hC.1] at z
    obtain ⟨t, ht, rfl⟩ := (rng (by omega)).mp z
    obtain ⟨D, hDe⟩ : ∃ D, D = dayN r t 0 0 := ⟨_, rfl⟩
    have Db : ∀ e, D e ≤ 500 := fun e => by rw [hDe]; exact Nat.le_trans (dayN_le hW hV.1 t 0 0 e) (by omega)
    have Y : fX11_idle [.ref 41, .int (nI t)] (upI (upI w 0 10 (nI 0)) 0 12 (-1)) (fun u w2 => QK w (some (.int (nI (lngN D 60)))) u w2) := by
      have hM1 : RM (upI (upI w 0 10 (nI 0)) 0 12 (-1)) r := RM_cf hM CF_r
      refine tX11_idle_0 ⟨fun _ => ?_, fun q => absurd ?_ q⟩
      · rw [rdM hM1 (by omega), bI_t z, un_1]
        refine g_laysDays (RM_rfs hM1) hW (by omega) (by omega) (by omega) (fun w2 ho hD => tX11_idle_24 ?_)
        rw [← hDe] at hD
        have L : ∀ (n e : Nat) (a b : Int32), e + n = 60 → a = nI (lngN D e) → b = nI (runN D e) → RR (tl (fun u w2 => QK w (some (.int (nI (lngN D 60)))) u w2) lX11_idle) 31 [.ref 41, .int (nI t), .int a, .int b, .int (nI e)] [] w2 := by
          intro n
          induction n with
          | zero =>
            intro e a b he ha hb
            refine tX11_idle_31 ⟨fun _ => ?_, fun q => absurd ?_ q⟩
            · rw [ha, show e = 60 by omega]; exact fin CF_r (GF_a (GO_47 ho))
            · rw [le_N (by omega) (by omega)]; omega
          | succ n ih =>
            intro e a b he ha hb
            have bD := Db e
            obtain ⟨b1, b2⟩ := run_le D e
            obtain ⟨b3, b4⟩ := run_le D (e + 1)
            have re : rd w2 47 (nI e) = nI (D e) := rdD hD (by omega)
            have S : ∀ y : Int32, y = nI (runN D (e + 1)) → RR (tl (fun u w2 => QK w (some (.int (nI (lngN D 60)))) u w2) lX11_idle) 55 [.ref 41, .int (nI t), .int a, .int b, .int (nI e)] [.int y] w2 := by
              intro y hy
              have e1 : lngN D (e + 1) = max (lngN D e) (runN D (e + 1)) := rfl
              refine tX11_idle_55 ⟨fun q => ?_, fun q => ?_⟩
              · rw [hy, ha, le_N (by omega) (by omega)] at q
                rw [nI_add e 1]
                exact ih (e + 1) _ _ (by omega) (by rw [e1, ha, Nat.max_eq_left q]) hy
              · rw [hy, ha, le_N (by omega) (by omega)] at q
                rw [nI_add e 1]
                exact ih (e + 1) _ _ (by omega) (by rw [e1, hy, Nat.max_eq_right (by omega)]) hy
            refine tX11_idle_31 ⟨fun q => absurd q ?_, fun _ => ⟨vp_in_nI (by omega) (by decide), fun q => S _ ?_, fun q => S _ ?_⟩⟩
            · rw [le_N (by omega) (by omega)]; omega
            · rw [re, le0_N (by omega)] at q
              rw [hb, nI_add, runN, if_neg (by omega)]
            · rw [re, le0_N (by omega)] at q
              rw [runN, if_pos (by omega)]
        exact L 60 0 _ _ (by omega) rfl rfl
      · rw [rdM hM1 (by omega), bI_t z, un_1]; rfl
    have L : ∀ (n g s : Nat) (a b : Int32), g + n = r 1 → s ≤ 60 → a = nI (lngN D s) → b = nI s - nI 1 → runN D s = 0 → (∀ h, g ≤ h → h < r 1 → s ≤ r (46 + h)) → (∀ j, s ≤ j → 0 < D j → ∃ h, g ≤ h ∧ h < r 1 ∧ r (46 + h) = j) → RR (tl (fun v w1 => fX11_idle [.ref 41, .int (nI t)] w1 (fun u w2 => QK w v u w2)) lX10_idle) 21 [.ref 0, .int (nI t), .int a, .int b, .int (nI g)] [] w := by
      intro n
      induction n with
      | zero =>
        intro g s a b hg hs ha hb hr hday hbusy
        refine tX10_idle_21 ⟨fun _ => ?_, fun q => absurd ?_ q⟩
        · have e : nI 60 - b - nI 1 = nI (60 - s) := by
            rw [hb, ← sub_N hs]
            generalize nI 60 = a
            generalize nI s = c
            generalize nI 1 = d
            grind
          obtain ⟨_, b2⟩ := run_le D s
          rw [e, ha, max_I (by omega) (by omega)]
          have := (run_from (D := D) hr (60 - s) (fun j p q => Nat.eq_zero_of_not_pos (fun hp => by
            obtain ⟨h, q1, q2, q3⟩ := hbusy j p hp
            omega))).2
          rw [show s + (60 - s) = 60 by omega] at this
          rw [← this]
          exact Y
        · rw [hC.2.1, le_N (by omega) (by omega)]; omega
      | succ n ih =>
        intro g s a b hg hs ha hb hr hday hbusy
        have hG := hW.2.2.2.2.2.2.2.1 g (by omega)
        have hl0 := load_le hW (t := t) (g := g) (by omega)
        have eL : rd w 25 (nI t * nI 20 + nI g) = nI (load r t g) := by rw [pk_mul, nI_add, rd_N (by omega), hP.2.2 t g (by omega) (by omega)]
        have d1 : rd w 17 (nI g * nI 3 + nI 0) = nI (r (46 + g)) := by rw [pk_mul, nI_add, rd_N (by omega)]; exact (hC.2.2.2.2.1 g (by omega)).1
        have hDg : D (r (46 + g)) = load r t g := by rw [hDe]; exact day_at hV.1 (by omega)
        have hsg := hday g (by omega) (by omega)
        refine tX10_idle_21 ⟨fun q => absurd q ?_, fun _ => ⟨by rw [pk_mul, nI_add]; exact vp_in_nI (by omega) (by decide), fun q => ?_, fun q => ⟨by rw [pk_mul, nI_add]; exact vp_in_nI (by omega) (by decide), ?_⟩⟩⟩
        · rw [hC.2.1, le_N (by omega) (by omega)]; omega
        · rw [eL, le0_N (by omega)] at q
          rw [nI_add g 1]
          refine ih (g + 1) s a b (by omega) hs ha hb hr (fun h p p2 => hday h (by omega) p2) (fun j p p2 => ?_)
          obtain ⟨h, q1, q2, q3⟩ := hbusy j p p2
          refine ⟨h, ?_, q2, q3⟩
          rcases Nat.lt_or_ge g h with c | c
          · omega
          · rw [show h = g by omega] at q3
            rw [← q3, hDg] at p2
            omega
        · rw [eL, le0_N (by omega)] at q
          have e : nI (r (46 + g)) - b - nI 1 = nI (r (46 + g) - s) := by
            rw [hb, ← sub_N hsg]
            generalize nI (r (46 + g)) = a
            generalize nI s = c
            generalize nI 1 = d
            grind
          obtain ⟨_, b2⟩ := run_le D s
          rw [d1, e, ha, max_I (by omega) (by omega), nI_add g 1]
          have rf := run_from (D := D) hr (r (46 + g) - s) (fun j p q => Nat.eq_zero_of_not_pos (fun hp => by
            obtain ⟨h, q1, q2, q3⟩ := hbusy j p hp
            rcases Nat.lt_or_ge g h with c | c
            · have := hV.1 g h c q2
              omega
            · rw [show h = g by omega] at q3
              omega))
          rw [show s + (r (46 + g) - s) = r (46 + g) by omega] at rf
          have r1 : runN D (r (46 + g) + 1) = 0 := by
            rw [runN, if_pos (by omega)]
          refine ih (g + 1) (r (46 + g) + 1) _ _ (by omega) (by omega) ?_ ?_ r1 (fun h p p2 => ?_) (fun j p p2 => ?_)
          · show _ = nI (max (lngN D (r (46 + g))) (runN D (r (46 + g) + 1)))
            rw [r1, rf.2]
            congr 1
            omega
          · rw [← nI_add]
            generalize nI (r (46 + g)) = a
            generalize nI 1 = d
            grind
          · have := hV.1 g h (by omega) p2
            omega
          · obtain ⟨h, q1, q2, q3⟩ := hbusy j (by omega) p2
            refine ⟨h, ?_, q2, q3⟩
            rcases Nat.lt_or_ge g h with c | c
            · omega
            · rw [show h = g by omega] at q3
              omega
    refine L (r 1) 0 0 _ _ (by omega) (by omega) rfl (by decide) rfl (fun h _ _ => Nat.zero_le _) (fun j _ hp => ?_)
    refine Classical.byContradiction (fun n => ?_)
    have : D j = 0 := by
      rw [hDe]
      exact day_no (fun g hg e => absurd ⟨g, Nat.zero_le _, hg, e⟩ n)
    omega
  · rw [hC.1] at z
    have hM1 : RM (upI (upI w 0 10 (nI 1)) 0 12 (-1)) r := RM_cf hM CF_r
    refine tX11_idle_0 ⟨fun q => absurd q ?_, fun _ => ?_⟩
    · rw [rdM hM1 (by omega), bI_f z, un_0]; decide
    · rw [rdM hM1 (by omega), bI_f z, un_0]
      exact fin CF_r GF_r
end Q7
/-! ranks -/
theorem php : ∀ (n : Nat) (f : Nat → Nat), (∀ a, a < n + 1 → f a < n) → ∃ a b, a < b ∧ b < n + 1 ∧ f a = f b
  | 0, f, h => absurd (h 0 (by omega)) (by omega)
  | n + 1, f, h => by
    by_cases ex : ∃ a, a < n + 1 ∧ f a = f (n + 1)
    · obtain ⟨a, ha, e⟩ := ex
      exact ⟨a, n + 1, ha, by omega, e⟩
    · have ne : ∀ a, a < n + 1 → f a ≠ f (n + 1) := fun a ha e => ex ⟨a, ha, e⟩
      obtain ⟨a, b, hab, hb, e⟩ := php n (fun a => if f a = n then f (n + 1) else f a) (fun a ha => by
        show (if f a = n then f (n + 1) else f a) < n
        have h1 := h a (by omega)
        have h2 := h (n + 1) (by omega)
        have h3 := ne a ha
        split
        · omega
        · omega)
      refine ⟨a, b, hab, by omega, ?_⟩
      have e : (if f a = n then f (n + 1) else f a) = (if f b = n then f (n + 1) else f b) := e
      have n1 := ne a (by omega)
      have n2 := ne b (by omega)
      by_cases p : f a = n
      · rw [if_pos p] at e
        by_cases q : f b = n
        · omega
        · rw [if_neg q] at e; exact absurd e.symm n2
      · rw [if_neg p] at e
        by_cases q : f b = n
        · rw [if_pos q] at e; exact absurd e n1
        · rw [if_neg q] at e; exact e
theorem surj_of {n : Nat} {F : Nat → Nat} (hlt : ∀ a, a < n → F a < n) (hinj : ∀ a b, a < b → b < n → F a ≠ F b) {i : Nat} (hi : i < n) : ∃ a, a < n ∧ F a = i := by
  refine Classical.byContradiction (fun no => ?_)
  have ne : ∀ a, a < n → F a ≠ i := fun a ha e => no ⟨a, ha, e⟩
  obtain ⟨m, rfl⟩ : ∃ m, n = m + 1 := ⟨n - 1, by omega⟩
  obtain ⟨a, b, hab, hb, e⟩ := php m (fun a => if F a < i then F a else F a - 1) (fun a ha => by
    show (if F a < i then F a else F a - 1) < m
    have h1 := hlt a ha
    have h2 := ne a ha
    split <;> omega)
  have e : (if F a < i then F a else F a - 1) = (if F b < i then F b else F b - 1) := e
  have n1 := ne a (by omega)
  have n2 := ne b hb
  refine hinj a b hab hb ?_
  by_cases p : F a < i
  · rw [if_pos p] at e
    by_cases q : F b < i
    · rw [if_pos q] at e; exact e
    · rw [if_neg q] at e; omega
  · rw [if_neg p] at e
    by_cases q : F b < i
    · rw [if_pos q] at e; omega
    · rw [if_neg q] at e; omega
/-- o is ranked ahead of t -/
def aheadP (V : Nat → Nat) (t o : Nat) : Prop := V t < V o ∨ (V o = V t ∧ o < t)
noncomputable def aheadN (V : Nat → Nat) (t n : Nat) : Nat := sumN (fun o => bif dec (aheadP V t o) then 1 else 0) n
theorem ahead_s (V : Nat → Nat) (t n : Nat) : aheadN V t (n + 1) = aheadN V t n + (bif dec (aheadP V t n) then 1 else 0) := rfl
theorem cnt_lt {p q : Nat → Bool} : ∀ (n : Nat), (∀ k, k < n → p k = true → q k = true) → sumN (fun k => bif p k then 1 else 0) n ≤ sumN (fun k => bif q k then 1 else 0) n ∧ ((∃ k, k < n ∧ p k = false ∧ q k = true) → sumN (fun k => bif p k then 1 else 0) n < sumN (fun k => bif q k then 1 else 0) n)
  | 0, _ => ⟨Nat.le_refl _, fun ⟨k, h, _⟩ => by omega⟩
  | n + 1, h => by
    obtain ⟨a, b⟩ := cnt_lt n (fun k hk => h k (by omega))
    have hn := h n (by omega)
    have st : ∀ f : Nat → Bool, sumN (fun k => bif f k then 1 else 0) (n + 1) = sumN (fun k => bif f k then 1 else 0) n + (bif f n then 1 else 0) := fun _ => rfl
    rw [st, st]
    refine ⟨?_, fun ⟨k, hk, e1, e2⟩ => ?_⟩
    · cases e1 : p n
      · cases q n
        · show _ + 0 ≤ _ + 0; omega
        · show _ + 0 ≤ _ + 1; omega
      · rw [hn e1]
        show _ + 1 ≤ _ + 1; omega
    · by_cases e : k = n
      · rw [e] at e1 e2
        rw [e1, e2]
        show _ + 0 < _ + 1; omega
      · have := b ⟨k, by omega, e1, e2⟩
        cases e3 : p n
        · cases q n
          · show _ + 0 < _ + 0; omega
          · show _ + 0 < _ + 1; omega
        · rw [hn e3]
          show _ + 1 < _ + 1; omega
theorem ahead_lt {V : Nat → Nat} {t n : Nat} (ht : t < n) : aheadN V t n < n := by
  have := (cnt_lt (p := fun o => dec (aheadP V t o)) (q := fun _ => true) n (fun _ _ _ => rfl)).2 ⟨t, ht, dec_f (fun h => by unfold aheadP at h; omega), rfl⟩
  have e : ∀ m, sumN (fun _ => bif true then 1 else 0) m = m := by
    intro m
    induction m with
    | zero => rfl
    | succ m ih => show sumN _ m + 1 = m + 1; rw [ih]
  rw [e n] at this
  exact this
theorem ahead_inj {V : Nat → Nat} {n a b : Nat} (ha : a < n) (hb : b < n) (hab : aheadP V a b) : aheadN V b n < aheadN V a n := by
  refine (cnt_lt (p := fun o => dec (aheadP V b o)) (q := fun o => dec (aheadP V a o)) n (fun k _ h => ?_)).2 ⟨b, hb, dec_f (fun h => by unfold aheadP at h; omega), dec_t hab⟩
  have hk : aheadP V b k := Classical.byContradiction (fun q => by
    have h : dec (aheadP V b k) = true := h
    rw [dec_f q] at h
    cases h)
  refine dec_t ?_
  unfold aheadP at hab hk ⊢
  omega
theorem ranked_ex {V : Nat → Nat} {n i : Nat} (hi : i < n) : ∃ t, t < n ∧ aheadN V t n = i := by
  refine surj_of (fun a ha => ahead_lt ha) (fun a b hab hb => ?_) hi
  by_cases q : V a < V b
  · have := ahead_inj (V := V) (a := a) (b := b) (n := n) (by omega) hb (Or.inl q)
    omega
  · have := ahead_inj (V := V) (a := b) (b := a) (n := n) hb (by omega) (by unfold aheadP; omega)
    omega
def fullN (r : Nat → Nat) (t g : Nat) : Nat := min (r (22 + t)) (r (86 + g))
def fullV (r : Nat → Nat) (g t : Nat) : Nat := worthN r t g (fullN r t g)
