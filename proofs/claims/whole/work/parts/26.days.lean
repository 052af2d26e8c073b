/-! days and games: a row of throws by games (T) beside one by days (D) -/
theorem sumN_add (f g : Nat → Nat) : ∀ n, sumN (fun k => f k + g k) n = sumN f n + sumN g n
  | 0 => rfl
  | n + 1 => by
    show sumN _ n + (f n + g n) = (sumN f n + f n) + (sumN g n + g n)
    rw [sumN_add f g n]
    omega
theorem sumN_swap (F : Nat → Nat → Nat) (m : Nat) : ∀ n, sumN (fun i => sumN (fun j => F i j) m) n = sumN (fun j => sumN (fun i => F i j) n) m
  | 0 => (sumN_zero m (fun _ _ => rfl)).symm
  | n + 1 => by
    show sumN _ n + sumN (fun j => F n j) m = _
    rw [sumN_swap F m n, ← sumN_add]
    rfl
theorem sumN_one {f : Nat → Nat} {a : Nat} : ∀ n, a < n → (∀ k, k < n → k ≠ a → f k = 0) → sumN f n = f a
  | 0, h, _ => by omega
  | n + 1, h, hz => by
    show sumN f n + f n = f a
    by_cases q : a = n
    · subst q
      rw [sumN_zero a (fun k hk => hz k (by omega) (by omega)), Nat.zero_add]
    · rw [sumN_one n (by omega) (fun k hk hne => hz k (by omega) hne), hz n (by omega) (fun z => q z.symm), Nat.add_zero]
theorem sumN_le_sum {f g : Nat → Nat} : ∀ n, (∀ k, k < n → f k ≤ g k) → sumN f n ≤ sumN g n
  | 0, _ => Nat.le_refl _
  | n + 1, h => by
    show sumN f n + f n ≤ sumN g n + g n
    have := sumN_le_sum n (fun k hk => h k (by omega))
    have := h n (by omega)
    omega
/-- D has what T has, on the games' days; nothing else (of the game g itself nothing is said) -/
def TD (r T : Nat → Nat) (g : Nat) (D : Nat → Nat) : Prop := (∀ h, h < r 1 → h ≠ g → D (r (46 + h)) = T h) ∧ ∀ e, e < 60 → (∀ h, h < r 1 → r (46 + h) ≠ e) → D e = 0
/-- the throws of other games in the 7 days up to 'last' -/
def wsum (r T : Nat → Nat) (g last : Nat) : Nat := sumN (fun h => if h ≠ g ∧ r (46 + h) ≤ last ∧ last < r (46 + h) + 7 then T h else 0) (r 1)
theorem dayUp_inj {r : Nat → Nat} (h : DayUp r) {a b : Nat} (ha : a < r 1) (hb : b < r 1) (e : r (46 + a) = r (46 + b)) : a = b := by
  rcases Nat.lt_trichotomy a b with q | q | q
  · have := h a b q hb
    omega
  · exact q
  · have := h b a q ha
    omega
theorem late_w {r T D : Nat → Nat} (hW : WFr r) (hd : DayUp r) {g x last : Nat} (hg : g < r 1) (hT : TD r T g D) (h1 : r (46 + g) ≤ last) (h2 : last < r (46 + g) + 7) : lateN (updN D (r (46 + g)) x) last = x + wsum r T g last := by
  have hr := hW.2.2.1
  have hG : ∀ h, h < r 1 → r (46 + h) ≤ 59 := fun h hh => (hW.2.2.2.2.2.2.2.1 h (by omega)).1
  -- D as a sum over games
  have hD : ∀ e, e < 60 → updN D (r (46 + g)) x e = sumN (fun h => if r (46 + h) = e then (if h = g then x else T h) else 0) (r 1) := by
    intro e he
    by_cases q : ∃ h, h < r 1 ∧ r (46 + h) = e
    · obtain ⟨h, hh, rfl⟩ := q
      rw [sumN_one (a := h) (r 1) hh]
      · rw [if_pos rfl]
        unfold updN
        by_cases p : h = g
        · subst p
          rw [if_pos rfl, if_pos rfl]
        · rw [if_neg (fun z => p (dayUp_inj hd hh hg z)), if_neg p, hT.1 h hh p]
      · intro k hk hne
        exact if_neg (fun z => hne (dayUp_inj hd hk hh z))
    · have q2 : ∀ h, h < r 1 → r (46 + h) ≠ e := fun h hh z => q ⟨h, hh, z⟩
      rw [sumN_zero (r 1) (fun k hk => if_neg (q2 k hk))]
      unfold updN
      rw [if_neg (fun z => q2 g hg z.symm)]
      exact hT.2 e he q2
  unfold lateN
  have e1 : sumN (fun j => if 6 ≤ last + j ∧ last + j < 66 then updN D (r (46 + g)) x (last + j - 6) else 0) 7 = sumN (fun j => sumN (fun h => if r (46 + h) + 6 = last + j then (if h = g then x else T h) else 0) (r 1)) 7 := by
    refine sumN_congr 7 (fun j hj => ?_)
    by_cases q : 6 ≤ last + j ∧ last + j < 66
    · rw [if_pos q, hD _ (by omega)]
      refine sumN_congr _ (fun h hh => ?_)
      by_cases p : r (46 + h) = last + j - 6
      · rw [if_pos p, if_pos (show r (46 + h) + 6 = last + j by omega)]
      · rw [if_neg p, if_neg (show ¬ r (46 + h) + 6 = last + j by omega)]
    · rw [if_neg q]
      refine (sumN_zero _ (fun h hh => ?_)).symm
      have := hG h hh
      exact if_neg (by omega)
  rw [e1, sumN_swap]
  have e2 : sumN (fun h => sumN (fun j => if r (46 + h) + 6 = last + j then (if h = g then x else T h) else 0) 7) (r 1) = sumN (fun h => (if h = g then x else 0) + (if h ≠ g ∧ r (46 + h) ≤ last ∧ last < r (46 + h) + 7 then T h else 0)) (r 1) := by
    refine sumN_congr _ (fun h hh => ?_)
    by_cases q : r (46 + h) ≤ last ∧ last < r (46 + h) + 7
    · rw [sumN_one (a := r (46 + h) + 6 - last) 7 (by omega)]
      · rw [if_pos (by omega)]
        by_cases p : h = g
        · rw [if_pos p, if_pos p, if_neg (fun z => z.1 p)]; rfl
        · rw [if_neg p, if_neg p, if_pos ⟨p, q⟩, Nat.zero_add]
      · intro k hk hne
        exact if_neg (by omega)
    · rw [sumN_zero 7 (fun j hj => if_neg (by omega)), if_neg (fun (z : h = g) => q (by rw [z]; exact ⟨h1, h2⟩)), if_neg (fun (z : h ≠ g ∧ r (46 + h) ≤ last ∧ last < r (46 + h) + 7) => q z.2)]
  rw [e2, sumN_add, sumN_one (a := g) (f := fun h => if h = g then x else 0) (r 1) hg (fun k _ hne => if_neg hne), if_pos rfl]
  rfl
/-- within the weeks: by the games that a week begins with -/
def wkOk (r T : Nat → Nat) (g x : Nat) : Prop := ∀ f, f ≤ g → r (46 + g) < r (46 + f) + 7 → x + wsum r T g (r (46 + f) + 6) ≤ r 3
theorem wk_iff {r T D : Nat → Nat} (hW : WFr r) (hd : DayUp r) {g x : Nat} (hg : g < r 1) (hT : TD r T g D) : (∀ i, i < 7 → lateN (updN D (r (46 + g)) x) (r (46 + g) + i) ≤ r 3) ↔ wkOk r T g x := by
  constructor
  · intro h f hf hw
    have hle : r (46 + f) ≤ r (46 + g) := by
      rcases Nat.lt_or_ge f g with q | q
      · exact Nat.le_of_lt (hd f g q hg)
      · rw [show f = g by omega]; exact Nat.le_refl _
    have := h (r (46 + f) + 6 - r (46 + g)) (by omega)
    rw [show r (46 + g) + (r (46 + f) + 6 - r (46 + g)) = r (46 + f) + 6 by omega, late_w hW hd hg hT (by omega) (by omega)] at this
    exact this
  · intro h i hi
    rw [late_w hW hd hg hT (by omega) (by omega)]
    -- the first game of the window
    have ex : ∃ f, f ≤ g ∧ r (46 + g) + i ≤ r (46 + f) + 6 ∧ ∀ k, k < f → r (46 + k) + 6 < r (46 + g) + i := by
      obtain ⟨f, hf, hmin⟩ := pk_least (fun f => r (46 + g) + i ≤ r (46 + f) + 6) ⟨g, by omega⟩
      refine ⟨f, ?_, hf, fun k hk => ?_⟩
      · rcases Nat.lt_or_ge g f with q | q
        · exact absurd (show r (46 + g) + i ≤ r (46 + g) + 6 by omega) (hmin g q)
        · exact q
      · have := hmin k hk
        omega
    obtain ⟨f, hf, h1, h2⟩ := ex
    have hle : r (46 + f) ≤ r (46 + g) := by
      rcases Nat.lt_or_ge f g with q | q
      · exact Nat.le_of_lt (hd f g q hg)
      · rw [show f = g by omega]; exact Nat.le_refl _
    have := h f hf (by omega)
    have le : wsum r T g (r (46 + g) + i) ≤ wsum r T g (r (46 + f) + 6) := by
      refine sumN_le_sum _ (fun k hk => ?_)
      show (if _ then _ else _) ≤ (if _ then _ else _)
      by_cases q : k ≠ g ∧ r (46 + k) ≤ r (46 + g) + i ∧ r (46 + g) + i < r (46 + k) + 7
      · have hfk : f ≤ k := by
          rcases Nat.lt_or_ge k f with p | p
          · have := h2 k p
            omega
          · exact p
        have hle2 : r (46 + f) ≤ r (46 + k) := by
          rcases Nat.lt_or_ge f k with p | p
          · exact Nat.le_of_lt (hd f k p hk)
          · rw [show f = k by omega]; exact Nat.le_refl _
        rw [if_pos q, if_pos ⟨q.1, by omega, by omega⟩]
        exact Nat.le_refl _
      · rw [if_neg q]
        exact Nat.zero_le _
    omega
/-- the rests by games -/
def rested (r T : Nat → Nat) (g : Nat) : Prop := ∀ h, h < g → 0 < T h → restN r (T h) < r (46 + g) - r (46 + h)
def nextOk (r T : Nat → Nat) (g x : Nat) : Prop := ∀ h, g < h → h < r 1 → 0 < T h → restN r x < r (46 + h) - r (46 + g)
theorem rest_iff {r T D : Nat → Nat} (hW : WFr r) (hd : DayUp r) {g x : Nat} (hg : g < r 1) (hT : TD r T g D) : (∀ e, e < 60 → restOk r D (r (46 + g)) x e) ↔ rested r T g ∧ nextOk r T g x := by
  have hr := hW.2.2.1
  have hG : ∀ h, h < r 1 → r (46 + h) ≤ 59 := fun h hh => (hW.2.2.2.2.2.2.2.1 h (by omega)).1
  constructor
  · intro h
    refine ⟨fun k hk hp => ?_, fun k hk hk2 hp => ?_⟩
    · have := hG k (by omega)
      have q := h (r (46 + k)) (by omega)
      rw [restOk, hT.1 k (by omega) (by omega)] at q
      exact (q hp).1 (hd k g hk hg)
    · have := hG k hk2
      have q := h (r (46 + k)) (by omega)
      rw [restOk, hT.1 k hk2 (by omega)] at q
      exact (q hp).2 (hd g k hk hk2)
  · rintro ⟨h1, h2⟩ e he hp
    by_cases q : ∃ h, h < r 1 ∧ r (46 + h) = e
    · obtain ⟨k, hk, rfl⟩ := q
      refine ⟨fun z => ?_, fun z => ?_⟩
      · have kg : k < g := by
          rcases Nat.lt_trichotomy k g with p | p | p
          · exact p
          · subst p; omega
          · have := hd g k p hk; omega
        rw [hT.1 k hk (by omega)] at hp ⊢
        exact h1 k kg hp
      · have kg : g < k := by
          rcases Nat.lt_trichotomy k g with p | p | p
          · have := hd k g p hg; omega
          · subst p; omega
          · exact p
        rw [hT.1 k hk (by omega)] at hp
        exact h2 k kg hk hp
    · rw [hT.2 e he (fun h hh z => q ⟨h, hh, z⟩)] at hp
      omega
theorem allow_iff {r T D : Nat → Nat} (hW : WFr r) (hd : DayUp r) {g t x : Nat} (hg : g < r 1) (hT : TD r T g D) : allowN r D t (r (46 + g)) x ↔ x ≤ r (22 + t) ∧ rested r T g ∧ nextOk r T g x ∧ (r 3 = 0 ∨ wkOk r T g x) := by
  unfold allowN
  rw [rest_iff hW hd hg hT, wk_iff hW hd hg hT]
  constructor
  · rintro ⟨a, ⟨b, c⟩, e⟩
    refine ⟨a, b, c, ?_⟩
    rcases Nat.eq_zero_or_pos (r 3) with q | q
    · exact Or.inl q
    · exact Or.inr (e q)
  · rintro ⟨a, b, c, e⟩
    refine ⟨a, ⟨b, c⟩, fun q => ?_⟩
    rcases e with e | e
    · omega
    · exact e
/-- the row that the reference lays has the loads -/
theorem TD_day {r : Nat → Nat} (hd : DayUp r) (t g : Nat) : TD r (load r t) g (dayN r t g 1) := by
  refine ⟨fun h hh hne => ?_, fun e he hno => ?_⟩
  · unfold dayN
    rw [sumN_one (a := h) (r 1) hh]
    · unfold dayG
      rw [if_neg (by omega), if_pos rfl]
    · intro k hk hne2
      unfold dayG
      rw [if_neg (show ¬ r (46 + k) = r (46 + h) from fun z => hne2 (dayUp_inj hd hk hh z))]
      split <;> rfl
  · unfold dayN
    refine sumN_zero _ (fun k hk => ?_)
    unfold dayG
    rw [if_neg (hno k hk)]
    split <;> rfl
