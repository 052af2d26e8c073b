/-! numbers: ints of the machine that are small natural numbers -/
theorem le_N {a b : Nat} (ha : a < 2147483648) (hb : b < 2147483648) : nI a ≤ nI b ↔ a ≤ b := nI_leI ha hb
theorem lt_N {a b : Nat} (ha : a < 2147483648) (hb : b < 2147483648) : nI a < nI b ↔ a < b := nI_ltI ha hb
theorem eq_N {a b : Nat} (ha : a < 2147483648) (hb : b < 2147483648) : nI a = nI b ↔ a = b := nI_eq ha hb
theorem eq0_N {a : Nat} (ha : a < 2147483648) : nI a = 0 ↔ a = 0 := nI_eq (b := 0) ha (by decide)
theorem le0_N {a : Nat} (ha : a < 2147483648) : nI a ≤ 0 ↔ a = 0 := (nI_leI (b := 0) ha (by decide)).trans (by omega)
theorem lt0_N {a : Nat} (ha : a < 2147483648) : nI a < 0 ↔ False := ⟨fun h => absurd ((nI_ltI (b := 0) ha (by decide)).mp h) (by omega), False.elim⟩
theorem ge0_N {a : Nat} (ha : a < 2147483648) : 0 ≤ nI a ↔ True := ⟨fun _ => trivial, fun _ => (nI_leI (a := 0) (by decide) ha).mpr (by omega)⟩
theorem gt0_N {a : Nat} (ha : a < 2147483648) : 0 < nI a ↔ 0 < a := nI_ltI (a := 0) (by decide) ha
theorem sub_N {a b : Nat} (h : b ≤ a) : nI a - nI b = nI (a - b) := pk_sub h
theorem m1_N {a : Nat} (h : 0 < a) : nI a + (-1) = nI (a - 1) := by
  obtain ⟨b, rfl⟩ : ∃ b, a = b + 1 := ⟨a - 1, by omega⟩
  exact pk_m1 b
theorem div_N {a b : Nat} (ha : a < 2147483648) (h0 : 0 < b) (hb : b < 2147483648) : nI a / nI b = nI (a / b) := pk_div ha h0 hb
theorem vin_N {n N : Nat} (h : n < N) (hN : N < 2147483648) : vp_in (nI n) N ↔ True := ⟨fun _ => trivial, fun _ => vp_in_nI h hN⟩
theorem rd_N {w : Wd} {c n : Nat} (h : n < 2147483648) : rd w c (nI n) = w.1 c n := by
  unfold rd
  rw [nI_clamp h]
theorem rdL_N {w : Wd} {c n : Nat} (h : n < 2147483648) : rdL w c (nI n) = w.2 c n := by
  unfold rdL
  rw [nI_clamp h]
theorem wr_N {w : Wd} {c n : Nat} {v : Int32} (h : n < 2147483648) : wr w c (nI n) v = upI w c n v := by
  unfold wr
  rw [nI_clamp h]
theorem wrL_N {w : Wd} {c n : Nat} {v : Int64} (h : n < 2147483648) : wrL w c (nI n) v = upL w c n v := by
  unfold wrL
  rw [nI_clamp h]
theorem ro_N {c n : Nat} (h : n < 2147483648) : ro c (nI n) = (roV.getD (c - 100) []).getD n 0 := by
  unfold ro
  rw [nI_clamp h]
theorem chS_N {c n : Nat} (h : n < 2147483648) : chS c (nI n) = (sByt.getD (c - 200) []).getD n 0 := by
  unfold chS
  rw [nI_clamp h]
theorem cpy_N {w : Wd} {c a b n : Nat} {f : Nat → Int32} (ha : a < 2147483648) (hb : b < 2147483648) (hn : n < 2147483648) : cpy w c f (nI a) (nI b) (nI n) = cpI w c f a b n := by
  unfold cpy
  rw [nI_clamp ha, nI_clamp hb, nI_clamp hn]
theorem cpyL_N {w : Wd} {c a b n : Nat} {f : Nat → Int64} (ha : a < 2147483648) (hb : b < 2147483648) (hn : n < 2147483648) : cpyL w c f (nI a) (nI b) (nI n) = cpL w c f a b n := by
  unfold cpyL
  rw [nI_clamp ha, nI_clamp hb, nI_clamp hn]
theorem leI_N {a b : Nat} (ha : a < 2147483648) (hb : b < 2147483648) : leI (nI a) (nI b) = nI (min a b) := by
  unfold leI
  by_cases h : b ≤ a
  · rw [if_pos ((le_N hb ha).mpr h), Nat.min_eq_right h]
  · rw [if_neg (fun q => h ((le_N hb ha).mp q)), Nat.min_eq_left (by omega)]
theorem abI_N {a b : Nat} (ha : a < 2147483648) (hb : b < 2147483648) : abI (nI a) (nI b) = nI (b - a) := by
  unfold abI
  by_cases h : b ≤ a
  · rw [if_pos ((le_N hb ha).mpr h), show b - a = 0 by omega]
  · rw [if_neg (fun q => h ((le_N hb ha).mp q))]
    exact sub_N (by omega)
theorem upI1 (w : Wd) (c j : Nat) (v : Int32) (a b : Nat) : (upI w c j v).1 a b = if a = c ∧ b = j then v else w.1 a b := rfl
theorem upI2 (w : Wd) (c j : Nat) (v : Int32) : (upI w c j v).2 = w.2 := rfl
theorem upL1 (w : Wd) (c j : Nat) (v : Int64) : (upL w c j v).1 = w.1 := rfl
theorem upL2 (w : Wd) (c j : Nat) (v : Int64) (a b : Nat) : (upL w c j v).2 a b = if a = c ∧ b = j then v else w.2 a b := rfl
/-- an argument within the numbers below n -/
theorem rng {x : Int32} {n : Nat} (hn : n < 2147483648) : (nI 0 ≤ x ∧ x ≤ nI n - nI 1) ↔ ∃ t, t < n ∧ x = nI t := by
  constructor
  · rintro ⟨h1, h2⟩
    have h0 : ¬ x < 0 := Int32.not_lt.mpr h1
    obtain ⟨j, hj, rfl⟩ := nI_of h0
    refine ⟨j, ?_, rfl⟩
    cases n with
    | zero =>
      exfalso
      have e : nI 0 - nI 1 = -1 := by decide
      rw [e] at h2
      have := Int32.le_iff_toInt_le.mp h2
      rw [nI_toInt hj] at this
      have e2 : (-1 : Int32).toInt = -1 := by decide
      omega
    | succ m =>
      have e : nI (m + 1) - nI 1 = nI m := by
        rw [sub_N (by omega)]
        rfl
      rw [e, le_N hj (by omega)] at h2
      omega
  · rintro ⟨t, ht, rfl⟩
    refine ⟨(ge0_N (by omega)).mpr trivial, ?_⟩
    rw [sub_N (by omega), le_N (by omega) (by omega)]
    omega
/-- an argument within lo .. hi -/
theorem rng2 {x : Int32} {a b : Nat} (ha : a < 2147483648) (hb : b < 2147483648) : (nI a ≤ x ∧ x ≤ nI b) ↔ ∃ t, a ≤ t ∧ t ≤ b ∧ x = nI t := by
  constructor
  · rintro ⟨h1, h2⟩
    have h0 : ¬ x < 0 := fun q => by
      have := Int32.le_iff_toInt_le.mp h1
      have q2 := Int32.lt_iff_toInt_lt.mp q
      rw [nI_toInt ha] at this
      have e : (0 : Int32).toInt = 0 := by decide
      omega
    obtain ⟨j, hj, rfl⟩ := nI_of h0
    rw [le_N ha hj] at h1
    rw [le_N hj hb] at h2
    exact ⟨j, h1, h2, rfl⟩
  · rintro ⟨t, h1, h2, rfl⟩
    exact ⟨(le_N (by omega) (by omega)).mpr h1, (le_N (by omega) (by omega)).mpr h2⟩
/-- a loop that counts up -/
theorem for_up {α : Type} {Hd : Nat → α → Prop} (n : Nat) (F : Nat → α → α) (hstep : ∀ i a, i < n → Hd (i + 1) (F i a) → Hd i a) : ∀ (k i : Nat) (a : α), i + k = n → Hd n ((List.range' i k).foldl (fun b j => F j b) a) → Hd i a := by
  intro k
  induction k with
  | zero =>
    intro i a h hx
    have e : i = n := by omega
    subst e
    exact hx
  | succ k ih =>
    intro i a h hx
    exact hstep i a (by omega) (ih (i + 1) (F i a) (by omega) hx)
