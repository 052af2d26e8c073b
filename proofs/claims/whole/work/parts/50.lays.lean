/-! what the reference copies -/
section LAYS
variable {w : Wd} {K : Kt}
theorem g_lays_r {a b n : Nat} (ha : a + n ≤ 256) (hb : b + n ≤ 256) (h : ∀ w1, Off (· = 43) w w1 → (∀ j, w1.1 43 j = if a ≤ j ∧ j < a + n then w.1 44 (b + (j - a)) else w.1 43 j) → K none w1) : fX11_lays [.ref 43, .int (nI a), .ref 44, .int (nI b), .int (nI n)] w K := by
  refine tX11_lays_0r ?_
  have L : ∀ (m i : Nat) (w1 : Wd), i + m = n → Off (· = 43) w w1 → (∀ j, w1.1 43 j = if a ≤ j ∧ j < a + i then w.1 44 (b + (j - a)) else w.1 43 j) → RR (tl K lX11_lays) 3 [.ref 43, .int (nI a), .ref 44, .int (nI b), .int (nI n), .int (nI i)] [] w1 := by
    intro m
    induction m with
    | zero =>
      intro i w1 hi ho hj
      have e : i = n := by omega
      rw [e] at hj
      refine tX11_lays_3r ⟨fun _ => h w1 ho hj, fun q => absurd ?_ q⟩
      rw [le_N (by omega) (by omega)]; omega
    | succ m ih =>
      intro i w1 hi ho hj
      refine tX11_lays_3r ⟨fun q => absurd q ?_, fun _ => ⟨by rw [nI_add]; exact vp_in_nI (by omega) (by decide), by rw [nI_add]; exact vp_in_nI (by omega) (by decide), ?_⟩⟩
      · rw [le_N (by omega) (by omega)]; omega
      · rw [nI_add i 1, nI_add a i, nI_add b i, rd_N (by omega), wr_N (by omega), (ho 44 (by decide)).1]
        refine ih (i + 1) _ (by omega) (ho.tr (Off.up rfl)) (fun j => ?_)
        rw [upI1]
        by_cases q : j = a + i
        · rw [if_pos ⟨rfl, q⟩, if_pos (by omega), show b + (j - a) = b + i by omega]
        · rw [if_neg (fun z => q z.2), hj j]
          by_cases p : a ≤ j ∧ j < a + i
          · rw [if_pos p, if_pos (by omega)]
          · rw [if_neg p, if_neg (by omega)]
  exact L n 0 w (by omega) Off.rf (fun j => by rw [if_neg (by omega)])
theorem g_lays_n {a b n : Nat} (ha : a + n ≤ 56) (hb : b + n ≤ 56) (h : ∀ w1, Off (· = 45) w w1 → (∀ j, w1.1 45 j = if a ≤ j ∧ j < a + n then w.1 46 (b + (j - a)) else w.1 45 j) → K none w1) : fX11_lays [.ref 45, .int (nI a), .ref 46, .int (nI b), .int (nI n)] w K := by
  refine tX11_lays_0n ?_
  have L : ∀ (m i : Nat) (w1 : Wd), i + m = n → Off (· = 45) w w1 → (∀ j, w1.1 45 j = if a ≤ j ∧ j < a + i then w.1 46 (b + (j - a)) else w.1 45 j) → RR (tl K lX11_lays) 3 [.ref 45, .int (nI a), .ref 46, .int (nI b), .int (nI n), .int (nI i)] [] w1 := by
    intro m
    induction m with
    | zero =>
      intro i w1 hi ho hj
      have e : i = n := by omega
      rw [e] at hj
      refine tX11_lays_3n ⟨fun _ => h w1 ho hj, fun q => absurd ?_ q⟩
      rw [le_N (by omega) (by omega)]; omega
    | succ m ih =>
      intro i w1 hi ho hj
      refine tX11_lays_3n ⟨fun q => absurd q ?_, fun _ => ⟨by rw [nI_add]; exact vp_in_nI (by omega) (by decide), by rw [nI_add]; exact vp_in_nI (by omega) (by decide), ?_⟩⟩
      · rw [le_N (by omega) (by omega)]; omega
      · rw [nI_add i 1, nI_add a i, nI_add b i, rd_N (by omega), wr_N (by omega), (ho 46 (by decide)).1]
        refine ih (i + 1) _ (by omega) (ho.tr (Off.up rfl)) (fun j => ?_)
        rw [upI1]
        by_cases q : j = a + i
        · rw [if_pos ⟨rfl, q⟩, if_pos (by omega), show b + (j - a) = b + i by omega]
        · rw [if_neg (fun z => q z.2), hj j]
          by_cases p : a ≤ j ∧ j < a + i
          · rw [if_pos p, if_pos (by omega)]
          · rw [if_neg p, if_neg (by omega)]
  exact L n 0 w (by omega) Off.rf (fun j => by rw [if_neg (by omega)])
theorem g_lays_b {a b n : Nat} (ha : a + n ≤ 5) (hb : b + n ≤ 5) (h : ∀ w1, Off (· = 49) w w1 → (∀ j, w1.1 49 j = if a ≤ j ∧ j < a + n then w.1 48 (b + (j - a)) else w.1 49 j) → K none w1) : fX11_lays [.ref 49, .int (nI a), .ref 48, .int (nI b), .int (nI n)] w K := by
  refine tX11_lays_0b ?_
  have L : ∀ (m i : Nat) (w1 : Wd), i + m = n → Off (· = 49) w w1 → (∀ j, w1.1 49 j = if a ≤ j ∧ j < a + i then w.1 48 (b + (j - a)) else w.1 49 j) → RR (tl K lX11_lays) 3 [.ref 49, .int (nI a), .ref 48, .int (nI b), .int (nI n), .int (nI i)] [] w1 := by
    intro m
    induction m with
    | zero =>
      intro i w1 hi ho hj
      have e : i = n := by omega
      rw [e] at hj
      refine tX11_lays_3b ⟨fun _ => h w1 ho hj, fun q => absurd ?_ q⟩
      rw [le_N (by omega) (by omega)]; omega
    | succ m ih =>
      intro i w1 hi ho hj
      refine tX11_lays_3b ⟨fun q => absurd q ?_, fun _ => ⟨by rw [nI_add]; exact vp_in_nI (by omega) (by decide), by rw [nI_add]; exact vp_in_nI (by omega) (by decide), ?_⟩⟩
      · rw [le_N (by omega) (by omega)]; omega
      · rw [nI_add i 1, nI_add a i, nI_add b i, rd_N (by omega), wr_N (by omega), (ho 48 (by decide)).1]
        refine ih (i + 1) _ (by omega) (ho.tr (Off.up rfl)) (fun j => ?_)
        rw [upI1]
        by_cases q : j = a + i
        · rw [if_pos ⟨rfl, q⟩, if_pos (by omega), show b + (j - a) = b + i by omega]
        · rw [if_neg (fun z => q z.2), hj j]
          by_cases p : a ≤ j ∧ j < a + i
          · rw [if_pos p, if_pos (by omega)]
          · rw [if_neg p, if_neg (by omega)]
  exact L n 0 w (by omega) Off.rf (fun j => by rw [if_neg (by omega)])
theorem g_lays_s {a b n : Nat} (ha : a + n ≤ 2560) (hb : b + n ≤ 256) (h : ∀ w1, Off (· = 52) w w1 → (∀ j, w1.1 52 j = if a ≤ j ∧ j < a + n then w.1 43 (b + (j - a)) else w.1 52 j) → K none w1) : fX11_lays [.ref 52, .int (nI a), .ref 43, .int (nI b), .int (nI n)] w K := by
  refine tX11_lays_0s ?_
  have L : ∀ (m i : Nat) (w1 : Wd), i + m = n → Off (· = 52) w w1 → (∀ j, w1.1 52 j = if a ≤ j ∧ j < a + i then w.1 43 (b + (j - a)) else w.1 52 j) → RR (tl K lX11_lays) 3 [.ref 52, .int (nI a), .ref 43, .int (nI b), .int (nI n), .int (nI i)] [] w1 := by
    intro m
    induction m with
    | zero =>
      intro i w1 hi ho hj
      have e : i = n := by omega
      rw [e] at hj
      refine tX11_lays_3s ⟨fun _ => h w1 ho hj, fun q => absurd ?_ q⟩
      rw [le_N (by omega) (by omega)]; omega
    | succ m ih =>
      intro i w1 hi ho hj
      refine tX11_lays_3s ⟨fun q => absurd q ?_, fun _ => ⟨by rw [nI_add]; exact vp_in_nI (by omega) (by decide), by rw [nI_add]; exact vp_in_nI (by omega) (by decide), ?_⟩⟩
      · rw [le_N (by omega) (by omega)]; omega
      · rw [nI_add i 1, nI_add a i, nI_add b i, rd_N (by omega), wr_N (by omega), (ho 43 (by decide)).1]
        refine ih (i + 1) _ (by omega) (ho.tr (Off.up rfl)) (fun j => ?_)
        rw [upI1]
        by_cases q : j = a + i
        · rw [if_pos ⟨rfl, q⟩, if_pos (by omega), show b + (j - a) = b + i by omega]
        · rw [if_neg (fun z => q z.2), hj j]
          by_cases p : a ≤ j ∧ j < a + i
          · rw [if_pos p, if_pos (by omega)]
          · rw [if_neg p, if_neg (by omega)]
  exact L n 0 w (by omega) Off.rf (fun j => by rw [if_neg (by omega)])
theorem g_lays_u {a b n : Nat} (ha : a + n ≤ 256) (hb : b + n ≤ 2560) (h : ∀ w1, Off (· = 43) w w1 → (∀ j, w1.1 43 j = if a ≤ j ∧ j < a + n then w.1 52 (b + (j - a)) else w.1 43 j) → K none w1) : fX11_lays [.ref 43, .int (nI a), .ref 52, .int (nI b), .int (nI n)] w K := by
  refine tX11_lays_0u ?_
  have L : ∀ (m i : Nat) (w1 : Wd), i + m = n → Off (· = 43) w w1 → (∀ j, w1.1 43 j = if a ≤ j ∧ j < a + i then w.1 52 (b + (j - a)) else w.1 43 j) → RR (tl K lX11_lays) 3 [.ref 43, .int (nI a), .ref 52, .int (nI b), .int (nI n), .int (nI i)] [] w1 := by
    intro m
    induction m with
    | zero =>
      intro i w1 hi ho hj
      have e : i = n := by omega
      rw [e] at hj
      refine tX11_lays_3u ⟨fun _ => h w1 ho hj, fun q => absurd ?_ q⟩
      rw [le_N (by omega) (by omega)]; omega
    | succ m ih =>
      intro i w1 hi ho hj
      refine tX11_lays_3u ⟨fun q => absurd q ?_, fun _ => ⟨by rw [nI_add]; exact vp_in_nI (by omega) (by decide), by rw [nI_add]; exact vp_in_nI (by omega) (by decide), ?_⟩⟩
      · rw [le_N (by omega) (by omega)]; omega
      · rw [nI_add i 1, nI_add a i, nI_add b i, rd_N (by omega), wr_N (by omega), (ho 52 (by decide)).1]
        refine ih (i + 1) _ (by omega) (ho.tr (Off.up rfl)) (fun j => ?_)
        rw [upI1]
        by_cases q : j = a + i
        · rw [if_pos ⟨rfl, q⟩, if_pos (by omega), show b + (j - a) = b + i by omega]
        · rw [if_neg (fun z => q z.2), hj j]
          by_cases p : a ≤ j ∧ j < a + i
          · rw [if_pos p, if_pos (by omega)]
          · rw [if_neg p, if_neg (by omega)]
  exact L n 0 w (by omega) Off.rf (fun j => by rw [if_neg (by omega)])
end LAYS
/-- the reference's memory: A rows H -/
def HW (w : Wd) (A : Nat) (H : Nat → Nat → Nat) : Prop := w.1 41 24 = nI A ∧ A ≤ 10 ∧ ∀ i j, i < A → j < 256 → w.1 52 (256 * i + j) = nI (H i j)
def remH (r : Nat → Nat) (A : Nat) (H : Nat → Nat → Nat) : Nat → Nat → Nat := fun i => if A = 10 then (if i = 9 then r else H (i + 1)) else (if i = A then r else H i)
section REMEMB
variable {w : Wd} {r : Nat → Nat} {K : Kt}
theorem g_rem2 (hM : RM w r) {A : Nat} {H : Nat → Nat → Nat} (hA : A ≤ 9) (hH : HW w A H) {u : Value} (h : ∀ w1, Off (fun c => c = 52 ∨ c = 41) w w1 → (∀ j, j ≠ 24 → w1.1 41 j = w.1 41 j) → HW w1 (A + 1) (fun i => if i = A then r else H i) → K none w1) : fX11_lays [.ref 52, .int (nI 256 * w.1 41 24), .ref 43, .int (nI 0), .int (nI 256)] w (fun v w1 => RR (tl K lX11_remembers) 78 [.ref 41, u] (psh v []) w1) := by
  obtain ⟨h24, h10, hrow⟩ := hH
  rw [h24, pk_mul]
  refine g_lays_s (by omega) (by omega) (fun w1 ho hj => tX11_remembers_78 ?_)
  have e41 : w1.1 41 = w.1 41 := (ho 41 (by decide)).1
  have o1 : Off (fun c => c = 52 ∨ c = 41) w w1 := ho.mono (fun c q => Or.inl q)
  refine h _ (o1.tr (Off.up (Or.inr rfl))) (fun j hj2 => ?_) ⟨?_, by omega, fun i j hi hj3 => ?_⟩
  · rw [upI1, if_neg (fun z => hj2 z.2), e41]
  · rw [upI1, if_pos ⟨rfl, rfl⟩, e41, h24, nI_add]
  · rw [upI1, if_neg (fun z => absurd z.1 (by decide)), hj]
    show _ = nI ((if i = A then r else H i) j)
    by_cases q : i = A
    · subst q
      rw [if_pos (by omega), if_pos rfl, show 0 + (256 * i + j - 256 * i) = j by omega]
      exact hM j
    · rw [if_neg (by omega), if_neg q]
      exact hrow i j (by omega) hj3
theorem g_remembers (hM : RM w r) {A : Nat} {H : Nat → Nat → Nat} (hH : HW w A H) (h : ∀ w1, Off (fun c => c = 52 ∨ c = 41) w w1 → (∀ j, j ≠ 24 → w1.1 41 j = w.1 41 j) → HW w1 (min (A + 1) 10) (remH r A H) → K none w1) : fX11_remembers [.ref 41] w K := by
  obtain ⟨h24, h10, hrow⟩ := hH
  refine tX11_remembers_0 ⟨fun z => ?_, fun z => ?_⟩
  · rw [h24, eq_N (by omega) (by omega)] at z
    refine g_rem2 hM (by omega) ⟨h24, h10, hrow⟩ (fun w1 ho hk hw => h w1 ho hk ?_)
    have e : remH r A H = fun i => if i = A then r else H i := by
      funext i
      show (if A = 10 then _ else _) = _
      rw [if_neg z]
    rw [e, show min (A + 1) 10 = A + 1 by omega]
    exact hw
  · rw [h24, eq_N (by omega) (by omega)] at z
    rw [h24, z, sub_N (by omega)]
    have L : ∀ (n i : Nat) (w1 : Wd), i + n = 2304 → Off (fun c => c = 52 ∨ c = 41) w w1 → (∀ j, j ≠ 24 → w1.1 41 j = w.1 41 j) → w1.1 41 24 = nI 9 → (∀ j, w1.1 52 j = if j < i then w.1 52 (j + 256) else w.1 52 j) → RR (tl K lX11_remembers) 21 [.ref 41, .int (nI i)] [] w1 := by
      intro n
      induction n with
      | zero =>
        intro i w1 hi ho hk h24b hj
        have hM1 : RM w1 r := hM.off ho (by decide)
        refine tX11_remembers_21 ⟨fun _ => ?_, fun q => absurd ?_ q⟩
        · refine g_rem2 hM1 (A := 9) (H := fun i => H (i + 1)) (by omega) ⟨h24b, by omega, fun a b ha hb => ?_⟩ (fun w2 ho2 hk2 hw => h w2 (ho.tr ho2) (fun j hj2 => (hk2 j hj2).trans (hk j hj2)) ?_)
          · rw [hj, if_pos (by omega), show 256 * a + b + 256 = 256 * (a + 1) + b by omega]
            exact hrow (a + 1) b (by omega) hb
          · have e : remH r A H = fun i => if i = 9 then r else H (i + 1) := by
              funext i
              show (if A = 10 then _ else _) = _
              rw [if_pos z]
            rw [e, show min (A + 1) 10 = 9 + 1 by omega]
            exact hw
        · rw [h24b, pk_mul, le_N (by omega) (by omega)]; omega
      | succ n ih =>
        intro i w1 hi ho hk h24b hj
        refine tX11_remembers_21 ⟨fun q => absurd q ?_, fun _ => ⟨by rw [nI_add]; exact vp_in_nI (by omega) (by decide), vp_in_nI (by omega) (by decide), ?_⟩⟩
        · rw [h24b, pk_mul, le_N (by omega) (by omega)]; omega
        · rw [nI_add i 1, nI_add i 256, rd_N (by omega), wr_N (by omega)]
          refine ih (i + 1) _ (by omega) (ho.tr (Off.up (Or.inl rfl))) (fun j hj2 => ?_) ?_ (fun j => ?_)
          · rw [upI1, if_neg (fun z => absurd z.1 (by decide))]; exact hk j hj2
          · rw [upI1, if_neg (fun z => absurd z.1 (by decide))]; exact h24b
          · rw [upI1]
            by_cases q : j = i
            · rw [if_pos ⟨rfl, q⟩, if_pos (by omega), hj, if_neg (by omega), q]
            · rw [if_neg (fun z => q z.2), hj]
              by_cases p : j < i
              · rw [if_pos p, if_pos (by omega)]
              · rw [if_neg p, if_neg (by omega)]
    refine L 2304 0 _ (by omega) (Off.up (Or.inr rfl)) (fun j hj => ?_) ?_ (fun j => ?_)
    · rw [upI1, if_neg (fun z => hj z.2)]
    · rw [upI1, if_pos ⟨rfl, rfl⟩]
    · rw [upI1, if_neg (fun z => absurd z.1 (by decide)), if_neg (by omega)]
end REMEMB

