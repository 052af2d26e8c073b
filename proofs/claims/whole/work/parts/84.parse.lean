/-! a text read, pure -/
def cdU (c : Nat → Nat) : Nat → Nat
  | 0 => 0
  | k + 1 => if c k = 0 then cdU c k else 32 * cdU c k + (c k - 96)
def okW (c : Nat → Nat) : Prop := ∃ l, 1 ≤ l ∧ l ≤ 7 ∧ (∀ j, j < l → isL (c j) = true) ∧ ∀ j, l ≤ j → j < 7 → c j = 0
theorem cdU_up {c : Nat → Nat} : ∀ k, (∀ j, j < k → isL (c j) = true) → cdU c k < 32 ^ k ∧ 32 ^ k ≤ 32 * cdU c k + 1
  | 0, _ => ⟨Nat.one_pos, Nat.le_refl _⟩
  | k + 1, h => by
    obtain ⟨a, b⟩ := cdU_up (c := c) k (fun j hj => h j (by omega))
    have d := isL_iff.mp (h k (by omega))
    have e : cdU c (k + 1) = 32 * cdU c k + (c k - 96) := if_neg (by omega)
    rw [e, Nat.pow_succ]
    omega
theorem cdU_end {c : Nat → Nat} {l : Nat} : ∀ k, l ≤ k → k ≤ 7 → (∀ j, l ≤ j → j < 7 → c j = 0) → cdU c k = cdU c l := by
  intro k
  induction k with
  | zero =>
    intro h _ _
    have : l = 0 := by omega
    subst this; rfl
  | succ k ih =>
    intro h h7 hz
    by_cases q : l = k + 1
    · rw [q]
    · have e : cdU c (k + 1) = cdU c k := if_pos (hz k (by omega) (by omega))
      rw [e]; exact ih (by omega) (by omega) hz
theorem cdU_eq {c d : Nat → Nat} : ∀ k, (∀ j, j < k → isL (c j) = true) → (∀ j, j < k → isL (d j) = true) → cdU c k = cdU d k → ∀ j, j < k → c j = d j
  | 0, _, _, _, j, hj => absurd hj (Nat.not_lt_zero _)
  | k + 1, hc, hd, e, j, hj => by
    have a := isL_iff.mp (hc k (by omega))
    have b := isL_iff.mp (hd k (by omega))
    have e1 : cdU c (k + 1) = 32 * cdU c k + (c k - 96) := if_neg (by omega)
    have e2 : cdU d (k + 1) = 32 * cdU d k + (d k - 96) := if_neg (by omega)
    rw [e1, e2] at e
    by_cases q : j = k
    · rw [q]; omega
    · exact cdU_eq k (fun i hi => hc i (by omega)) (fun i hi => hd i (by omega)) (by omega) j (by omega)
theorem cd_inj {c d : Nat → Nat} (hc : okW c) (hd : okW d) : cdU c 7 = cdU d 7 ↔ ∀ j, j < 7 → c j = d j := by
  obtain ⟨l, l1, l7, cl, cz⟩ := hc
  obtain ⟨m, m1, m7, dl, dz⟩ := hd
  rw [cdU_end 7 l7 (Nat.le_refl _) cz, cdU_end 7 m7 (Nat.le_refl _) dz]
  have a := cdU_up l cl
  have b := cdU_up m dl
  constructor
  · intro e
    have el : l = m := by
      rcases Nat.lt_trichotomy l m with q | q | q
      · exfalso
        have p : 32 ^ l ≤ 32 ^ (m - 1) := Nat.pow_le_pow_right (by omega) (by omega)
        have s : 32 ^ m = 32 ^ (m - 1) * 32 := by rw [← Nat.pow_succ]; exact congrArg _ (by omega)
        omega
      · exact q
      · exfalso
        have p : 32 ^ m ≤ 32 ^ (l - 1) := Nat.pow_le_pow_right (by omega) (by omega)
        have s : 32 ^ l = 32 ^ (l - 1) * 32 := by rw [← Nat.pow_succ]; exact congrArg _ (by omega)
        omega
    subst el
    intro j hj
    by_cases q : j < l
    · exact cdU_eq l cl dl e j q
    · rw [cz j (by omega) hj, dz j (by omega) hj]
  · intro e
    have el : l = m := by
      rcases Nat.lt_trichotomy l m with q | q | q
      · exfalso
        have x := isL_iff.mp (dl l q)
        have y := cz l (Nat.le_refl _) (by omega)
        have z := e l (by omega)
        omega
      · exact q
      · exfalso
        have x := isL_iff.mp (cl m q)
        have y := dz m (Nat.le_refl _) (by omega)
        have z := e m (by omega)
        omega
    subst el
    have key : ∀ k, k ≤ 7 → cdU c k = cdU d k := by
      intro k
      induction k with
      | zero => intro _; rfl
      | succ k ih =>
        intro hk
        show (if c k = 0 then cdU c k else 32 * cdU c k + (c k - 96)) = (if d k = 0 then cdU d k else 32 * cdU d k + (d k - 96))
        rw [e k (by omega), ih (by omega)]
    exact key l l7
theorem cdU_lt {c : Nat → Nat} (h : okW c) : cdU c 7 < 2 ^ 63 ∧ 0 < cdU c 7 := by
  obtain ⟨l, l1, l7, cl, cz⟩ := h
  rw [cdU_end 7 l7 (Nat.le_refl _) cz]
  have a := cdU_up l cl
  have p : 32 ^ l ≤ 32 ^ 7 := Nat.pow_le_pow_right (by omega) (by omega)
  have e7 : (32 : Nat) ^ 7 = 34359738368 := by decide
  have p2 : 32 ^ 1 ≤ 32 ^ l := Nat.pow_le_pow_right (by omega) l1
  omega
/-- the letters of a word, 0 behind them -/
def nmT (T : Nat → Nat) (t : Tk) : Nat → Nat := fun j => if t.2.1 + j < t.2.2 then T (t.2.1 + j) else 0
def wdT (T : Nat → Nat) (t : Tk) : Prop := t.2.1 < t.2.2 ∧ t.2.2 - t.2.1 ≤ 7 ∧ ∀ j, t.2.1 ≤ j → j < t.2.2 → isL (T j) = true
theorem nmT_ok {T : Nat → Nat} {t : Tk} (h : wdT T t) : okW (nmT T t) := by
  obtain ⟨a, b, c⟩ := h
  refine ⟨t.2.2 - t.2.1, by omega, b, fun j hj => ?_, fun j hj _ => if_neg (by omega)⟩
  have e : nmT T t j = T (t.2.1 + j) := if_pos (by omega)
  rw [e]; exact c _ (by omega) (by omega)
theorem nmT_cd {T : Nat → Nat} {t : Tk} (h : wdT T t) : cdU (nmT T t) 7 = cod T t.2.1 (t.2.2 - t.2.1) := by
  obtain ⟨a, b, c⟩ := h
  rw [cdU_end (c := nmT T t) (l := t.2.2 - t.2.1) 7 b (Nat.le_refl _) (fun j hj _ => if_neg (by omega))]
  have key : ∀ k, k ≤ t.2.2 - t.2.1 → cdU (nmT T t) k = cod T t.2.1 k := by
    intro k
    induction k with
    | zero => intro _; rfl
    | succ k ih =>
      intro hk
      have e : nmT T t k = T (t.2.1 + k) := if_pos (by omega)
      have l := isL_iff.mp (c (t.2.1 + k) (by omega) (by omega))
      show (if nmT T t k = 0 then cdU (nmT T t) k else 32 * cdU (nmT T t) k + (nmT T t k - 96)) = 32 * cod T t.2.1 k + (T (t.2.1 + k) - 96)
      rw [e, if_neg (by omega), ih (by omega)]
  exact key _ (Nat.le_refl _)
theorem tok_wd {T : Nat → Nat} {n p : Nat} (h : p ≤ n) (h1 : (tok T n p).1 = 1) : wdT T (tok T n p) := by
  have b := tok_b (T := T) h
  have b2 := b.2.2.2.2 (by omega)
  unfold tok tkAt at h1 b2 ⊢
  by_cases q : n ≤ run T isSp n p
  · rw [if_pos q] at h1; exact absurd h1 (by show (0 : Nat) ≠ 1; decide)
  · rw [if_neg q] at h1 b2 ⊢
    by_cases q1 : isL (T (run T isSp n p)) = true
    · rw [if_pos q1] at h1 b2 ⊢
      by_cases q3 : run T isL n (run T isSp n p) - run T isSp n p ≤ 7
      · exact ⟨b2, q3, fun j h1 h2 => run_all h1 h2⟩
      · rw [if_neg q3] at h1; exact absurd h1 (by show (4 : Nat) ≠ 1; decide)
    · rw [if_neg q1] at h1
      by_cases q2 : isD (T (run T isSp n p)) = true
      · rw [if_pos q2] at h1
        have h1 : (if run T isD n (run T isSp n p) - run T isSp n p ≤ 3 then 2 else 4) = 1 := h1
        split at h1 <;> omega
      · rw [if_neg q2] at h1
        have h1 : (if T (run T isSp n p) = 59 then 3 else 4) = 1 := h1
        split at h1 <;> omega
abbrev ER : Type := Nat × Nat
def bnd {α β : Type} (x : ER ⊕ α) (f : α → ER ⊕ β) : ER ⊕ β := match x with
  | .inl e => .inl e
  | .inr a => f a
def el {α : Type} (x : ER ⊕ α) (kf : Nat → Nat → Prop) (ko : α → Prop) : Prop := match x with
  | .inl e => kf e.1 e.2
  | .inr a => ko a
theorem el_bnd {α β : Type} (x : ER ⊕ α) (f : α → ER ⊕ β) (kf : Nat → Nat → Prop) (ko : β → Prop) : el (bnd x f) kf ko = el x kf (fun a => el (f a) kf ko) := by cases x <;> rfl
theorem el_mono {α : Type} {x : ER ⊕ α} {kf kf2 : Nat → Nat → Prop} {ko ko2 : α → Prop} (h : el x kf ko) (hf : ∀ a b, kf a b → kf2 a b) (ho : ∀ a, ko a → ko2 a) : el x kf2 ko2 := by
  cases x with
  | inl e => exact hf _ _ h
  | inr a => exact ho _ h
theorem el_and {α : Type} {x : ER ⊕ α} {kf kf2 : Nat → Nat → Prop} {ko ko2 : α → Prop} (h : el x kf ko) (h2 : el x kf2 ko2) : el x (fun a b => kf a b ∧ kf2 a b) (fun a => ko a ∧ ko2 a) := by
  cases x with
  | inl e => exact ⟨h, h2⟩
  | inr a => exact ⟨h, h2⟩
def vTk (T : Nat → Nat) (t : Tk) : Nat := val T t.2.1 (t.2.2 - t.2.1)
def takesP (T : Nat → Nat) (n at_ lo hi : Nat) (D : Nat → Nat) (p : Nat) : ER ⊕ ((Nat → Nat) × Nat) := if (tok T n p).1 = 2 then (if lo ≤ vTk T (tok T n p) ∧ vTk T (tok T n p) ≤ hi then .inr (upR D at_ (vTk T (tok T n p)), (tok T n p).2.2) else .inl (2, (tok T n p).2.1)) else .inl (1, (tok T n p).2.1)
abbrev PSt : Type := (Nat → Nat) × (Nat → Nat → Nat) × (Nat → Nat) × Nat
def nameOk (T : Nat → Nat) (t : Tk) : Prop := t.1 = 1 ∧ ∀ c, c < 8 → ¬ isW T t (200 + c)
noncomputable def armP (T : Nat → Nat) (n : Nat) (D : Nat → Nat) (nm : Nat → Nat → Nat) (B : Nat → Nat) (t0 : Tk) : ER ⊕ PSt :=
  bif dec (D 0 = 8) then .inl (4, t0.2.1) else
  bif dec (nameOk T (tok T n t0.2.2)) then
    (bif dec (∃ k, k < D 0 ∧ ∀ j, j < 7 → nm k j = nmT T (tok T n t0.2.2) j) then .inl (3, (tok T n t0.2.2).2.1) else
      bif dec (isW T (tok T n (tok T n t0.2.2).2.2) 201 ∨ isW T (tok T n (tok T n t0.2.2).2.2) 202) then
        bnd (takesP T n (14 + D 0) 1 99 (upR (upR D (6 + D 0) (bif dec (isW T (tok T n (tok T n t0.2.2).2.2) 201) then 0 else 1)) 0 (D 0 + 1)) (tok T n (tok T n t0.2.2).2.2).2.2) (fun x =>
        bnd (takesP T n (22 + D 0) 1 120 x.1 x.2) (fun x =>
        bnd (takesP T n (30 + D 0) 0 (x.1 (22 + D 0)) x.1 x.2) (fun x =>
        bnd (takesP T n (38 + D 0) 0 9 x.1 x.2) (fun x => .inr (x.1, fun k => if k = D 0 then nmT T (tok T n t0.2.2) else nm k, B, x.2)))))
      else .inl (1, (tok T n (tok T n t0.2.2).2.2).2.1))
  else .inl (1, (tok T n t0.2.2).2.1)
def gameP (T : Nat → Nat) (n : Nat) (D : Nat → Nat) (nm : Nat → Nat → Nat) (B : Nat → Nat) (t0 : Tk) : ER ⊕ PSt :=
  if D 1 = 20 then .inl (4, t0.2.1) else
  bnd (takesP T n (46 + D 1) (if D 1 = 0 then 0 else D (46 + D 1 - 1) + 1) 59 (upR D 1 (D 1 + 1)) t0.2.2) (fun x =>
  bnd (takesP T n (66 + D 1) 0 9 x.1 x.2) (fun x =>
  bnd (takesP T n (86 + D 1) 1 200 x.1 x.2) (fun x => .inr (x.1, nm, B, x.2))))
def restP (T : Nat → Nat) (n : Nat) (D : Nat → Nat) (nm : Nat → Nat → Nat) (B : Nat → Nat) (t0 : Tk) : ER ⊕ PSt :=
  if D 2 = 5 then .inl (4, t0.2.1) else
  bnd (takesP T n (246 + D 2) (if D 2 = 0 then 1 else D (246 + D 2 - 1) + 1) 120 (upR D 2 (D 2 + 1)) t0.2.2) (fun x =>
  bnd (takesP T n (251 + D 2) 0 9 x.1 x.2) (fun x => .inr (x.1, nm, B, x.2)))
def onceP (T : Nat → Nat) (n i : Nat) (D : Nat → Nat) (nm : Nat → Nat → Nat) (B : Nat → Nat) (t0 : Tk) : ER ⊕ PSt :=
  if B i = 0 then bnd (takesP T n (3 + i) (loB i) (hiB i) D t0.2.2) (fun x => .inr (x.1, nm, upR B i 1, x.2)) else .inl (3, t0.2.1)
noncomputable def lineP (T : Nat → Nat) (n : Nat) (D : Nat → Nat) (nm : Nat → Nat → Nat) (B : Nat → Nat) (p : Nat) : ER ⊕ PSt :=
  bif dec (isW T (tok T n p) 200) then armP T n D nm B (tok T n p) else
  bif dec (isW T (tok T n p) 203) then gameP T n D nm B (tok T n p) else
  bif dec (isW T (tok T n p) 204) then restP T n D nm B (tok T n p) else
  bif dec (isW T (tok T n p) 205) then onceP T n 0 D nm B (tok T n p) else
  bif dec (isW T (tok T n p) 206) then onceP T n 1 D nm B (tok T n p) else
  bif dec (isW T (tok T n p) 207) then onceP T n 2 D nm B (tok T n p) else .inl (1, (tok T n p).2.1)
noncomputable def linesP (T : Nat → Nat) (n : Nat) : Nat → PSt → ER ⊕ ((Nat → Nat) × (Nat → Nat → Nat))
  | 0, _ => .inl (0, 0)
  | k + 1, s => bnd (lineP T n s.1 s.2.1 s.2.2.1 s.2.2.2) (fun s => if (tok T n s.2.2.2).1 = 3 then linesP T n k (s.1, s.2.1, s.2.2.1, (tok T n s.2.2.2).2.2) else if (tok T n s.2.2.2).1 = 0 then (if 0 < s.1 0 ∧ 0 < s.1 1 then .inr (s.1, s.2.1) else .inl (5, (tok T n s.2.2.2).2.1)) else .inl (1, (tok T n s.2.2.2).2.1))
def D0 : Nat → Nat := fun j => if j = 5 then 15 else 0
noncomputable def parseP (T : Nat → Nat) (n : Nat) : ER ⊕ ((Nat → Nat) × (Nat → Nat → Nat)) := linesP T n 37 (D0, fun _ _ => 0, fun _ => 0, 0)
