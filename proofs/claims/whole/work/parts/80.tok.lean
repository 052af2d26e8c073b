/-! tokens -/
def isL (v : Nat) : Bool := decide (97 ≤ v ∧ v ≤ 122)
def isD (v : Nat) : Bool := decide (48 ≤ v ∧ v ≤ 57)
def runU (T : Nat → Nat) (P : Nat → Bool) : Nat → Nat → Nat
  | 0, p => p
  | k + 1, p => if P (T p) = true then runU T P k (p + 1) else p
/-- the end of the run of such signs from p on, ahead of n -/
def run (T : Nat → Nat) (P : Nat → Bool) (n p : Nat) : Nat := runU T P (n - p) p
theorem run_ge {T : Nat → Nat} {P : Nat → Bool} {n p : Nat} (h : n ≤ p) : run T P n p = p := by
  unfold run
  rw [show n - p = 0 by omega]; rfl
theorem run_y {T : Nat → Nat} {P : Nat → Bool} {n p : Nat} (h : p < n) (hp : P (T p) = true) : run T P n p = run T P n (p + 1) := by
  unfold run
  rw [show n - p = (n - (p + 1)) + 1 by omega]
  show (if P (T p) = true then runU T P (n - (p + 1)) (p + 1) else p) = _
  rw [if_pos hp]
theorem run_n {T : Nat → Nat} {P : Nat → Bool} {n p : Nat} (hp : ¬ P (T p) = true) : run T P n p = p := by
  unfold run
  cases n - p with
  | zero => rfl
  | succ k => exact if_neg hp
theorem runU_b {T : Nat → Nat} {P : Nat → Bool} : ∀ k p, p ≤ runU T P k p ∧ runU T P k p ≤ p + k
  | 0, p => ⟨Nat.le_refl _, Nat.le_refl _⟩
  | k + 1, p => by
    show p ≤ (if P (T p) = true then runU T P k (p + 1) else p) ∧ (if P (T p) = true then runU T P k (p + 1) else p) ≤ _
    have := runU_b (T := T) (P := P) k (p + 1)
    split
    · omega
    · omega
theorem run_b {T : Nat → Nat} {P : Nat → Bool} {n p : Nat} (h : p ≤ n) : p ≤ run T P n p ∧ run T P n p ≤ n := by
  have := runU_b (T := T) (P := P) (n - p) p
  unfold run
  omega
theorem runU_all {T : Nat → Nat} {P : Nat → Bool} : ∀ k p j, p ≤ j → j < runU T P k p → P (T j) = true
  | 0, p, j, h1, h2 => by
    have h2 : j < p := h2
    omega
  | k + 1, p, j, h1, h2 => by
    have h2 : j < (if P (T p) = true then runU T P k (p + 1) else p) := h2
    by_cases q : P (T p) = true
    · rw [if_pos q] at h2
      by_cases e : j = p
      · rw [e]; exact q
      · exact runU_all k (p + 1) j (by omega) h2
    · rw [if_neg q] at h2; omega
theorem run_all {T : Nat → Nat} {P : Nat → Bool} {n p j : Nat} (h1 : p ≤ j) (h2 : j < run T P n p) : P (T j) = true := runU_all _ _ j h1 h2
def isSp (v : Nat) : Bool := v == 32
abbrev Tk : Type := Nat × Nat × Nat
/-- the token from p on: its kind (0 end, 1 word, 2 number, 3 semicolon, 4 bad), where it begins, where it ends -/
def tkAt (T : Nat → Nat) (n s : Nat) : Tk := if n ≤ s then (0, s, s) else if isL (T s) = true then (if run T isL n s - s ≤ 7 then 1 else 4, s, run T isL n s) else if isD (T s) = true then (if run T isD n s - s ≤ 3 then 2 else 4, s, run T isD n s) else (if T s = 59 then 3 else 4, s, s + 1)
def tok (T : Nat → Nat) (n p : Nat) : Tk := tkAt T n (run T isSp n p)
def val (T : Nat → Nat) (s : Nat) : Nat → Nat
  | 0 => 0
  | k + 1 => 10 * val T s k + (T (s + k) - 48)
def cod (T : Nat → Nat) (s : Nat) : Nat → Nat
  | 0 => 0
  | k + 1 => 32 * cod T s k + (T (s + k) - 96)
def gk (k : Nat) : Nat := if k = 0 then 0 else if k = 1 then 2 else if k = 2 then 3 else if k = 3 then 59 else 1
def TkC (w : Wd) (T : Nat → Nat) (t : Tk) : Prop := w.1 1 3 = nI t.2.2 ∧ w.1 1 4 = nI t.1 ∧ w.1 1 5 = nI t.2.1 ∧ (t.1 = 2 → w.1 1 6 = nI (val T t.2.1 (t.2.2 - t.2.1))) ∧ (t.1 = 1 → w.2 1 7 = lN (cod T t.2.1 (t.2.2 - t.2.1)))
def TkG (w : Wd) (T : Nat → Nat) (t : Tk) : Prop := w.1 41 13 = nI t.2.2 ∧ w.1 41 14 = nI (gk t.1) ∧ w.1 41 12 = nI t.2.1 ∧ (t.1 = 2 → w.1 41 15 = nI (val T t.2.1 (t.2.2 - t.2.1)))
theorem tok_b {T : Nat → Nat} {n p : Nat} (h : p ≤ n) : p ≤ (tok T n p).2.1 ∧ (tok T n p).2.1 ≤ (tok T n p).2.2 ∧ (tok T n p).2.2 ≤ n ∧ (tok T n p).1 ≤ 4 ∧ ((tok T n p).1 ≠ 0 → (tok T n p).2.1 < (tok T n p).2.2) := by
  have a := run_b (T := T) (P := isSp) h
  unfold tok tkAt
  have b := run_b (T := T) (P := isL) a.2
  have c := run_b (T := T) (P := isD) a.2
  by_cases q : n ≤ run T isSp n p
  · rw [if_pos q]; exact ⟨a.1, Nat.le_refl _, a.2, Nat.zero_le _, fun z => absurd rfl z⟩
  · rw [if_neg q]
    by_cases q1 : isL (T (run T isSp n p)) = true
    · rw [if_pos q1]
      have := run_y (T := T) (P := isL) (n := n) (p := run T isSp n p) (by omega) q1
      have d := run_b (T := T) (P := isL) (n := n) (p := run T isSp n p + 1) (by omega)
      refine ⟨a.1, b.1, b.2, ?_, fun _ => ?_⟩
      · show (if _ then 1 else 4) ≤ 4
        split <;> omega
      · show run T isSp n p < run T isL n (run T isSp n p)
        omega
    · rw [if_neg q1]
      by_cases q2 : isD (T (run T isSp n p)) = true
      · rw [if_pos q2]
        have := run_y (T := T) (P := isD) (n := n) (p := run T isSp n p) (by omega) q2
        have d := run_b (T := T) (P := isD) (n := n) (p := run T isSp n p + 1) (by omega)
        refine ⟨a.1, c.1, c.2, ?_, fun _ => ?_⟩
        · show (if _ then 2 else 4) ≤ 4
          split <;> omega
        · show run T isSp n p < run T isD n (run T isSp n p)
          omega
      · rw [if_neg q2]
        refine ⟨a.1, by show run T isSp n p ≤ run T isSp n p + 1; omega, by show run T isSp n p + 1 ≤ n; omega, ?_, fun _ => by show run T isSp n p < run T isSp n p + 1; omega⟩
        show (if _ then 3 else 4) ≤ 4
        split <;> omega
theorem sg_eq {v c : Nat} (hv : v < 256) (hc : c < 128) : sg v = nI c ↔ v = c := by
  unfold sg
  by_cases q : v < 128
  · rw [if_pos q, eq_N (by omega) (by omega)]
  · rw [if_neg q]
    constructor
    · intro h
      exfalso
      have := congrArg Int32.toInt h
      rw [Int32.toInt_sub, nI_toInt (by omega), nI_toInt (by omega), nI_toInt (by omega), Int.bmod_eq_of_le (by omega) (by omega)] at this
      omega
    · intro h; omega
theorem sg_rng {v a b : Nat} (hv : v < 256) (ha : a < 128) (ha1 : 0 < a) (hb : b < 128) : (nI a ≤ sg v ∧ sg v ≤ nI b) ↔ a ≤ v ∧ v ≤ b := by
  unfold sg
  by_cases q : v < 128
  · rw [if_pos q, le_N (by omega) (by omega), le_N (by omega) (by omega)]
  · rw [if_neg q]
    constructor
    · rintro ⟨h, -⟩
      exfalso
      have := Int32.le_iff_toInt_le.mp h
      rw [Int32.toInt_sub, nI_toInt (by omega), nI_toInt (by omega), nI_toInt (by omega), Int.bmod_eq_of_le (by omega) (by omega)] at this
      omega
    · intro h; omega
theorem sg_lo {v : Nat} (h : v < 128) : sg v = nI v := if_pos h
theorem isL_iff {v : Nat} : isL v = true ↔ 97 ≤ v ∧ v ≤ 122 := by unfold isL; exact decide_eq_true_iff
theorem isD_iff {v : Nat} : isD v = true ↔ 48 ≤ v ∧ v ≤ 57 := by unfold isD; exact decide_eq_true_iff
theorem isSp_iff {v : Nat} : isSp v = true ↔ v = 32 := by unfold isSp; exact beq_iff_eq (α := Nat)
theorem cod_lt {T : Nat → Nat} {s : Nat} : ∀ k, (∀ j, j < k → isL (T (s + j)) = true) → cod T s k < 32 ^ k
  | 0, _ => Nat.one_pos
  | k + 1, h => by
    have a := cod_lt (T := T) (s := s) k (fun j hj => h j (by omega))
    have b := isL_iff.mp (h k (by omega))
    show 32 * cod T s k + (T (s + k) - 96) < 32 ^ (k + 1)
    rw [Nat.pow_succ]
    omega
theorem sh5 {c x : Nat} (hc : c < 2 ^ 50) (hx : x < 32) : (lN c <<< (Int32.toInt64 (nI 5) &&& 63)) ||| lN x = lN (32 * c + x) := by
  have e5 : ((Int32.toInt64 (nI 5) &&& 63).toBitVec.smod (64 : BitVec 64)).toNat = 5 := by decide
  have hb : ∀ n : Nat, (lN n).toBitVec = BitVec.ofNat 64 n := fun n => rfl
  refine Int64.toBitVec.inj ?_
  have h1 : ((lN c <<< (Int32.toInt64 (nI 5) &&& 63)) ||| lN x).toBitVec = ((lN c).toBitVec <<< ((Int32.toInt64 (nI 5) &&& 63).toBitVec.smod (64 : BitVec 64))) ||| (lN x).toBitVec := rfl
  rw [h1, BitVec.shiftLeft_eq', e5, hb, hb, hb]
  refine BitVec.eq_of_toNat_eq ?_
  rw [BitVec.toNat_or, BitVec.toNat_shiftLeft, BitVec.toNat_ofNat, BitVec.toNat_ofNat, BitVec.toNat_ofNat, Nat.mod_eq_of_lt (show c < 2 ^ 64 by omega), Nat.mod_eq_of_lt (show x < 2 ^ 64 by omega), Nat.mod_eq_of_lt (show 32 * c + x < 2 ^ 64 by omega), Nat.shiftLeft_eq, Nat.mod_eq_of_lt (show c * 2 ^ 5 < 2 ^ 64 by omega)]
  have := Nat.shiftLeft_add_eq_or_of_lt (show x < 2 ^ 5 by omega) c
  rw [Nat.shiftLeft_eq] at this
  omega
