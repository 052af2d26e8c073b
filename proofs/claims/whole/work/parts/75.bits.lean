/-! bits -/
abbrev bitF (F : Int32) (m : Nat) : Prop := ((Int32.toUInt32 F >>> (Int32.toUInt32 (nI m) &&& Int32.toUInt32 31)).toInt32 &&& nI 1) = nI 1
theorem shf_get (y : BitVec 32) : (y &&& 1#32 = 1#32) ↔ y.getLsbD 0 = true := by
  rw [BitVec.and_one_eq_setWidth_ofBool_getLsbD]
  cases y.getLsbD 0
  · exact ⟨fun h => absurd h (by decide), fun h => absurd h (by decide)⟩
  · exact ⟨fun _ => rfl, fun _ => by decide⟩
theorem sh_nat : ∀ m, m < 32 → ((Int32.toUInt32 (nI m) &&& Int32.toUInt32 31).toBitVec % (32 : BitVec 32)).toNat = m := by decide +kernel
theorem bitF_get {F : Int32} {m : Nat} (hm : m < 32) : bitF F m ↔ F.toBitVec.getLsbD m = true := by
  have e : ((Int32.toUInt32 F >>> (Int32.toUInt32 (nI m) &&& Int32.toUInt32 31)).toInt32 &&& nI 1).toBitVec = (F.toBitVec >>> m) &&& 1#32 := by
    have k := sh_nat m hm
    have h1 : ((Int32.toUInt32 F >>> (Int32.toUInt32 (nI m) &&& Int32.toUInt32 31)).toInt32 &&& nI 1).toBitVec = (F.toBitVec >>> ((Int32.toUInt32 (nI m) &&& Int32.toUInt32 31).toBitVec % (32 : BitVec 32))) &&& 1#32 := rfl
    rw [h1, BitVec.ushiftRight_eq', k]
  have e1 : (nI 1).toBitVec = 1#32 := by decide
  constructor
  · intro h
    have h2 := congrArg Int32.toBitVec h
    rw [e, e1] at h2
    have h3 := (shf_get _).mp h2
    rw [BitVec.getLsbD_ushiftRight] at h3
    exact h3
  · intro h
    refine Int32.toBitVec.inj ?_
    rw [e, e1]
    refine (shf_get _).mpr ?_
    rw [BitVec.getLsbD_ushiftRight]
    exact h
theorem sl_bv : ∀ s, s < 32 → (nI 1 <<< (nI s &&& 31)).toBitVec = 1#32 <<< s := by decide +kernel
theorem sl_get : ∀ m, m < 32 → ∀ s, s < 32 → (1#32 <<< s).getLsbD m = decide (m = s) := by decide +kernel
theorem bitF_or {F : Int32} {m s : Nat} (hm : m < 32) (hs : s < 32) : bitF (F ||| (nI 1 <<< (nI s &&& 31))) m ↔ bitF F m ∨ m = s := by
  rw [bitF_get hm, bitF_get hm]
  have e : (F ||| (nI 1 <<< (nI s &&& 31))).toBitVec = F.toBitVec ||| (nI 1 <<< (nI s &&& 31)).toBitVec := rfl
  rw [e, sl_bv s hs, BitVec.getLsbD_or, sl_get m hm s hs, Bool.or_eq_true, decide_eq_true_iff]
theorem bitF_1 : ∀ m, m < 32 → (bitF (nI 1) m ↔ m = 0) := by decide +kernel
theorem bitF_n : ∀ s, s < 32 → ∀ i, i < 5 → (bitF (nI s) i ↔ s.testBit i = true) := by decide +kernel
theorem xor_n : ∀ s, s < 32 → ∀ l, l < 5 → nI s ^^^ (nI 1 <<< (nI l &&& 31)) = nI (s ^^^ 2 ^ l) := by decide +kernel
theorem clr_n : ∀ s, s < 32 → ∀ l, l < 5 → s.testBit l = true → (s ^^^ 2 ^ l) < s ∧ ∀ i, i < 5 → (s ^^^ 2 ^ l).testBit i = (s.testBit i && !(i == l)) := by decide +kernel
theorem or_n : ∀ i, i < 5 → ∀ m, m < 2 ^ i → nI m ||| (nI 1 <<< (nI i &&& 31)) = nI (m + 2 ^ i) := by decide +kernel
theorem xorb_n : ∀ i, i < 5 → ∀ m, m < 2 ^ i → nI (m + 2 ^ i) ^^^ (nI 1 <<< (nI i &&& 31)) = nI m := by decide +kernel
theorem add_n : ∀ i, i < 5 → ∀ m, m < 2 ^ i → ∀ j, j < 5 → (m + 2 ^ i).testBit j = (m.testBit j || j == i) := by decide +kernel
theorem low_n : ∀ i, i < 5 → ∀ m, m < 2 ^ i → ∀ j, j < 5 → i ≤ j → m.testBit j = false := by decide +kernel
theorem top_n : ∀ n, n < 6 → nI 1 <<< (nI n &&& 31) = nI (2 ^ n) := by decide +kernel
theorem pow_n : ∀ n, n < 6 → 2 ^ n ≤ 32 := by decide
/-- the last of a set -/
def la (s : Nat) : Nat → Nat
  | 0 => 0
  | i + 1 => if s.testBit i = true then i else la s i
theorem la_n : ∀ n, n < 6 → ∀ s, s < 2 ^ n → 1 ≤ s → s.testBit (la s n) = true ∧ la s n < n ∧ ∀ i, i < n → la s n < i → s.testBit i = false := by decide +kernel
/-- the games that a row gives to a thrower, as bits -/
def mk (f : Nat → Nat) (t : Nat) : Nat → Nat
  | 0 => 0
  | i + 1 => mk f t i + (if f i = t then 2 ^ i else 0)
theorem mk_lt {f : Nat → Nat} {t : Nat} : ∀ i, mk f t i < 2 ^ i
  | 0 => Nat.one_pos
  | i + 1 => by
    have := mk_lt (f := f) (t := t) i
    show mk f t i + (if f i = t then 2 ^ i else 0) < 2 ^ (i + 1)
    rw [Nat.pow_succ]
    split <;> omega
theorem mk_bit {f : Nat → Nat} {t : Nat} : ∀ i, i ≤ 5 → ∀ j, j < 5 → (mk f t i).testBit j = (decide (j < i) && f j == t) := by
  intro i
  induction i with
  | zero =>
    intro _ j hj
    show (0 : Nat).testBit j = _
    rw [Nat.zero_testBit, decide_eq_false (by omega), Bool.false_and]
  | succ i ih =>
    intro hi j hj
    have lt := mk_lt (f := f) (t := t) i
    have e := ih (by omega) j hj
    show (mk f t i + (if f i = t then 2 ^ i else 0)).testBit j = _
    by_cases q : f i = t
    · rw [if_pos q, add_n i (by omega) _ lt j hj, e]
      by_cases p : j = i
      · subst p
        rw [beq_self_eq_true, Bool.or_true, decide_eq_true (by omega), q, beq_self_eq_true]; rfl
      · rw [beq_false_of_ne p, Bool.or_false]
        by_cases z : j < i
        · rw [decide_eq_true z, decide_eq_true (show j < i + 1 by omega)]
        · rw [decide_eq_false z, decide_eq_false (show ¬ j < i + 1 by omega)]
    · rw [if_neg q, Nat.add_zero, e]
      by_cases p : j = i
      · subst p
        rw [decide_eq_false (Nat.lt_irrefl j), Bool.false_and, beq_false_of_ne q, Bool.and_false]
      · by_cases z : j < i
        · rw [decide_eq_true z, decide_eq_true (show j < i + 1 by omega)]
        · rw [decide_eq_false z, decide_eq_false (show ¬ j < i + 1 by omega)]
theorem mk_congr {f f1 : Nat → Nat} {t : Nat} : ∀ i, (∀ j, j < i → f1 j = f j) → mk f1 t i = mk f t i
  | 0, _ => rfl
  | i + 1, e => by
    show mk f1 t i + (if f1 i = t then 2 ^ i else 0) = mk f t i + (if f i = t then 2 ^ i else 0)
    rw [mk_congr i (fun j hj => e j (by omega)), e i (by omega)]
theorem mk_no {f : Nat → Nat} {t : Nat} : ∀ i, (∀ j, j < i → f j ≠ t) → mk f t i = 0
  | 0, _ => rfl
  | i + 1, e => by
    show mk f t i + (if f i = t then 2 ^ i else 0) = 0
    rw [mk_no i (fun j hj => e j (by omega)), if_neg (e i (by omega))]
