/-! sound: longs -/
def fb : Nat → Nat × Nat
  | 0 => (0, 1)
  | n + 1 => match fb n with
    | (a, b) => (b, a + b)
theorem fb_1 (n : Nat) : (fb (n + 1)).1 = (fb n).2 := rfl
theorem fb_2 (n : Nat) : (fb (n + 1)).2 = (fb n).1 + (fb n).2 := rfl
theorem fb_99 : 1000000000000000000 < (fb 99).2 := by decide +kernel
/-- Euclid ends within n steps -/
def don : Nat → Nat → Nat → Prop
  | 0, _, b => b = 0
  | n + 1, a, b => b = 0 ∨ don n b (a % b)
theorem don_fb : ∀ (n a b : Nat), ¬ don n a b → b < a → (fb n).2 ≤ b ∧ (fb (n + 1)).2 ≤ a
  | 0, a, b, h, hb => by
    have h : ¬ b = 0 := h
    exact ⟨by show 1 ≤ b; omega, by show 0 + 1 ≤ a; omega⟩
  | n + 1, a, b, h, hb => by
    have h : ¬ (b = 0 ∨ don n b (a % b)) := h
    have hb0 : ¬ b = 0 := fun e => h (Or.inl e)
    have hm : a % b < b := Nat.mod_lt _ (by omega)
    obtain ⟨i1, i2⟩ := don_fb n b (a % b) (fun e => h (Or.inr e)) hm
    refine ⟨i2, ?_⟩
    rw [fb_2, fb_1]
    have e := Nat.div_add_mod a b
    have d1 : 1 ≤ a / b := (Nat.le_div_iff_mul_le (by omega)).mpr (by omega)
    have d2 : b * 1 ≤ b * (a / b) := Nat.mul_le_mul_left _ d1
    omega
theorem don_z : ∀ n a, don n a 0
  | 0, _ => rfl
  | _ + 1, _ => Or.inl rfl
theorem don_lt {a b : Nat} (h : b < a) (hb : b ≤ 1000000000000000000) : don 99 a b := Classical.byContradiction (fun q => by
  have := (don_fb 99 a b q h).1
  have := fb_99
  omega)
theorem don_ba {a b : Nat} (h : b ≤ a) (ha : 0 < a) (hb : b ≤ 1000000000000000000) : don 99 a b := by
  rcases Nat.lt_or_ge b a with q | q
  · exact don_lt q hb
  · rw [show b = a by omega]
    refine Or.inr ?_
    rw [Nat.mod_self]
    exact don_z _ _
theorem don_ab {a b : Nat} (h : b ≤ a) (ha : 0 < a) (hb : b ≤ 1000000000000000000) : don 100 b a := by
  refine Or.inr ?_
  rcases Nat.lt_or_ge b a with q | q
  · rw [Nat.mod_eq_of_lt q]
    exact don_lt q hb
  · rw [show b = a by omega, Nat.mod_self]
    exact don_z _ _
theorem gcd_st (a b : Nat) : Nat.gcd b (a % b) = Nat.gcd a b := by
  rw [Nat.gcd_comm b (a % b), ← Nat.gcd_rec, Nat.gcd_comm]
section EUC
variable {w : Wd} {K : Kt}
theorem c_common {a b : Nat} (ha : a < 2 ^ 63) (hb : b < 2 ^ 63) (hd : don 100 a b) (h : K (some (.long (lN (Nat.gcd a b)))) w) : fX10_commonDivisor [.long (lN a), .long (lN b)] w K := by
  refine tX10_commonDivisor_0 ?_
  have L : ∀ (n i a b : Nat) (u5 u6 : Value), i + n = 100 → a < 2 ^ 63 → b < 2 ^ 63 → don n a b → K (some (.long (lN (Nat.gcd a b)))) w → RR (tl K lX10_commonDivisor) 3 [.long (lN a), .null, .long (lN b), .null, .int (nI i), u5, u6] [] w := by
    intro n
    induction n with
    | zero =>
      intro i a b u5 u6 hi ha hb hd h
      have hd : b = 0 := hd
      refine tX10_commonDivisor_3 ⟨fun _ => ?_, fun q => absurd ?_ q⟩
      · rw [hd, Nat.gcd_zero_right] at h; exact h
      · rw [le_N (by omega) (by omega)]; omega
    | succ n ih =>
      intro i a b u5 u6 hi ha hb hd h
      refine tX10_commonDivisor_3 ⟨fun q => absurd q ?_, fun _ => ⟨fun q => ?_, fun q => ?_⟩⟩
      · rw [le_N (by omega) (by omega)]; omega
      · rw [lg_cmp_eq, pk_lEQ hb (by decide)] at q
        rw [q, Nat.gcd_zero_right] at h; exact h
      · rw [lg_cmp_eq, pk_lEQ hb (by decide)] at q
        have hm : a % b < b := Nat.mod_lt _ (by omega)
        refine ⟨fun z => q ((pk_lEQ (b := 0) hb (by decide)).mp z), ?_⟩
        rw [pk_lRem ha (by omega) hb, nI_add i 1]
        refine ih (i + 1) b (a % b) _ _ (by omega) hb (by omega) ?_ (by rw [gcd_st]; exact h)
        rcases (show b = 0 ∨ don n b (a % b) from hd) with z | z
        · exact absurd z q
        · exact z
  exact L 100 0 a b _ _ (by omega) ha hb hd h
theorem g_common {a b n : Nat} (ha : a < 2 ^ 63) (hb : b < 2 ^ 63) (hd : don n a b) (h : K (some (.long (lN (Nat.gcd a b)))) w) : fX11_common [.long (lN a), .long (lN b)] w K := by
  refine tX11_common_0 ?_
  have L : ∀ (x0 x2 : Int64) (n a b : Nat) (u8 u9 : Value), a < 2 ^ 63 → b < 2 ^ 63 → don n a b → K (some (.long (lN (Nat.gcd a b)))) w → RR (tl K lX11_common) 6 [.long x0, .null, .long x2, .null, .long (lN a), .null, .long (lN b), .null, u8, u9] [] w := by
    intro x0 x2 n
    induction n with
    | zero =>
      intro a b u8 u9 ha hb hd h
      have hd : b = 0 := hd
      refine tX11_common_6 ⟨fun _ => ?_, fun q => absurd ?_ q⟩
      · rw [hd, Nat.gcd_zero_right] at h; exact h
      · rw [lg_cmp_eq, hd]
    | succ n ih =>
      intro a b u8 u9 ha hb hd h
      refine tX11_common_6 ⟨fun q => ?_, fun q => ?_⟩
      · rw [lg_cmp_eq, pk_lEQ hb (by decide)] at q
        rw [q, Nat.gcd_zero_right] at h; exact h
      · rw [lg_cmp_eq, pk_lEQ hb (by decide)] at q
        have hm : a % b < b := Nat.mod_lt _ (by omega)
        refine ⟨fun z => q ((pk_lEQ (b := 0) hb (by decide)).mp z), ?_⟩
        rw [pk_lRem ha (by omega) hb]
        refine ih b (a % b) _ _ hb (by omega) ?_ (by rw [gcd_st]; exact h)
        rcases (show b = 0 ∨ don n b (a % b) from hd) with z | z
        · exact absurd z q
        · exact z
  exact L _ _ n a b _ _ ha hb hd h
end EUC
/-- the chances, above and below -/
def abN (r : Nat → Nat) (t : Nat) : Nat → Nat
  | 0 => 1
  | g + 1 => abN r t g * (if 0 < load r t g then 1000 - riskN r t (load r t g) else 1)
def blN (r : Nat → Nat) (t : Nat) : Nat → Nat
  | 0 => 1
  | g + 1 => blN r t g * (if 0 < load r t g then 1000 else 1)
theorem ab_le (r : Nat → Nat) (t : Nat) : ∀ g, abN r t g ≤ blN r t g ∧ 0 < blN r t g
  | 0 => ⟨Nat.le_refl _, Nat.one_pos⟩
  | g + 1 => by
    obtain ⟨a, b⟩ := ab_le r t g
    unfold abN blN
    by_cases q : 0 < load r t g
    · rw [if_pos q, if_pos q]
      exact ⟨Nat.mul_le_mul a (by omega), by omega⟩
    · rw [if_neg q, if_neg q]
      exact ⟨by omega, by omega⟩
theorem bl_pow (r : Nat → Nat) (t : Nat) : ∀ g, blN r t g = 1000 ^ sumN (fun g => fS r t 1 g (load r t g)) g
  | 0 => rfl
  | g + 1 => by
    have e : sumN (fun g => fS r t 1 g (load r t g)) (g + 1) = sumN (fun g => fS r t 1 g (load r t g)) g + (if 0 < load r t g then 1 else 0) := rfl
    rw [blN, bl_pow r t g, e]
    by_cases q : 0 < load r t g
    · rw [if_pos q, if_pos q, Nat.pow_succ]
    · rw [if_neg q, if_neg q, Nat.mul_one, Nat.add_zero]
theorem bl_le {r : Nat → Nat} {t : Nat} (h : sumT r t 1 ≤ 6) : blN r t (r 1) ≤ 1000000000000000000 := by
  rw [bl_pow]
  exact Nat.le_trans (Nat.pow_le_pow_right (by decide) h) (by decide)
theorem risk_le {r : Nat → Nat} (hW : WFr r) {t x : Nat} (ht : t < 8) (hx : x ≤ 120) : riskN r t x ≤ 1080 := by
  have hT := hW.2.2.2.2.2.2.1 t ht
  unfold riskN
  exact Nat.le_trans (Nat.mul_le_mul hT.2.2.2.2 (by omega : x - r (30 + t) ≤ 120)) (by decide)
theorem sub_max {k : Nat} (hk : k ≤ 2000) : (if nI 0 < nI 1000 - nI k then nI 1000 - nI k else nI 0) = nI (1000 - k) := by
  have z0 : (nI 0).toInt = 0 := by decide
  by_cases q : k < 1000
  · rw [sub_N (by omega), if_pos ((lt_N (by omega) (by omega)).mpr (by omega))]
  · rw [show 1000 - k = 0 by omega]
    by_cases p : nI 0 < nI 1000 - nI k
    · have := Int32.lt_iff_toInt_lt.mp p
      rw [pk_sub_toInt (by omega) (by omega), z0] at this
      omega
    · rw [if_neg p]
def QKL (w : Wd) (v u : Option Value) (w2 : Wd) : Prop := u = v ∧ (∃ x, v = some (.long x)) ∧ FF w w2
theorem finL {w w1 w2 : Wd} {T : Int32} {x : Int64} (h1 : CF w w1 T) (h2 : GF w1 w2 T) : QKL w (some (.long x)) (some (.long x)) w2 := ⟨rfl, ⟨x, rfl⟩, (fin (x := 0) h1 h2).2.2⟩
def QPL (w : Wd) (fc fg : Mf) (ac ag : List Value) : Prop := fc ac w (fun v w1 => fg ag w1 (fun u w2 => QKL w v u w2))
theorem m1L : Int32.toInt64 (-1) = -1 := by decide
