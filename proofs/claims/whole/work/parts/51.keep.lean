/-! the class's memory -/
theorem cpI_c {w : Wd} {c sp dp n : Nat} {f : Nat → Int32} {j : Nat} : (cpI w c f sp dp n).1 c j = va_cpy f (w.1 c) sp dp n j := if_pos rfl
theorem cpI_o {w : Wd} {c sp dp n : Nat} {f : Nat → Int32} {a : Nat} (h : a ≠ c) : (cpI w c f sp dp n).1 a = w.1 a := by
  funext j
  exact if_neg h
theorem cp3 {f0 f1 f2 m : Nat → Int32} {b n0 n1 n2 j : Nat} : va_cpy f2 (va_cpy f1 (va_cpy f0 m 0 b n0) 0 (b + n0) n1) 0 (b + n0 + n1) n2 j = if b ≤ j ∧ j < b + n0 then f0 (j - b) else if b + n0 ≤ j ∧ j < b + n0 + n1 then f1 (j - (b + n0)) else if b + n0 + n1 ≤ j ∧ j < b + n0 + n1 + n2 then f2 (j - (b + n0 + n1)) else m j := by
  by_cases q2 : b + n0 + n1 ≤ j ∧ j < b + n0 + n1 + n2
  · rw [pk_cpy_in q2.1 q2.2, if_neg (by omega), if_neg (by omega), if_pos q2, Nat.zero_add]
  · rw [pk_cpy_out (by omega)]
    by_cases q1 : b + n0 ≤ j ∧ j < b + n0 + n1
    · rw [pk_cpy_in q1.1 q1.2, if_neg (by omega), if_pos q1, Nat.zero_add]
    · rw [pk_cpy_out (by omega)]
      by_cases q0 : b ≤ j ∧ j < b + n0
      · rw [pk_cpy_in q0.1 q0.2, if_pos q0, Nat.zero_add]
      · rw [pk_cpy_out (by omega), if_neg q0, if_neg q1, if_neg q2]
theorem cpOk_N {a b n n0 n1 : Nat} (h0 : a + n ≤ n0) (h1 : b + n ≤ n1) (hb : n0 + n1 < 2147483648) : cpOk (nI a) (nI b) (nI n) n0 n1 := by
  unfold cpOk
  rw [nI_clamp (by omega), nI_clamp (by omega), nI_clamp (by omega), lt0_N (by omega), lt0_N (by omega), lt0_N (by omega)]
  exact ⟨id, id, id, h0, h1⟩
def SV (w : Wd) (q : Nat) (h : Nat → Nat) : Prop :=
  (∀ t, t < h 0 → w.1 40 (q * 180 + (t * 4 + 0)) = nI (h (14 + t)) ∧ w.1 40 (q * 180 + (t * 4 + 1)) = nI (h (22 + t)) ∧ w.1 40 (q * 180 + (t * 4 + 2)) = nI (h (30 + t)) ∧ w.1 40 (q * 180 + (t * 4 + 3)) = nI (h (38 + t))) ∧
  (w.1 40 (q * 180 + 32) = nI (h 3) ∧ w.1 40 (q * 180 + 33) = nI (h 4) ∧ w.1 40 (q * 180 + 34) = nI (h 5)) ∧
  (∀ i, i < h 2 → w.1 40 (q * 180 + 35 + i) = nI (h (251 + i))) ∧
  (∀ g, g < 20 → w.1 40 (q * 180 + 40 + g) = nI (h (106 + g))) ∧
  (∀ g k, g < 20 → k < h (106 + g) → w.1 40 (q * 180 + 60 + (g * 3 + k)) = nI (who h g k) ∧ w.1 40 (q * 180 + 120 + (g * 3 + k)) = nI (thr h g k))
section KEEP
variable {w : Wd} {r : Nat → Nat} {K : Kt}
theorem c_saveT {b : Nat} (hb : b + 40 ≤ 1800) (h : ∀ w1, Off (· = 40) w w1 → (∀ j, w1.1 40 j = if b ≤ j ∧ j < b + 32 then w.1 16 (j - b) else if b + 32 ≤ j ∧ j < b + 32 + 3 then w.1 18 (j - (b + 32)) else if b + 32 + 3 ≤ j ∧ j < b + 32 + 3 + 5 then w.1 20 (j - (b + 32 + 3)) else w.1 40 j) → K none w1) : fX9_saveTo [.ref 13, .ref 40, .int (nI b)] w K := by
  refine tX9_saveTo_0 ?_
  rw [nI_add b 32, nI_add (b + 32) 3]
  refine ⟨cpOk_N (by omega) (by omega) (by omega), cpOk_N (by omega) (by omega) (by omega), cpOk_N (by omega) (by omega) (by omega), ?_⟩
  rw [cpy_N (by omega) (by omega) (by omega), cpy_N (by omega) (by omega) (by omega), cpy_N (by omega) (by omega) (by omega), cpI_o (show (18 : Nat) ≠ 40 by decide), cpI_o (show (20 : Nat) ≠ 40 by decide), cpI_o (show (20 : Nat) ≠ 40 by decide)]
  have o1 : Off (· = 40) w (cpI w 40 (w.1 16) 0 b 32) := Off.cpI rfl
  have o2 : Off (· = 40) (cpI w 40 (w.1 16) 0 b 32) (cpI (cpI w 40 (w.1 16) 0 b 32) 40 (w.1 18) 0 (b + 32) 3) := Off.cpI rfl
  refine h _ ((o1.tr o2).tr (Off.cpI rfl)) (fun j => ?_)
  rw [cpI_c]
  have e1 : (cpI (cpI w 40 (w.1 16) 0 b 32) 40 (w.1 18) 0 (b + 32) 3).1 40 = va_cpy (w.1 18) (va_cpy (w.1 16) (w.1 40) 0 b 32) 0 (b + 32) 3 := by
    funext i
    rw [cpI_c]
    congr 1
  rw [e1, cp3]
theorem c_saveP {b : Nat} (hb : b + 140 ≤ 1800) (h : ∀ w1, Off (· = 40) w w1 → (∀ j, w1.1 40 j = if b ≤ j ∧ j < b + 20 then w.1 22 (j - b) else if b + 20 ≤ j ∧ j < b + 20 + 60 then w.1 23 (j - (b + 20)) else if b + 20 + 60 ≤ j ∧ j < b + 20 + 60 + 60 then w.1 24 (j - (b + 20 + 60)) else w.1 40 j) → K none w1) : fX5_saveTo [.ref 21, .ref 40, .int (nI b)] w K := by
  refine tX5_saveTo_0 ?_
  rw [nI_add b 20, nI_add (b + 20) 60]
  refine ⟨cpOk_N (by omega) (by omega) (by omega), cpOk_N (by omega) (by omega) (by omega), cpOk_N (by omega) (by omega) (by omega), ?_⟩
  rw [cpy_N (by omega) (by omega) (by omega), cpy_N (by omega) (by omega) (by omega), cpy_N (by omega) (by omega) (by omega), cpI_o (show (23 : Nat) ≠ 40 by decide), cpI_o (show (24 : Nat) ≠ 40 by decide), cpI_o (show (24 : Nat) ≠ 40 by decide)]
  have o1 : Off (· = 40) w (cpI w 40 (w.1 22) 0 b 20) := Off.cpI rfl
  have o2 : Off (· = 40) (cpI w 40 (w.1 22) 0 b 20) (cpI (cpI w 40 (w.1 22) 0 b 20) 40 (w.1 23) 0 (b + 20) 60) := Off.cpI rfl
  refine h _ ((o1.tr o2).tr (Off.cpI rfl)) (fun j => ?_)
  rw [cpI_c]
  have e1 : (cpI (cpI w 40 (w.1 22) 0 b 20) 40 (w.1 23) 0 (b + 20) 60).1 40 = va_cpy (w.1 23) (va_cpy (w.1 22) (w.1 40) 0 b 20) 0 (b + 20) 60 := by
    funext i
    rw [cpI_c]
    congr 1
  rw [e1, cp3]
theorem c_keep (hC : CT w r) (hP : CP w r) (hW : WFr r) {N A : Nat} (hN : N < 10) (hA : A ≤ 10) (h3 : w.1 39 3 = nI N) (h4 : w.1 39 4 = nI A) (h : ∀ w1, Off (fun c => c = 39 ∨ c = 40) w w1 → w1.1 39 3 = nI ((N + 1) % 10) → w1.1 39 4 = nI (min (A + 1) 10) → SV w1 N r → (∀ j, j < N * 180 ∨ N * 180 + 180 ≤ j → w1.1 40 j = w.1 40 j) → K none w1) : fX4_keep [.ref 39] w K := by
  have h0 := hW.2.1
  have h2 := hW.2.2.2.1
  refine tX4_keep_0 ?_
  rw [h3, pk_mul]
  refine c_saveT (by omega) (fun w1 ho1 hj1 => tX4_keep_19 ?_)
  rw [(ho1 39 (by decide)).1, h3, pk_mul, nI_add]
  refine c_saveP (by omega) (fun w2 ho2 hj2 => tX4_keep_41 ?_)
  have e39 : w2.1 39 = w.1 39 := ((ho2 39 (by decide)).1).trans (ho1 39 (by decide)).1
  have r3 : w2.1 39 3 = nI N := by rw [e39, h3]
  have r4 : w2.1 39 4 = nI A := by rw [e39, h4]
  have md : (nI N + nI 1) - (nI N + nI 1) / nI 10 * nI 10 = nI ((N + 1) % 10) := by
    rw [nI_add, div_N (by omega) (by omega) (by omega), pk_mul, sub_N (Nat.div_mul_le_self _ _)]
    congr 1
    omega
  rw [r3, md]
  have r5 : (upI w2 39 3 (nI ((N + 1) % 10))).1 39 4 = nI A := by rw [upI1, if_neg (by decide), r4]
  rw [r5, nI_add, min_I (by omega) (by omega)]
  have o1 : Off (fun c => c = 39 ∨ c = 40) w w1 := ho1.mono (fun c q => Or.inr q)
  have o2 : Off (fun c => c = 39 ∨ c = 40) w1 w2 := ho2.mono (fun c q => Or.inr q)
  have o3 : Off (fun c => c = 39 ∨ c = 40) w2 (upI w2 39 3 (nI ((N + 1) % 10))) := Off.up (Or.inl rfl)
  have m40 : ∀ j, (upI (upI w2 39 3 (nI ((N + 1) % 10))) 39 4 (nI (min (A + 1) 10))).1 40 j = w2.1 40 j := fun j => by
    rw [upI1, if_neg (fun z => absurd z.1 (by decide)), upI1, if_neg (fun z => absurd z.1 (by decide))]
  have c22 : w1.1 22 = w.1 22 := (ho1 22 (by decide)).1
  have c23 : w1.1 23 = w.1 23 := (ho1 23 (by decide)).1
  have c24 : w1.1 24 = w.1 24 := (ho1 24 (by decide)).1
  refine h _ (((o1.tr o2).tr o3).tr (Off.up (Or.inl rfl))) ?_ ?_ ⟨fun t ht => ?_, ?_, fun i hi => ?_, fun g hg => ?_, fun g k hg hk => ?_⟩ (fun j hj => ?_)
  · rw [upI1, if_neg (by decide), upI1, if_pos ⟨rfl, rfl⟩]
  · rw [upI1, if_pos ⟨rfl, rfl⟩]
  · have cT := hC.2.2.2.1 t ht
    refine ⟨?_, ?_, ?_, ?_⟩
    · rw [m40, hj2, if_neg (by omega), if_neg (by omega), if_neg (by omega), hj1, if_pos (by omega), show N * 180 + (t * 4 + 0) - N * 180 = t * 4 + 0 by omega]; exact cT.2.1
    · rw [m40, hj2, if_neg (by omega), if_neg (by omega), if_neg (by omega), hj1, if_pos (by omega), show N * 180 + (t * 4 + 1) - N * 180 = t * 4 + 1 by omega]; exact cT.2.2.1
    · rw [m40, hj2, if_neg (by omega), if_neg (by omega), if_neg (by omega), hj1, if_pos (by omega), show N * 180 + (t * 4 + 2) - N * 180 = t * 4 + 2 by omega]; exact cT.2.2.2.1
    · rw [m40, hj2, if_neg (by omega), if_neg (by omega), if_neg (by omega), hj1, if_pos (by omega), show N * 180 + (t * 4 + 3) - N * 180 = t * 4 + 3 by omega]; exact cT.2.2.2.2
  · have cB := hC.2.2.2.2.2.1
    refine ⟨?_, ?_, ?_⟩
    · rw [m40, hj2, if_neg (by omega), if_neg (by omega), if_neg (by omega), hj1, if_neg (by omega), if_pos (by omega), show N * 180 + 32 - (N * 180 + 32) = 0 by omega]; exact cB.1
    · rw [m40, hj2, if_neg (by omega), if_neg (by omega), if_neg (by omega), hj1, if_neg (by omega), if_pos (by omega), show N * 180 + 33 - (N * 180 + 32) = 1 by omega]; exact cB.2.1
    · rw [m40, hj2, if_neg (by omega), if_neg (by omega), if_neg (by omega), hj1, if_neg (by omega), if_pos (by omega), show N * 180 + 34 - (N * 180 + 32) = 2 by omega]; exact cB.2.2
  · rw [m40, hj2, if_neg (by omega), if_neg (by omega), if_neg (by omega), hj1, if_neg (by omega), if_neg (by omega), if_pos (by omega), show N * 180 + 35 + i - (N * 180 + 32 + 3) = i by omega]
    exact (hC.2.2.2.2.2.2 i hi).2
  · rw [m40, hj2, if_pos (by omega), show N * 180 + 40 + g - (N * 180 + 40) = g by omega, c22]
    exact hP.1 g hg
  · have hG := hW.2.2.2.2.2.2.2.1 g hg
    have p := hP.2.1 g k hg hk
    refine ⟨?_, ?_⟩
    · rw [m40, hj2, if_neg (by omega), if_pos (by omega), show N * 180 + 60 + (g * 3 + k) - (N * 180 + 40 + 20) = g * 3 + k by omega, c23]; exact p.1
    · rw [m40, hj2, if_neg (by omega), if_neg (by omega), if_pos (by omega), show N * 180 + 120 + (g * 3 + k) - (N * 180 + 40 + 20 + 60) = g * 3 + k by omega, c24]; exact p.2
  · rw [m40, hj2, if_neg (by omega), if_neg (by omega), if_neg (by omega), hj1, if_neg (by omega), if_neg (by omega), if_neg (by omega)]
end KEEP
