/-! what a line that is read leaves -/
def bd (j : Nat) : Nat := if j = 0 then 8 else if j = 1 then 20 else if j = 2 then 5 else if j = 3 then 500 else if j = 4 then 9 else if j = 5 then 60 else if j < 14 then 1 else if j < 22 then 99 else if j < 38 then 120 else if j < 46 then 9 else if j < 66 then 59 else if j < 86 then 9 else if j < 106 then 200 else if j < 246 then 0 else if j < 251 then 120 else if j < 256 then 9 else 0
theorem bd_lo : ∀ j, j < 256 → bd j ≤ 500 := by decide +kernel
theorem bd_hi {j : Nat} (h : 256 ≤ j) : bd j = 0 := by
  unfold bd
  rw [if_neg (by omega), if_neg (by omega), if_neg (by omega), if_neg (by omega), if_neg (by omega), if_neg (by omega), if_neg (by omega), if_neg (by omega), if_neg (by omega), if_neg (by omega), if_neg (by omega), if_neg (by omega), if_neg (by omega), if_neg (by omega), if_neg (by omega), if_neg (by omega)]
theorem bd_le (j : Nat) : bd j ≤ 500 := by
  by_cases q : j < 256
  · exact bd_lo j q
  · rw [bd_hi (by omega)]; omega
theorem bd_up {D : Nat → Nat} {a v : Nat} (h : ∀ j, D j ≤ bd j) (hv : v ≤ bd a) : ∀ j, upR D a v j ≤ bd j := fun j => by
  by_cases q : j = a
  · rw [q, upR_e]; exact hv
  · rw [upR_n q]; exact h j
theorem bx_6 : ∀ k, k < 8 → bd (6 + k) = 1 := by decide +kernel
theorem bd_6 {k : Nat} (h : k < 8) : bd (6 + k) = 1 := bx_6 k h
theorem bx_14 : ∀ k, k < 8 → bd (14 + k) = 99 := by decide +kernel
theorem bd_14 {k : Nat} (h : k < 8) : bd (14 + k) = 99 := bx_14 k h
theorem bx_22 : ∀ k, k < 8 → bd (22 + k) = 120 := by decide +kernel
theorem bd_22 {k : Nat} (h : k < 8) : bd (22 + k) = 120 := bx_22 k h
theorem bx_30 : ∀ k, k < 8 → bd (30 + k) = 120 := by decide +kernel
theorem bd_30 {k : Nat} (h : k < 8) : bd (30 + k) = 120 := bx_30 k h
theorem bx_38 : ∀ k, k < 8 → bd (38 + k) = 9 := by decide +kernel
theorem bd_38 {k : Nat} (h : k < 8) : bd (38 + k) = 9 := bx_38 k h
theorem bx_46 : ∀ k, k < 20 → bd (46 + k) = 59 := by decide +kernel
theorem bd_46 {k : Nat} (h : k < 20) : bd (46 + k) = 59 := bx_46 k h
theorem bx_66 : ∀ k, k < 20 → bd (66 + k) = 9 := by decide +kernel
theorem bd_66 {k : Nat} (h : k < 20) : bd (66 + k) = 9 := bx_66 k h
theorem bx_86 : ∀ k, k < 20 → bd (86 + k) = 200 := by decide +kernel
theorem bd_86 {k : Nat} (h : k < 20) : bd (86 + k) = 200 := bx_86 k h
theorem bx_106 : ∀ k, k < 140 → bd (106 + k) = 0 := by decide +kernel
theorem bd_106 {j : Nat} (h : 106 ≤ j) (h2 : j < 246) : bd j = 0 := by
  have := bx_106 (j - 106) (by omega)
  rw [show 106 + (j - 106) = j by omega] at this
  exact this
theorem bx_246 : ∀ k, k < 5 → bd (246 + k) = 120 := by decide +kernel
theorem bd_246 {k : Nat} (h : k < 5) : bd (246 + k) = 120 := bx_246 k h
theorem bx_251 : ∀ k, k < 5 → bd (251 + k) = 9 := by decide +kernel
theorem bd_251 {k : Nat} (h : k < 5) : bd (251 + k) = 9 := bx_251 k h
theorem bd_3 : ∀ i, i < 3 → bd (3 + i) = hiB i := by decide
theorem WFr_bd {D : Nat → Nat} (h : ∀ j, D j ≤ bd j) : WFr D := by
  refine ⟨fun j => Nat.le_trans (h j) (bd_le j), h 0, h 1, h 2, h 4, h 5, fun t ht => ⟨?_, ?_, ?_, ?_, ?_⟩, fun g hg => ⟨?_, ?_, ?_, ?_⟩, fun j hj => ⟨?_, ?_⟩, fun i hi => ⟨?_, ?_⟩⟩
  · have := h (6 + t); rw [bd_6 ht] at this; exact this
  · have := h (14 + t); rw [bd_14 ht] at this; exact this
  · have := h (22 + t); rw [bd_22 ht] at this; exact this
  · have := h (30 + t); rw [bd_30 ht] at this; exact this
  · have := h (38 + t); rw [bd_38 ht] at this; exact this
  · have := h (46 + g); rw [bd_46 hg] at this; exact this
  · have := h (66 + g); rw [bd_66 hg] at this; exact this
  · have := h (86 + g); rw [bd_86 hg] at this; exact this
  · have := h (106 + g); rw [bd_106 (by omega) (by omega)] at this; omega
  · have := h (126 + j); rw [bd_106 (by omega) (by omega)] at this; omega
  · have := h (186 + j); rw [bd_106 (by omega) (by omega)] at this; omega
  · have := h (246 + i); rw [bd_246 hi] at this; exact this
  · have := h (251 + i); rw [bd_251 hi] at this; exact this
def WDp (D : Nat → Nat) : Prop := (∀ j, D j ≤ bd j) ∧ DayUp D ∧ (∀ t, t < D 0 → 1 ≤ D (22 + t)) ∧ ∀ g, g < D 1 → 1 ≤ D (86 + g)
theorem VP_D {D : Nat → Nat} (h : WDp D) : VP D := by
  obtain ⟨a, b, c, d⟩ := h
  have z : ∀ j, 106 ≤ j → j < 246 → D j = 0 := fun j h1 h2 => by
    have := a j
    rw [bd_106 h1 h2] at this
    omega
  refine ⟨b, fun g _ hg => z _ (by omega) (by omega), fun g k hg hk => ?_, fun g j k hg hjk hk => ?_, fun g hg => ?_, c, d⟩
  · rw [z _ (by omega) (by omega)] at hk; omega
  · rw [z _ (by omega) (by omega)] at hk; omega
  · rw [z (106 + g) (by omega) (by omega)]; exact Nat.zero_le _
def IV (n : Nat) (s : PSt) : Prop := WDp s.1 ∧ (∀ i, i < 3 → s.2.2.1 i ≤ 1) ∧ s.2.2.2 ≤ n ∧ ∀ k, k < s.1 0 → okW (s.2.1 k)
def cnt (s : PSt) : Nat := s.1 0 + s.1 1 + s.1 2 + s.2.2.1 0 + s.2.2.1 1 + s.2.2.1 2
theorem cnt_le {n : Nat} {s : PSt} (h : IV n s) : cnt s ≤ 36 := by
  obtain ⟨⟨a, -⟩, b, -⟩ := h
  have a0 := a 0
  have a1 := a 1
  have a2 := a 2
  have b0 := b 0 (by decide)
  have b1 := b 1 (by decide)
  have b2 := b 2 (by decide)
  have e0 : bd 0 = 8 := rfl
  have e1 : bd 1 = 20 := rfl
  have e2 : bd 2 = 5 := rfl
  unfold cnt
  omega
section INV
variable {T : Nat → Nat} {n : Nat} {D : Nat → Nat} {nm : Nat → Nat → Nat} {B : Nat → Nat} {t0 : Tk}
theorem takes_ok {at_ lo hi p : Nat} (hp : p ≤ n) : el (takesP T n at_ lo hi D p) (fun _ _ => True) (fun x => x.1 = upR D at_ (x.1 at_) ∧ lo ≤ x.1 at_ ∧ x.1 at_ ≤ hi ∧ x.2 ≤ n) := by
  have tb := tok_b (T := T) hp
  unfold takesP
  by_cases q : (tok T n p).1 = 2
  · rw [if_pos q]
    by_cases y : lo ≤ vTk T (tok T n p) ∧ vTk T (tok T n p) ≤ hi
    · rw [if_pos y]
      refine ⟨?_, ?_, ?_, tb.2.2.1⟩
      · show upR D at_ _ = upR D at_ (upR D at_ _ at_); rw [upR_e]
      · show lo ≤ upR D at_ _ at_; rw [upR_e]; exact y.1
      · show upR D at_ _ at_ ≤ hi; rw [upR_e]; exact y.2
    · rw [if_neg y]; trivial
  · rw [if_neg q]; trivial
theorem game_ok (h : IV n (D, nm, B, t0.2.2)) : el (gameP T n D nm B t0) (fun _ _ => True) (fun s => IV n s ∧ cnt s = cnt (D, nm, B, t0.2.2) + 1) := by
  obtain ⟨⟨b, du, sm, nd⟩, hB, hp, hN⟩ := h
  have b : ∀ j, D j ≤ bd j := b
  have hp : t0.2.2 ≤ n := hp
  have l1 : D 1 ≤ 20 := b 1
  have l0 : D 0 ≤ 8 := b 0
  unfold gameP
  by_cases q : D 1 = 20
  · rw [if_pos q]; trivial
  · rw [if_neg q, el_bnd]
    refine el_mono (takes_ok hp) (fun _ _ z => z) (fun x z => ?_)
    rw [el_bnd]
    refine el_mono (takes_ok z.2.2.2) (fun _ _ z => z) (fun x2 z2 => ?_)
    rw [el_bnd]
    refine el_mono (takes_ok z2.2.2.2) (fun _ _ z => z) (fun x3 z3 => ?_)
    obtain ⟨e1, lo1, hi1, -⟩ := z
    obtain ⟨e2, lo2, hi2, -⟩ := z2
    obtain ⟨e3, lo3, hi3, p3⟩ := z3
    have c1 : ∀ j, upR D 1 (D 1 + 1) j ≤ bd j := bd_up b (by show D 1 + 1 ≤ 20; omega)
    have c2 : ∀ j, x.1 j ≤ bd j := by rw [e1]; exact bd_up c1 (by rw [bd_46 (by omega)]; exact hi1)
    have c3 : ∀ j, x2.1 j ≤ bd j := by rw [e2]; exact bd_up c2 (by rw [bd_66 (by omega)]; exact hi2)
    have c4 : ∀ j, x3.1 j ≤ bd j := by rw [e3]; exact bd_up c3 (by rw [bd_86 (by omega)]; exact hi3)
    have ne : ∀ j, j ≠ 1 → j ≠ 46 + D 1 → j ≠ 66 + D 1 → j ≠ 86 + D 1 → x3.1 j = D j := fun j j1 ja jb jc => by rw [e3, upR_n jc, e2, upR_n jb, e1, upR_n ja, upR_n j1]
    have n1 : x3.1 1 = D 1 + 1 := by rw [e3, upR_n (by omega), e2, upR_n (by omega), e1, upR_n (by omega), upR_e]
    have na : x3.1 (46 + D 1) = x.1 (46 + D 1) := by rw [e3, upR_n (by omega), e2, upR_n (by omega)]
    have n0 : x3.1 0 = D 0 := ne 0 (by omega) (by omega) (by omega) (by omega)
    refine ⟨⟨⟨c4, fun u v huv hv => ?_, fun t ht => ?_, fun u hu => ?_⟩, hB, p3, fun k hk => ?_⟩, ?_⟩
    · have hv : v < x3.1 1 := hv
      rw [n1] at hv
      show x3.1 (46 + u) < x3.1 (46 + v)
      rw [ne (46 + u) (by omega) (by omega) (by omega) (by omega)]
      by_cases c : v = D 1
      · rw [c, na]
        rw [if_neg (by omega)] at lo1
        have : D (46 + u) ≤ D (46 + D 1 - 1) := by
          by_cases c2 : u = D 1 - 1
          · rw [c2, show 46 + (D 1 - 1) = 46 + D 1 - 1 by omega]; exact Nat.le_refl _
          · have := du u (D 1 - 1) (by omega) (by show D 1 - 1 < D 1; omega)
            have this : D (46 + u) < D (46 + (D 1 - 1)) := this
            rw [show 46 + (D 1 - 1) = 46 + D 1 - 1 by omega] at this
            omega
        omega
      · rw [ne (46 + v) (by omega) (by omega) (by omega) (by omega)]
        exact du u v huv (by show v < D 1; omega)
    · have ht : t < x3.1 0 := ht
      rw [n0] at ht
      show 1 ≤ x3.1 (22 + t)
      rw [ne _ (by omega) (by omega) (by omega) (by omega)]; exact sm t ht
    · have hu : u < x3.1 1 := hu
      rw [n1] at hu
      show 1 ≤ x3.1 (86 + u)
      by_cases c : u = D 1
      · rw [c]; exact lo3
      · rw [ne _ (by omega) (by omega) (by omega) (by omega)]; exact nd u (by show u < D 1; omega)
    · have hk : k < x3.1 0 := hk
      rw [n0] at hk; exact hN k hk
    · show x3.1 0 + x3.1 1 + x3.1 2 + B 0 + B 1 + B 2 = D 0 + D 1 + D 2 + B 0 + B 1 + B 2 + 1
      rw [n0, n1, ne 2 (by omega) (by omega) (by omega) (by omega)]; omega
theorem rest_ok (h : IV n (D, nm, B, t0.2.2)) : el (restP T n D nm B t0) (fun _ _ => True) (fun s => IV n s ∧ cnt s = cnt (D, nm, B, t0.2.2) + 1) := by
  obtain ⟨⟨b, du, sm, nd⟩, hB, hp, hN⟩ := h
  have b : ∀ j, D j ≤ bd j := b
  have hp : t0.2.2 ≤ n := hp
  have l2 : D 2 ≤ 5 := b 2
  have l1 : D 1 ≤ 20 := b 1
  have l0 : D 0 ≤ 8 := b 0
  unfold restP
  by_cases q : D 2 = 5
  · rw [if_pos q]; trivial
  · rw [if_neg q, el_bnd]
    refine el_mono (takes_ok hp) (fun _ _ z => z) (fun x z => ?_)
    rw [el_bnd]
    refine el_mono (takes_ok z.2.2.2) (fun _ _ z => z) (fun x3 z3 => ?_)
    obtain ⟨e1, lo1, hi1, -⟩ := z
    obtain ⟨e3, lo3, hi3, p3⟩ := z3
    have c1 : ∀ j, upR D 2 (D 2 + 1) j ≤ bd j := bd_up b (by show D 2 + 1 ≤ 5; omega)
    have c2 : ∀ j, x.1 j ≤ bd j := by rw [e1]; exact bd_up c1 (by rw [bd_246 (by omega)]; exact hi1)
    have c4 : ∀ j, x3.1 j ≤ bd j := by rw [e3]; exact bd_up c2 (by rw [bd_251 (by omega)]; exact hi3)
    have ne : ∀ j, j ≠ 2 → j ≠ 246 + D 2 → j ≠ 251 + D 2 → x3.1 j = D j := fun j j1 ja jb => by rw [e3, upR_n jb, e1, upR_n ja, upR_n j1]
    have n2 : x3.1 2 = D 2 + 1 := by rw [e3, upR_n (by omega), e1, upR_n (by omega), upR_e]
    have n0 : x3.1 0 = D 0 := ne 0 (by omega) (by omega) (by omega)
    have n1 : x3.1 1 = D 1 := ne 1 (by omega) (by omega) (by omega)
    refine ⟨⟨⟨c4, fun u v huv hv => ?_, fun t ht => ?_, fun u hu => ?_⟩, hB, p3, fun k hk => ?_⟩, ?_⟩
    · have hv : v < x3.1 1 := hv
      rw [n1] at hv
      show x3.1 (46 + u) < x3.1 (46 + v)
      rw [ne (46 + u) (by omega) (by omega) (by omega), ne (46 + v) (by omega) (by omega) (by omega)]
      exact du u v huv hv
    · have ht : t < x3.1 0 := ht
      rw [n0] at ht
      show 1 ≤ x3.1 (22 + t)
      rw [ne _ (by omega) (by omega) (by omega)]; exact sm t ht
    · have hu : u < x3.1 1 := hu
      rw [n1] at hu
      show 1 ≤ x3.1 (86 + u)
      rw [ne _ (by omega) (by omega) (by omega)]; exact nd u hu
    · have hk : k < x3.1 0 := hk
      rw [n0] at hk; exact hN k hk
    · show x3.1 0 + x3.1 1 + x3.1 2 + B 0 + B 1 + B 2 = D 0 + D 1 + D 2 + B 0 + B 1 + B 2 + 1
      rw [n0, n1, n2]; omega
theorem once_ok {i : Nat} (hi : i < 3) (h : IV n (D, nm, B, t0.2.2)) : el (onceP T n i D nm B t0) (fun _ _ => True) (fun s => IV n s ∧ cnt s = cnt (D, nm, B, t0.2.2) + 1) := by
  obtain ⟨⟨b, du, sm, nd⟩, hB, hp, hN⟩ := h
  have b : ∀ j, D j ≤ bd j := b
  have hp : t0.2.2 ≤ n := hp
  have l1 : D 1 ≤ 20 := b 1
  have l0 : D 0 ≤ 8 := b 0
  have hB : ∀ i, i < 3 → B i ≤ 1 := hB
  unfold onceP
  by_cases q : B i = 0
  · rw [if_pos q, el_bnd]
    refine el_mono (takes_ok hp) (fun _ _ z => z) (fun x3 z3 => ?_)
    obtain ⟨e3, lo3, hi3, p3⟩ := z3
    have c4 : ∀ j, x3.1 j ≤ bd j := by rw [e3]; exact bd_up b (by rw [bd_3 i hi]; exact hi3)
    have ne : ∀ j, j ≠ 3 + i → x3.1 j = D j := fun j j1 => by rw [e3, upR_n j1]
    have n0 : x3.1 0 = D 0 := ne 0 (by omega)
    have n1 : x3.1 1 = D 1 := ne 1 (by omega)
    refine ⟨⟨⟨c4, fun u v huv hv => ?_, fun t ht => ?_, fun u hu => ?_⟩, fun j hj => ?_, p3, fun k hk => ?_⟩, ?_⟩
    · have hv : v < x3.1 1 := hv
      rw [n1] at hv
      show x3.1 (46 + u) < x3.1 (46 + v)
      rw [ne (46 + u) (by omega), ne (46 + v) (by omega)]
      exact du u v huv hv
    · have ht : t < x3.1 0 := ht
      rw [n0] at ht
      show 1 ≤ x3.1 (22 + t)
      rw [ne _ (by omega)]; exact sm t ht
    · have hu : u < x3.1 1 := hu
      rw [n1] at hu
      show 1 ≤ x3.1 (86 + u)
      rw [ne _ (by omega)]; exact nd u hu
    · show upR B i 1 j ≤ 1
      by_cases c : j = i
      · rw [c, upR_e]; exact Nat.le_refl _
      · rw [upR_n c]; exact hB j hj
    · have hk : k < x3.1 0 := hk
      rw [n0] at hk; exact hN k hk
    · show x3.1 0 + x3.1 1 + x3.1 2 + upR B i 1 0 + upR B i 1 1 + upR B i 1 2 = D 0 + D 1 + D 2 + B 0 + B 1 + B 2 + 1
      rw [n0, n1, ne 2 (by omega)]
      have i3 : i = 0 ∨ i = 1 ∨ i = 2 := by omega
      rcases i3 with rfl | rfl | rfl
      · rw [upR_e, upR_n (by decide), upR_n (by decide)]; omega
      · rw [upR_e, upR_n (by decide), upR_n (by decide)]; omega
      · rw [upR_e, upR_n (by decide), upR_n (by decide)]; omega
  · rw [if_neg q]; trivial
theorem arm_ok (h : IV n (D, nm, B, t0.2.2)) : el (armP T n D nm B t0) (fun _ _ => True) (fun s => IV n s ∧ cnt s = cnt (D, nm, B, t0.2.2) + 1) := by
  obtain ⟨⟨b, du, sm, nd⟩, hB, hp, hN⟩ := h
  have b : ∀ j, D j ≤ bd j := b
  have hp : t0.2.2 ≤ n := hp
  have l1 : D 1 ≤ 20 := b 1
  have l0 : D 0 ≤ 8 := b 0
  unfold armP
  by_cases q : D 0 = 8
  · rw [dec_t q]; trivial
  rw [dec_f q]
  have tb := tok_b (T := T) hp
  by_cases q1' : ¬ nameOk T (tok T n t0.2.2)
  · rw [dec_f q1']; trivial
  have q1 := Classical.not_not.mp q1'
  rw [dec_t q1]
  by_cases q2 : ∃ k, k < D 0 ∧ ∀ j, j < 7 → nm k j = nmT T (tok T n t0.2.2) j
  · rw [dec_t q2]; trivial
  rw [dec_f q2]
  have tb2 := tok_b (T := T) tb.2.2.1
  by_cases q3' : ¬ (isW T (tok T n (tok T n t0.2.2).2.2) 201 ∨ isW T (tok T n (tok T n t0.2.2).2.2) 202)
  · rw [dec_f q3']; trivial
  have q3 := Classical.not_not.mp q3'
  rw [dec_t q3]
  show el (bnd _ _) _ _
  rw [el_bnd]
  refine el_mono (takes_ok tb2.2.2.1) (fun _ _ z => z) (fun x z => ?_)
  rw [el_bnd]
  refine el_mono (takes_ok z.2.2.2) (fun _ _ z => z) (fun x2 z2 => ?_)
  rw [el_bnd]
  refine el_mono (takes_ok z2.2.2.2) (fun _ _ z => z) (fun x3 z3 => ?_)
  rw [el_bnd]
  refine el_mono (takes_ok z3.2.2.2) (fun _ _ z => z) (fun x4 z4 => ?_)
  obtain ⟨e1, lo1, hi1, -⟩ := z
  obtain ⟨e2, lo2, hi2, -⟩ := z2
  obtain ⟨e3, lo3, hi3, -⟩ := z3
  obtain ⟨e4, lo4, hi4, p4⟩ := z4
  have hh : (bif dec (isW T (tok T n (tok T n t0.2.2).2.2) 201) then 0 else 1) ≤ 1 := by
    cases dec (isW T (tok T n (tok T n t0.2.2).2.2) 201)
    · exact Nat.le_refl _
    · exact Nat.zero_le _
  generalize (bif dec (isW T (tok T n (tok T n t0.2.2).2.2) 201) then 0 else 1) = hd at e1 hh
  have c0 : ∀ j, upR D (6 + D 0) hd j ≤ bd j := bd_up b (by rw [bd_6 (by omega)]; exact hh)
  have c1 : ∀ j, upR (upR D (6 + D 0) hd) 0 (D 0 + 1) j ≤ bd j := bd_up c0 (by show D 0 + 1 ≤ 8; omega)
  have c2 : ∀ j, x.1 j ≤ bd j := by rw [e1]; exact bd_up c1 (by rw [bd_14 (by omega)]; exact hi1)
  have c3 : ∀ j, x2.1 j ≤ bd j := by rw [e2]; exact bd_up c2 (by rw [bd_22 (by omega)]; exact hi2)
  have c4 : ∀ j, x3.1 j ≤ bd j := by rw [e3]; exact bd_up c3 (by rw [bd_30 (by omega)]; omega)
  have c5 : ∀ j, x4.1 j ≤ bd j := by rw [e4]; exact bd_up c4 (by rw [bd_38 (by omega)]; exact hi4)
  have ne : ∀ j, j ≠ 0 → j ≠ 6 + D 0 → j ≠ 14 + D 0 → j ≠ 22 + D 0 → j ≠ 30 + D 0 → j ≠ 38 + D 0 → x4.1 j = D j := fun j j0 j6 ja jb jc jd => by rw [e4, upR_n jd, e3, upR_n jc, e2, upR_n jb, e1, upR_n ja, upR_n j0, upR_n j6]
  have n0 : x4.1 0 = D 0 + 1 := by rw [e4, upR_n (by omega), e3, upR_n (by omega), e2, upR_n (by omega), e1, upR_n (by omega), upR_e]
  have n1 : x4.1 1 = D 1 := ne 1 (by omega) (by omega) (by omega) (by omega) (by omega) (by omega)
  have n2 : x4.1 2 = D 2 := ne 2 (by omega) (by omega) (by omega) (by omega) (by omega) (by omega)
  have nst : x4.1 (22 + D 0) = x2.1 (22 + D 0) := by rw [e4, upR_n (by omega), e3, upR_n (by omega)]
  refine ⟨⟨⟨c5, fun u v huv hv => ?_, fun t ht => ?_, fun u hu => ?_⟩, hB, p4, fun k hk => ?_⟩, ?_⟩
  · have hv : v < x4.1 1 := hv
    rw [n1] at hv
    show x4.1 (46 + u) < x4.1 (46 + v)
    rw [ne (46 + u) (by omega) (by omega) (by omega) (by omega) (by omega) (by omega), ne (46 + v) (by omega) (by omega) (by omega) (by omega) (by omega) (by omega)]
    exact du u v huv hv
  · have ht : t < x4.1 0 := ht
    rw [n0] at ht
    show 1 ≤ x4.1 (22 + t)
    by_cases c : t = D 0
    · rw [c, nst]; exact lo2
    · rw [ne _ (by omega) (by omega) (by omega) (by omega) (by omega) (by omega)]; exact sm t (by show t < D 0; omega)
  · have hu : u < x4.1 1 := hu
    rw [n1] at hu
    show 1 ≤ x4.1 (86 + u)
    rw [ne _ (by omega) (by omega) (by omega) (by omega) (by omega) (by omega)]; exact nd u hu
  · have hk : k < x4.1 0 := hk
    rw [n0] at hk
    show okW (if k = D 0 then nmT T (tok T n t0.2.2) else nm k)
    by_cases c : k = D 0
    · rw [if_pos c]; exact nmT_ok (tok_wd hp q1.1)
    · rw [if_neg c]; exact hN k (by show k < D 0; omega)
  · show x4.1 0 + x4.1 1 + x4.1 2 + B 0 + B 1 + B 2 = D 0 + D 1 + D 2 + B 0 + B 1 + B 2 + 1
    rw [n0, n1, n2]; omega
theorem line_ok {p : Nat} (h : IV n (D, nm, B, p)) : el (lineP T n D nm B p) (fun _ _ => True) (fun s => IV n s ∧ cnt s = cnt (D, nm, B, p) + 1) := by
  have tb := tok_b (T := T) (show p ≤ n from h.2.2.1)
  have h2 : IV n (D, nm, B, (tok T n p).2.2) := ⟨h.1, h.2.1, tb.2.2.1, h.2.2.2⟩
  unfold lineP
  by_cases q0 : isW T (tok T n p) 200
  · rw [dec_t q0]; exact arm_ok h2
  rw [dec_f q0]
  by_cases q1 : isW T (tok T n p) 203
  · rw [dec_t q1]; exact game_ok h2
  rw [dec_f q1]
  by_cases q2 : isW T (tok T n p) 204
  · rw [dec_t q2]; exact rest_ok h2
  rw [dec_f q2]
  by_cases q3 : isW T (tok T n p) 205
  · rw [dec_t q3]; exact once_ok (by decide) h2
  rw [dec_f q3]
  by_cases q4 : isW T (tok T n p) 206
  · rw [dec_t q4]; exact once_ok (by decide) h2
  rw [dec_f q4]
  by_cases q5 : isW T (tok T n p) 207
  · rw [dec_t q5]; exact once_ok (by decide) h2
  rw [dec_f q5]; trivial
end INV
