/-! a name at a place of the tape -/
def atP (T : Nat → Nat) (c : Nat → Nat) (s e j : Nat) : Prop := if s + j < e then T (s + j) ≠ 0 ∧ c j = T (s + j) else c j = 0
section ISAT
variable {w : Wd} {K : Kt} {T : Nat → Nat} {c : Nat → Nat}
theorem g_isAt_n {s e k : Nat} (hT : ∀ j, T j < 256) (hb : BYg w T) (hk : k < 8) (hs : s ≤ e) (he : e ≤ 800) (hc : ∀ j, j < 7 → w.1 45 (7 * k + j) = nI (c j)) (hc2 : ∀ j, j < 7 → c j < 256) (h : ∀ v, isB v (e - s ≤ 7 ∧ ∀ j, j < 7 → atP T c s e j) → K (some (.int v)) w) : fX11_isAt [.ref 41, .ref 45, .int (nI (7 * k)), .int (nI s), .int (nI e)] w K := by
  have M : ∀ (m j : Nat) (x5 : Int32) (u7 : Value), j + m = 7 → isB x5 (e - s ≤ 7 ∧ ∀ i, i < j → atP T c s e i) → RR (tl K lX11_isAt) 19 [.ref 41, .ref 45, .int (nI (7 * k)), .int (nI s), .int (nI e), .int x5, .int (nI j), u7] [] w := by
    intro m
    induction m with
    | zero =>
      intro j x5 u7 hj hx
      have : j = 7 := by omega
      subst this
      exact tX11_isAt_19n ⟨fun _ => ⟨hx.b, h _ hx⟩, fun q => absurd (Int32.le_refl _) q⟩
    | succ m ih =>
      intro j x5 u7 hj hx
      have fc : rd w 45 (nI (7 * k + j)) = nI (c j) := by rw [rd_N (by omega)]; exact hc j (by omega)
      have cl := hc2 j (by omega)
      have tl1 := hT (s + j)
      have nx : ∀ (y : Int32) (u : Value), (y = nI 1 ∧ (e - s ≤ 7 ∧ ∀ i, i < j → atP T c s e i) ∧ atP T c s e j) ∨ (y = nI 0 ∧ ¬ ((e - s ≤ 7 ∧ ∀ i, i < j → atP T c s e i) ∧ atP T c s e j)) → RR (tl K lX11_isAt) 19 [.ref 41, .ref 45, .int (nI (7 * k)), .int (nI s), .int (nI e), .int y, .int (nI j + nI 1), u] [] w := fun y u hy => by
        rw [nI_add j 1]
        refine ih (j + 1) y u (by omega) ?_
        have key : (e - s ≤ 7 ∧ ∀ i, i < j + 1 → atP T c s e i) ↔ ((e - s ≤ 7 ∧ ∀ i, i < j → atP T c s e i) ∧ atP T c s e j) := by
          constructor
          · intro z; exact ⟨⟨z.1, fun i hi => z.2 i (by omega)⟩, z.2 j (by omega)⟩
          · intro z
            refine ⟨z.1.1, fun i hi => ?_⟩
            by_cases q : i = j
            · rw [q]; exact z.2
            · exact z.1.2 i (by omega)
        rw [key]; exact hy
      have G : ∀ (y0 : Int32), (y0 = 0 → e ≤ s + j) → (¬ y0 = 0 → s + j < e) → RR (tl K lX11_isAt) 40 [.ref 41, .ref 45, .int (nI (7 * k)), .int (nI s), .int (nI e), .int x5, .int (nI j), u7] [.int y0] w := fun y0 h0 h1 => by
        refine tX11_isAt_40n ⟨fun q => nx _ _ (Or.inr ⟨rfl, fun z => hx.f q z.1⟩), fun q => ⟨fun q0 => ?_, fun q0 => ?_⟩⟩
        · have ou : ¬ s + j < e := by have := h0 q0; omega
          have ea : atP T c s e j ↔ c j = 0 := by unfold atP; rw [if_neg ou]
          rw [nI_add (7 * k) j, fc, eq0_N (by omega)]
          exact ⟨vp_in_nI (by omega) (by decide), fun z => nx _ _ (Or.inr ⟨rfl, fun y => z (ea.mp y.2)⟩), fun z => nx _ _ (Or.inl ⟨rfl, hx.t q, ea.mpr z⟩)⟩
        · have inn := h1 q0
          have ea : atP T c s e j ↔ T (s + j) ≠ 0 ∧ c j = T (s + j) := by unfold atP; rw [if_pos inn]
          have ft : rd w 42 (nI (s + j)) = nI (T (s + j)) := by rw [rd_N (by omega)]; exact hb _ (by omega)
          rw [nI_add (7 * k) j, nI_add s j, fc, ft, eq0_N (by omega), eq_N (by omega) (by omega)]
          exact ⟨vp_in_nI (by omega) (by decide), fun z => nx _ _ (Or.inr ⟨rfl, fun y => (ea.mp y.2).1 z⟩), fun z => ⟨vp_in_nI (by omega) (by decide), fun z2 => nx _ _ (Or.inr ⟨rfl, fun y => z2 (ea.mp y.2).2⟩), fun z2 => nx _ _ (Or.inl ⟨rfl, hx.t q, ea.mpr ⟨z, z2⟩⟩)⟩⟩
      refine tX11_isAt_19n ⟨fun q => absurd q (by rw [le_N (by omega) (by omega)]; omega), fun _ => ?_⟩
      rw [nI_add s j, le_N (by omega) (by omega)]
      exact ⟨fun q => G _ (fun _ => q) (fun z => absurd rfl z), fun q => G _ (fun z => absurd z (by decide)) (fun _ => by omega)⟩
  refine tX11_isAt_0n ?_
  rw [sub_N hs, lt_N (by omega) (by omega)]
  exact ⟨fun q => M 7 0 _ _ rfl (Or.inr ⟨rfl, fun z => by have := z.1; omega⟩), fun q => M 7 0 _ _ rfl (Or.inl ⟨rfl, by omega, fun i hi => by omega⟩)⟩
theorem g_isAt_f {s e k : Nat} (hT : ∀ j, T j < 256) (hb : BYg w T) (hk : k < 8) (hs : s ≤ e) (he : e ≤ 800) (hc : ∀ j, j < 7 → w.1 46 (7 * k + j) = nI (c j)) (hc2 : ∀ j, j < 7 → c j < 256) (h : ∀ v, isB v (e - s ≤ 7 ∧ ∀ j, j < 7 → atP T c s e j) → K (some (.int v)) w) : fX11_isAt [.ref 41, .ref 46, .int (nI (7 * k)), .int (nI s), .int (nI e)] w K := by
  have M : ∀ (m j : Nat) (x5 : Int32) (u7 : Value), j + m = 7 → isB x5 (e - s ≤ 7 ∧ ∀ i, i < j → atP T c s e i) → RR (tl K lX11_isAt) 19 [.ref 41, .ref 46, .int (nI (7 * k)), .int (nI s), .int (nI e), .int x5, .int (nI j), u7] [] w := by
    intro m
    induction m with
    | zero =>
      intro j x5 u7 hj hx
      have : j = 7 := by omega
      subst this
      exact tX11_isAt_19f ⟨fun _ => ⟨hx.b, h _ hx⟩, fun q => absurd (Int32.le_refl _) q⟩
    | succ m ih =>
      intro j x5 u7 hj hx
      have fc : rd w 46 (nI (7 * k + j)) = nI (c j) := by rw [rd_N (by omega)]; exact hc j (by omega)
      have cl := hc2 j (by omega)
      have tl1 := hT (s + j)
      have nx : ∀ (y : Int32) (u : Value), (y = nI 1 ∧ (e - s ≤ 7 ∧ ∀ i, i < j → atP T c s e i) ∧ atP T c s e j) ∨ (y = nI 0 ∧ ¬ ((e - s ≤ 7 ∧ ∀ i, i < j → atP T c s e i) ∧ atP T c s e j)) → RR (tl K lX11_isAt) 19 [.ref 41, .ref 46, .int (nI (7 * k)), .int (nI s), .int (nI e), .int y, .int (nI j + nI 1), u] [] w := fun y u hy => by
        rw [nI_add j 1]
        refine ih (j + 1) y u (by omega) ?_
        have key : (e - s ≤ 7 ∧ ∀ i, i < j + 1 → atP T c s e i) ↔ ((e - s ≤ 7 ∧ ∀ i, i < j → atP T c s e i) ∧ atP T c s e j) := by
          constructor
          · intro z; exact ⟨⟨z.1, fun i hi => z.2 i (by omega)⟩, z.2 j (by omega)⟩
          · intro z
            refine ⟨z.1.1, fun i hi => ?_⟩
            by_cases q : i = j
            · rw [q]; exact z.2
            · exact z.1.2 i (by omega)
        rw [key]; exact hy
      have G : ∀ (y0 : Int32), (y0 = 0 → e ≤ s + j) → (¬ y0 = 0 → s + j < e) → RR (tl K lX11_isAt) 40 [.ref 41, .ref 46, .int (nI (7 * k)), .int (nI s), .int (nI e), .int x5, .int (nI j), u7] [.int y0] w := fun y0 h0 h1 => by
        refine tX11_isAt_40f ⟨fun q => nx _ _ (Or.inr ⟨rfl, fun z => hx.f q z.1⟩), fun q => ⟨fun q0 => ?_, fun q0 => ?_⟩⟩
        · have ou : ¬ s + j < e := by have := h0 q0; omega
          have ea : atP T c s e j ↔ c j = 0 := by unfold atP; rw [if_neg ou]
          rw [nI_add (7 * k) j, fc, eq0_N (by omega)]
          exact ⟨vp_in_nI (by omega) (by decide), fun z => nx _ _ (Or.inr ⟨rfl, fun y => z (ea.mp y.2)⟩), fun z => nx _ _ (Or.inl ⟨rfl, hx.t q, ea.mpr z⟩)⟩
        · have inn := h1 q0
          have ea : atP T c s e j ↔ T (s + j) ≠ 0 ∧ c j = T (s + j) := by unfold atP; rw [if_pos inn]
          have ft : rd w 42 (nI (s + j)) = nI (T (s + j)) := by rw [rd_N (by omega)]; exact hb _ (by omega)
          rw [nI_add (7 * k) j, nI_add s j, fc, ft, eq0_N (by omega), eq_N (by omega) (by omega)]
          exact ⟨vp_in_nI (by omega) (by decide), fun z => nx _ _ (Or.inr ⟨rfl, fun y => (ea.mp y.2).1 z⟩), fun z => ⟨vp_in_nI (by omega) (by decide), fun z2 => nx _ _ (Or.inr ⟨rfl, fun y => z2 (ea.mp y.2).2⟩), fun z2 => nx _ _ (Or.inl ⟨rfl, hx.t q, ea.mpr ⟨z, z2⟩⟩)⟩⟩
      refine tX11_isAt_19f ⟨fun q => absurd q (by rw [le_N (by omega) (by omega)]; omega), fun _ => ?_⟩
      rw [nI_add s j, le_N (by omega) (by omega)]
      exact ⟨fun q => G _ (fun _ => q) (fun z => absurd rfl z), fun q => G _ (fun z => absurd z (by decide)) (fun _ => by omega)⟩
  refine tX11_isAt_0f ?_
  rw [sub_N hs, lt_N (by omega) (by omega)]
  exact ⟨fun q => M 7 0 _ _ rfl (Or.inr ⟨rfl, fun z => by have := z.1; omega⟩), fun q => M 7 0 _ _ rfl (Or.inl ⟨rfl, by omega, fun i hi => by omega⟩)⟩
theorem at_nm {t : Tk} (hw : wdT T t) : (t.2.2 - t.2.1 ≤ 7 ∧ ∀ j, j < 7 → atP T c t.2.1 t.2.2 j) ↔ ∀ j, j < 7 → c j = nmT T t j := by
  obtain ⟨a, b, l⟩ := hw
  constructor
  · rintro ⟨-, z⟩ j hj
    have := z j hj
    unfold atP at this
    unfold nmT
    by_cases q : t.2.1 + j < t.2.2
    · rw [if_pos q] at this ⊢; exact this.2
    · rw [if_neg q] at this ⊢; exact this
  · intro z
    refine ⟨b, fun j hj => ?_⟩
    have := z j hj
    unfold nmT at this
    unfold atP
    by_cases q : t.2.1 + j < t.2.2
    · rw [if_pos q] at this ⊢
      have := isL_iff.mp (l (t.2.1 + j) (by omega) q)
      exact ⟨by omega, by assumption⟩
    · rw [if_neg q] at this ⊢; exact this
end ISAT
