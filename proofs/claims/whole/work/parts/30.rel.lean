/-! what both sides hold of the row; what a question leaves as it was -/
def RA (w : Wd) (r : Nat → Nat) : Prop := RM w r ∧ CT w r ∧ CP w r ∧ WFr r ∧ VP r ∧ w.1 41 6 = bI (0 < r 1) ∧ (r 1 = 0 → r 0 = 0 ∧ r 2 = 0) ∧ w.1 39 4 = w.1 41 24
def S38 (c : Nat) : Prop := 27 ≤ c ∧ c ≤ 38
def S51 (c : Nat) : Prop := 47 ≤ c ∧ c ≤ 51
def CF (w w1 : Wd) (T : Int32) : Prop := Off (fun c => c = 0 ∨ S38 c) w w1 ∧ w1.1 0 10 = T ∧ w1.1 0 11 = w.1 0 11 ∧ w1.1 0 12 = -1
def GO (w w1 : Wd) : Prop := Off (fun c => c = 41 ∨ S51 c) w w1 ∧ w1.1 41 1 = w.1 41 1 ∧ w1.1 41 2 = w.1 41 2 ∧ w1.1 41 3 = w.1 41 3 ∧ w1.1 41 5 = w.1 41 5 ∧ w1.1 41 6 = w.1 41 6 ∧ w1.1 41 24 = w.1 41 24
def GF (w w1 : Wd) (T : Int32) : Prop := Off (fun c => c = 41 ∨ S51 c) w w1 ∧ w1.1 41 1 = T ∧ w1.1 41 2 = w.1 41 2 ∧ w1.1 41 3 = -1 ∧ w1.1 41 5 = w.1 41 5 ∧ w1.1 41 6 = w.1 41 6 ∧ w1.1 41 24 = w.1 41 24
/-- a question behind which both sides stand -/
def FF (w w2 : Wd) : Prop := Off (fun c => c = 0 ∨ S38 c ∨ c = 41 ∨ S51 c) w w2 ∧ w2.1 0 10 = w2.1 41 1 ∧ w2.1 0 11 = w.1 0 11 ∧ w2.1 0 12 = -1 ∧ w2.1 41 2 = w.1 41 2 ∧ w2.1 41 3 = -1 ∧ w2.1 41 5 = w.1 41 5 ∧ w2.1 41 6 = w.1 41 6 ∧ w2.1 41 24 = w.1 41 24
def QK (w : Wd) (v u : Option Value) (w2 : Wd) : Prop := u = v ∧ (∃ x, v = some (.int x)) ∧ FF w w2
def QP (w : Wd) (fc fg : Mf) (ac ag : List Value) : Prop := fc ac w (fun v w1 => fg ag w1 (fun u w2 => QK w v u w2))
theorem fin {w w1 w2 : Wd} {T x : Int32} (h1 : CF w w1 T) (h2 : GF w1 w2 T) : QK w (some (.int x)) (some (.int x)) w2 := by
  obtain ⟨a1, a2, a3, a4⟩ := h1
  obtain ⟨b1, b2, b3, b4, b5, b6, b7⟩ := h2
  have e0 := (b1 0 (by unfold S51; omega)).1
  have e4 := (a1 41 (by unfold S38; omega)).1
  refine ⟨rfl, ⟨x, rfl⟩, fun c hc => ?_, ?_, ?_, ?_, ?_, b4, ?_, ?_, ?_⟩
  · have p := a1 c (fun q => hc (q.elim Or.inl (fun q => Or.inr (Or.inl q))))
    have q := b1 c (fun q => hc (q.elim (fun q => Or.inr (Or.inr (Or.inl q))) (fun q => Or.inr (Or.inr (Or.inr q)))))
    exact ⟨q.1.trans p.1, q.2.trans p.2⟩
  · rw [e0, a2, b2]
  · rw [e0, a3]
  · rw [e0, a4]
  · rw [b3, e4]
  · rw [b5, e4]
  · rw [b6, e4]
  · rw [b7, e4]
theorem CF_a {w w1 : Wd} {T : Int32} (h : Off S38 w w1) : CF w (upI (upI w1 0 10 T) 0 12 (-1)) T := by
  have e0 := (h 0 (by unfold S38; omega)).1
  have o : Off (fun c => c = 0 ∨ S38 c) w w1 := h.mono (fun c q => Or.inr q)
  have o1 : Off (fun c => c = 0 ∨ S38 c) w1 (upI w1 0 10 T) := Off.up (Or.inl rfl)
  have o2 : Off (fun c => c = 0 ∨ S38 c) (upI w1 0 10 T) (upI (upI w1 0 10 T) 0 12 (-1)) := Off.up (Or.inl rfl)
  refine ⟨(o.tr o1).tr o2, ?_, ?_, ?_⟩
  · rw [upI1, if_neg (by decide), upI1, if_pos ⟨rfl, rfl⟩]
  · rw [upI1, if_neg (by decide), upI1, if_neg (by decide), e0]
  · rw [upI1, if_pos ⟨rfl, rfl⟩]
theorem CF_r {w : Wd} {T : Int32} : CF w (upI (upI w 0 10 T) 0 12 (-1)) T := CF_a Off.rf
theorem off27 {w w1 : Wd} (h : Off S27 w w1) : Off S38 w w1 := h.mono (fun c q => by unfold S27 at q; unfold S38; omega)
theorem GO.rf {w : Wd} : GO w w := ⟨Off.rf, rfl, rfl, rfl, rfl, rfl, rfl⟩
theorem GO.tr {w w1 w2 : Wd} (h : GO w w1) (h2 : GO w1 w2) : GO w w2 := ⟨h.1.tr h2.1, h2.2.1.trans h.2.1, h2.2.2.1.trans h.2.2.1, h2.2.2.2.1.trans h.2.2.2.1, h2.2.2.2.2.1.trans h.2.2.2.2.1, h2.2.2.2.2.2.1.trans h.2.2.2.2.2.1, h2.2.2.2.2.2.2.trans h.2.2.2.2.2.2⟩
theorem GO_off {w w1 : Wd} (h : Off S51 w w1) : GO w w1 := by
  have e := (h 41 (by unfold S51; omega)).1
  refine ⟨h.mono (fun c q => Or.inr q), ?_, ?_, ?_, ?_, ?_, ?_⟩ <;> rw [e]
theorem off47 {w w1 : Wd} (h : Off (· = 47) w w1) : Off S51 w w1 := h.mono (fun c q => by
  have q : c = 47 := q
  unfold S51; omega)
theorem GO_47 {w w1 : Wd} (h : Off (· = 47) w w1) : GO w w1 := GO_off (off47 h)
theorem GF_a {w w1 : Wd} {T : Int32} (h : GO (rfs w T) w1) : GF w w1 T := by
  obtain ⟨b1, b2, b3, b4, b5, b6, b7⟩ := h
  have o : Off (fun c => c = 41 ∨ S51 c) w (rfs w T) := ((Off.up (Or.inl rfl)).tr (Off.up (Or.inl rfl))).tr (Off.up (Or.inl rfl))
  refine ⟨o.tr b1, b2.trans ?_, b3.trans ?_, b4.trans ?_, b5.trans ?_, b6.trans ?_, b7.trans ?_⟩
  · unfold rfs; rw [upI1, if_pos ⟨rfl, rfl⟩]
  · unfold rfs; rw [upI1, if_neg (by decide), upI1, if_neg (by decide), upI1, if_neg (by decide)]
  · unfold rfs; rw [upI1, if_neg (by decide), upI1, if_pos ⟨rfl, rfl⟩]
  · unfold rfs; rw [upI1, if_neg (by decide), upI1, if_neg (by decide), upI1, if_neg (by decide)]
  · unfold rfs; rw [upI1, if_neg (by decide), upI1, if_neg (by decide), upI1, if_neg (by decide)]
  · unfold rfs; rw [upI1, if_neg (by decide), upI1, if_neg (by decide), upI1, if_neg (by decide)]
theorem GF_r {w : Wd} {T : Int32} : GF w (rfs w T) T := GF_a GO.rf
theorem RM_rfs {w : Wd} {r : Nat → Nat} {T : Int32} (h : RM w r) : RM (rfs w T) r := RM_up (RM_up (RM_up h (by decide) _ _) (by decide) _ _) (by decide) _ _
theorem RM_cf {w w1 : Wd} {r : Nat → Nat} {T : Int32} (h : RM w r) (hc : CF w w1 T) : RM w1 r := h.off hc.1 (by unfold S38; omega)
theorem RM_go {w w1 : Wd} {r : Nat → Nat} (h : RM w r) (hc : GO w w1) : RM w1 r := h.off hc.1 (by unfold S51; omega)
theorem tx_cf {w w1 : Wd} {T : Int32} (hc : CF w w1 T) : w1.1 41 = w.1 41 := (hc.1 41 (by unfold S38; omega)).1
theorem un_0 : unI (nI 0) = nI 1 := by decide
theorem un_1 : unI (nI 1) = nI 0 := by decide
theorem un2_0 (b : Int32) : un2 (nI 0) b = nI 1 := by
  unfold un2
  rw [if_pos (by decide)]
theorem un2_10 : un2 (nI 1) (nI 0) = nI 2 := by decide
theorem un2_11 : un2 (nI 1) (nI 1) = nI 0 := by decide
theorem g0_N {w : Wd} {r : Nat → Nat} (hC : CT w r) (hW : WFr r) : (0 < w.1 13 4) ↔ 0 < r 1 := by
  have := hW.2.2.1
  rw [hC.2.1, gt0_N (by omega)]
