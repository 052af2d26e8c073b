/-! all that both sides hold, memory too; what an act leaves -/
def FX (j : Nat) : Prop := j ≤ 2 ∨ (6 ≤ j ∧ j < 14) ∨ (46 ≤ j ∧ j < 106) ∨ (246 ≤ j ∧ j < 251)
def RH (w : Wd) (r : Nat → Nat) : Prop := RA w r ∧ ∃ N A H, w.1 39 3 = nI N ∧ w.1 39 4 = nI A ∧ HW w A H ∧ HM w N A H ∧ ∀ i, i < A → VP (H i) ∧ ∀ j, FX j → H i j = r j
def SQ (c : Nat) : Prop := c = 0 ∨ S38 c ∨ c = 41 ∨ S51 c
theorem RA_FF {w w2 : Wd} {r : Nat → Nat} (h : RA w r) (hf : FF w w2) : RA w2 r := by
  obtain ⟨hM, hC, hP, hW, hV, h6, h7, h8⟩ := h
  obtain ⟨o, -, -, -, -, -, -, f6, f24⟩ := hf
  refine ⟨hM.off o (by unfold S38 S51; omega), hC.off o (fun c a b q => by unfold S38 S51 at q; omega), hP.off o (fun c a b q => by unfold S38 S51 at q; omega), hW, hV, f6.trans h6, h7, ?_⟩
  rw [f24, (o 39 (by unfold S38 S51; omega)).1]
  exact h8
theorem RH_FF {w w2 : Wd} {r : Nat → Nat} (h : RH w r) (hf : FF w w2) : RH w2 r := by
  obtain ⟨hA, N, A, H, h3, h4, hw, hm, hv⟩ := h
  have hA2 := RA_FF hA hf
  obtain ⟨o, -, -, -, -, -, -, f6, f24⟩ := hf
  have e39 := (o 39 (by unfold S38 S51; omega)).1
  refine ⟨hA2, N, A, H, by rw [e39]; exact h3, by rw [e39]; exact h4, ⟨f24.trans hw.1, hw.2.1, fun i j hi hj => ?_⟩, HM_off hm o (by unfold S38 S51; omega), hv⟩
  rw [(o 52 (by unfold S38 S51; omega)).1]
  exact hw.2.2 i j hi hj
/-- cells that an act may change -/
def SA (c : Nat) : Prop := c = 0 ∨ (15 ≤ c ∧ c ≤ 41) ∨ c = 43 ∨ S51 c ∨ c = 52
def AF (w w2 : Wd) : Prop := Off SA w w2 ∧ w2.1 0 10 = w2.1 41 1 ∧ w2.1 0 11 = w.1 0 11 ∧ w2.1 0 12 = -1 ∧ w2.1 41 2 = w.1 41 2 ∧ w2.1 41 3 = -1 ∧ w2.1 41 5 = w.1 41 5
def AK (w : Wd) (r : Nat → Nat) (v u : Option Value) (w2 : Wd) : Prop := u = v ∧ (∃ x, v = some (.int x)) ∧ AF w w2 ∧ ∃ r1, RH w2 r1 ∧ ∀ j, FX j → r1 j = r j
def AP (w : Wd) (r : Nat → Nat) (fc fg : Mf) (ac ag : List Value) : Prop := fc ac w (fun v w1 => fg ag w1 (fun u w2 => AK w r v u w2))
theorem AK_of {w w2 : Wd} {r : Nat → Nat} {v u : Option Value} (h : RH w r) (hq : QK w v u w2) : AK w r v u w2 := by
  obtain ⟨a, b, hf⟩ := hq
  refine ⟨a, b, ?_, r, RH_FF h hf, fun _ _ => rfl⟩
  obtain ⟨o, f1, f2, f3, f4, f5, f6, -, -⟩ := hf
  refine ⟨o.mono (fun c q => ?_), f1, f2, f3, f4, f5, f6⟩
  unfold S38 S51 at q
  unfold SA S51
  omega
/-- what the class has done, by an act: its cells hold the new row, the old one is remembered -/
def CA (w w1 : Wd) (r r1 : Nat → Nat) : Prop := Off (fun c => c = 0 ∨ (15 ≤ c ∧ c ≤ 40)) w w1 ∧ CT w1 r1 ∧ CP w1 r1 ∧ w1.1 0 10 = nI 0 ∧ w1.1 0 11 = w.1 0 11 ∧ w1.1 0 12 = -1 ∧ ∀ N A H, w.1 39 3 = nI N → w.1 39 4 = nI A → HM w N A H → w1.1 39 3 = nI ((N + 1) % 10) ∧ w1.1 39 4 = nI (min (A + 1) 10) ∧ HM w1 ((N + 1) % 10) (min (A + 1) 10) (remH r A H)
/-- what the reference has done -/
def GA (w w1 : Wd) (r r1 : Nat → Nat) (A : Nat) (H : Nat → Nat → Nat) : Prop := Off (fun c => c = 41 ∨ c = 43 ∨ S51 c ∨ c = 52) w w1 ∧ RM w1 r1 ∧ w1.1 41 1 = nI 0 ∧ w1.1 41 2 = w.1 41 2 ∧ w1.1 41 3 = -1 ∧ w1.1 41 5 = w.1 41 5 ∧ w1.1 41 6 = w.1 41 6 ∧ HW w1 (min (A + 1) 10) (remH r A H)
theorem act_fin {w w1 w2 : Wd} {r r1 : Nat → Nat} {x : Int32} {N A : Nat} {H : Nat → Nat → Nat} (hR : RA w r) (h3 : w.1 39 3 = nI N) (h4 : w.1 39 4 = nI A) (hw : HW w A H) (hm : HM w N A H) (hv : ∀ i, i < A → VP (H i) ∧ ∀ j, FX j → H i j = r j) (hc : CA w w1 r r1) (hg : GA w1 w2 r r1 A H) (hW : WFr r1) (hV : VP r1) (hfx : ∀ j, FX j → r1 j = r j) : AK w r (some (.int x)) (some (.int x)) w2 := by
  obtain ⟨hM, hC, hP, hW0, hV0, h6, h7, h8⟩ := hR
  obtain ⟨oc, cC, cP, c10, c11, c12, cH⟩ := hc
  obtain ⟨og, gM, g1, g2, g3, g5, g6, gH⟩ := hg
  obtain ⟨m3, m4, mm⟩ := cH N A H h3 h4 hm
  have n0 : ¬ (0 = 41 ∨ 0 = 43 ∨ S51 0 ∨ 0 = 52) := by unfold S51; omega
  have e0 : w2.1 0 = w1.1 0 := (og 0 n0).1
  have e41 : w1.1 41 = w.1 41 := (oc 41 (by omega)).1
  have e39 : w2.1 39 = w1.1 39 := (og 39 (by unfold S51; omega)).1
  have hw2 := gH
  refine ⟨rfl, ⟨x, rfl⟩, ⟨fun c q => ?_, ?_, ?_, ?_, ?_, g3, ?_⟩, r1, ⟨⟨gM, cC.off og (fun c a b q => by unfold S51 at q; omega), cP.off og (fun c a b q => by unfold S51 at q; omega), hW, hV, ?_, ?_, ?_⟩, (N + 1) % 10, min (A + 1) 10, remH r A H, by rw [e39]; exact m3, by rw [e39]; exact m4, hw2, HM_off mm og (by unfold S51; omega), fun i hi => ?_⟩, hfx⟩
  · have p1 := oc c (fun z => q (by unfold SA S51; omega))
    have p2 := og c (fun z => q (by unfold S51 at z; unfold SA S51; omega))
    exact ⟨p2.1.trans p1.1, p2.2.trans p1.2⟩
  · rw [e0, c10, g1]
  · rw [e0, c11]
  · rw [e0, c12]
  · rw [g2, e41]
  · rw [g5, e41]
  · rw [g6, e41, hfx 1 (by unfold FX; omega)]; exact h6
  · rw [hfx 1 (by unfold FX; omega), hfx 0 (by unfold FX; omega), hfx 2 (by unfold FX; omega)]; exact h7
  · rw [e39, m4, hw2.1]
  · have key : VP (remH r A H i) ∧ ∀ j, FX j → remH r A H i j = r j := by
      have hA := hw.2.1
      by_cases c : A = 10
      · have e : remH r A H i = if i = 9 then r else H (i + 1) := by
          show (if A = 10 then _ else _) = _
          rw [if_pos c]
        rw [e]
        by_cases q : i = 9
        · rw [if_pos q]; exact ⟨hV0, fun _ _ => rfl⟩
        · rw [if_neg q]; exact hv (i + 1) (by omega)
      · have e : remH r A H i = if i = A then r else H i := by
          show (if A = 10 then _ else _) = _
          rw [if_neg c]
        rw [e]
        by_cases q : i = A
        · rw [if_pos q]; exact ⟨hV0, fun _ _ => rfl⟩
        · rw [if_neg q]; exact hv i (by omega)
    exact ⟨key.1, fun j hj => (key.2 j hj).trans (hfx j hj).symm⟩
