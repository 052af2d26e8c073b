/-! an act's parts put together; rests() -/
theorem CA_mk {w w1 w2 : Wd} {r r1 : Nat → Nat} (hW : WFr r) {N A : Nat} (hN : N < 10) (hA : A ≤ 10) (h3 : w.1 39 3 = nI N) (h4 : w.1 39 4 = nI A) (o1 : Off (fun c => c = 39 ∨ c = 40) w w1) (k3 : w1.1 39 3 = nI ((N + 1) % 10)) (k4 : w1.1 39 4 = nI (min (A + 1) 10)) (ks : SV w1 N r) (km : ∀ j, j < N * 180 ∨ N * 180 + 180 ≤ j → w1.1 40 j = w.1 40 j) (o2 : Off (fun c => 15 ≤ c ∧ c ≤ 38) w1 w2) (cC : CT w2 r1) (cP : CP w2 r1) : CA w (upI (upI w2 0 10 (nI 0)) 0 12 (-1)) r r1 := by
  have p1 : Off (fun c => c = 0 ∨ (15 ≤ c ∧ c ≤ 40)) w w1 := o1.mono (fun c q => by omega)
  have p2 : Off (fun c => c = 0 ∨ (15 ≤ c ∧ c ≤ 40)) w1 w2 := o2.mono (fun c q => by omega)
  have p3 : Off (fun c => c = 0 ∨ (15 ≤ c ∧ c ≤ 40)) w2 (upI w2 0 10 (nI 0)) := Off.up (Or.inl rfl)
  have p4 : Off (fun c => c = 0 ∨ (15 ≤ c ∧ c ≤ 40)) (upI w2 0 10 (nI 0)) (upI (upI w2 0 10 (nI 0)) 0 12 (-1)) := Off.up (Or.inl rfl)
  have q0 : Off (fun c => c = 0) w2 (upI (upI w2 0 10 (nI 0)) 0 12 (-1)) := by
    have a1 : Off (fun c => c = 0) w2 (upI w2 0 10 (nI 0)) := Off.up rfl
    exact a1.tr (Off.up rfl)
  have e0 : w2.1 0 = w.1 0 := ((o2 0 (by omega)).1).trans (o1 0 (by omega)).1
  refine ⟨((p1.tr p2).tr p3).tr p4, cC.off q0 (fun c a b q => by omega), cP.off q0 (fun c a b q => by omega), ?_, ?_, ?_, fun N2 A2 H g3 g4 hm => ?_⟩
  · rw [upI1, if_neg (by decide), upI1, if_pos ⟨rfl, rfl⟩]
  · rw [upI1, if_neg (by decide), upI1, if_neg (by decide), e0]
  · rw [upI1, if_pos ⟨rfl, rfl⟩]
  · have hm1 := hm.1
    have hm2 := hm.2.1
    have eN : N2 = N := (eq_N (by omega) (by omega)).mp (g3.symm.trans h3)
    have eA : A2 = A := (eq_N (by omega) (by omega)).mp (g4.symm.trans h4)
    subst eN
    subst eA
    have f39 : (upI (upI w2 0 10 (nI 0)) 0 12 (-1)).1 39 = w1.1 39 := ((q0 39 (by omega)).1).trans (o2 39 (by omega)).1
    have ring := ring_keep hm hW ks km
    refine ⟨by rw [f39]; exact k3, by rw [f39]; exact k4, HM_off (HM_off ring o2 (by omega)) q0 (by omega)⟩
theorem GA_mk {w w1 w2 : Wd} {r r1 : Nat → Nat} (o1 : Off (fun c => c = 52 ∨ c = 41) (rfs w (nI 0)) w1) (k : ∀ j, j ≠ 24 → w1.1 41 j = (rfs w (nI 0)).1 41 j) {A : Nat} {H : Nat → Nat → Nat} (hH : HW w1 (min (A + 1) 10) (remH r A H)) (o2 : Off (fun c => c = 43 ∨ S51 c) w1 w2) (hM : RM w2 r1) : GA w w2 r r1 A H := by
  have p0 : Off (fun c => c = 41 ∨ c = 43 ∨ S51 c ∨ c = 52) w (rfs w (nI 0)) := ((Off.up (Or.inl rfl)).tr (Off.up (Or.inl rfl))).tr (Off.up (Or.inl rfl))
  have p1 : Off (fun c => c = 41 ∨ c = 43 ∨ S51 c ∨ c = 52) (rfs w (nI 0)) w1 := o1.mono (fun c q => by omega)
  have p2 : Off (fun c => c = 41 ∨ c = 43 ∨ S51 c ∨ c = 52) w1 w2 := o2.mono (fun c q => by rcases q with q | q; exact Or.inr (Or.inl q); exact Or.inr (Or.inr (Or.inl q)))
  have e41 : w2.1 41 = w1.1 41 := (o2 41 (by unfold S51; omega)).1
  have e52 : w2.1 52 = w1.1 52 := (o2 52 (by unfold S51; omega)).1
  have g := GF_r (w := w) (T := nI 0)
  obtain ⟨-, g1, g2, g3, g5, g6, g24⟩ := g
  refine ⟨(p0.tr p1).tr p2, hM, ?_, ?_, ?_, ?_, ?_, ?_⟩
  · rw [e41, k 1 (by decide)]; exact g1
  · rw [e41, k 2 (by decide)]; exact g2
  · rw [e41, k 3 (by decide)]; exact g3
  · rw [e41, k 5 (by decide)]; exact g5
  · rw [e41, k 6 (by decide)]; exact g6
  · obtain ⟨a, b, c⟩ := hH
    exact ⟨by rw [e41]; exact a, b, fun i j hi hj => by rw [e52]; exact c i j hi hj⟩
theorem HW_rfs {w : Wd} {A : Nat} {H : Nat → Nat → Nat} (hw : HW w A H) : HW (rfs w (nI 0)) A H := by
  have g := GF_r (w := w) (T := nI 0)
  have r52 : (rfs w (nI 0)).1 52 = w.1 52 := (((Off.up (S := fun c => c = 41) rfl).tr (Off.up rfl)).tr (Off.up rfl) 52 (by omega)).1
  exact ⟨g.2.2.2.2.2.2.trans hw.1, hw.2.1, fun i j hi hj => by rw [r52]; exact hw.2.2 i j hi hj⟩
/-- the reference remembers, behind the class's part -/
theorem HW_ca {w w1 : Wd} {r r1 : Nat → Nat} {A : Nat} {H : Nat → Nat → Nat} (hc : CA w w1 r r1) (hw : HW w A H) : HW w1 A H := by
  have e41 : w1.1 41 = w.1 41 := (hc.1 41 (by omega)).1
  have e52 : w1.1 52 = w.1 52 := (hc.1 52 (by omega)).1
  exact ⟨by rw [e41]; exact hw.1, hw.2.1, fun i j hi hj => by rw [e52]; exact hw.2.2 i j hi hj⟩
theorem RM_ca {w w1 : Wd} {r r1 : Nat → Nat} (hc : CA w w1 r r1) (hM : RM w r) : RM w1 r := hM.off hc.1 (by omega)
theorem FX_251 {r : Nat → Nat} {i v : Nat} (hi : i < 5) : ∀ j, FX j → upR r (251 + i) v j = r j := fun j hj => upR_n (by unfold FX at hj; omega)
theorem WFr_251 {r : Nat → Nat} (hW : WFr r) {i v : Nat} (hi : i < 5) (hv : v ≤ 9) : WFr (upR r (251 + i) v) := by
  obtain ⟨a, b, c, d, f, k, l, m, n, o⟩ := hW
  have e : ∀ j, j < 251 → upR r (251 + i) v j = r j := fun j hj => upR_n (by omega)
  refine ⟨fun j => ?_, ?_, ?_, ?_, ?_, ?_, fun u hu => ?_, fun h hh => ?_, fun j hj => ?_, fun i2 hi2 => ?_⟩
  · have := a j
    unfold upR
    split
    · omega
    · exact this
  · rw [e 0 (by omega)]; exact b
  · rw [e 1 (by omega)]; exact c
  · rw [e 2 (by omega)]; exact d
  · rw [e 4 (by omega)]; exact f
  · rw [e 5 (by omega)]; exact k
  · rw [e _ (by omega), e _ (by omega), e _ (by omega), e _ (by omega), e _ (by omega)]; exact l u hu
  · rw [e _ (by omega), e _ (by omega), e _ (by omega), e _ (by omega)]; exact m h hh
  · rw [e _ (by omega), e _ (by omega)]; exact n j hj
  · rw [e _ (by omega)]
    refine ⟨(o i2 hi2).1, ?_⟩
    by_cases q : i2 = i
    · rw [q, upR_e]; exact hv
    · rw [upR_n (by omega)]; exact (o i2 hi2).2
/-- the plan and the games are the same: so is what can come -/
theorem VP_same {r r1 : Nat → Nat} (hW : WFr r) (hV : VP r) (e : ∀ j, j ≤ 1 ∨ (46 ≤ j ∧ j < 246) → r1 j = r j) (hs : ∀ t, t < r 0 → 1 ≤ r1 (22 + t)) : VP r1 := by
  have h1 := hW.2.2.1
  have h3a : ∀ h, h < 20 → r (106 + h) ≤ 3 := fun h hh => (hW.2.2.2.2.2.2.2.1 h hh).2.2.2
  obtain ⟨a, b, c, d, f, k, l⟩ := hV
  have ef : ∀ h, h < 20 → r1 (106 + h) = r (106 + h) := fun h hh => e _ (by omega)
  have ew : ∀ h j, h < 20 → j < 3 → who r1 h j = who r h j ∧ thr r1 h j = thr r h j := fun h j hh hj => ⟨e _ (by omega), e _ (by omega)⟩
  refine ⟨fun u v huv hv => ?_, fun h hh1 hh2 => ?_, fun h j hh hj => ?_, fun h i j hh hij hj => ?_, fun h hh => ?_, fun u hu => ?_, fun h hh => ?_⟩
  · rw [e 1 (by omega)] at hv
    rw [e _ (by omega), e _ (by omega)]; exact a u v huv hv
  · rw [e 1 (by omega)] at hh1
    rw [ef h hh2]; exact b h hh1 hh2
  · rw [ef h hh] at hj
    have := h3a h hh
    rw [(ew h j hh (by omega)).1, (ew h j hh (by omega)).2, e 0 (by omega)]; exact c h j hh hj
  · rw [ef h hh] at hj
    have := h3a h hh
    rw [(ew h i hh (by omega)).1, (ew h j hh (by omega)).1]; exact d h i j hh hij hj
  · have := h3a h hh
    rw [ef h hh, e _ (by omega), sumN_congr (f := thr r1 h) (g := thr r h) _ (fun j hj => (ew h j hh (by omega)).2)]; exact f h hh
  · rw [e 0 (by omega)] at hu; exact hs u hu
  · rw [e 1 (by omega)] at hh
    rw [e _ (by omega)]; exact l h hh
