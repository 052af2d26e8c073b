/-! become() -/
def loT (i : Nat) : Nat := if i < 2 then 1 else 0
def hiT (i : Nat) : Nat := if i = 0 then 99 else if i = 3 then 9 else 120
theorem ro_loT : ∀ i, i < 4 → ro 100 (nI i) = nI (loT i) := by decide
theorem ro_hiT : ∀ i, i < 4 → ro 101 (nI i) = nI (hiT i) := by decide
theorem hiT_le (i : Nat) : hiT i ≤ 120 := by
  unfold hiT
  split
  · omega
  · split <;> omega
theorem CT_tr {w : Wd} {r : Nat → Nat} (hC : CT w r) (hW : WFr r) {t i v : Nat} (ht : t < r 0) (hi : i < 4) : CT (upI w 16 (t * 4 + i) (nI v)) (upR r (14 + 8 * i + t) v) := by
  have h0 := hW.2.1
  have h1 := hW.2.2.1
  have h2 := hW.2.2.2.1
  have e : ∀ j, j < 14 ∨ 46 ≤ j → upR r (14 + 8 * i + t) v j = r j := fun j hj => upR_n (by omega)
  obtain ⟨a, b, c, d, f, g, k⟩ := hC
  have e3 : ∀ u n, u < r 0 → n < 4 → (upI w 16 (t * 4 + i) (nI v)).1 16 (u * 4 + n) = nI (upR r (14 + 8 * i + t) v (14 + 8 * n + u)) := by
    intro u n hu hn
    rw [upI1]
    by_cases q : u = t ∧ n = i
    · rw [if_pos ⟨rfl, by omega⟩, q.1, q.2, upR_e]
    · rw [if_neg (fun z => q (by have := z.2; omega)), upR_n (by omega)]
      have := d u hu
      have n4 : n = 0 ∨ n = 1 ∨ n = 2 ∨ n = 3 := by omega
      rcases n4 with rfl | rfl | rfl | rfl
      · exact this.2.1
      · exact this.2.2.1
      · exact this.2.2.2.1
      · exact this.2.2.2.2
  refine ⟨?_, ?_, ?_, fun u hu => ?_, fun u hu => ?_, ?_, fun j hj => ?_⟩
  · rw [upI1, if_neg (fun z => absurd z.1 (by decide)), e 0 (by omega)]; exact a
  · rw [upI1, if_neg (fun z => absurd z.1 (by decide)), e 1 (by omega)]; exact b
  · rw [upI1, if_neg (fun z => absurd z.1 (by decide)), e 2 (by omega)]; exact c
  · rw [e 0 (by omega)] at hu
    refine ⟨?_, e3 u 0 hu (by omega), e3 u 1 hu (by omega), e3 u 2 hu (by omega), e3 u 3 hu (by omega)⟩
    rw [e _ (by omega), upI1, if_neg (fun z => absurd z.1 (by decide))]
    exact (d u hu).1
  · rw [e 1 (by omega)] at hu
    rw [e _ (by omega), e _ (by omega), e _ (by omega)]
    simp only [upI1]
    rw [if_neg (fun z => absurd z.1 (by decide)), if_neg (fun z => absurd z.1 (by decide)), if_neg (fun z => absurd z.1 (by decide))]
    exact f u hu
  · have e3 : upR r (14 + 8 * i + t) v 3 = r 3 := e 3 (by omega)
    have e4 : upR r (14 + 8 * i + t) v 4 = r 4 := e 4 (by omega)
    have e5 : upR r (14 + 8 * i + t) v 5 = r 5 := e 5 (by omega)
    rw [e3, e4, e5]
    simp only [upI1]
    rw [if_neg (fun z => absurd z.1 (by decide)), if_neg (fun z => absurd z.1 (by decide)), if_neg (fun z => absurd z.1 (by decide))]
    exact g
  · rw [e 2 (by omega)] at hj
    rw [e _ (by omega), e _ (by omega)]
    simp only [upI1]
    rw [if_neg (fun z => absurd z.1 (by decide)), if_neg (fun z => absurd z.1 (by decide))]
    exact k j hj
theorem WFr_tr {r : Nat → Nat} (hW : WFr r) {t i v : Nat} (ht : t < 8) (hi : i < 4) (hv : v ≤ hiT i) : WFr (upR r (14 + 8 * i + t) v) := by
  obtain ⟨a, b, c, d, f, k, l, m, n, o⟩ := hW
  have hl := hiT_le i
  have e : ∀ j, j < 14 ∨ 46 ≤ j → upR r (14 + 8 * i + t) v j = r j := fun j hj => upR_n (by omega)
  have key : ∀ u p, u < 8 → p < 4 → r (14 + 8 * p + u) ≤ hiT p → upR r (14 + 8 * i + t) v (14 + 8 * p + u) ≤ hiT p := by
    intro u p hu hp hb
    by_cases q : u = t ∧ p = i
    · rw [q.1, q.2, upR_e]; exact hv
    · rw [upR_n (by omega)]; exact hb
  refine ⟨fun j => ?_, ?_, ?_, ?_, ?_, ?_, fun u hu => ?_, fun h hh => ?_, fun j hj => ?_, fun i2 hi2 => ?_⟩
  · have := a j
    unfold upR
    split
    · omega
    · exact this
  · rw [e 0 (by omega)]; exact b
  · rw [e 1 (by omega)]; exact c
  · rw [e 2 (by omega)]; exact d
  · rw [e 4 (by omega)]; exact f
  · rw [e 5 (by omega)]; exact k
  · have q := l u hu
    rw [e (6 + u) (by omega)]
    exact ⟨q.1, key u 0 hu (by omega) q.2.1, key u 1 hu (by omega) q.2.2.1, key u 2 hu (by omega) q.2.2.2.1, key u 3 hu (by omega) q.2.2.2.2⟩
  · rw [e _ (by omega), e _ (by omega), e _ (by omega), e _ (by omega)]; exact m h hh
  · rw [e _ (by omega), e _ (by omega)]; exact n j hj
  · rw [e _ (by omega), e _ (by omega)]; exact o i2 hi2
def topT (r : Nat → Nat) (t i : Nat) : Nat := if i = 2 then r (22 + t) else hiT i
section BECOME
variable {w : Wd} {r : Nat → Nat}
theorem g_canBecome {K : Kt} {t i : Nat} {x : Int32} (hM : RM w r) (ht : t < 8) (hi : i < 4) (h : K (some (.int (bI (nI (loT i) ≤ x ∧ x ≤ nI (topT r t i))))) w) : fX11_canBecome [.ref 41, .int (nI t), .int (nI i), .int x] w K := by
  refine tX11_canBecome_0 ⟨fun q => ⟨fun q1 => ⟨fun q2 => ?_, fun q2 => ?_⟩, fun q1 => ?_⟩, fun q => ?_⟩
  · rw [eq0_N (by omega)] at q
    rw [eq_N (by omega) (by omega)] at q1 q2
    have : i = 3 := by omega
    subst this; exact h
  · rw [eq_N (by omega) (by omega)] at q2
    subst q2
    rw [nI_add, rdM hM (by omega)]
    exact ⟨vp_in_nI (by omega) (by decide), h⟩
  · rw [eq_N (by omega) (by omega)] at q1
    subst q1; exact h
  · rw [eq0_N (by omega)] at q
    subst q; exact h
theorem c_highest {K : Kt} {t i : Nat} (hC : CT w r) (hW : WFr r) (ht : t < r 0) (hi : i < 4) (h : K (some (.int (nI (topT r t i)))) w) : fX9_highestTrait [.ref 13, .int (nI t), .int (nI i)] w K := by
  have h0 := hW.2.1
  refine tX9_highestTrait_0 ⟨fun q => ⟨vp_in_nI (by omega) (by decide), ?_⟩, fun q => ⟨by rw [pk_mul, nI_add]; exact vp_in_nI (by omega) (by decide), ?_⟩⟩
  · rw [eq_N (by omega) (by omega)] at q
    rw [ro_hiT i hi]
    have e : topT r t i = hiT i := if_neg q
    rw [← e]; exact h
  · rw [eq_N (by omega) (by omega)] at q
    rw [stam_C hC hW ht]
    have e : topT r t i = r (22 + t) := if_pos q
    rw [← e]; exact h
theorem p_become (hR : RH w r) {x1 x2 x3 : Int32} : AP w r fX10_become fX11_become [.ref 0, .int x1, .int x2, .int x3] [.ref 41, .int x1, .int x2, .int x3] := by
  have hRR := hR
  obtain ⟨hRA, N, A, H, h3, h4, hw, hm, hv⟩ := hR
  have hRA0 := hRA
  obtain ⟨hM, hC, hP, hW, hV, h6, h7, h8⟩ := hRA
  have h1 := hW.2.2.1
  have h0 := hW.2.1
  have N1 : ¬ ((nI 0 ≤ x1 ∧ x1 ≤ nI (r 0) - nI 1) ∧ (nI 0 ≤ x2 ∧ x2 ≤ nI 3)) → fX11_become [.ref 41, .int x1, .int x2, .int x3] (upI (upI w 0 10 (nI 1)) 0 12 (-1)) (fun u w2 => AK w r (some (.int (-1))) u w2) := by
    intro hn
    have hM1 : RM (upI (upI w 0 10 (nI 1)) 0 12 (-1)) r := RM_cf hM CF_r
    have Z : RR (tl (fun u w2 => AK w r (some (.int (-1))) u w2) lX11_become) 21 [.ref 41, .int x1, .int x2, .int x3, .null, .null, .null] [] (upI (upI w 0 10 (nI 1)) 0 12 (-1)) := by
      refine tX11_become_21 (tX11_become_22 ⟨fun _ => tX11_become_46 (tX11_become_47 ⟨fun q => absurd q (by rw [un2_0]; decide), fun _ => ?_⟩), fun q => absurd rfl q⟩)
      rw [un2_0]; exact AK_of hRR (fin CF_r GF_r)
    refine tX11_become_0 ⟨fun _ => Z, fun a => ⟨fun _ => Z, fun b => absurd ⟨?_, b⟩ hn⟩⟩
    rw [rdM hM1 (by omega)] at a; exact a
  unfold AP
  refine tX10_become_0 ⟨fun z => ?_, fun z => ⟨fun z1 => ?_, fun z1 => N1 (fun q => z1 q.2)⟩⟩
  · rw [hC.1] at z; exact N1 (fun q => z q.1)
  rw [hC.1] at z
  obtain ⟨t, ht, rfl⟩ := (rng (by omega)).mp z
  obtain ⟨i, -, hi2, rfl⟩ := (rng2 (by omega) (by omega)).mp z1
  have hi : i < 4 := by omega
  have hT := hW.2.2.2.2.2.2.1 t (by omega)
  have tb : topT r t i ≤ hiT i := by
    unfold topT
    split
    · have : i = 2 := by assumption
      subst this; exact hT.2.2.1
    · exact Nat.le_refl _
  have hl := hiT_le i
  have lb : loT i ≤ 1 := by unfold loT; split <;> omega
  have R47 : ∀ (w1 : Wd) (K : Kt), RM w1 r → (¬ (nI (loT i) ≤ x3 ∧ x3 ≤ nI (topT r t i)) → K (some (.int (-1))) (rfs w1 (nI 2))) → ((nI (loT i) ≤ x3 ∧ x3 ≤ nI (topT r t i)) → fX11_remembers [.ref 41] (rfs w1 (nI 0)) (fun v w1 => RR (tl K lX11_become) 62 [.ref 41, .int (nI t), .int (nI i), .int x3, .int (nI 1), .null, .null] (psh v []) w1)) → fX11_become [.ref 41, .int (nI t), .int (nI i), .int x3] w1 K := by
    intro w1 K hM1 k1 k2
    refine tX11_become_0 ⟨fun q => absurd (by rw [rdM hM1 (by omega)]; exact z) q, fun _ => ⟨fun q => absurd z1 q, fun _ => tX11_become_22 ⟨fun q => absurd q (by decide), fun _ => ?_⟩⟩⟩
    refine g_canBecome hM1 (by omega) hi (tX11_become_39 ⟨fun q => ?_, fun q => ?_⟩)
    · have nb : ¬ (nI (loT i) ≤ x3 ∧ x3 ≤ nI (topT r t i)) := fun p => by rw [bI_t p] at q; exact absurd q (by decide)
      refine tX11_become_46 (tX11_become_47 ⟨fun p => absurd p (by rw [un2_10]; decide), fun _ => ?_⟩)
      rw [un2_10]; exact k1 nb
    · have nb : nI (loT i) ≤ x3 ∧ x3 ≤ nI (topT r t i) := Classical.byContradiction (fun p => by rw [bI_f p] at q; exact q rfl)
      refine tX11_become_47 ⟨fun _ => ?_, fun p => absurd un2_11 p⟩
      rw [un2_11]; exact k2 nb
  refine ⟨vp_in_nI (by omega) (by decide), c_highest hC hW ht hi (tX10_become_38 ?_)⟩
  rw [ro_loT i hi]
  refine ⟨fun z2 => ?_, fun z2 => R47 _ _ (RM_cf hM CF_r) (fun _ => AK_of hRR (fin CF_r GF_r)) (fun p => absurd p z2)⟩
  have z2' := z2
  obtain ⟨v, hv1, hv2, rfl⟩ := (rng2 (by omega) (by omega)).mp z2
  refine c_keep hC hP hW hm.1 hm.2.1 h3 h4 (fun w1 o1 k3 k4 ks km => tX10_become_57 ?_)
  have hC1 := hC.off o1 (fun c a b q => by omega)
  have hP1 := hP.off o1 (fun c a b q => by omega)
  have ea : nI t * nI 4 + nI i = nI (t * 4 + i) := by rw [pk_mul, nI_add]
  have eb : nI t * nI 4 + nI 2 = nI (t * 4 + 2) := by rw [pk_mul, nI_add]
  have ec : nI t * nI 4 + nI 1 = nI (t * 4 + 1) := by rw [pk_mul, nI_add]
  have hC2 := CT_tr (v := v) hC1 hW ht hi
  have hW2 := WFr_tr hW (show t < 8 by omega) hi (Nat.le_trans hv2 tb)
  have oo2 : Off (fun c => c = 16) w1 (upI w1 16 (t * 4 + i) (nI v)) := Off.up rfl
  have hP2 := hP1.off oo2 (fun c a b q => by omega)
  have ed : rd w1 16 (nI (t * 4 + i)) = nI (r (14 + 8 * i + t)) := by
    rw [rd_N (by omega)]
    have n4 : i = 0 ∨ i = 1 ∨ i = 2 ∨ i = 3 := by omega
    have := hC1.2.2.2.1 t ht
    rcases n4 with rfl | rfl | rfl | rfl
    · exact this.2.1
    · exact this.2.2.1
    · exact this.2.2.2.1
    · exact this.2.2.2.2
  obtain ⟨r1, hr1⟩ : ∃ r1, r1 = upR r (14 + 8 * i + t) v := ⟨_, rfl⟩
  have er1 : ∀ j, j < 14 ∨ 46 ≤ j → r1 j = r j := fun j hj => by rw [hr1]; exact upR_n (by omega)
  have v1 : 1 ≤ r1 (22 + t) := by
    rw [hr1]
    by_cases q : i = 1
    · subst q
      rw [show 22 + t = 14 + 8 * 1 + t by omega, upR_e]; exact hv1
    · rw [upR_n (by omega)]; exact hV.2.2.2.2.2.1 t ht
  have v2 : ∀ u, u < r 0 → 1 ≤ r1 (22 + u) := fun u hu => by
    by_cases q : u = t
    · rw [q]; exact v1
    · rw [hr1, upR_n (by omega)]; exact hV.2.2.2.2.2.1 u hu
  rw [← hr1] at hC2 hW2
  rw [ea, eb, ec, ed, wr_N (show t * 4 + i < 2147483648 by omega)]
  have ht1 : t < r1 0 := by rw [er1 0 (by omega)]; exact ht
  have hT1 := hW2.2.2.2.2.2.2.1 t (by omega)
  have b2 : rd (upI w1 16 (t * 4 + i) (nI v)) 16 (nI (t * 4 + 2)) = nI (r1 (30 + t)) := by rw [rd_N (by omega)]; exact (hC2.2.2.2.1 t ht1).2.2.2.1
  have b1 : rd (upI w1 16 (t * 4 + i) (nI v)) 16 (nI (t * 4 + 1)) = nI (r1 (22 + t)) := by rw [rd_N (by omega)]; exact (hC2.2.2.2.1 t ht1).2.2.1
  rw [b2, b1, le_N (by omega) (by omega)]
  obtain ⟨r2, hr2⟩ : ∃ r2, r2 = upR r1 (30 + t) (min (r1 (22 + t)) (r1 (30 + t))) := ⟨_, rfl⟩
  have er2 : ∀ j, j < 14 ∨ 46 ≤ j → r2 j = r j := fun j hj => by rw [hr2, upR_n (by omega)]; exact er1 j hj
  -- the end, for either world
  have E : ∀ w2, Off (fun c => 15 ≤ c ∧ c ≤ 38) w1 w2 → CT w2 r2 → CP w2 r2 → fX11_become [.ref 41, .int (nI t), .int (nI i), .int (nI v)] (upI (upI w2 0 10 (nI 0)) 0 12 (-1)) (fun u w3 => AK w r (some (.int (nI (r (14 + 8 * i + t))))) u w3) := by
    intro w2 o2 hC3 hP3
    have hca := CA_mk hW hm.1 hm.2.1 h3 h4 o1 k3 k4 ks km o2 hC3 hP3
    have hMc := RM_ca hca hM
    have hwc := HW_ca hca hw
    generalize upI (upI w2 0 10 (nI 0)) 0 12 (-1) = wc at hca hMc hwc ⊢
    refine R47 wc _ hMc (fun p => absurd z2' p) (fun _ => ?_)
    refine g_remembers (RM_rfs hMc) (HW_rfs hwc) (fun w4 og kg hg => tX11_become_62 ?_)
    have hM4 : RM w4 r := (RM_rfs hMc).off og (by decide)
    have ea : nI 14 + nI 8 * nI i + nI t = nI (14 + 8 * i + t) := by rw [pk_mul, nI_add, nI_add]
    have eb : nI 30 + nI t = nI (30 + t) := by rw [nI_add]
    have ec : nI 22 + nI t = nI (22 + t) := by rw [nI_add]
    have hM5 : RM (upI w4 43 (14 + 8 * i + t) (nI v)) r1 := hr1 ▸ RM_set hM4 (14 + 8 * i + t) v
    rw [ea, eb, ec, rdM hM4 (by omega), wr_N (show 14 + 8 * i + t < 2147483648 by omega), rdM hM5 (by omega), rdM hM5 (by omega), leI_N (by omega) (by omega), wr_N (show 30 + t < 2147483648 by omega)]
    refine ⟨vp_in_nI (by omega) (by decide), vp_in_nI (by omega) (by decide), vp_in_nI (by omega) (by decide), ?_⟩
    have hM6 : RM (upI (upI w4 43 (14 + 8 * i + t) (nI v)) 43 (30 + t) (nI (min (r1 (30 + t)) (r1 (22 + t))))) r2 := by
      rw [hr2, Nat.min_comm (r1 (22 + t))]
      exact RM_set hM5 (30 + t) _
    have oo : Off (fun c => c = 43 ∨ S51 c) w4 (upI w4 43 (14 + 8 * i + t) (nI v)) := Off.up (Or.inl rfl)
    have hW3 : WFr r2 := by
      rw [hr2, show 30 + t = 14 + 8 * 2 + t by omega]
      refine WFr_tr hW2 (by omega) (by omega) ?_
      have : hiT 2 = 120 := rfl
      omega
    exact act_fin hRA0 h3 h4 hw hm hv hca (GA_mk og kg hg (oo.tr (Off.up (Or.inl rfl))) hM6) hW3 (VP_same hW hV (fun j hj => er2 j (by omega)) (fun u hu => by rw [hr2, upR_n (by omega)]; exact v2 u hu)) (fun j hj => er2 j (by unfold FX at hj; omega))
  have o2 : Off (fun c => 15 ≤ c ∧ c ≤ 38) w1 (upI w1 16 (t * 4 + i) (nI v)) := Off.up (by omega)
  refine ⟨vp_in_nI (by omega) (by decide), vp_in_nI (by omega) (by decide), vp_in_nI (by omega) (by decide), fun q => ?_, fun q => ?_⟩
  · have e : r2 = r1 := by rw [hr2, Nat.min_eq_right q, upR_same]
    exact E _ o2 (by rw [e]; exact hC2) (CP_same hW hP2 (fun j a b => er2 j (by omega)))
  · rw [wr_N (show t * 4 + 2 < 2147483648 by omega)]
    have e : r2 = upR r1 (14 + 8 * 2 + t) (r1 (22 + t)) := by rw [hr2, Nat.min_eq_left (by omega), show 30 + t = 14 + 8 * 2 + t by omega]
    have oo3 : Off (fun c => c = 16) (upI w1 16 (t * 4 + i) (nI v)) (upI (upI w1 16 (t * 4 + i) (nI v)) 16 (t * 4 + 2) (nI (r1 (22 + t)))) := Off.up rfl
    refine E _ (o2.tr (oo3.mono (fun c q => by omega))) ?_ (CP_same hW (hP2.off oo3 (fun c a b q => by omega)) (fun j a b => er2 j (by omega)))
    rw [e]
    exact CT_tr hC2 hW2 ht1 (by omega)
end BECOME
