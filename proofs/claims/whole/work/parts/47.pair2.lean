section PAIR2
variable {w : Wd} {r : Nat → Nat}
def okP (s : P3) : Prop := s.1 = -2 ∨ ¬ s.1 < 0
theorem okP_O {r : Nat → Nat} (hW : WFr r) {g o one : Nat} (hg : g < 20) (h1 : one < 8) {s : P3} (hs : okP s) : ∀ k, k ≤ 8 → okP (fdO r g o one k s)
  | 0, _ => hs
  | k + 1, hk => by
    have ih := okP_O hW (o := o) hg h1 hs k (by omega)
    have bv := pVal_le hW (g := g) (o := o) (one := one) (oth := k) hg h1 (by omega)
    show okP (stO r g o one k (fdO r g o one k s))
    by_cases q : k ≠ one ∧ (fdO r g o one k s).1 < nI (pVal r g o one k) ∧ alP r k g (pY r g o one k)
    · rw [stO_t q]
      exact Or.inr (by rw [lt0_N (by omega)]; exact id)
    · rw [stO_f q]; exact ih
/-- the inner loop where nothing is left to throw -/
theorem g_pairZ {K : Kt} (hM : RM w r) (hW : WFr r) {g o one : Nat} (hg : g < r 1) (hone : one < r 0) {x3 : Int32} {s : P3} (he : pX r g o one = r (86 + g)) (h : ∀ u9 u10 u11, RR (tl K lX11_pair) 56 [.ref 41, .int (nI g), .int (nI o), .int x3, .int s.1, .int s.2.1, .int s.2.2, .int (nI one + nI 1), .int (nI (pX r g o one)), u9, u10, u11] [] w) : ∀ (n k : Nat) (u10 u11 : Value), k + n = r 0 → RR (tl K lX11_pair) 98 [.ref 41, .int (nI g), .int (nI o), .int x3, .int s.1, .int s.2.1, .int s.2.2, .int (nI one), .int (nI (pX r g o one)), .int (nI k), u10, u11] [] w := by
  have h0 := hW.2.1
  have h1 := hW.2.2.1
  have hG := hW.2.2.2.2.2.2.2.1 g (by omega)
  intro n
  induction n with
  | zero =>
    intro k u10 u11 hk
    refine tX11_pair_98 ⟨fun _ => h _ _ _, fun q => absurd ?_ q⟩
    rw [rdM hM (by omega), le_N (by omega) (by omega)]; omega
  | succ n ih =>
    intro k u10 u11 hk
    have hT := hW.2.2.2.2.2.2.1 k (by omega)
    have ey : leI (rd w 43 (nI 22 + nI k)) (rd w 43 (nI 86 + nI g) - nI (pX r g o one)) = nI 0 := by
      rw [nI_add, nI_add, rdM hM (by omega), rdM hM (by omega), he, sub_N (by omega), leI_N (by omega) (by omega), show min (r (22 + k)) (r (86 + g) - r (86 + g)) = 0 by omega]
    refine tX11_pair_98 ⟨fun q => absurd q ?_, fun _ => ⟨by rw [nI_add]; exact vp_in_nI (by omega) (by decide), by rw [nI_add]; exact vp_in_nI (by omega) (by decide), ?_⟩⟩
    · rw [rdM hM (by omega), le_N (by omega) (by omega)]; omega
    rw [ey]
    refine ⟨fun _ => ?_, fun _ => ⟨fun _ => ?_, fun q => absurd (by decide) q⟩⟩
    · rw [nI_add k 1]; exact ih (k + 1) _ _ (by omega)
    · rw [nI_add k 1]; exact ih (k + 1) _ _ (by omega)
theorem p_pair (hR : RA w r) {x1 x2 x3 : Int32} : QP w fX10_pair fX11_pair [.ref 0, .int x1, .int x2, .int x3] [.ref 41, .int x1, .int x2, .int x3] := by
  obtain ⟨hM, hC, hP, hW, hV, h6, h7, h8⟩ := hR
  have h0 := hW.2.1
  have h1 := hW.2.2.1
  have N : ¬ ((nI 0 ≤ x1 ∧ x1 ≤ nI (r 1) - nI 1) ∧ (nI 0 ≤ x3 ∧ x3 ≤ nI 2)) → fX11_pair [.ref 41, .int x1, .int x2, .int x3] (upI (upI w 0 10 (nI 1)) 0 12 (-1)) (fun u w2 => QK w (some (.int (-1))) u w2) := fun hn => n_pair (RM_cf hM CF_r) hW (txr CF_r h6) hn (fin CF_r GF_r)
  unfold QP
  refine tX10_pair_0 ⟨fun z => ?_, fun z => ⟨fun z2 => ⟨fun z3 => ?_, fun z3 => ?_⟩, fun z2 => ?_⟩⟩
  · rw [hC.2.1] at z; exact N (fun q => z q.1)
  · rw [hC.2.1] at z
    obtain ⟨g, hg, rfl⟩ := (rng (by omega)).mp z
    obtain ⟨o, ho1, ho2, rfl⟩ := (rng2 (by omega) (by omega)).mp z3
    have hG := hW.2.2.2.2.2.2.2.1 g (by omega)
    refine c_choosePair hC hP hW hV hg ho2 (fun w1 ho hs => ?_)
    obtain ⟨S, hS⟩ : ∃ S, S = fdA r g o (r 0) (-2, -2, -2) := ⟨_, rfl⟩
    rw [← hS] at hs
    have hc : CF w (upI (upI w1 0 10 (nI 0)) 0 12 (-1)) (nI 0) := CF_a ho
    have hM1 := RM_cf hM hc
    have Y : ∀ v : Int32, (x3 = 0 → v = S.1) → (¬ x3 = 0 → x3 = nI 1 → v = S.2.1) → (¬ x3 = 0 → ¬ x3 = nI 1 → v = S.2.2) → fX11_pair [.ref 41, .int (nI g), .int (nI o), .int x3] (upI (upI w1 0 10 (nI 0)) 0 12 (-1)) (fun u w2 => QK w (some (.int v)) u w2) := by
      intro v v0 v1 v2
      refine y_pair hM1 hW (txr hc h6) z z2 z3 ?_
      have L : ∀ (n k : Nat) (u8 u9 u10 u11 : Value) (w2 : Wd) (s : P3), k + n = r 0 → GO (rfs (upI (upI w1 0 10 (nI 0)) 0 12 (-1)) (nI 0)) w2 → s = fdA r g o k (-2, -2, -2) → okP s → RR (tl (fun u w2 => QK w (some (.int v)) u w2) lX11_pair) 56 [.ref 41, .int (nI g), .int (nI o), .int x3, .int s.1, .int s.2.1, .int s.2.2, .int (nI k), u8, u9, u10, u11] [] w2 := by
        intro n
        induction n with
        | zero =>
          intro k u8 u9 u10 u11 w2 s hk go hs2 hok
          have e : k = r 0 := by omega
          rw [e, ← hS] at hs2
          have hM2 := RM_go (RM_rfs hM1) go
          refine tX11_pair_56 ⟨fun _ => ⟨fun q => ⟨fun q2 => ?_, fun q2 => ?_⟩, fun q => ?_⟩, fun q => absurd ?_ q⟩
          · rw [hs2, ← v2 q q2]; exact fin hc (GF_a go)
          · rw [hs2, ← v1 q q2]; exact fin hc (GF_a go)
          · rw [hs2, ← v0 q]; exact fin hc (GF_a go)
          · rw [rdM hM2 (by omega), le_N (by omega) (by omega)]; omega
        | succ n ih =>
          intro k u8 u9 u10 u11 w2 s hk go hs2 hok
          have hM2 := RM_go (RM_rfs hM1) go
          have hT := hW.2.2.2.2.2.2.1 k (by omega)
          have hx := pX_le (r := r) (g := g) (o := o) (one := k)
          have fl := full_le hW (t := k) (g := g) (by omega)
          have ex : leI (nI o) (leI (rd w2 43 (nI 22 + nI k)) (rd w2 43 (nI 86 + nI g))) = nI (pX r g o k) := by
            rw [full_M hM2 hW (by omega) hg, leI_N (by omega) (by omega)]; rfl
          have hst : fdA r g o (k + 1) (-2, -2, -2) = stA r g o k (fdA r g o k (-2, -2, -2)) := rfl
          have ih2 := ih (k + 1)
          rw [hst, ← hs2] at ih2
          clear hst ih hs2
          refine tX11_pair_56 ⟨fun q => absurd q ?_, fun _ => ⟨by rw [nI_add]; exact vp_in_nI (by omega) (by decide), by rw [nI_add]; exact vp_in_nI (by omega) (by decide), ?_⟩⟩
          · rw [rdM hM2 (by omega), le_N (by omega) (by omega)]; omega
          rw [ex]
          refine g_isAloneAllowed hM2 hW hV.1 (by omega) (by omega) (by omega) (fun w3 v3 ho3 hv => ?_)
          rw [allow_iff hW hV.1 hg (TD_day hV.1 _ g)] at hv
          have go3 := go.tr (GO_47 ho3)
          have hM3 := RM_go (RM_rfs hM1) go3
          refine tX11_pair_89 ⟨fun q => ?_, fun q => ?_⟩
          · by_cases p : pX r g o k < r (86 + g)
            · refine g_pairO hM3 hW hV hg (by omega) p (fun w4 u9 u10 u11 s1 ho4 hs1 => ?_) hok
              rw [nI_add k 1]
              refine ih2 _ _ _ _ w4 s1 (by omega) (go3.tr (GO_47 ho4)) ?_ ?_
              · rw [hs1]
                unfold stA
                rw [dec_t ⟨p, hv.t q⟩]
                rfl
              · rw [hs1]; exact okP_O hW (by omega) (by omega) hok _ h0
            · refine g_pairZ hM3 hW hg (by omega) (by omega) (fun u9 u10 u11 => ?_) (r 0) 0 _ _ (by omega)
              rw [nI_add k 1]
              refine ih2 _ _ _ _ w3 s (by omega) go3 ?_ hok
              unfold stA
              rw [dec_f (fun y => p y.1)]
              rfl
          · rw [nI_add k 1]
            refine ih2 _ _ _ _ w3 s (by omega) go3 ?_ hok
            unfold stA
            rw [dec_f (fun y => hv.f q y.2)]
            rfl
      exact L (r 0) 0 _ _ _ _ _ (-2, -2, -2) (by omega) GO.rf rfl (Or.inl rfl)
    refine tX10_pair_48 ⟨fun q => ⟨fun q2 => ?_, fun q2 => ?_⟩, fun q => ?_⟩
    · rw [hs.2.2]; exact Y _ (fun p => absurd p q) (fun _ p => absurd p q2) (fun _ _ => rfl)
    · rw [hs.2.1]; exact Y _ (fun p => absurd p q) (fun _ _ => rfl) (fun _ p => absurd q2 p)
    · rw [hs.1]; exact Y _ (fun _ => rfl) (fun p => absurd q p) (fun p => absurd q p)
  · rw [hC.2.1] at z
    exact m_pair (RM_cf hM CF_r) hW (txr CF_r h6) z z2 z3 (fin CF_r GF_r)
  · exact N (fun q => z2 q.2)
end PAIR2
