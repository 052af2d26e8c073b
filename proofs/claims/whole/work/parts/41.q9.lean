/-! questions: both sides answer alike (9): breach, breaches -/
/-- an outing (place 3 g + k) that isn't allowed -/
def brP (r : Nat → Nat) (p : Nat) : Prop := p % 3 < r (106 + p / 3) ∧ ¬ allowT r (load r (who r (p / 3) (p % 3))) (who r (p / 3) (p % 3)) (p / 3) (thr r (p / 3) (p % 3))
noncomputable def brN (r : Nat → Nat) (n : Nat) : Nat := sumN (fun p => bif dec (brP r p) then 1 else 0) n
theorem bc_t {r : Nat → Nat} {n : Nat} (h : brP r n) : brN r (n + 1) = brN r n + 1 := by
  show brN r n + (bif dec (brP r n) then 1 else 0) = _
  rw [dec_t h]; rfl
theorem bc_f {r : Nat → Nat} {n : Nat} (h : ¬ brP r n) : brN r (n + 1) = brN r n := by
  show brN r n + (bif dec (brP r n) then 1 else 0) = _
  rw [dec_f h]; rfl
theorem br_le (r : Nat → Nat) : ∀ n, brN r n ≤ n
  | 0 => Nat.le_refl _
  | n + 1 => by
    have := br_le r n
    by_cases q : brP r n
    · rw [bc_t q]; omega
    · rw [bc_f q]; omega
theorem br_mono (r : Nat → Nat) {m : Nat} : ∀ n, m ≤ n → brN r m ≤ brN r n
  | 0, h => by rw [show m = 0 by omega]; exact Nat.le_refl _
  | n + 1, h => by
    by_cases e : m = n + 1
    · rw [e]; exact Nat.le_refl _
    · have := br_mono r (m := m) n (by omega)
      by_cases q : brP r n
      · rw [bc_t q]; omega
      · rw [bc_f q]; exact this
theorem br_ex (r : Nat → Nat) {i : Nat} : ∀ n, i < brN r n → ∃ p, p < n ∧ brP r p ∧ brN r p = i
  | 0, h => absurd h (by show ¬ i < 0; omega)
  | n + 1, h => by
    by_cases e : i < brN r n
    · obtain ⟨p, a, b⟩ := br_ex r n e
      exact ⟨p, by omega, b⟩
    · by_cases q : brP r n
      · rw [bc_t q] at h
        exact ⟨n, by omega, q, by omega⟩
      · rw [bc_f q] at h; omega
/-- no outing at the places behind those that are filled -/
theorem br_skip {r : Nat → Nat} {g k : Nat} (hk : k ≤ 3) (hf : r (106 + g) ≤ k) : brN r (3 * (g + 1)) = brN r (3 * g + k) := by
  have no : ∀ j, k ≤ j → j < 3 → ¬ brP r (3 * g + j) := fun j a b p => by
    have := p.1
    rw [show (3 * g + j) / 3 = g by omega, show (3 * g + j) % 3 = j by omega] at this
    omega
  have key : ∀ m j, j + m = 3 → k ≤ j → brN r (3 * (g + 1)) = brN r (3 * g + j) := by
    intro m
    induction m with
    | zero => intro j hj _; rw [show 3 * g + j = 3 * (g + 1) by omega]
    | succ m ih =>
      intro j hj hkj
      rw [ih (j + 1) (by omega) (by omega), show 3 * g + (j + 1) = 3 * g + j + 1 by omega, bc_f (no j hkj (by omega))]
  exact key (3 - k) k (by omega) (Nat.le_refl _)
section Q9
variable {w : Wd} {r : Nat → Nat}
/-- the reference: the breach with the number i -/
theorem g_breachAt (hM : RM w r) (hW : WFr r) (hV : VP r) {K : Kt} {i : Nat} (hi : i < 2147483648) (h : ∀ w1 v, Off (· = 47) w w1 → ((∃ p, p < 3 * r 1 ∧ brP r p ∧ brN r p = i ∧ v = nI p) ∨ (brN r (3 * r 1) ≤ i ∧ v = -2)) → K (some (.int v)) w1) : fX11_breachAt [.ref 41, .int (nI i)] w K := by
  have h0 := hW.2.1
  have h1 := hW.2.2.1
  refine tX11_breachAt_0 ?_
  have L : ∀ (n g : Nat) (u : Value) (w1 : Wd), g + n = r 1 → Off (· = 47) w w1 → brN r (3 * g) ≤ i → RR (tl K lX11_breachAt) 4 [.ref 41, .int (nI i), .int (nI (i - brN r (3 * g))), .int (nI g), u] [] w1 := by
    intro n
    induction n with
    | zero =>
      intro g u w1 hg ho hb
      have hM1 := hM.off ho (by decide)
      refine tX11_breachAt_4 ⟨fun _ => h w1 _ ho (Or.inr ⟨by rw [← show g = r 1 by omega]; exact hb, rfl⟩), fun q => absurd ?_ q⟩
      rw [rdM hM1 (by omega), le_N (by omega) (by omega)]; omega
    | succ n ih =>
      intro g u w1 hg ho hb
      have hM1 := hM.off ho (by decide)
      have hG := hW.2.2.2.2.2.2.2.1 g (by omega)
      refine tX11_breachAt_4 ⟨fun q => absurd q ?_, fun _ => ?_⟩
      · rw [rdM hM1 (by omega), le_N (by omega) (by omega)]; omega
      have L2 : ∀ (m k : Nat) (w2 : Wd), k + m = r (106 + g) → Off (· = 47) w w2 → brN r (3 * g + k) ≤ i → RR (tl K lX11_breachAt) 17 [.ref 41, .int (nI i), .int (nI (i - brN r (3 * g + k))), .int (nI g), .int (nI k)] [] w2 := by
        intro m
        induction m with
        | zero =>
          intro k w2 hk ho2 hb2
          have hM2 := hM.off ho2 (by decide)
          have sk := br_skip (r := r) (g := g) (k := k) (by omega) (by omega)
          refine tX11_breachAt_17 ⟨by rw [nI_add]; exact vp_in_nI (by omega) (by decide), fun _ => ?_, fun q => absurd ?_ q⟩
          · rw [nI_add g 1, ← sk]
            exact ih (g + 1) _ w2 (by omega) ho2 (by omega)
          · rw [nI_add, rdM hM2 (by omega), le_N (by omega) (by omega)]; omega
        | succ m ih2 =>
          intro k w2 hk ho2 hb2
          have hM2 := hM.off ho2 (by decide)
          refine tX11_breachAt_17 ⟨by rw [nI_add]; exact vp_in_nI (by omega) (by decide), fun q => absurd q ?_, fun _ => ?_⟩
          · rw [nI_add, rdM hM2 (by omega), le_N (by omega) (by omega)]; omega
          refine g_isAllowedAt hM2 hW hV.1 (by omega) (by omega) (fun w3 v ho3 hv => ?_)
          rw [allow_iff hW hV.1 (by omega) (TD_day hV.1 _ g)] at hv
          have bp : brP r (3 * g + k) ↔ ¬ allowT r (load r (who r g k)) (who r g k) g (thr r g k) := by
            unfold brP
            rw [show (3 * g + k) / 3 = g by omega, show (3 * g + k) % 3 = k by omega]
            exact ⟨fun p => p.2, fun p => ⟨by omega, p⟩⟩
          refine tX11_breachAt_38 ⟨fun q => ?_, fun q => ⟨fun q2 => ?_, fun q2 => ?_⟩⟩
          · have e := bc_f (r := r) (n := 3 * g + k) (fun p => bp.mp p (hv.t q))
            rw [nI_add k 1, ← e]
            exact ih2 (k + 1) w3 (by omega) (ho2.tr ho3) (by rw [← Nat.add_assoc]; omega)
          · have e := bc_t (r := r) (n := 3 * g + k) (bp.mpr (hv.f q))
            rw [eq0_N (by omega)] at q2
            rw [m1_N (by omega), nI_add k 1, show i - brN r (3 * g + k) - 1 = i - brN r (3 * g + (k + 1)) by rw [← Nat.add_assoc]; omega]
            exact ih2 (k + 1) w3 (by omega) (ho2.tr ho3) (by rw [← Nat.add_assoc]; omega)
          · rw [eq0_N (by omega)] at q2
            rw [pk_mul, nI_add]
            exact h w3 _ (ho2.tr ho3) (Or.inl ⟨3 * g + k, by omega, bp.mpr (hv.f q), by omega, rfl⟩)
      exact L2 (r (106 + g)) 0 w1 (by omega) ho hb
  exact L (r 1) 0 _ w (by omega) Off.rf (Nat.zero_le _)
theorem p_breach (hR : RA w r) {x1 : Int32} : QP w fX10_breach fX11_breach [.ref 0, .int x1] [.ref 41, .int x1] := by
  obtain ⟨hM, hC, hP, hW, hV, h6, h7, h8⟩ := hR
  have h1 := hW.2.2.1
  have N : ¬ (0 < r 1 ∧ (¬ x1 < 0)) → fX11_breach [.ref 41, .int x1] (upI (upI w 0 10 (nI 1)) 0 12 (-1)) (fun u w2 => QK w (some (.int (-1))) u w2) := fun hn => n_breach (RM_cf hM CF_r) hW (txr CF_r h6) hn (fin CF_r GF_r)
  unfold QP
  refine tX10_breach_0 ⟨fun z => ?_, fun z => ⟨fun z2 => ?_, fun z2 => ?_⟩⟩
  · rw [g0_N hC hW] at z; exact N (fun q => z q.1)
  · rw [g0_N hC hW] at z
    have z3 : ¬ x1 < 0 := Int32.not_lt.mpr z2
    obtain ⟨i, hi, rfl⟩ := nI_of z3
    have Y : ∀ (w1 : Wd) (v : Int32), Off S27 w w1 → ((∃ p, p < 3 * r 1 ∧ brP r p ∧ brN r p = i ∧ v = nI p) ∨ (brN r (3 * r 1) ≤ i ∧ v = -2)) → fX11_breach [.ref 41, .int (nI i)] (upI (upI w1 0 10 (nI 0)) 0 12 (-1)) (fun u w2 => QK w (some (.int v)) u w2) := by
      intro w1 v ho hv
      have hc : CF w (upI (upI w1 0 10 (nI 0)) 0 12 (-1)) (nI 0) := CF_a (off27 ho)
      refine y_breach (RM_cf hM hc) hW (txr hc h6) z z3 (g_breachAt (RM_rfs (RM_cf hM hc)) hW hV hi (fun w2 u ho2 hu => tX11_breach_35 ?_))
      have e : u = v := by
        rcases hv with ⟨p, a1, a2, a3, a4⟩ | ⟨a1, a2⟩
        · rcases hu with ⟨q, b1, b2, b3, b4⟩ | ⟨b1, b2⟩
          · have : p = q := by
              rcases Nat.lt_trichotomy p q with c | c | c
              · have := br_mono r (m := p + 1) q (by omega)
                rw [bc_t a2] at this; omega
              · exact c
              · have := br_mono r (m := q + 1) p (by omega)
                rw [bc_t b2] at this; omega
            rw [a4, b4, this]
          · have := br_mono r (m := p + 1) (3 * r 1) (by omega)
            rw [bc_t a2] at this; omega
        · rcases hu with ⟨q, b1, b2, b3, b4⟩ | ⟨b1, b2⟩
          · have := br_mono r (m := q + 1) (3 * r 1) (by omega)
            rw [bc_t b2] at this; omega
          · rw [a2, b2]
      rw [e]
      exact fin hc (GF_a (GO_47 ho2))
    have L : ∀ (n g : Nat) (u : Value) (w1 : Wd), g + n = r 1 → Off S27 w w1 → brN r (3 * g) ≤ i → RR (tl (fun v w1 => fX11_breach [.ref 41, .int (nI i)] w1 (fun u w2 => QK w v u w2)) lX10_breach) 21 [.ref 0, .int (nI i), .int (nI (brN r (3 * g))), .int (nI g), u] [] w1 := by
      intro n
      induction n with
      | zero =>
        intro g u w1 hg ho hb
        have hC1 := hC.off ho s27_ct
        refine tX10_breach_21 ⟨fun _ => Y w1 _ ho (Or.inr ⟨by rw [← show g = r 1 by omega]; exact hb, rfl⟩), fun q => absurd ?_ q⟩
        rw [hC1.2.1, le_N (by omega) (by omega)]; omega
      | succ n ih =>
        intro g u w1 hg ho hb
        have hC1 := hC.off ho s27_ct
        have hG := hW.2.2.2.2.2.2.2.1 g (by omega)
        refine tX10_breach_21 ⟨fun q => absurd q ?_, fun _ => ?_⟩
        · rw [hC1.2.1, le_N (by omega) (by omega)]; omega
        have L2 : ∀ (m k : Nat) (w2 : Wd), k + m = r (106 + g) → Off S27 w w2 → brN r (3 * g + k) ≤ i → RR (tl (fun v w1 => fX11_breach [.ref 41, .int (nI i)] w1 (fun u w2 => QK w v u w2)) lX10_breach) 35 [.ref 0, .int (nI i), .int (nI (brN r (3 * g + k))), .int (nI g), .int (nI k)] [] w2 := by
          intro m
          induction m with
          | zero =>
            intro k w2 hk ho2 hb2
            have hP2 := hP.off ho2 s27_cp
            have sk := br_skip (r := r) (g := g) (k := k) (by omega) (by omega)
            refine tX10_breach_35 ⟨vp_in_nI (by omega) (by decide), fun _ => ?_, fun q => absurd ?_ q⟩
            · rw [nI_add g 1, ← sk]
              exact ih (g + 1) _ w2 (by omega) ho2 (by omega)
            · rw [rd_N (by omega), hP2.1 g (by omega), le_N (by omega) (by omega)]; omega
          | succ m ih2 =>
            intro k w2 hk ho2 hb2
            have hC2 := hC.off ho2 s27_ct
            have hP2 := hP.off ho2 s27_cp
            have bl := br_le r (3 * g + k)
            refine tX10_breach_35 ⟨vp_in_nI (by omega) (by decide), fun q => absurd q ?_, fun _ => ?_⟩
            · rw [rd_N (by omega), hP2.1 g (by omega), le_N (by omega) (by omega)]; omega
            refine c_allowsAt hC2 hP2 hW hV (by omega) (by omega) (fun w3 v ho3 hv => ?_)
            have bp : brP r (3 * g + k) ↔ ¬ allowT r (load r (who r g k)) (who r g k) g (thr r g k) := by
              unfold brP
              rw [show (3 * g + k) / 3 = g by omega, show (3 * g + k) % 3 = k by omega]
              exact ⟨fun p => p.2, fun p => ⟨by omega, p⟩⟩
            refine tX10_breach_59 ⟨fun q => ⟨fun q2 => ?_, fun q2 => ?_⟩, fun q => ?_⟩
            · have e := bc_t (r := r) (n := 3 * g + k) (bp.mpr (hv.f q))
              rw [eq_N (by omega) hi] at q2
              rw [nI_add k 1, nI_add, ← e]
              exact ih2 (k + 1) w3 (by omega) (ho2.tr ho3) (by rw [← Nat.add_assoc]; omega)
            · rw [eq_N (by omega) hi] at q2
              rw [pk_mul, nI_add]
              exact Y w3 _ (ho2.tr ho3) (Or.inl ⟨3 * g + k, by omega, bp.mpr (hv.f q), q2, rfl⟩)
            · have e := bc_f (r := r) (n := 3 * g + k) (fun p => bp.mp p (hv.t q))
              rw [nI_add k 1, ← e]
              exact ih2 (k + 1) w3 (by omega) (ho2.tr ho3) (by rw [← Nat.add_assoc]; omega)
        exact L2 (r (106 + g)) 0 w1 (by omega) ho hb
    exact L (r 1) 0 _ w (by omega) Off.rf (Nat.zero_le _)
  · exact N (fun q => z2 (Int32.not_lt.mp q.2))
theorem p_breaches (hR : RA w r) : QP w fX10_breaches fX11_breaches [.ref 0] [.ref 41] := by
  obtain ⟨hM, hC, hP, hW, hV, h6, h7, h8⟩ := hR
  have h1 := hW.2.2.1
  unfold QP
  refine tX10_breaches_0 ⟨fun z => ?_, fun z => ?_⟩
  · rw [g0_N hC hW] at z
    have tl0 := br_le r (3 * r 1)
    have Y : ∀ (w1 : Wd), Off S27 w w1 → fX11_breaches [.ref 41] (upI (upI w1 0 10 (nI 0)) 0 12 (-1)) (fun u w2 => QK w (some (.int (nI (brN r (3 * r 1))))) u w2) := by
      intro w1 ho
      have hc : CF w (upI (upI w1 0 10 (nI 0)) 0 12 (-1)) (nI 0) := CF_a (off27 ho)
      have hM1 := RM_cf hM hc
      have h6' := txr hc h6
      refine tX11_breaches_0 ⟨fun _ => ?_, fun q => absurd ?_ q⟩
      · rw [h6', bI_t z, un_1]
        have L : ∀ (n i : Nat) (w2 : Wd), i + n = brN r (3 * r 1) → GO (rfs (upI (upI w1 0 10 (nI 0)) 0 12 (-1)) (nI 0)) w2 → RR (tl (fun u w2 => QK w (some (.int (nI (brN r (3 * r 1))))) u w2) lX11_breaches) 18 [.ref 41, .int (nI i)] [] w2 := by
          intro n
          induction n with
          | zero =>
            intro i w2 hi go
            refine tX11_breaches_18 (g_breachAt (RM_go (RM_rfs hM1) go) hW hV (by omega) (fun w3 v ho3 hv => tX11_breaches_23 ⟨fun q => ?_, fun q => absurd ?_ q⟩))
            · rw [show i = brN r (3 * r 1) by omega]; exact fin hc (GF_a (go.tr (GO_47 ho3)))
            · rcases hv with ⟨p, a1, a2, a3, a4⟩ | ⟨a1, a2⟩
              · have := br_mono r (m := p + 1) (3 * r 1) (by omega)
                rw [bc_t a2] at this; omega
              · exact a2
          | succ n ih =>
            intro i w2 hi go
            refine tX11_breaches_18 (g_breachAt (RM_go (RM_rfs hM1) go) hW hV (by omega) (fun w3 v ho3 hv => tX11_breaches_23 ⟨fun q => ?_, fun q => ?_⟩))
            · rcases hv with ⟨p, a1, a2, a3, a4⟩ | ⟨a1, a2⟩
              · rw [a4] at q
                have := congrArg Int32.toInt q
                rw [nI_toInt (by omega)] at this
                have e2 : (-2 : Int32).toInt = -2 := by decide
                omega
              · omega
            · rw [nI_add i 1]
              exact ih (i + 1) w3 (by omega) (go.tr (GO_47 ho3))
        exact L (brN r (3 * r 1)) 0 _ (by omega) GO.rf
      · rw [h6', bI_t z, un_1]; rfl
    have L : ∀ (n g : Nat) (u : Value) (w1 : Wd), g + n = r 1 → Off S27 w w1 → RR (tl (fun v w1 => fX11_breaches [.ref 41] w1 (fun u w2 => QK w v u w2)) lX10_breaches) 17 [.ref 0, .int (nI (brN r (3 * g))), .int (nI g), u] [] w1 := by
      intro n
      induction n with
      | zero =>
        intro g u w1 hg ho
        have hC1 := hC.off ho s27_ct
        refine tX10_breaches_17 ⟨fun _ => ?_, fun q => absurd ?_ q⟩
        · rw [show g = r 1 by omega]; exact Y w1 ho
        · rw [hC1.2.1, le_N (by omega) (by omega)]; omega
      | succ n ih =>
        intro g u w1 hg ho
        have hC1 := hC.off ho s27_ct
        have hG := hW.2.2.2.2.2.2.2.1 g (by omega)
        refine tX10_breaches_17 ⟨fun q => absurd q ?_, fun _ => ?_⟩
        · rw [hC1.2.1, le_N (by omega) (by omega)]; omega
        have L2 : ∀ (m k : Nat) (w2 : Wd), k + m = r (106 + g) → Off S27 w w2 → RR (tl (fun v w1 => fX11_breaches [.ref 41] w1 (fun u w2 => QK w v u w2)) lX10_breaches) 30 [.ref 0, .int (nI (brN r (3 * g + k))), .int (nI g), .int (nI k)] [] w2 := by
          intro m
          induction m with
          | zero =>
            intro k w2 hk ho2
            have hP2 := hP.off ho2 s27_cp
            have sk := br_skip (r := r) (g := g) (k := k) (by omega) (by omega)
            refine tX10_breaches_30 ⟨vp_in_nI (by omega) (by decide), fun _ => ?_, fun q => absurd ?_ q⟩
            · rw [nI_add g 1, ← sk]
              exact ih (g + 1) _ w2 (by omega) ho2
            · rw [rd_N (by omega), hP2.1 g (by omega), le_N (by omega) (by omega)]; omega
          | succ m ih2 =>
            intro k w2 hk ho2
            have hC2 := hC.off ho2 s27_ct
            have hP2 := hP.off ho2 s27_cp
            refine tX10_breaches_30 ⟨vp_in_nI (by omega) (by decide), fun q => absurd q ?_, fun _ => ?_⟩
            · rw [rd_N (by omega), hP2.1 g (by omega), le_N (by omega) (by omega)]; omega
            refine c_allowsAt hC2 hP2 hW hV (by omega) (by omega) (fun w3 v ho3 hv => ?_)
            have bp : brP r (3 * g + k) ↔ ¬ allowT r (load r (who r g k)) (who r g k) g (thr r g k) := by
              unfold brP
              rw [show (3 * g + k) / 3 = g by omega, show (3 * g + k) % 3 = k by omega]
              exact ⟨fun p => p.2, fun p => ⟨by omega, p⟩⟩
            refine tX10_breaches_53 ⟨fun q => ?_, fun q => ?_⟩
            · have e := bc_t (r := r) (n := 3 * g + k) (bp.mpr (hv.f q))
              rw [nI_add k 1, nI_add, ← e]
              exact ih2 (k + 1) w3 (by omega) (ho2.tr ho3)
            · have e := bc_f (r := r) (n := 3 * g + k) (fun p => bp.mp p (hv.t q))
              rw [nI_add k 1, add_z, ← e]
              exact ih2 (k + 1) w3 (by omega) (ho2.tr ho3)
        exact L2 (r (106 + g)) 0 w1 (by omega) ho
    exact L (r 1) 0 _ w (by omega) Off.rf
  · rw [g0_N hC hW] at z
    have h6' := txr (w1 := upI (upI w 0 10 (nI 1)) 0 12 (-1)) CF_r h6
    refine tX11_breaches_0 ⟨fun q => absurd q ?_, fun _ => ?_⟩
    · rw [h6', bI_f z, un_0]; decide
    · rw [h6', bI_f z, un_0]
      exact fin CF_r GF_r
end Q9
