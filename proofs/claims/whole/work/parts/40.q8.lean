/-! questions: both sides answer alike (8): ranked, breach, breaches -/
section Q8
variable {w : Wd} {r : Nat → Nat}
theorem full_le {r : Nat → Nat} (hW : WFr r) {t g : Nat} (hg : g < 20) : fullN r t g ≤ 200 := by
  have := hW.2.2.2.2.2.2.2.1 g hg
  unfold fullN
  omega
theorem full_C (hC : CT w r) (hW : WFr r) {t g : Nat} (ht : t < r 0) (hg : g < r 1) : (if rd w 17 (nI g * nI 3 + nI 2) < rd w 16 (nI t * nI 4 + nI 1) then rd w 17 (nI g * nI 3 + nI 2) else rd w 16 (nI t * nI 4 + nI 1)) = nI (fullN r t g) := by
  have h0 := hW.2.1
  have h1 := hW.2.2.1
  have hT := hW.2.2.2.2.2.2.1 t (by omega)
  have hG := hW.2.2.2.2.2.2.2.1 g (by omega)
  rw [pk_mul, nI_add, rd_N (by omega), (hC.2.2.2.2.1 g hg).2.2, pk_mul, nI_add, rd_N (by omega), (hC.2.2.2.1 t ht).2.2.1, min_I (by omega) (by omega)]
  rfl
theorem full_M (hM : RM w r) (hW : WFr r) {t g : Nat} (ht : t < r 0) (hg : g < r 1) : leI (rd w 43 (nI 22 + nI t)) (rd w 43 (nI 86 + nI g)) = nI (fullN r t g) := by
  have h0 := hW.2.1
  have h1 := hW.2.2.1
  have hT := hW.2.2.2.2.2.2.1 t (by omega)
  have hG := hW.2.2.2.2.2.2.2.1 g (by omega)
  rw [nI_add, nI_add, rdM hM (by omega), rdM hM (by omega), leI_N (by omega) (by omega)]
  rfl
theorem fullV_le {r : Nat → Nat} (hW : WFr r) {t g : Nat} (ht : t < 8) (hg : g < 20) : fullV r g t ≤ 36000 := worth_le hW ht hg (full_le hW hg)
theorem c_countAhead {K : Kt} (hC : CT w r) (hW : WFr r) {t g : Nat} (ht : t < r 0) (hg : g < r 1) (h : K (some (.int (nI (aheadN (fullV r g) t (r 0))))) w) : fX10_countAhead [.ref 0, .int (nI t), .int (nI g)] w K := by
  have h0 := hW.2.1
  have h1 := hW.2.2.1
  have fb := fun o (ho : o < r 0) => fullV_le hW (t := o) (g := g) (by omega) (by omega)
  have fl := fun o => full_le hW (t := o) (g := g) (by omega)
  refine tX10_countAhead_0 ⟨by rw [pk_mul, nI_add]; exact vp_in_nI (by omega) (by decide), by rw [pk_mul, nI_add]; exact vp_in_nI (by omega) (by decide), ?_⟩
  rw [full_C hC hW ht hg]
  refine c_valueOf hC hW ht hg (fl t) (tX10_countAhead_18 ?_)
  have L : ∀ (n o : Nat) (a : Int32) (u : Value), o + n = r 0 → a = nI (aheadN (fullV r g) t o) → RR (tl K lX10_countAhead) 25 [.ref 0, .int (nI t), .int (nI g), .int (nI (fullV r g t)), .int a, .int (nI o), u] [] w := by
    intro n
    induction n with
    | zero =>
      intro o a u ho ha
      refine tX10_countAhead_25 ⟨fun _ => ?_, fun q => absurd ?_ q⟩
      · rw [ha, show o = r 0 by omega]; exact h
      · rw [hC.1, le_N (by omega) (by omega)]; omega
    | succ n ih =>
      intro o a u ho ha
      have b1 := fb t ht
      have b2 := fb o (by omega)
      refine tX10_countAhead_25 ⟨fun q => absurd q ?_, fun _ => ⟨by rw [pk_mul, nI_add]; exact vp_in_nI (by omega) (by decide), by rw [pk_mul, nI_add]; exact vp_in_nI (by omega) (by decide), ?_⟩⟩
      · rw [hC.1, le_N (by omega) (by omega)]; omega
      rw [full_C hC hW (by omega) hg]
      refine c_valueOf hC hW (by omega) hg (fl o) ?_
      have yes : aheadP (fullV r g) t o → ∀ u, RR (tl K lX10_countAhead) 25 [.ref 0, .int (nI t), .int (nI g), .int (nI (fullV r g t)), .int (a + nI 1), .int (nI o + nI 1), u] [] w := fun p u => by
        rw [nI_add o 1]
        exact ih (o + 1) _ u (by omega) (by rw [ahead_s, dec_t p, ha, nI_add]; rfl)
      have no : ¬ aheadP (fullV r g) t o → ∀ u, RR (tl K lX10_countAhead) 25 [.ref 0, .int (nI t), .int (nI g), .int (nI (fullV r g t)), .int a, .int (nI o + nI 1), u] [] w := fun p u => by
        rw [nI_add o 1]
        exact ih (o + 1) _ u (by omega) (by rw [ahead_s, dec_f p, ha]; rfl)
      have ev : worthN r o g (fullN r o g) = fullV r g o := rfl
      rw [ev]
      refine tX10_countAhead_57 ⟨fun q => ?_, fun q => ⟨fun q1 => ?_, fun q1 => ⟨fun q2 => ?_, fun q2 => ?_⟩⟩⟩
      · rw [lt_N (by omega) (by omega)] at q
        exact yes (Or.inl q) _
      · rw [lt_N (by omega) (by omega)] at q
        rw [eq_N (by omega) (by omega)] at q1
        exact no (fun p => by unfold aheadP at p; omega) _
      · rw [lt_N (by omega) (by omega)] at q
        rw [eq_N (by omega) (by omega)] at q1
        rw [le_N (by omega) (by omega)] at q2
        exact no (fun p => by unfold aheadP at p; omega) _
      · rw [lt_N (by omega) (by omega)] at q
        rw [eq_N (by omega) (by omega)] at q1
        rw [le_N (by omega) (by omega)] at q2
        exact yes (Or.inr ⟨q1, by omega⟩) _
  exact L (r 0) 0 _ _ (by omega) rfl
theorem p_ranked (hR : RA w r) {x1 x2 : Int32} : QP w fX10_ranked fX11_ranked [.ref 0, .int x1, .int x2] [.ref 41, .int x1, .int x2] := by
  obtain ⟨hM, hC, hP, hW, hV, h6, h7, h8⟩ := hR
  have h0 := hW.2.1
  have h1 := hW.2.2.1
  have N : ¬ ((nI 0 ≤ x1 ∧ x1 ≤ nI (r 1) - nI 1) ∧ (nI 0 ≤ x2 ∧ x2 ≤ nI (r 0) - nI 1)) → fX11_ranked [.ref 41, .int x1, .int x2] (upI (upI w 0 10 (nI 1)) 0 12 (-1)) (fun u w2 => QK w (some (.int (-1))) u w2) := fun hn => n_ranked (RM_cf hM CF_r) hW (txr CF_r h6) hn (fin CF_r GF_r)
  unfold QP
  refine tX10_ranked_0 ⟨fun z => ?_, fun z => ⟨fun z2 => ?_, fun z2 => ?_⟩⟩
  · rw [hC.2.1] at z; exact N (fun q => z q.1)
  · rw [hC.2.1] at z; rw [hC.1] at z2
    obtain ⟨g, hg, rfl⟩ := (rng (by omega)).mp z
    obtain ⟨i, hi, rfl⟩ := (rng (by omega)).mp z2
    obtain ⟨t0, ht0, hr0⟩ := ranked_ex (V := fullV r g) hi
    have al : ∀ t o, o ≤ r 0 → aheadN (fullV r g) t o ≤ 8 := fun t o ho => by
      have := (cnt_lt (p := fun k => dec (aheadP (fullV r g) t k)) (q := fun _ => true) o (fun _ _ _ => rfl)).1
      have e : ∀ m, sumN (fun _ => bif true then 1 else 0) m = m := by
        intro m
        induction m with
        | zero => rfl
        | succ m ih => show sumN _ m + 1 = m + 1; rw [ih]
      rw [e o] at this
      have e2 : aheadN (fullV r g) t o = sumN (fun k => bif dec (aheadP (fullV r g) t k) then 1 else 0) o := rfl
      omega
    have fb := fun o (ho : o < r 0) => fullV_le hW (t := o) (g := g) (by omega) (by omega)
    have fl := fun o => full_le hW (t := o) (g := g) (by omega)
    have Y : ∀ t, t < r 0 → aheadN (fullV r g) t (r 0) = i → (∀ j, j < t → aheadN (fullV r g) j (r 0) ≠ i) → fX11_ranked [.ref 41, .int (nI g), .int (nI i)] (upI (upI w 0 10 (nI 0)) 0 12 (-1)) (fun u w2 => QK w (some (.int (nI t))) u w2) := by
      intro t ht het hmin
      have hM2 : RM (rfs (upI (upI w 0 10 (nI 0)) 0 12 (-1)) (nI 0)) r := RM_rfs (RM_cf hM CF_r)
      have L : ∀ (n s : Nat) (u4 u5 u6 u7 : Value), s + n = t → RR (tl (fun u w2 => QK w (some (.int (nI t))) u w2) lX11_ranked) 43 [.ref 41, .int (nI g), .int (nI i), .int (nI s), u4, u5, u6, u7] [] (rfs (upI (upI w 0 10 (nI 0)) 0 12 (-1)) (nI 0)) := by
        intro n
        induction n with
        | zero =>
          intro s u4 u5 u6 u7 hs
          have hst : s = t := by omega
          subst hst
          refine tX11_ranked_43 ⟨fun q => absurd q ?_, fun _ => ⟨by rw [nI_add]; exact vp_in_nI (by omega) (by decide), by rw [nI_add]; exact vp_in_nI (by omega) (by decide), ?_⟩⟩
          · rw [rdM hM2 (by omega), le_N (by omega) (by omega)]; omega
          rw [full_M hM2 hW ht hg]
          refine g_worthOf hM2 hW (by omega) (by omega) (fl s) (tX11_ranked_68 ?_)
          have L2 : ∀ (m o : Nat) (a : Int32) (u : Value), o + m = r 0 → a = nI (aheadN (fullV r g) s o) → RR (tl (fun u w2 => QK w (some (.int (nI s))) u w2) lX11_ranked) 73 [.ref 41, .int (nI g), .int (nI i), .int (nI s), .int a, .int (nI (fullV r g s)), .int (nI o), u] [] (rfs (upI (upI w 0 10 (nI 0)) 0 12 (-1)) (nI 0)) := by
            intro m
            induction m with
            | zero =>
              intro o a u ho ha
              have b := al s o (by omega)
              refine tX11_ranked_73 ⟨fun _ => ⟨fun q => absurd ?_ q, fun _ => fin CF_r GF_r⟩, fun q => absurd ?_ q⟩
              · rw [ha, show o = r 0 by omega, het]
              · rw [rdM hM2 (by omega), le_N (by omega) (by omega)]; omega
            | succ m ih =>
              intro o a u ho ha
              have b1 := fb s ht
              have b2 := fb o (by omega)
              refine tX11_ranked_73 ⟨fun q => absurd q ?_, fun _ => ⟨by rw [nI_add]; exact vp_in_nI (by omega) (by decide), by rw [nI_add]; exact vp_in_nI (by omega) (by decide), ?_⟩⟩
              · rw [rdM hM2 (by omega), le_N (by omega) (by omega)]; omega
              rw [full_M hM2 hW (by omega) hg]
              refine g_worthOf hM2 hW (by omega) (by omega) (fl o) ?_
              have ev : worthN r o g (fullN r o g) = fullV r g o := rfl
              rw [ev]
              refine tX11_ranked_98 ⟨fun q => ?_, fun q => ⟨fun q1 => ?_, fun q1 => ⟨fun q2 => ?_, fun q2 => ?_⟩⟩⟩
              · rw [lt_N (by omega) (by omega)] at q
                rw [nI_add o 1]
                exact ih (o + 1) _ _ (by omega) (by rw [ahead_s, dec_t (show aheadP (fullV r g) s o from Or.inl q), ha, nI_add]; rfl)
              · rw [lt_N (by omega) (by omega)] at q
                rw [eq_N (by omega) (by omega)] at q1
                rw [nI_add o 1]
                exact ih (o + 1) _ _ (by omega) (by rw [ahead_s, dec_f (fun p => by unfold aheadP at p; omega), ha, nI_add]; rfl)
              · rw [lt_N (by omega) (by omega)] at q
                rw [eq_N (by omega) (by omega)] at q1
                rw [le_N (by omega) (by omega)] at q2
                rw [nI_add o 1]
                exact ih (o + 1) _ _ (by omega) (by rw [ahead_s, dec_f (fun p => by unfold aheadP at p; omega), ha, nI_add]; rfl)
              · rw [lt_N (by omega) (by omega)] at q
                rw [eq_N (by omega) (by omega)] at q1
                rw [le_N (by omega) (by omega)] at q2
                rw [nI_add o 1]
                exact ih (o + 1) _ _ (by omega) (by rw [ahead_s, dec_t (show aheadP (fullV r g) s o from Or.inr ⟨q1, by omega⟩), ha, nI_add]; rfl)
          exact L2 (r 0) 0 _ _ (by omega) rfl
        | succ n ihn =>
          intro s u4 u5 u6 u7 hs
          refine tX11_ranked_43 ⟨fun q => absurd q ?_, fun _ => ⟨by rw [nI_add]; exact vp_in_nI (by omega) (by decide), by rw [nI_add]; exact vp_in_nI (by omega) (by decide), ?_⟩⟩
          · rw [rdM hM2 (by omega), le_N (by omega) (by omega)]; omega
          rw [full_M hM2 hW (by omega) hg]
          refine g_worthOf hM2 hW (by omega) (by omega) (fl s) (tX11_ranked_68 ?_)
          have L2 : ∀ (m o : Nat) (a : Int32) (u : Value), o + m = r 0 → a = nI (aheadN (fullV r g) s o) → RR (tl (fun u w2 => QK w (some (.int (nI t))) u w2) lX11_ranked) 73 [.ref 41, .int (nI g), .int (nI i), .int (nI s), .int a, .int (nI (fullV r g s)), .int (nI o), u] [] (rfs (upI (upI w 0 10 (nI 0)) 0 12 (-1)) (nI 0)) := by
            intro m
            induction m with
            | zero =>
              intro o a u ho ha
              have b := al s o (by omega)
              refine tX11_ranked_73 ⟨fun _ => ⟨fun q => ?_, fun q => absurd q ?_⟩, fun q => absurd ?_ q⟩
              · rw [nI_add s 1]; exact ihn (s + 1) _ _ _ _ (by omega)
              · rw [ha, show o = r 0 by omega, eq_N (by have := al s (r 0) (by omega); omega) (by omega)]
                exact hmin s (by omega)
              · rw [rdM hM2 (by omega), le_N (by omega) (by omega)]; omega
            | succ m ih =>
              intro o a u ho ha
              have b1 := fb s (by omega)
              have b2 := fb o (by omega)
              refine tX11_ranked_73 ⟨fun q => absurd q ?_, fun _ => ⟨by rw [nI_add]; exact vp_in_nI (by omega) (by decide), by rw [nI_add]; exact vp_in_nI (by omega) (by decide), ?_⟩⟩
              · rw [rdM hM2 (by omega), le_N (by omega) (by omega)]; omega
              rw [full_M hM2 hW (by omega) hg]
              refine g_worthOf hM2 hW (by omega) (by omega) (fl o) ?_
              have ev : worthN r o g (fullN r o g) = fullV r g o := rfl
              rw [ev]
              refine tX11_ranked_98 ⟨fun q => ?_, fun q => ⟨fun q1 => ?_, fun q1 => ⟨fun q2 => ?_, fun q2 => ?_⟩⟩⟩
              · rw [lt_N (by omega) (by omega)] at q
                rw [nI_add o 1]
                exact ih (o + 1) _ _ (by omega) (by rw [ahead_s, dec_t (show aheadP (fullV r g) s o from Or.inl q), ha, nI_add]; rfl)
              · rw [lt_N (by omega) (by omega)] at q
                rw [eq_N (by omega) (by omega)] at q1
                rw [nI_add o 1]
                exact ih (o + 1) _ _ (by omega) (by rw [ahead_s, dec_f (fun p => by unfold aheadP at p; omega), ha, nI_add]; rfl)
              · rw [lt_N (by omega) (by omega)] at q
                rw [eq_N (by omega) (by omega)] at q1
                rw [le_N (by omega) (by omega)] at q2
                rw [nI_add o 1]
                exact ih (o + 1) _ _ (by omega) (by rw [ahead_s, dec_f (fun p => by unfold aheadP at p; omega), ha, nI_add]; rfl)
              · rw [lt_N (by omega) (by omega)] at q
                rw [eq_N (by omega) (by omega)] at q1
                rw [le_N (by omega) (by omega)] at q2
                rw [nI_add o 1]
                exact ih (o + 1) _ _ (by omega) (by rw [ahead_s, dec_t (show aheadP (fullV r g) s o from Or.inr ⟨q1, by omega⟩), ha, nI_add]; rfl)
          exact L2 (r 0) 0 _ _ (by omega) rfl
      exact y_ranked (RM_cf hM CF_r) hW (txr CF_r h6) z z2 (L t 0 _ _ _ _ (by omega))
    have L : ∀ (n s : Nat), s + n = r 0 → (∀ j, j < s → aheadN (fullV r g) j (r 0) ≠ i) → RR (tl (fun v w1 => fX11_ranked [.ref 41, .int (nI g), .int (nI i)] w1 (fun u w2 => QK w v u w2)) lX10_ranked) 33 [.ref 0, .int (nI g), .int (nI i), .int (nI s)] [] w := by
      intro n
      induction n with
      | zero =>
        intro s hs hmin
        exact absurd hr0 (hmin t0 (by omega))
      | succ n ih =>
        intro s hs hmin
        have b := al s (r 0) (by omega)
        refine tX10_ranked_33 ⟨fun q => absurd q ?_, fun _ => ?_⟩
        · rw [hC.1, le_N (by omega) (by omega)]; omega
        refine c_countAhead hC hW (by omega) hg (tX10_ranked_50 ⟨fun q => ?_, fun q => ?_⟩)
        · rw [eq_N (by omega) (by omega)] at q
          rw [nI_add s 1]
          refine ih (s + 1) (by omega) (fun j hj => ?_)
          by_cases e : j = s
          · rw [e]; exact q
          · exact hmin j (by omega)
        · rw [eq_N (by omega) (by omega)] at q
          exact Y s (by omega) q hmin
    exact L (r 0) 0 (by omega) (fun j hj => by omega)
  · rw [hC.1] at z2; exact N (fun q => z2 q.2)
end Q8
