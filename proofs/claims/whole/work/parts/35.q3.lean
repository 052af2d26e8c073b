/-! questions: both sides answer alike (3) -/
theorem mostL_le_all {r D : Nat → Nat} {t d n : Nat} : mostL r D t d n ≤ n := mostL_le n
theorem mostC_le {r : Nat → Nat} (hW : WFr r) {t g more : Nat} (ht : t < 8) : mostC r t g more ≤ 120 := by
  have hT := hW.2.2.2.2.2.2.1 t ht
  unfold mostC mostU
  cases dec (isIn r t g) || r (106 + g) == 3
  · have := mostL_le (r := r) (D := dayN r t g 1) (t := t) (d := r (46 + g)) (min (leftN r g + more) (r (22 + t)))
    show mostL r (dayN r t g 1) t (r (46 + g)) (min (leftN r g + more) (r (22 + t))) ≤ 120
    omega
  · exact Nat.zero_le _
section Q3
variable {w : Wd} {r : Nat → Nat}
theorem p_when (hR : RA w r) {x1 x2 x3 : Int32} : QP w fX10_when fX11_when [.ref 0, .int x1, .int x2, .int x3] [.ref 41, .int x1, .int x2, .int x3] := by
  obtain ⟨hM, hC, hP, hW, hV, h6, h7, h8⟩ := hR
  have h0 := hW.2.1
  have h1 := hW.2.2.1
  have N : ¬ ((nI 0 ≤ x1 ∧ x1 ≤ nI (r 0) - nI 1) ∧ (nI 0 ≤ x2 ∧ x2 ≤ nI (r 1) - nI 1)) → fX11_when [.ref 41, .int x1, .int x2, .int x3] (upI (upI w 0 10 (nI 1)) 0 12 (-1)) (fun u w2 => QK w (some (.int (-1))) u w2) := fun hn => n_when (RM_cf hM CF_r) hW (txr CF_r h6) hn (fin CF_r GF_r)
  unfold QP
  refine tX10_when_0 ⟨fun z => ?_, fun z => ⟨fun z2 => ⟨fun z3 => ?_, fun z3 => ?_⟩, fun z2 => ?_⟩⟩
  · rw [hC.1] at z; exact N (fun q => z q.1)
  · rw [hC.1] at z; rw [hC.2.1] at z2
    obtain ⟨t, ht, rfl⟩ := (rng (by omega)).mp z
    obtain ⟨g, hg, rfl⟩ := (rng (by omega)).mp z2
    obtain ⟨x, hx, hx2, rfl⟩ := (rng2 (by omega) (by omega)).mp z3
    have mb : ∀ h, mostN r t h ≤ 120 := fun h => by rw [← mostC_0]; exact mostC_le hW (by omega)
    have Y : ∀ (w1 : Wd) (v : Int32), Off S27 w w1 → FirstV (fun h => x ≤ mostN r t h) g (r 1) (-2) v → fX11_when [.ref 41, .int (nI t), .int (nI g), .int (nI x)] (upI (upI w1 0 10 (nI 0)) 0 12 (-1)) (fun u w2 => QK w (some (.int v)) u w2) := by
      intro w1 v ho hv
      have hc : CF w (upI (upI w1 0 10 (nI 0)) 0 12 (-1)) (nI 0) := CF_a (off27 ho)
      have hM1 := RM_cf hM hc
      have L : ∀ (n h : Nat) (w2 : Wd), h + n = r 1 → g ≤ h → GO (rfs (upI (upI w1 0 10 (nI 0)) 0 12 (-1)) (nI 0)) w2 → (∀ j, g ≤ j → j < h → ¬ x ≤ mostN r t j) → RR (tl (fun u w2 => QK w (some (.int v)) u w2) lX11_when) 43 [.ref 41, .int (nI t), .int (nI g), .int (nI x), .int (nI h)] [] w2 := by
        intro n
        induction n with
        | zero =>
          intro h w2 hh hgh go hj
          have hM2 := RM_go (RM_rfs hM1) go
          refine tX11_when_43 ⟨fun _ => ?_, fun q => absurd ?_ q⟩
          · rcases hv with ⟨k, a1, a2, a3, a4, a5⟩ | ⟨a1, a2⟩
            · exact absurd a3 (hj k a1 (by omega))
            · rw [a2]; exact fin hc (GF_a go)
          · rw [rdM hM2 (by omega), le_N (by omega) (by omega)]; omega
        | succ n ih =>
          intro h w2 hh hgh go hj
          have hM2 := RM_go (RM_rfs hM1) go
          have := mb h
          refine tX11_when_43 ⟨fun q => absurd q ?_, fun _ => ?_⟩
          · rw [rdM hM2 (by omega), le_N (by omega) (by omega)]; omega
          · refine g_mostOf hM2 hW hV.1 (by omega) (by omega) (hV.2.2.2.2.1 h (by omega)) (fun w3 ho3 => tX11_when_61 ⟨fun q => ?_, fun q => ?_⟩)
            · rw [lt_N (by omega) (by omega)] at q
              rw [nI_add h 1]
              refine ih (h + 1) w3 (by omega) (by omega) (go.tr (GO_47 ho3)) (fun j a b => ?_)
              by_cases e : j = h
              · rw [e]; omega
              · exact hj j a (by omega)
            · rw [lt_N (by omega) (by omega)] at q
              rcases hv with ⟨k, a1, a2, a3, a4, a5⟩ | ⟨a1, a2⟩
              · have e : k = h := by
                  rcases Nat.lt_trichotomy k h with p | p | p
                  · exact absurd a3 (hj k a1 p)
                  · exact p
                  · exact absurd (show x ≤ mostN r t h by omega) (a4 h hgh p)
                rw [a5, e]; exact fin hc (GF_a (go.tr (GO_47 ho3)))
              · exact absurd (show x ≤ mostN r t h by omega) (a1 h hgh (by omega))
      exact y_when hM1 hW (txr hc h6) z z2 z3 (L (r 1 - g) g _ (by omega) (by omega) GO.rf (fun j a b => by omega))
    have L : ∀ (n h : Nat) (w1 : Wd), h + n = r 1 → g ≤ h → Off S27 w w1 → (∀ j, g ≤ j → j < h → ¬ x ≤ mostN r t j) → RR (tl (fun v w1 => fX11_when [.ref 41, .int (nI t), .int (nI g), .int (nI x)] w1 (fun u w2 => QK w v u w2)) lX10_when) 41 [.ref 0, .int (nI t), .int (nI g), .int (nI x), .int (nI h)] [] w1 := by
      intro n
      induction n with
      | zero =>
        intro h w1 hh hgh ho hj
        have hC1 := hC.off ho s27_ct
        refine tX10_when_41 ⟨fun _ => Y w1 _ ho (Or.inr ⟨fun j a b => hj j a (by omega), rfl⟩), fun q => absurd ?_ q⟩
        rw [hC1.2.1, le_N (by omega) (by omega)]; omega
      | succ n ih =>
        intro h w1 hh hgh ho hj
        have hC1 := hC.off ho s27_ct
        have hP1 := hP.off ho s27_cp
        have := mb h
        refine tX10_when_41 ⟨fun q => absurd q ?_, fun _ => ?_⟩
        · rw [hC1.2.1, le_N (by omega) (by omega)]; omega
        · refine c_mostOf hC1 hP1 hW hV ht (by omega) (by omega) (fun w2 ho2 => tX10_when_64 ⟨fun q => ?_, fun q => ?_⟩)
          · rw [mostC_0, lt_N (by omega) (by omega)] at q
            rw [nI_add h 1]
            refine ih (h + 1) w2 (by omega) (by omega) (ho.tr ho2) (fun j a b => ?_)
            by_cases e : j = h
            · rw [e]; omega
            · exact hj j a (by omega)
          · rw [mostC_0, lt_N (by omega) (by omega)] at q
            exact Y w2 _ (ho.tr ho2) (Or.inl ⟨h, hgh, by omega, show x ≤ mostN r t h by omega, hj, rfl⟩)
    exact L (r 1 - g) g w (by omega) (by omega) Off.rf (fun j a b => by omega)
  · rw [hC.1] at z; rw [hC.2.1] at z2
    exact m_when (RM_cf hM CF_r) hW (txr CF_r h6) z z2 z3 (fin CF_r GF_r)
  · rw [hC.2.1] at z2; exact N (fun q => z2 q.2)
theorem p_extra (hR : RA w r) {x1 : Int32} : QP w fX10_extra fX11_extra [.ref 0, .int x1] [.ref 41, .int x1] := by
  obtain ⟨hM, hC, hP, hW, hV, h6, h7, h8⟩ := hR
  have h0 := hW.2.1
  have h1 := hW.2.2.1
  unfold QP
  refine tX10_extra_0 ⟨fun z => ?_, fun z => ?_⟩
  · rw [hC.2.1] at z
    obtain ⟨g, hg, rfl⟩ := (rng (by omega)).mp z
    have hG := hW.2.2.2.2.2.2.2.1 g (by omega)
    have hle : leftN r g ≤ 200 := by unfold leftN; omega
    have Y : ∀ (w1 : Wd), Off S27 w w1 → fX11_extra [.ref 41, .int (nI g)] (upI (upI w1 0 10 (nI 0)) 0 12 (-1)) (fun u w2 => QK w (some (.int (sumI (fun t => nI (mostC r t g 200)) (r 0)))) u w2) := by
      intro w1 ho
      have hc : CF w (upI (upI w1 0 10 (nI 0)) 0 12 (-1)) (nI 0) := CF_a (off27 ho)
      have hM1 := RM_cf hM hc
      have L : ∀ (n t : Nat) (a : Int32) (w2 : Wd), t + n = r 0 → a = sumI (fun t => nI (mostC r t g 200)) t → GO (rfs (upI (upI w1 0 10 (nI 0)) 0 12 (-1)) (nI 0)) w2 → RR (tl (fun u w2 => QK w (some (.int (sumI (fun t => nI (mostC r t g 200)) (r 0)))) u w2) lX11_extra) 21 [.ref 41, .int (nI g), .int a, .int (nI t)] [] w2 := by
        intro n
        induction n with
        | zero =>
          intro t a w2 ht ha go
          have hM2 := RM_go (RM_rfs hM1) go
          refine tX11_extra_21 ⟨fun _ => ?_, fun q => absurd ?_ q⟩
          · rw [ha, show t = r 0 by omega]; exact fin hc (GF_a go)
          · rw [rdM hM2 (by omega), le_N (by omega) (by omega)]; omega
        | succ n ih =>
          intro t a w2 ht ha go
          have hM2 := RM_go (RM_rfs hM1) go
          refine tX11_extra_21 ⟨fun q => absurd q ?_, fun _ => ⟨by rw [nI_add]; exact vp_in_nI (by omega) (by decide), fun q => ?_, fun q => ?_⟩⟩
          · rw [rdM hM2 (by omega), le_N (by omega) (by omega)]; omega
          · rw [nI_add, rdM hM2 (by omega), le_N (by omega) (by omega)] at q
            have zz : ∀ m, sumI (fun t => nI (mostC r t g 200)) m = nI 0 := fun m => sumI_zero m (fun k hk => by
              show nI (mostC r k g 200) = nI 0
              unfold mostC
              rw [show (r (106 + g) == 3) = true by simpa using (by omega : r (106 + g) = 3), Bool.or_true]
              rfl)
            rw [ha, zz, zz]; exact fin hc (GF_a go)
          · rw [nI_add, rdM hM2 (by omega), le_N (by omega) (by omega)] at q
            refine g_isIn hM2 hW (by omega) (by omega) (fun v hv => ?_)
            have hv : isB v (isIn r t g) := hv
            refine tX11_extra_51 ⟨fun p => ?_, fun p => ?_⟩
            · refine g_leftOf hM2 hW (by omega) (hV.2.2.2.2.1 g (by omega)) (tX11_extra_66 ?_)
              rw [nI_add]
              refine g_mostUpTo hM2 hW hV.1 (by omega) (by omega) (by omega) (fun w3 ho3 => tX11_extra_73 ?_)
              rw [nI_add t 1]
              refine ih (t + 1) _ w3 (by omega) ?_ (go.tr (GO_47 ho3))
              have e : mostC r t g 200 = mostU r t g (leftN r g + 200) := by
                unfold mostC
                rw [dec_f (hv.f p), show (r (106 + g) == 3) = false by simpa using (by omega : ¬ r (106 + g) = 3)]
                rfl
              rw [ha, ← e]; rfl
            · rw [nI_add t 1]
              refine ih (t + 1) _ w2 (by omega) ?_ go
              have e : mostC r t g 200 = 0 := by
                unfold mostC
                rw [dec_t (hv.t p)]
                rfl
              rw [ha]
              show _ = sumI _ t + nI (mostC r t g 200)
              rw [e]
      refine tX11_extra_0 ⟨fun _ => ?_, fun q => absurd ?_ q⟩
      · rw [rdM hM1 (by omega), bI_t z, un_1]
        exact L (r 0) 0 _ _ (by omega) rfl GO.rf
      · rw [rdM hM1 (by omega), bI_t z, un_1]; rfl
    have L : ∀ (n t : Nat) (a : Int32) (w1 : Wd), t + n = r 0 → a = sumI (fun t => nI (mostC r t g 200)) t → Off S27 w w1 → RR (tl (fun v w1 => fX11_extra [.ref 41, .int (nI g)] w1 (fun u w2 => QK w v u w2)) lX10_extra) 18 [.ref 0, .int (nI g), .int a, .int (nI t)] [] w1 := by
      intro n
      induction n with
      | zero =>
        intro t a w1 ht ha ho
        have hC1 := hC.off ho s27_ct
        refine tX10_extra_18 ⟨fun _ => ?_, fun q => absurd ?_ q⟩
        · rw [ha, show t = r 0 by omega]; exact Y w1 ho
        · rw [hC1.1, le_N (by omega) (by omega)]; omega
      | succ n ih =>
        intro t a w1 ht ha ho
        have hC1 := hC.off ho s27_ct
        have hP1 := hP.off ho s27_cp
        refine tX10_extra_18 ⟨fun q => absurd q ?_, fun _ => ?_⟩
        · rw [hC1.1, le_N (by omega) (by omega)]; omega
        · refine c_mostOf hC1 hP1 hW hV (by omega) hg (by omega) (fun w2 ho2 => tX10_extra_42 ?_)
          rw [nI_add t 1]
          exact ih (t + 1) _ w2 (by omega) (by rw [ha]; rfl) (ho.tr ho2)
    exact L (r 0) 0 _ w (by omega) rfl Off.rf
  · rw [hC.2.1] at z
    have hM1 : RM (upI (upI w 0 10 (nI 1)) 0 12 (-1)) r := RM_cf hM CF_r
    refine tX11_extra_0 ⟨fun q => absurd q ?_, fun _ => ?_⟩
    · rw [rdM hM1 (by omega), bI_f z, un_0]; decide
    · rw [rdM hM1 (by omega), bI_f z, un_0]
      exact fin CF_r GF_r
end Q3
