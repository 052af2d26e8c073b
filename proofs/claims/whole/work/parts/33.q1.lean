/-! questions: both sides answer alike (1) -/
section Q1
variable {w : Wd} {r : Nat → Nat}
theorem txr {w w1 : Wd} {r : Nat → Nat} {T : Int32} (hc : CF w w1 T) (h6 : w.1 41 6 = bI (0 < r 1)) : w1.1 41 6 = bI (0 < r 1) := by rw [tx_cf hc]; exact h6
theorem p_points (hR : RA w r) {x1 x2 : Int32} : QP w fX10_points fX11_points [.ref 0, .int x1, .int x2] [.ref 41, .int x1, .int x2] := by
  obtain ⟨hM, hC, hP, hW, hV, h6, h7⟩ := hR
  have h0 := hW.2.1
  have h1 := hW.2.2.1
  have N : ¬ ((nI 0 ≤ x1 ∧ x1 ≤ nI (r 0) - nI 1) ∧ (nI 0 ≤ x2 ∧ x2 ≤ nI (r 1) - nI 1)) → fX11_points [.ref 41, .int x1, .int x2] (upI (upI w 0 10 (nI 1)) 0 12 (-1)) (fun u w2 => QK w (some (.int (-1))) u w2) := fun hn => n_points (RM_cf hM CF_r) hW (txr CF_r h6) hn (fin CF_r GF_r)
  unfold QP
  refine tX10_points_0 ⟨fun z => ?_, fun z => ⟨fun z2 => ?_, fun z2 => ?_⟩⟩
  · rw [hC.1] at z; exact N (fun q => z q.1)
  · rw [hC.1] at z; rw [hC.2.1] at z2
    obtain ⟨t, ht, rfl⟩ := (rng (by omega)).mp z
    obtain ⟨g, hg, rfl⟩ := (rng (by omega)).mp z2
    refine c_pointsOf hC hW ht hg (tX10_points_32 ?_)
    exact y_points (RM_cf hM CF_r) hW (txr CF_r h6) z z2 (g_pointsOf (RM_rfs (RM_cf hM CF_r)) hW (by omega) (by omega) (tX11_points_41 (fin CF_r GF_r)))
  · rw [hC.2.1] at z2; exact N (fun q => z2 q.2)
theorem p_worth (hR : RA w r) {x1 x2 x3 : Int32} : QP w fX10_worth fX11_worth [.ref 0, .int x1, .int x2, .int x3] [.ref 41, .int x1, .int x2, .int x3] := by
  obtain ⟨hM, hC, hP, hW, hV, h6, h7⟩ := hR
  have h0 := hW.2.1
  have h1 := hW.2.2.1
  have N : ¬ ((nI 0 ≤ x1 ∧ x1 ≤ nI (r 0) - nI 1) ∧ (nI 0 ≤ x2 ∧ x2 ≤ nI (r 1) - nI 1)) → fX11_worth [.ref 41, .int x1, .int x2, .int x3] (upI (upI w 0 10 (nI 1)) 0 12 (-1)) (fun u w2 => QK w (some (.int (-1))) u w2) := fun hn => n_worth (RM_cf hM CF_r) hW (txr CF_r h6) hn (fin CF_r GF_r)
  unfold QP
  refine tX10_worth_0 ⟨fun z => ?_, fun z => ⟨fun z2 => ⟨fun z3 => ?_, fun z3 => ?_⟩, fun z2 => ?_⟩⟩
  · rw [hC.1] at z; exact N (fun q => z q.1)
  · rw [hC.1] at z; rw [hC.2.1] at z2
    obtain ⟨t, ht, rfl⟩ := (rng (by omega)).mp z
    obtain ⟨g, hg, rfl⟩ := (rng (by omega)).mp z2
    obtain ⟨x, hx, hx2, rfl⟩ := (rng2 (by omega) (by omega)).mp z3
    refine c_valueOf hC hW ht hg hx2 (tX10_worth_50 ?_)
    exact y_worth (RM_cf hM CF_r) hW (txr CF_r h6) z z2 z3 (g_worthOf (RM_rfs (RM_cf hM CF_r)) hW (by omega) (by omega) hx2 (tX11_worth_50 (fin CF_r GF_r)))
  · rw [hC.1] at z; rw [hC.2.1] at z2
    exact m_worth (RM_cf hM CF_r) hW (txr CF_r h6) z z2 z3 (fin CF_r GF_r)
  · rw [hC.2.1] at z2; exact N (fun q => z2 q.2)
theorem p_most (hR : RA w r) {x1 x2 : Int32} : QP w fX10_most fX11_most [.ref 0, .int x1, .int x2] [.ref 41, .int x1, .int x2] := by
  obtain ⟨hM, hC, hP, hW, hV, h6, h7⟩ := hR
  have h0 := hW.2.1
  have h1 := hW.2.2.1
  have N : ¬ ((nI 0 ≤ x1 ∧ x1 ≤ nI (r 0) - nI 1) ∧ (nI 0 ≤ x2 ∧ x2 ≤ nI (r 1) - nI 1)) → fX11_most [.ref 41, .int x1, .int x2] (upI (upI w 0 10 (nI 1)) 0 12 (-1)) (fun u w2 => QK w (some (.int (-1))) u w2) := fun hn => n_most (RM_cf hM CF_r) hW (txr CF_r h6) hn (fin CF_r GF_r)
  unfold QP
  refine tX10_most_0 ⟨fun z => ?_, fun z => ⟨fun z2 => ?_, fun z2 => ?_⟩⟩
  · rw [hC.1] at z; exact N (fun q => z q.1)
  · rw [hC.1] at z; rw [hC.2.1] at z2
    obtain ⟨t, ht, rfl⟩ := (rng (by omega)).mp z
    obtain ⟨g, hg, rfl⟩ := (rng (by omega)).mp z2
    refine c_mostOf hC hP hW hV ht hg (by omega) (fun w1 ho => tX10_most_33 ?_)
    have hc : CF w (upI (upI w1 0 10 (nI 0)) 0 12 (-1)) (nI 0) := CF_a (off27 ho)
    exact y_most (RM_cf hM hc) hW (txr hc h6) z z2 (g_mostOf (RM_rfs (RM_cf hM hc)) hW hV.1 (by omega) (by omega) (hV.2.2.2.2.1 g (by omega)) (fun w2 ho2 => tX11_most_41 (fin hc (GF_a (GO_47 ho2)))))
  · rw [hC.2.1] at z2; exact N (fun q => z2 q.2)
theorem p_rest (hR : RA w r) {x1 : Int32} : QP w fX10_rest fX11_rest [.ref 0, .int x1] [.ref 41, .int x1] := by
  obtain ⟨hM, hC, hP, hW, hV, h6, h7⟩ := hR
  have h1 := hW.2.2.1
  unfold QP
  refine tX10_rest_0 ⟨fun z => ⟨fun z2 => ?_, fun z2 => ?_⟩, fun z => ?_⟩
  · rw [g0_N hC hW] at z
    obtain ⟨x, hx, hx2, rfl⟩ := (rng2 (by omega) (by omega)).mp z2
    refine c_restAfter hC hW (by omega) (tX10_rest_39 ?_)
    have h6' := txr (w1 := upI (upI w 0 10 (nI 0)) 0 12 (-1)) CF_r h6
    refine tX11_rest_0 ⟨fun _ => ?_, fun q => absurd ?_ q⟩
    · rw [h6', bI_t z, bI_t z2, un2_11]
      exact g_restOf (RM_rfs (RM_cf hM CF_r)) hW (by omega) (tX11_rest_31 (fin CF_r GF_r))
    · rw [h6', bI_t z, bI_t z2, un2_11]; rfl
  · rw [g0_N hC hW] at z
    have h6' := txr (w1 := upI (upI w 0 10 (nI 2)) 0 12 (-1)) CF_r h6
    refine tX11_rest_0 ⟨fun q => absurd q ?_, fun _ => ?_⟩
    · rw [h6', bI_t z, bI_f z2, un2_10]; decide
    · rw [h6', bI_t z, bI_f z2, un2_10]
      exact fin CF_r GF_r
  · rw [g0_N hC hW] at z
    have h6' := txr (w1 := upI (upI w 0 10 (nI 1)) 0 12 (-1)) CF_r h6
    refine tX11_rest_0 ⟨fun q => absurd q ?_, fun _ => ?_⟩
    · rw [h6', bI_f z, un2_0]; decide
    · rw [h6', bI_f z, un2_0]
      exact fin CF_r GF_r
theorem g_value (hM : RM w r) (hW : WFr r) (h6 : w.1 41 6 = bI (0 < r 1)) {K : Kt} (hp : 0 < r 1) (h : K (some (.int (sumI (fun g => valI r g) (r 1)))) (rfs w (nI 0))) : fX11_value [.ref 41] w K := by
  have h1 := hW.2.2.1
  have hM1 : RM (rfs w (nI 0)) r := RM_rfs hM
  refine tX11_value_0 ⟨fun _ => ?_, fun q => absurd ?_ q⟩
  · rw [h6, bI_t hp, un_1]
    have L : ∀ (n g : Nat) (a : Int32), g + n = r 1 → a = sumI (fun g => valI r g) g → RR (tl K lX11_value) 20 [.ref 41, .int a, .int (nI g)] [] (rfs w (nI 0)) := by
      intro n
      induction n with
      | zero =>
        intro g a hg ha
        refine tX11_value_20 ⟨fun _ => ?_, fun z => absurd ?_ z⟩
        · rw [ha, show g = r 1 by omega]; exact h
        · rw [rdM hM1 (by omega), le_N (by omega) (by omega)]; omega
      | succ n ih =>
        intro g a hg ha
        refine tX11_value_20 ⟨fun z => absurd z ?_, fun _ => ?_⟩
        · rw [rdM hM1 (by omega), le_N (by omega) (by omega)]; omega
        · refine g_valueOf hM1 hW (by omega) (tX11_value_36 ?_)
          rw [nI_add g 1]
          exact ih (g + 1) _ (by omega) (by rw [ha]; rfl)
    exact L (r 1) 0 _ (by omega) rfl
  · rw [h6, bI_t hp, un_1]; rfl
theorem p_value (hR : RA w r) : QP w fX10_value fX11_value [.ref 0] [.ref 41] := by
  obtain ⟨hM, hC, hP, hW, hV, h6, h7⟩ := hR
  have h1 := hW.2.2.1
  unfold QP
  refine tX10_value_0 ⟨fun z => ?_, fun z => ?_⟩
  · rw [g0_N hC hW] at z
    have L : ∀ (n g : Nat) (a : Int32), g + n = r 1 → a = sumI (fun g => valI r g) g → RR (tl (fun v w1 => fX11_value [.ref 41] w1 (fun u w2 => QK w v u w2)) lX10_value) 17 [.ref 0, .int a, .int (nI g)] [] w := by
      intro n
      induction n with
      | zero =>
        intro g a hg ha
        refine tX10_value_17 ⟨fun _ => ?_, fun z => absurd ?_ z⟩
        · rw [ha, show g = r 1 by omega]
          exact g_value (RM_cf hM CF_r) hW (txr CF_r h6) z (fin CF_r GF_r)
        · rw [hC.2.1, le_N (by omega) (by omega)]; omega
      | succ n ih =>
        intro g a hg ha
        refine tX10_value_17 ⟨fun z => absurd z ?_, fun _ => ?_⟩
        · rw [hC.2.1, le_N (by omega) (by omega)]; omega
        · refine c_valueOfGame hC hP hW hV (by omega) (tX10_value_37 ?_)
          rw [nI_add g 1]
          exact ih (g + 1) _ (by omega) (by rw [ha]; rfl)
    exact L (r 1) 0 _ (by omega) rfl
  · rw [g0_N hC hW] at z
    have h6' := txr (w1 := upI (upI w 0 10 (nI 1)) 0 12 (-1)) CF_r h6
    refine tX11_value_0 ⟨fun q => absurd q ?_, fun _ => ?_⟩
    · rw [h6', bI_f z, un_0]; decide
    · rw [h6', bI_f z, un_0]
      exact fin CF_r GF_r
/-- a number that is small, by its value -/
theorem lo_N {x : Nat} {m : Int} (hx : x < 2147483648) : ((nI x).toInt < 0 ∨ m < (nI x).toInt) ↔ m < x := by
  rw [nI_toInt hx]
  omega
theorem p_game (hR : RA w r) {x1 x2 : Int32} : QP w fX10_game fX11_game [.ref 0, .int x1, .int x2] [.ref 41, .int x1, .int x2] := by
  obtain ⟨hM, hC, hP, hW, hV, h6, h7⟩ := hR
  have h0 := hW.2.1
  have h1 := hW.2.2.1
  have N : ¬ ((nI 0 ≤ x1 ∧ x1 ≤ nI (r 1) - nI 1) ∧ (nI 0 ≤ x2 ∧ x2 ≤ nI 5)) → fX11_game [.ref 41, .int x1, .int x2] (upI (upI w 0 10 (nI 1)) 0 12 (-1)) (fun u w2 => QK w (some (.int (-1))) u w2) := fun hn => n_game (RM_cf hM CF_r) hW (txr CF_r h6) hn (fin CF_r GF_r)
  unfold QP
  refine tX10_game_0 ⟨fun z => ?_, fun z => ⟨fun z2 => ?_, fun z2 => ?_⟩⟩
  · rw [hC.2.1] at z; exact N (fun q => z q.1)
  · rw [hC.2.1] at z
    obtain ⟨g, hg, rfl⟩ := (rng (by omega)).mp z
    obtain ⟨x, hx, hx2, rfl⟩ := (rng2 (by omega) (by omega)).mp z2
    have cG := hC.2.2.2.2.1 g hg
    have hM1 : RM (rfs (upI (upI w 0 10 (nI 0)) 0 12 (-1)) (nI 0)) r := RM_rfs (RM_cf hM CF_r)
    have tI : (nI x).toInt = (x : Int) := nI_toInt (by omega)
    have Y : ∀ v : Int32, ((x = 0 → v = nI (r (46 + g))) ∧ (x = 1 → v = nI (r (66 + g))) ∧ (x = 2 → v = nI (r (86 + g))) ∧ (x = 3 → v = nI (r (106 + g))) ∧ (x = 4 → v = nI (leftN r g)) ∧ (x = 5 → v = valI r g)) → RR (tl (fun v w1 => fX11_game [.ref 41, .int (nI g), .int (nI x)] w1 (fun u w2 => QK w v u w2)) lX10_game) 30 [.ref 0, .int (nI g), .int (nI x)] [.int v, .ref 0] w := by
      intro v hv
      refine tX10_game_30 (y_game (RM_cf hM CF_r) hW (txr CF_r h6) z z2 ⟨fun q => ?_, fun q => ⟨?_, ?_⟩, fun q => ⟨?_, ?_⟩, fun q => ⟨?_, ?_⟩, fun q => ⟨?_, ?_⟩, fun q => ?_⟩)
      all_goals rw [tI] at q
      · rw [hv.2.2.2.2.2 (by omega)]
        exact g_valueOf hM1 hW (by omega) (tX11_game_119 (fin CF_r GF_r))
      · rw [nI_add]; exact vp_in_nI (by omega) (by decide)
      · rw [hv.1 (by omega), nI_add, rdM hM1 (by omega)]; exact fin CF_r GF_r
      · rw [nI_add]; exact vp_in_nI (by omega) (by decide)
      · rw [hv.2.1 (by omega), nI_add, rdM hM1 (by omega)]; exact fin CF_r GF_r
      · rw [nI_add]; exact vp_in_nI (by omega) (by decide)
      · rw [hv.2.2.1 (by omega), nI_add, rdM hM1 (by omega)]; exact fin CF_r GF_r
      · rw [nI_add]; exact vp_in_nI (by omega) (by decide)
      · rw [hv.2.2.2.1 (by omega), nI_add, rdM hM1 (by omega)]; exact fin CF_r GF_r
      · rw [hv.2.2.2.2.1 (by omega)]
        exact g_leftOf hM1 hW (by omega) (hV.2.2.2.2.1 g (by omega)) (tX11_game_113 (fin CF_r GF_r))
    refine tX10_tellGame_0 ⟨fun q => ?_, fun q => ⟨?_, ?_⟩, fun q => ⟨?_, ?_⟩, fun q => ⟨?_, ?_⟩, fun q => ⟨?_, ?_⟩, fun q => ?_⟩
    all_goals rw [tI] at q
    · exact c_valueOfGame hC hP hW hV hg (tX10_tellGame_93 (Y _ ⟨fun e => by omega, fun e => by omega, fun e => by omega, fun e => by omega, fun e => by omega, fun e => rfl⟩))
    · rw [pk_mul, nI_add]; exact vp_in_nI (by omega) (by decide)
    · rw [pk_mul, nI_add, rd_N (by omega), cG.1]
      exact Y _ ⟨fun e => rfl, fun e => by omega, fun e => by omega, fun e => by omega, fun e => by omega, fun e => by omega⟩
    · rw [pk_mul, nI_add]; exact vp_in_nI (by omega) (by decide)
    · rw [pk_mul, nI_add, rd_N (by omega), cG.2.1]
      exact Y _ ⟨fun e => by omega, fun e => rfl, fun e => by omega, fun e => by omega, fun e => by omega, fun e => by omega⟩
    · rw [pk_mul, nI_add]; exact vp_in_nI (by omega) (by decide)
    · rw [pk_mul, nI_add, rd_N (by omega), cG.2.2]
      exact Y _ ⟨fun e => by omega, fun e => by omega, fun e => rfl, fun e => by omega, fun e => by omega, fun e => by omega⟩
    · exact vp_in_nI (by omega) (by decide)
    · rw [rd_N (by omega), hP.1 g (by omega)]
      exact Y _ ⟨fun e => by omega, fun e => by omega, fun e => by omega, fun e => rfl, fun e => by omega, fun e => by omega⟩
    · exact c_leftIn hC hP hW hV hg (tX10_tellGame_84 (Y _ ⟨fun e => by omega, fun e => by omega, fun e => by omega, fun e => by omega, fun e => rfl, fun e => by omega⟩))
  · exact N (fun q => z2 q.2)
end Q1
