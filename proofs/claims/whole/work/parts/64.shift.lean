/-! shift() -/
theorem subLe_N {x a b : Nat} (hx : x < 1000000) (ha : a < 1000000) (hb : b < 1000000) : nI x - nI a ≤ nI b ↔ x ≤ b + a := by
  by_cases h : a ≤ x
  · rw [sub_N h, le_N (by omega) (by omega)]; omega
  · constructor
    · intro _; omega
    · intro _
      have e : (nI x - nI a).toInt = (x : Int) - (a : Int) := by
        rw [Int32.toInt_sub, nI_toInt (by omega), nI_toInt (by omega)]
        exact Int.bmod_eq_of_le (by omega) (by omega)
      rw [Int32.le_iff_toInt_le, e, nI_toInt (by omega)]
      omega
theorem sumN_chg {f f1 : Nat → Nat} {k : Nat} : ∀ n, k < n → (∀ j, j < n → j ≠ k → f1 j = f j) → sumN f1 n + f k = sumN f n + f1 k
  | 0, h, _ => absurd h (Nat.not_lt_zero _)
  | n + 1, h, e => by
    show sumN f1 n + f1 n + f k = sumN f n + f n + f1 k
    by_cases q : k = n
    · subst q
      rw [sumN_congr k (fun j hj => e j (by omega) (by omega))]
      omega
    · have := sumN_chg n (by omega) (fun j hj hn => e j (by omega) hn)
      rw [e n (by omega) (fun z => q z.symm)]
      omega
theorem upR_same (r : Nat → Nat) (a : Nat) : upR r a (r a) = r := by
  funext j
  by_cases h : j = a
  · rw [h, upR_e]
  · rw [upR_n h]
theorem distinct_V {r : Nat → Nat} (hV : VP r) {g k : Nat} (hg : g < 20) (hk : k < r (106 + g)) : ∀ j, j < r (106 + g) → j ≠ k → who r g j ≠ who r g k := by
  intro j hj hn
  rcases Nat.lt_trichotomy j k with s | s | s
  · exact hV.2.2.2.1 g j k hg s hk
  · exact absurd s hn
  · exact fun z => hV.2.2.2.1 g k j hg s hj z.symm
section SHIFT
variable {w : Wd} {r : Nat → Nat}
theorem p_shift (hR : RH w r) {x1 x2 x3 : Int32} : AP w r fX10_shift fX11_shift [.ref 0, .int x1, .int x2, .int x3] [.ref 41, .int x1, .int x2, .int x3] := by
  have hRR := hR
  obtain ⟨hRA, N, A, H, h3, h4, hw, hm, hv⟩ := hR
  have hRA0 := hRA
  obtain ⟨hM, hC, hP, hW, hV, h6, h7, h8⟩ := hRA
  have h1 := hW.2.2.1
  have h0 := hW.2.1
  have N1 : ¬ (∃ g k, g < r 1 ∧ k < r (106 + g) ∧ x1 = nI g ∧ x2 = nI k) → fX11_shift [.ref 41, .int x1, .int x2, .int x3] (upI (upI w 0 10 (nI 1)) 0 12 (-1)) (fun u w2 => AK w r (some (.int (-1))) u w2) := by
    intro hn
    have hM1 : RM (upI (upI w 0 10 (nI 1)) 0 12 (-1)) r := RM_cf hM CF_r
    have Z : RR (tl (fun u w2 => AK w r (some (.int (-1))) u w2) lX11_shift) 31 [.ref 41, .int x1, .int x2, .int x3, .null, .null, .null] [] (upI (upI w 0 10 (nI 1)) 0 12 (-1)) := by
      refine tX11_shift_31 (tX11_shift_32 ⟨fun _ => tX11_shift_67 (tX11_shift_68 ⟨fun _ => ?_, fun q => absurd q (by rw [un2_0]; decide)⟩), fun q => absurd rfl q⟩)
      rw [un2_0]
      exact tX11_shift_120 ⟨fun q => absurd q (by decide), fun _ => AK_of hRR (fin CF_r GF_r)⟩
    refine tX11_shift_0 ⟨fun _ => Z, fun a => ?_⟩
    rw [rdM hM1 (by omega)] at a
    obtain ⟨g, hg, rfl⟩ := (rng (by omega)).mp a
    have hG := hW.2.2.2.2.2.2.2.1 g (by omega)
    refine ⟨by rw [nI_add]; exact vp_in_nI (by omega) (by decide), fun _ => Z, fun b => ?_⟩
    rw [nI_add, rdM hM1 (by omega)] at b
    obtain ⟨k, hk, rfl⟩ := (rng (by omega)).mp b
    exact absurd ⟨g, k, hg, hk, rfl, rfl⟩ hn
  unfold AP
  refine tX10_shift_0 ⟨fun z => ?_, fun z => ?_, fun z => ?_⟩
  · rw [hC.2.1] at z
    obtain ⟨g, hg, rfl⟩ := (rng (by omega)).mp z
    exact vp_in_nI (by omega) (by decide)
  · obtain ⟨z1, z2⟩ := z
    rw [hC.2.1] at z1
    obtain ⟨g, hg, rfl⟩ := (rng (by omega)).mp z1
    have hG := hW.2.2.2.2.2.2.2.1 g (by omega)
    have f0 : rd w 22 (nI g) = nI (r (106 + g)) := by rw [rd_N (by omega)]; exact hP.1 g (by omega)
    rw [f0] at z2
    obtain ⟨k, hk, rfl⟩ := (rng (by omega)).mp z2
    have p := hP.2.1 g k (by omega) hk
    have hwk := hV.2.2.1 g k (by omega) hk
    have hT := hW.2.2.2.2.2.2.1 (who r g k) (by omega)
    have hth := (hW.2.2.2.2.2.2.2.2.1 (3 * g + k) (by omega)).2
    have hthr : thr r g k ≤ 120 := hth
    have e1 : nI g * nI 3 + nI k = nI (g * 3 + k) := by rw [pk_mul, nI_add]
    have fa : rd w 23 (nI (g * 3 + k)) = nI (who r g k) := by rw [rd_N (by omega)]; exact p.1
    have fb : rd w 24 (nI (g * 3 + k)) = nI (thr r g k) := by rw [rd_N (by omega)]; exact p.2
    rw [e1, fa, fb, stam_C hC hW hwk.1]
    have hle : leftN r g ≤ 200 := by unfold leftN; omega
    have e2 : nI 3 * nI g + nI k = nI (3 * g + k) := by rw [pk_mul, nI_add]
    -- the reference up to its questions
    have R68 : ∀ (w1 : Wd) (K : Kt) (c : Int32), RM w1 r → c = bI (nI 1 ≤ x3 ∧ x3 ≤ nI (r (22 + who r g k))) → RR (tl K lX11_shift) 68 [.ref 41, .int (nI g), .int (nI k), .int x3, .int (nI 1), .null, .null] [.int c, .int (nI 1)] w1 → fX11_shift [.ref 41, .int (nI g), .int (nI k), .int x3] w1 K := by
      intro w1 K c hM1 hcc hk2
      refine tX11_shift_0 ⟨fun q => absurd (by rw [rdM hM1 (by omega)]; exact z1) q, fun _ => ⟨by rw [nI_add]; exact vp_in_nI (by omega) (by decide), fun q => absurd (by rw [nI_add, rdM hM1 (by omega)]; exact z2) q, fun _ => tX11_shift_32 ⟨fun q => absurd q (by decide), fun _ => ?_⟩⟩⟩
      have ew : rd w1 43 (nI (126 + (3 * g + k))) = nI (who r g k) := by rw [rdM hM1 (by omega)]; rfl
      rw [e2, nI_add, ew, nI_add, rdM hM1 (by omega)]
      refine ⟨vp_in_nI (by omega) (by decide), vp_in_nI (by omega) (by decide), fun q => ?_, fun q => ?_⟩
      · rw [hcc, bI_f q] at hk2
        exact tX11_shift_67 hk2
      · rw [hcc, bI_t q] at hk2
        exact hk2
    refine ⟨vp_in_nI (by omega) (by decide), by rw [pk_mul, nI_add]; exact vp_in_nI (by omega) (by decide), fun z3 => ?_, fun z3 => ?_⟩
    · obtain ⟨x, hx, hx2, rfl⟩ := (rng2 (by omega) (by omega)).mp z3
      have R68b : ∀ (w1 : Wd) (K : Kt), RM w1 r → (¬ x ≤ leftN r g + thr r g k → K (some (.int (-1))) (rfs w1 (nI 3))) → (x ≤ leftN r g + thr r g k → ∀ w2, Off (· = 47) w1 w2 → (allowT r (load r (who r g k)) (who r g k) g x → RR (tl K lX11_shift) 120 [.ref 41, .int (nI g), .int (nI k), .int (nI x), .int (nI 1), .int (nI 0), .null] [] w2) ∧ (¬ allowT r (load r (who r g k)) (who r g k) g x → K (some (.int (-1))) (rfs w2 (nI 5)))) → fX11_shift [.ref 41, .int (nI g), .int (nI k), .int (nI x)] w1 K := by
        intro w1 K hM1 k1 k2
        refine R68 w1 K (nI 1) hM1 (by rw [bI_t z3]) (tX11_shift_68 ⟨fun q => absurd un2_11 q, fun _ => ?_⟩)
        refine g_leftOf hM1 hW (by omega) (hV.2.2.2.2.1 g (by omega)) (tX11_shift_84 ?_)
        have ew : rd w1 43 (nI (126 + (3 * g + k))) = nI (who r g k) := by rw [rdM hM1 (by omega)]; rfl
        have et : rd w1 43 (nI (186 + (3 * g + k))) = nI (thr r g k) := by rw [rdM hM1 (by omega)]; rfl
        rw [e2, nI_add, nI_add, et, ew, nI_add, le_N (by omega) (by omega)]
        refine ⟨vp_in_nI (by omega) (by decide), fun q => ⟨vp_in_nI (by omega) (by decide), ?_⟩, fun q => ?_⟩
        · refine g_isAloneAllowed hM1 hW hV.1 (by omega) (by omega) (by omega) (fun w2 v2 ho2 hb2 => ?_)
          rw [allow_iff hW hV.1 hg (TD_day hV.1 _ g)] at hb2
          obtain ⟨ka, kb⟩ := k2 q w2 ho2
          refine tX11_shift_110 ⟨fun s => ?_, fun s => tX11_shift_118 (ka (hb2.t s))⟩
          exact tX11_shift_118 (tX11_shift_120 ⟨fun q => absurd q (by decide), fun _ => kb (hb2.f s)⟩)
        · exact tX11_shift_118 (tX11_shift_120 ⟨fun q => absurd q (by decide), fun _ => k1 q⟩)
      refine c_leftIn hC hP hW hV hg (tX10_shift_73 ?_)
      rw [subLe_N (by omega) (by omega) (by omega)]
      refine ⟨fun zl => ?_, fun zl => ?_⟩
      · refine c_allowsIn hC hP hW hV hwk.1 hg (by omega) (fun w1 v ho hb => tX10_shift_93 ⟨fun q => ?_, fun q => ?_⟩)
        · have e39 := (ho 39 (by unfold S27; omega)).1
          refine c_keep (hC.off ho s27_ct) (hP.off ho s27_cp) hW hm.1 hm.2.1 (by rw [e39]; exact h3) (by rw [e39]; exact h4) (fun w2 o1 k3 k4 ks km => tX10_shift_109 ?_)
          have hC2 := (hC.off ho s27_ct).off o1 (fun c a b q => by omega)
          have hP2 := (hP.off ho s27_cp).off o1 (fun c a b q => by omega)
          have hd := distinct_V hV (show g < 20 by omega) hk
          refine c_change hC2 hP2 hW hV (by omega) hk (by omega) hd (fun w3 o3 hC3 hP3 => tX10_shift_121 ?_)
          have hca := CA_pre ho (CA_mk hW hm.1 hm.2.1 (by rw [e39]; exact h3) (by rw [e39]; exact h4) o1 k3 k4 ks km (o3.mono (fun c q => by unfold SP at q; omega)) hC3 hP3)
          have hMc := RM_ca hca hM
          have hwc := HW_ca hca hw
          generalize upI (upI w3 0 10 (nI 0)) 0 12 (-1) = wc at hca hMc hwc ⊢
          refine R68b wc _ hMc (fun p => absurd zl p) (fun _ w4 o4 => ⟨fun _ => ?_, fun p2 => absurd (hb.t q) p2⟩)
          have go := GO_47 o4
          refine tX11_shift_120 ⟨fun _ => ?_, fun q => absurd rfl q⟩
          refine g_remembers (RM_rfs (RM_go hMc go)) (HW_rfs (HW_go go hwc)) (fun w5 og kg hgm => tX11_shift_135 ?_)
          have hM5 : RM w5 r := (RM_rfs (RM_go hMc go)).off og (by decide)
          have et : rd w5 43 (nI (186 + (3 * g + k))) = nI (thr r g k) := by rw [rdM hM5 (by omega)]; rfl
          rw [e2, nI_add, et, wr_N (by omega)]
          refine ⟨vp_in_nI (by omega) (by decide), ?_⟩
          have er : upR r (186 + (3 * g + k)) x = chgR r g k (who r g k) x := by
            unfold chgR
            rw [show who r g k = r (126 + (3 * g + k)) from rfl, upR_same]
          have hM6 : RM (upI w5 43 (186 + (3 * g + k)) (nI x)) (chgR r g k (who r g k) x) := er ▸ RM_set hM5 (186 + (3 * g + k)) x
          have hsum : sumN (thr (chgR r g k (who r g k) x) g) (r (106 + g)) ≤ r (86 + g) := by
            have hwj := chgR_w (r := r) (t := who r g k) (x := x) (show g < 20 by omega) (show k < 3 by omega) g
            have s := sumN_chg (f := thr r g) (f1 := thr (chgR r g k (who r g k) x) g) (k := k) (r (106 + g)) hk (fun j hj hn => by rw [(hwj j (by omega) (by omega)).2, if_neg (fun z => hn z.2)])
            rw [(hwj k (by omega) (by omega)).2, if_pos ⟨rfl, rfl⟩] at s
            have := hV.2.2.2.2.1 g (by omega)
            unfold leftN at zl
            omega
          exact act_fin hRA0 h3 h4 hw hm hv hca (GA_pre go (GA_mk og kg hgm (Off.up (Or.inl rfl)) hM6)) (WFr_chg hW (by omega) (by omega) (by omega) (by omega)) (VP_chg hW hV hg hk hwk.1 hx hd hsum) (fun j hj => chgR_o (by omega) (by omega) (by unfold FX at hj; omega))
        · have hc : CF w (upI (upI w1 0 10 (nI 5)) 0 12 (-1)) (nI 5) := CF_a (off27 ho)
          exact R68b _ _ (RM_cf hM hc) (fun p => absurd zl p) (fun _ w4 o4 => ⟨fun p => absurd p (hb.f q), fun _ => AK_of hRR (fin hc (GF_b (GO_47 o4)))⟩)
      · exact R68b _ _ (RM_cf hM CF_r) (fun _ => AK_of hRR (fin CF_r GF_r)) (fun p => absurd p zl)
    · refine R68 _ _ (nI 0) (RM_cf hM CF_r) (by rw [bI_f z3]) (tX11_shift_68 ⟨fun _ => ?_, fun q => absurd q (by rw [un2_10]; decide)⟩)
      rw [un2_10]
      exact tX11_shift_120 ⟨fun q => absurd q (by decide), fun _ => AK_of hRR (fin CF_r GF_r)⟩
  · refine N1 (fun q => z ?_)
    obtain ⟨g, k, hg, hk, rfl, rfl⟩ := q
    have hG := hW.2.2.2.2.2.2.2.1 g (by omega)
    rw [hC.2.1, rd_N (by omega), hP.1 g (by omega)]
    exact ⟨(rng (by omega)).mpr ⟨g, hg, rfl⟩, (rng (by omega)).mpr ⟨k, hk, rfl⟩⟩
end SHIFT
