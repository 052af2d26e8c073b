/-! swap() -/
def mayT (r : Nat → Nat) (g k h j : Nat) : Prop := g ≠ h ∧ ¬ isIn r (who r g k) h ∧ ¬ isIn r (who r h j) g ∧ allowT r (fun i => if i = g then 0 else ldT r (who r g k) i) (who r g k) h (thr r h j) ∧ allowT r (fun i => if i = h then 0 else ldT r (who r h j) i) (who r h j) g (thr r g k)
section SWAP
variable {w : Wd} {r : Nat → Nat} {g k h j : Nat}
theorem c_mayTrade {K : Kt} (hC : CT w r) (hP : CP w r) (hW : WFr r) (hV : VP r) (hg : g < r 1) (hk : k < r (106 + g)) (hh : h < r 1) (hj : j < r (106 + h)) (q : ∀ w1 v, Off S27 w w1 → isB v (mayT r g k h j) → K (some (.int v)) w1) : fX10_mayTrade [.ref 0, .int (nI g), .int (nI k), .int (nI h), .int (nI j)] w K := by
  have h1 := hW.2.2.1
  have h0 := hW.2.1
  have a3 := (hW.2.2.2.2.2.2.2.1 g (by omega)).2.2.2
  have b3 := (hW.2.2.2.2.2.2.2.1 h (by omega)).2.2.2
  have pg := hP.2.1 g k (by omega) hk
  have ph := hP.2.1 h j (by omega) hj
  have wg := hV.2.2.1 g k (by omega) hk
  have wh := hV.2.2.1 h j (by omega) hj
  have tg : thr r g k ≤ 120 := (hW.2.2.2.2.2.2.2.2.1 (3 * g + k) (by omega)).2
  have th : thr r h j ≤ 120 := (hW.2.2.2.2.2.2.2.2.1 (3 * h + j) (by omega)).2
  have e1 : nI g * nI 3 + nI k = nI (g * 3 + k) := by rw [pk_mul, nI_add]
  have e2 : nI h * nI 3 + nI j = nI (h * 3 + j) := by rw [pk_mul, nI_add]
  have fg : rd w 23 (nI (g * 3 + k)) = nI (who r g k) := by rw [rd_N (by omega)]; exact pg.1
  have fh : rd w 23 (nI (h * 3 + j)) = nI (who r h j) := by rw [rd_N (by omega)]; exact ph.1
  have f24 : rd w 24 (nI (h * 3 + j)) = nI (thr r h j) := by rw [rd_N (by omega)]; exact ph.2
  have e3 : nI (who r g k) * nI 20 + nI h = nI (who r g k * 20 + h) := by rw [pk_mul, nI_add]
  have e4 : nI (who r h j) * nI 20 + nI g = nI (who r h j * 20 + g) := by rw [pk_mul, nI_add]
  have l1 : rd w 25 (nI (who r g k * 20 + h)) = nI (load r (who r g k) h) := by rw [rd_N (by omega)]; exact hP.2.2 _ _ (by omega) (by omega)
  have l2 : rd w 25 (nI (who r h j * 20 + g)) = nI (load r (who r h j) g) := by rw [rd_N (by omega)]; exact hP.2.2 _ _ (by omega) (by omega)
  have b1 := load_le hW (t := who r g k) (g := h) (by omega)
  have b2 := load_le hW (t := who r h j) (g := g) (by omega)
  have i1 := load_pos hV (t := who r g k) (g := h) (by omega)
  have i2 := load_pos hV (t := who r h j) (g := g) (by omega)
  refine tX10_mayTrade_0 ?_
  rw [e1, e2, fg, fh, f24, e3, e4, l1, l2, eq_N (show g < 2147483648 by omega) (show h < 2147483648 by omega), le0_N (show load r (who r g k) h < 2147483648 by omega), le0_N (show load r (who r h j) g < 2147483648 by omega)]
  refine ⟨vp_in_nI (by omega) (by decide), vp_in_nI (by omega) (by decide), fun z => ?_, fun z => ⟨vp_in_nI (by omega) (by decide), fun z1 => ⟨vp_in_nI (by omega) (by decide), fun z2 => ?_, fun z2 => ?_⟩, fun z1 => ?_⟩⟩
  · exact q w _ Off.rf (Or.inr ⟨rfl, fun y => y.1 z⟩)
  · refine c_allowsMoved hC hP hW hV wg.1 (by omega) hh (by omega) (fun w1 v1 o1 hb1 => tX10_mayTrade_77 ⟨fun y => ?_, fun y => ?_⟩)
    · exact q w1 _ o1 (Or.inr ⟨rfl, fun m => hb1.f y m.2.2.2.1⟩)
    · have hC1 := hC.off o1 s27_ct
      have hP1 := hP.off o1 s27_cp
      have f24b : rd w1 24 (nI (g * 3 + k)) = nI (thr r g k) := by rw [rd_N (by omega)]; exact (hP1.2.1 g k (by omega) hk).2
      rw [e1, f24b]
      refine ⟨vp_in_nI (by omega) (by decide), c_allowsMoved hC1 hP1 hW hV wh.1 (by omega) hg (by omega) (fun w2 v2 o2 hb2 => tX10_mayTrade_100 ⟨fun y2 => ?_, fun y2 => ?_⟩)⟩
      · exact q w2 _ (o1.tr o2) (Or.inr ⟨rfl, fun m => hb2.f y2 m.2.2.2.2⟩)
      · exact q w2 _ (o1.tr o2) (Or.inl ⟨rfl, z, fun m => by have := i1.mpr m; omega, fun m => by have := i2.mpr m; omega, hb1.t y, hb2.t y2⟩)
  · exact q w _ Off.rf (Or.inr ⟨rfl, fun y => y.2.2.1 (i2.mp (by omega))⟩)
  · exact q w _ Off.rf (Or.inr ⟨rfl, fun y => y.2.1 (i1.mp (by omega))⟩)
/-- the reference's questions of an exchange that isn't refused at once -/
theorem g_tryEx {K : Kt} {x5 x6 : Int32} (hM : RM w r) (hW : WFr r) (hV : VP r) (hx : EXok r g k h j) (k1 : mayT r g k h j → ∀ w1, Off (· = 47) w w1 → RR (tl K lX11_swap) 161 [.ref 41, .int (nI g), .int (nI k), .int (nI h), .int (nI j), .int x5, .int (nI 0)] [] w1) (k2 : ¬ mayT r g k h j → ∀ w1, Off (· = 47) w w1 → RR (tl K lX11_swap) 161 [.ref 41, .int (nI g), .int (nI k), .int (nI h), .int (nI j), .int x5, .int (nI 5)] [] w1) : fX11_exchanges [.ref 41, .int (nI g), .int (nI k), .int (nI h), .int (nI j)] w (fun v w1 => RR (tl K lX11_swap) 126 [.ref 41, .int (nI g), .int (nI k), .int (nI h), .int (nI j), .int x5, .int x6] (psh v []) w1) := by
  obtain ⟨hW2, hV2, o, e1, e2, e3, e4, -⟩ := ex_facts hW hV hx
  obtain ⟨aa, ab⟩ := ex_allow hW hV hx
  have hx0 := hx
  obtain ⟨hg, hk, hh, hj, hn, n1, n2⟩ := hx
  have h1 := hW.2.2.1
  have a3 := (hW.2.2.2.2.2.2.2.1 g (by omega)).2.2.2
  have b3 := (hW.2.2.2.2.2.2.2.1 h (by omega)).2.2.2
  have back : ∀ (w3 : Wd) (x : Int32) (p : Prop), (p → mayT r g k h j → False) → True → Off (fun c => c = 43 ∨ c = 47) w w3 → w3.2 43 = w.2 43 → RM w3 (exR r g k h j) → (∀ w4, Off (· = 47) w w4 → RR (tl K lX11_swap) 161 [.ref 41, .int (nI g), .int (nI k), .int (nI h), .int (nI j), .int x5, .int x] [] w4) → fX11_exchanges [.ref 41, .int (nI g), .int (nI k), .int (nI h), .int (nI j)] w3 (fun v w1 => RR (tl K lX11_swap) 161 [.ref 41, .int (nI g), .int (nI k), .int (nI h), .int (nI j), .int x5, .int x] (psh v []) w1) := by
    intro w3 x p _ _ o3 l3 hM3 kk
    refine g_exchanges hM3 (by omega) (by omega) (by omega) (by omega) (fun w4 o4 l4 hM4 => ?_)
    rw [exR_back (by omega) (by omega) (by omega) (by omega) hn] at hM4
    exact kk w4 (off43 (o3.tr (o4.mono (fun c q => Or.inl q))) (by rw [l4, l3]) hM hM4)
  refine g_exchanges hM (by omega) (by omega) (by omega) (by omega) (fun w1 o1 l1 hM1 => tX11_swap_126 ?_)
  have p1 : Off (fun c => c = 43 ∨ c = 47) w w1 := o1.mono (fun c q => Or.inl q)
  refine g_isAllowedAt hM1 hW2 hV2.1 (by omega) (by omega) (fun w2 v2 o2 hb2 => ?_)
  rw [e1, e3, aa] at hb2
  have hM2 := hM1.off o2 (by decide)
  have p2 : Off (fun c => c = 43 ∨ c = 47) w w2 := p1.tr (o2.mono (fun c q => Or.inr q))
  have l2 : w2.2 43 = w.2 43 := by rw [(o2 43 (by decide)).2, l1]
  refine tX11_swap_132 ⟨fun s => ?_, fun s => ?_⟩
  · exact back w2 _ False (fun z => z.elim) trivial p2 l2 hM2 (fun w4 o4 => k2 (fun m => hb2.f s m.2.2.2.2) w4 o4)
  · refine g_isAllowedAt hM2 hW2 hV2.1 (by omega) (by omega) (fun w3 v3 o3 hb3 => ?_)
    rw [e2, e4, ab] at hb3
    have hM3 := hM2.off o3 (by decide)
    have p3 : Off (fun c => c = 43 ∨ c = 47) w w3 := p2.tr (o3.mono (fun c q => Or.inr q))
    have l3 : w3.2 43 = w.2 43 := by rw [(o3 43 (by decide)).2, l2]
    refine tX11_swap_142 ⟨fun s3 => ?_, fun s3 => ?_⟩
    · exact back w3 _ False (fun z => z.elim) trivial p3 l3 hM3 (fun w4 o4 => k2 (fun m => hb3.f s3 m.2.2.2.1) w4 o4)
    · exact back w3 _ False (fun z => z.elim) trivial p3 l3 hM3 (fun w4 o4 => k1 ⟨hn, n1, n2, hb3.t s3, hb2.t s⟩ w4 o4)
theorem p_swap (hR : RH w r) {x1 x2 x3 x4 : Int32} : AP w r fX10_swap fX11_swap [.ref 0, .int x1, .int x2, .int x3, .int x4] [.ref 41, .int x1, .int x2, .int x3, .int x4] := by
  have hRR := hR
  obtain ⟨hRA, N, A, H, h3, h4, hw, hm, hv⟩ := hR
  have hRA0 := hRA
  obtain ⟨hM, hC, hP, hW, hV, h6, h7, h8⟩ := hRA
  have h1 := hW.2.2.1
  have h0 := hW.2.1
  have N1 : ¬ (∃ g k h j, g < r 1 ∧ k < r (106 + g) ∧ h < r 1 ∧ j < r (106 + h) ∧ x1 = nI g ∧ x2 = nI k ∧ x3 = nI h ∧ x4 = nI j) → fX11_swap [.ref 41, .int x1, .int x2, .int x3, .int x4] (upI (upI w 0 10 (nI 1)) 0 12 (-1)) (fun u w2 => AK w r (some (.int (nI 0))) u w2) := by
    intro hn
    have hM1 : RM (upI (upI w 0 10 (nI 1)) 0 12 (-1)) r := RM_cf hM CF_r
    have Z : RR (tl (fun u w2 => AK w r (some (.int (nI 0))) u w2) lX11_swap) 59 [.ref 41, .int x1, .int x2, .int x3, .int x4, .null, .null] [] (upI (upI w 0 10 (nI 1)) 0 12 (-1)) :=
      tX11_swap_59 (tX11_swap_60 ⟨fun q => absurd rfl q, fun _ => tX11_swap_110 ⟨fun _ => tX11_swap_161 ⟨fun q => absurd q (by decide), fun _ => AK_of hRR (fin CF_r GF_r)⟩, fun q => absurd q (by decide)⟩⟩)
    refine tX11_swap_0 ⟨fun _ => Z, fun a => ?_⟩
    rw [rdM hM1 (by omega)] at a
    obtain ⟨g, hg, rfl⟩ := (rng (by omega)).mp a
    have hG := hW.2.2.2.2.2.2.2.1 g (by omega)
    refine ⟨by rw [nI_add]; exact vp_in_nI (by omega) (by decide), fun _ => Z, fun b => ⟨fun _ => Z, fun c => ?_⟩⟩
    rw [nI_add, rdM hM1 (by omega)] at b
    obtain ⟨k, hk, rfl⟩ := (rng (by omega)).mp b
    rw [rdM hM1 (by omega)] at c
    obtain ⟨h, hh, rfl⟩ := (rng (by omega)).mp c
    have hH := hW.2.2.2.2.2.2.2.1 h (by omega)
    refine ⟨by rw [nI_add]; exact vp_in_nI (by omega) (by decide), fun _ => Z, fun d => ?_⟩
    rw [nI_add, rdM hM1 (by omega)] at d
    obtain ⟨j, hj, rfl⟩ := (rng (by omega)).mp d
    exact absurd ⟨g, k, h, j, hg, hk, hh, hj, rfl, rfl, rfl, rfl⟩ hn
  have V20 : ∀ y : Int32, nI 0 ≤ y ∧ y ≤ w.1 13 4 - nI 1 → vp_in y 20 := fun y z => by
    rw [hC.2.1] at z
    obtain ⟨g, hg, rfl⟩ := (rng (by omega)).mp z
    exact vp_in_nI (by omega) (by decide)
  have OUT : ∀ y1 y2 : Int32, ((nI 0 ≤ y1 ∧ y1 ≤ w.1 13 4 - nI 1) ∧ nI 0 ≤ y2 ∧ y2 ≤ rd w 22 y1 - nI 1) ↔ ∃ g k, g < r 1 ∧ k < r (106 + g) ∧ y1 = nI g ∧ y2 = nI k := by
    intro y1 y2
    rw [hC.2.1]
    constructor
    · rintro ⟨a, b⟩
      obtain ⟨g, hg, rfl⟩ := (rng (by omega)).mp a
      have hG := hW.2.2.2.2.2.2.2.1 g (by omega)
      rw [rd_N (by omega), hP.1 g (by omega)] at b
      obtain ⟨k, hk, rfl⟩ := (rng (by omega)).mp b
      exact ⟨g, k, hg, hk, rfl, rfl⟩
    · rintro ⟨g, k, hg, hk, rfl, rfl⟩
      have hG := hW.2.2.2.2.2.2.2.1 g (by omega)
      rw [rd_N (by omega), hP.1 g (by omega)]
      exact ⟨(rng (by omega)).mpr ⟨g, hg, rfl⟩, (rng (by omega)).mpr ⟨k, hk, rfl⟩⟩
  unfold AP
  refine tX10_swap_0 ⟨V20 x1, fun z => ?_, fun z => ⟨V20 x3, fun y => ?_, fun y => ?_⟩⟩
  · exact N1 (fun ⟨g, k, h, j, a, b, c, d, e, f, _, _⟩ => z ((OUT _ _).mpr ⟨g, k, a, b, e, f⟩))
  · obtain ⟨g, k, hg, hk, rfl, rfl⟩ := (OUT _ _).mp z
    obtain ⟨h, j, hh, hj, rfl, rfl⟩ := (OUT _ _).mp y
    have hG := hW.2.2.2.2.2.2.2.1 g (by omega)
    have hH := hW.2.2.2.2.2.2.2.1 h (by omega)
    have e2 : nI 3 * nI g + nI k = nI (3 * g + k) := by rw [pk_mul, nI_add]
    have e3 : nI 3 * nI h + nI j = nI (3 * h + j) := by rw [pk_mul, nI_add]
    have wg := hV.2.2.1 g k (by omega) hk
    have wh := hV.2.2.1 h j (by omega) hj
    -- the reference
    have R : ∀ (w1 : Wd) (K : Kt), RM w1 r → (¬ mayT r g k h j → ∀ w2, Off (· = 47) w1 w2 → K (some (.int (nI 0))) (rfs w2 (nI 5))) → (mayT r g k h j → EXok r g k h j → ∀ w2, Off (· = 47) w1 w2 → RR (tl K lX11_swap) 161 [.ref 41, .int (nI g), .int (nI k), .int (nI h), .int (nI j), .int (nI 1), .int (nI 0)] [] w2) → fX11_swap [.ref 41, .int (nI g), .int (nI k), .int (nI h), .int (nI j)] w1 K := by
      intro w1 K hM1 k1 k2
      have B : ¬ mayT r g k h j → RR (tl K lX11_swap) 105 [.ref 41, .int (nI g), .int (nI k), .int (nI h), .int (nI j), .int (nI 1), .null] [] w1 := fun n => tX11_swap_105 (tX11_swap_110 ⟨fun _ => tX11_swap_161 ⟨fun q => absurd q (by decide), fun _ => k1 n w1 Off.rf⟩, fun q => absurd q (by decide)⟩)
      have ew : rd w1 43 (nI (126 + (3 * g + k))) = nI (who r g k) := by rw [rdM hM1 (by omega)]; rfl
      have ew2 : rd w1 43 (nI (126 + (3 * h + j))) = nI (who r h j) := by rw [rdM hM1 (by omega)]; rfl
      refine tX11_swap_0 ⟨fun q => absurd (by rw [rdM hM1 (by omega)]; exact (rng (by omega)).mpr ⟨g, hg, rfl⟩) q, fun _ => ⟨by rw [nI_add]; exact vp_in_nI (by omega) (by decide), fun q => absurd (by rw [nI_add, rdM hM1 (by omega)]; exact (rng (by omega)).mpr ⟨k, hk, rfl⟩) q, fun _ => ⟨fun q => absurd (by rw [rdM hM1 (by omega)]; exact (rng (by omega)).mpr ⟨h, hh, rfl⟩) q, fun _ => ⟨by rw [nI_add]; exact vp_in_nI (by omega) (by decide), fun q => absurd (by rw [nI_add, rdM hM1 (by omega)]; exact (rng (by omega)).mpr ⟨j, hj, rfl⟩) q, fun _ => tX11_swap_60 ⟨fun _ => ⟨fun q => ?_, fun q => ?_⟩, fun q => absurd q (by decide)⟩⟩⟩⟩⟩
      · rw [eq_N (by omega) (by omega)] at q
        exact B (fun m => m.1 q)
      · rw [eq_N (by omega) (by omega)] at q
        rw [e2, nI_add, ew]
        refine ⟨vp_in_nI (by omega) (by decide), g_isIn hM1 hW (by omega) (by omega) (fun v hb => ?_)⟩
        have hb : isB v (isIn r (who r g k) h) := hb
        refine tX11_swap_87 ⟨fun s => B (fun m => m.2.1 (hb.t s)), fun s => ?_⟩
        rw [e3, nI_add, ew2]
        refine ⟨vp_in_nI (by omega) (by decide), g_isIn hM1 hW (by omega) (by omega) (fun v2 hb2 => ?_)⟩
        have hb2 : isB v2 (isIn r (who r h j) g) := hb2
        refine tX11_swap_102 ⟨fun s2 => ?_, fun s2 => B (fun m => m.2.2.1 (hb2.t s2))⟩
        have hx : EXok r g k h j := ⟨hg, hk, hh, hj, q, hb.f s, hb2.f s2⟩
        refine tX11_swap_110 ⟨fun s3 => absurd rfl s3, fun _ => ?_⟩
        exact g_tryEx hM1 hW hV hx (fun m w2 o2 => k2 m hx w2 o2) (fun m w2 o2 => tX11_swap_161 ⟨fun q => absurd q (by decide), fun _ => k1 m w2 o2⟩)
    refine c_mayTrade hC hP hW hV hg hk hh hj (fun w1 v ho hb => tX10_swap_36 ⟨fun q => ?_, fun q => ?_⟩)
    · have hmt := hb.t q
      have hx : EXok r g k h j := ⟨hg, hk, hh, hj, hmt.1, hmt.2.1, hmt.2.2.1⟩
      obtain ⟨hW2, hV2, o, -⟩ := ex_facts hW hV hx
      have e39 := (ho 39 (by unfold S27; omega)).1
      refine c_keep (hC.off ho s27_ct) (hP.off ho s27_cp) hW hm.1 hm.2.1 (by rw [e39]; exact h3) (by rw [e39]; exact h4) (fun w2 o1 k3 k4 ks km => tX10_swap_54 ?_)
      have hC2 := (hC.off ho s27_ct).off o1 (fun c a b q => by omega)
      have hP2 := (hP.off ho s27_cp).off o1 (fun c a b q => by omega)
      have f1 : nI g * nI 3 + nI k = nI (g * 3 + k) := by rw [pk_mul, nI_add]
      have f2 : nI h * nI 3 + nI j = nI (h * 3 + j) := by rw [pk_mul, nI_add]
      have c1 : rd w2 23 (nI (g * 3 + k)) = nI (who r g k) := by rw [rd_N (by omega)]; exact (hP2.2.1 g k (by omega) hk).1
      have c2 : rd w2 23 (nI (h * 3 + j)) = nI (who r h j) := by rw [rd_N (by omega)]; exact (hP2.2.1 h j (by omega) hj).1
      have c3 : rd w2 24 (nI (g * 3 + k)) = nI (thr r g k) := by rw [rd_N (by omega)]; exact (hP2.2.1 g k (by omega) hk).2
      rw [f1, f2, c1, c2, c3]
      refine ⟨vp_in_nI (by omega) (by decide), vp_in_nI (by omega) (by decide), ?_⟩
      have hna : ∀ i, i < r (106 + g) → i ≠ k → who r g i ≠ who r h j := fun i hi _ z => hmt.2.2.1 ⟨i, hi, z⟩
      have tg : thr r g k ≤ 120 := (hW.2.2.2.2.2.2.2.2.1 (3 * g + k) (by omega)).2
      have s1 : sumN (thr (chgR r g k (who r h j) (thr r g k)) g) (r (106 + g)) ≤ r (86 + g) := by
        rw [sumN_congr (g := thr r g) _ (fun i hi => by
          rw [(chgR_w (r := r) (t := who r h j) (x := thr r g k) (show g < 20 by omega) (show k < 3 by omega) g i (by omega) (by omega)).2]
          by_cases c : i = k
          · rw [if_pos ⟨rfl, c⟩, c]
          · rw [if_neg (fun z => c z.2)])]
        exact hV.2.2.2.2.1 g (by omega)
      have hW1 := WFr_chg (r := r) hW (show g < 20 by omega) (show k < 3 by omega) (show who r h j < 8 by omega) tg
      have hV1 := VP_chg hW hV hg hk wh.1 wg.2 hna s1
      refine c_change hC2 hP2 hW hV (by omega) hk (by omega) hna (fun w3 o3 hC3 hP3 => tX10_swap_97 ?_)
      have o1r := fun i (hi : i < 126 ∨ 246 ≤ i) => chgR_o (r := r) (t := who r h j) (x := thr r g k) (show g < 20 by omega) (show k < 3 by omega) hi
      have w1r := chgR_w (r := r) (t := who r h j) (x := thr r g k) (show g < 20 by omega) (show k < 3 by omega)
      have e106 : chgR r g k (who r h j) (thr r g k) (106 + h) = r (106 + h) := o1r _ (by omega)
      have hwh : ∀ i, i < 3 → who (chgR r g k (who r h j) (thr r g k)) h i = who r h i ∧ thr (chgR r g k (who r h j) (thr r g k)) h i = thr r h i := fun i hi => by
        have := w1r h i (by omega) hi
        rw [if_neg (fun (z : h = g ∧ i = k) => hmt.1 z.1.symm), if_neg (fun (z : h = g ∧ i = k) => hmt.1 z.1.symm)] at this
        exact this
      have c4 : rd w3 24 (nI (h * 3 + j)) = nI (thr r h j) := by
        rw [rd_N (by omega), (hP3.2.1 h j (by omega) (by rw [e106]; exact hj)).2, (hwh j (by omega)).2]
      rw [f2, c4]
      refine ⟨vp_in_nI (by omega) (by decide), c_change hC3 hP3 hW1 hV1 (by omega) (by rw [e106]; exact hj) (by omega) (fun i hi _ z => ?_) (fun w4 o4 hC4 hP4 => tX10_swap_119 ?_)⟩
      · rw [e106] at hi
        rw [(hwh i (by omega)).1] at z
        exact hmt.2.1 ⟨i, hi, z⟩
      · rw [← exR_chg (by omega) (by omega) (by omega) (by omega) hmt.1] at hC4 hP4
        have hca := CA_pre ho (CA_mk hW hm.1 hm.2.1 (by rw [e39]; exact h3) (by rw [e39]; exact h4) o1 k3 k4 ks km ((o3.tr o4).mono (fun c q => by unfold SP at q; omega)) hC4 hP4)
        have hMc := RM_ca hca hM
        have hwc := HW_ca hca hw
        generalize upI (upI w4 0 10 (nI 0)) 0 12 (-1) = wc at hca hMc hwc ⊢
        refine R wc _ hMc (fun p => absurd hmt p) (fun _ _ w5 o5 => ?_)
        have go := GO_47 o5
        refine tX11_swap_161 ⟨fun _ => ?_, fun q => absurd rfl q⟩
        refine g_remembers (RM_rfs (RM_go hMc go)) (HW_rfs (HW_go go hwc)) (fun w6 og kg hgm => tX11_swap_176 ?_)
        have hM6 : RM w6 r := (RM_rfs (RM_go hMc go)).off og (by decide)
        refine g_exchanges hM6 (by omega) (by omega) (by omega) (by omega) (fun w7 o7 l7 hM7 => tX11_swap_185 ?_)
        exact act_fin hRA0 h3 h4 hw hm hv hca (GA_pre go (GA_mk og kg hgm (o7.mono (fun c q => Or.inl q)) hM7)) hW2 hV2 (fun i hi => o i (by unfold FX at hi; omega))
    · have hc : CF w (upI (upI w1 0 10 (nI 5)) 0 12 (-1)) (nI 5) := CF_a (off27 ho)
      exact R _ _ (RM_cf hM hc) (fun _ w4 o4 => AK_of hRR (fin hc (GF_b (GO_47 o4)))) (fun m => absurd m (hb.f q))
  · exact N1 (fun ⟨g, k, h, j, a, b, c, d, _, _, e, f⟩ => y ((OUT _ _).mpr ⟨h, j, c, d, e, f⟩))
end SWAP
