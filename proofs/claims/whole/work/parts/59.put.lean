/-! put() -/
theorem GF_b {w w2 : Wd} {T : Int32} (h : GO w w2) : GF w (rfs w2 T) T := by
  obtain ⟨a1, a2, a3, a4, a5, a6, a7⟩ := h
  obtain ⟨b1, b2, b3, b4, b5, b6, b7⟩ := GF_r (w := w2) (T := T)
  exact ⟨a1.tr b1, b2, b3.trans a3, b4, b5.trans a5, b6.trans a6, b7.trans a7⟩
theorem GA_pre {w w2 w3 : Wd} {r r1 : Nat → Nat} {A : Nat} {H : Nat → Nat → Nat} (h : GO w w2) (hg : GA w2 w3 r r1 A H) : GA w w3 r r1 A H := by
  obtain ⟨a1, a2, a3, a4, a5, a6, a7⟩ := h
  obtain ⟨b1, b2, b3, b4, b5, b6, b7, b8⟩ := hg
  have o : Off (fun c => c = 41 ∨ c = 43 ∨ S51 c ∨ c = 52) w w2 := a1.mono (fun c q => by rcases q with q | q; exact Or.inl q; exact Or.inr (Or.inr (Or.inl q)))
  exact ⟨o.tr b1, b2, b3, b4.trans a3, b5, b6.trans a5, b7.trans a6, b8⟩
theorem CA_pre {w w1 w2 : Wd} {r r1 : Nat → Nat} (h : Off S27 w w1) (hc : CA w1 w2 r r1) : CA w w2 r r1 := by
  obtain ⟨a, b, c, d, e, f, g⟩ := hc
  have o : Off (fun c => c = 0 ∨ (15 ≤ c ∧ c ≤ 40)) w w1 := h.mono (fun c q => by unfold S27 at q; omega)
  have e0 := (h 0 (by unfold S27; omega)).1
  have e39 := (h 39 (by unfold S27; omega)).1
  exact ⟨o.tr a, b, c, d, by rw [e, e0], f, fun N A H h3 h4 hm => g N A H (by rw [e39]; exact h3) (by rw [e39]; exact h4) (HM_off hm h (by unfold S27; omega))⟩
theorem HW_go {w w2 : Wd} {A : Nat} {H : Nat → Nat → Nat} (h : GO w w2) (hw : HW w A H) : HW w2 A H := ⟨h.2.2.2.2.2.2.trans hw.1, hw.2.1, fun i j hi hj => by rw [(h.1 52 (by unfold S51; omega)).1]; exact hw.2.2 i j hi hj⟩
section PUT
variable {w : Wd} {r : Nat → Nat}
theorem p_put (hR : RH w r) {x1 x2 x3 x4 : Int32} : AP w r fX10_put fX11_put [.ref 0, .int x1, .int x2, .int x3, .int x4] [.ref 41, .int x1, .int x2, .int x3, .int x4] := by
  have hRR := hR
  obtain ⟨hRA, N, A, H, h3, h4, hw, hm, hv⟩ := hR
  have hRA0 := hRA
  obtain ⟨hM, hC, hP, hW, hV, h6, h7, h8⟩ := hRA
  have h1 := hW.2.2.1
  have h0 := hW.2.1
  -- the reference, refused with 1
  have N1 : ¬ ((nI 0 ≤ x1 ∧ x1 ≤ nI (r 1) - nI 1) ∧ (nI 0 ≤ x2 ∧ x2 ≤ nI (r 0) - nI 1)) → fX11_put [.ref 41, .int x1, .int x2, .int x3, .int x4] (upI (upI w 0 10 (nI 1)) 0 12 (-1)) (fun u w2 => AK w r (some (.int (-1))) u w2) := by
    intro hn
    have hM1 : RM (upI (upI w 0 10 (nI 1)) 0 12 (-1)) r := RM_cf hM CF_r
    have Z1 : ∀ y, RR (tl (fun u w2 => AK w r (some (.int (-1))) u w2) lX11_put) 51 [.ref 41, .int x1, .int x2, .int x3, .int x4, .null] [.int y, .int (nI 0)] (upI (upI w 0 10 (nI 1)) 0 12 (-1)) := fun y => by
      refine tX11_put_51 ⟨fun _ => ?_, fun q => absurd q (by rw [un2_0]; decide)⟩
      rw [un2_0]
      exact tX11_put_118 ⟨fun q => absurd q (by decide), fun _ => AK_of hRR (fin CF_r GF_r)⟩
    have Z : RR (tl (fun u w2 => AK w r (some (.int (-1))) u w2) lX11_put) 21 [.ref 41, .int x1, .int x2, .int x3, .int x4, .null] [.int (nI 0)] (upI (upI w 0 10 (nI 1)) 0 12 (-1)) := by
      refine tX11_put_21 ⟨fun _ => tX11_put_50 (Z1 _), fun q => ?_⟩
      rw [rdM hM1 (by omega)] at q
      obtain ⟨t, ht, rfl⟩ := (rng (by omega)).mp q
      exact ⟨by rw [nI_add]; exact vp_in_nI (by omega) (by decide), fun _ => tX11_put_50 (Z1 _), fun _ => Z1 _⟩
    refine tX11_put_0 ⟨fun _ => tX11_put_20 Z, fun a => ⟨fun _ => tX11_put_20 Z, fun b => absurd ⟨?_, ?_⟩ hn⟩⟩
    · rw [rdM hM1 (by omega)] at a; exact a
    · rw [rdM hM1 (by omega)] at b; exact b
  unfold AP
  refine tX10_put_0 ⟨fun z => ?_, fun z => ⟨fun z2 => ?_, fun z2 => ?_⟩⟩
  · rw [hC.2.1] at z; exact N1 (fun q => z q.1)
  · rw [hC.2.1] at z; rw [hC.1] at z2
    obtain ⟨g, hg, rfl⟩ := (rng (by omega)).mp z
    obtain ⟨t, ht, rfl⟩ := (rng (by omega)).mp z2
    have hG := hW.2.2.2.2.2.2.2.1 g (by omega)
    have hT := hW.2.2.2.2.2.2.1 t (by omega)
    have hle : leftN r g ≤ 200 := by unfold leftN; omega
    rw [stam_C hC hW ht]
    -- the reference up to its second question
    have R51 : ∀ (w1 : Wd) (K : Kt) (c : Int32), RM w1 r → c = bI (nI 1 ≤ x3 ∧ x3 ≤ nI (r (22 + t))) → RR (tl K lX11_put) 51 [.ref 41, .int (nI g), .int (nI t), .int x3, .int x4, .null] [.int c, .int (nI 1)] w1 → fX11_put [.ref 41, .int (nI g), .int (nI t), .int x3, .int x4] w1 K := by
      intro w1 K c hM1 hcc hk
      refine tX11_put_0 ⟨fun q => absurd (by rw [rdM hM1 (by omega)]; exact z) q, fun _ => ⟨fun q => absurd (by rw [rdM hM1 (by omega)]; exact z2) q, fun _ => tX11_put_21 ⟨fun q => absurd (by rw [rdM hM1 (by omega)]; exact z2) q, fun _ => ⟨by rw [nI_add]; exact vp_in_nI (by omega) (by decide), fun q => ?_, fun q => ?_⟩⟩⟩⟩
      · rw [nI_add, rdM hM1 (by omega)] at q
        rw [hcc, bI_f q] at hk
        exact tX11_put_50 hk
      · rw [nI_add, rdM hM1 (by omega)] at q
        rw [hcc, bI_t q] at hk
        exact hk
    refine ⟨by rw [pk_mul, nI_add]; exact vp_in_nI (by omega) (by decide), fun z3 => ?_, fun z3 => ?_⟩
    · obtain ⟨x, hx, hx2, rfl⟩ := (rng2 (by omega) (by omega)).mp z3
      have f0 : rd w 22 (nI g) = nI (r (106 + g)) := by rw [rd_N (by omega)]; exact hP.1 g (by omega)
      have R51b : ∀ (w1 : Wd) (K : Kt), RM w1 r → (r (106 + g) = 3 → K (some (.int (-1))) (rfs w1 (nI 3))) → (¬ r (106 + g) = 3 → ¬ x ≤ leftN r g → K (some (.int (-1))) (rfs w1 (nI 3))) → (¬ r (106 + g) = 3 → x ≤ leftN r g → isIn r t g → K (some (.int (-1))) (rfs w1 (nI 5))) → (¬ r (106 + g) = 3 → x ≤ leftN r g → ¬ isIn r t g → (¬ x4 = 0 → ∀ x5, x5 = nI 0 → RR (tl K lX11_put) 118 [.ref 41, .int (nI g), .int (nI t), .int (nI x), .int x4, .int x5] [] w1) ∧ (x4 = 0 → ∀ w2, Off (· = 47) w1 w2 → (allowT r (load r t) t g x → RR (tl K lX11_put) 118 [.ref 41, .int (nI g), .int (nI t), .int (nI x), .int x4, .int (nI 0)] [] w2) ∧ (¬ allowT r (load r t) t g x → K (some (.int (-1))) (rfs w2 (nI 5))))) → fX11_put [.ref 41, .int (nI g), .int (nI t), .int (nI x), .int x4] w1 K := by
        intro w1 K hM1 k1 k2 k3 k4
        refine R51 w1 K (nI 1) hM1 (by rw [bI_t z3]) (tX11_put_51 ⟨fun q => absurd un2_11 q, fun _ => ⟨by rw [nI_add]; exact vp_in_nI (by omega) (by decide), fun q => ?_, fun q => ?_⟩⟩)
        · rw [nI_add, rdM hM1 (by omega), eq_N (by omega) (by omega)] at q
          exact tX11_put_83 (tX11_put_116 (tX11_put_118 ⟨fun p => absurd p (by decide), fun _ => k1 q⟩))
        · rw [nI_add, rdM hM1 (by omega), eq_N (by omega) (by omega)] at q
          refine g_leftOf hM1 hW (by omega) (hV.2.2.2.2.1 g (by omega)) (tX11_put_80 ⟨fun p => ?_, fun p => ?_⟩)
          · rw [le_N (by omega) (by omega)] at p
            refine g_isIn hM1 hW (by omega) (by omega) (fun v hb => ?_)
            have hb : isB v (isIn r t g) := hb
            refine tX11_put_93 ⟨fun s => ?_, fun s => ⟨fun s2 => ?_, fun s2 => ?_⟩⟩
            · exact tX11_put_111 (tX11_put_116 (tX11_put_118 ⟨fun p => absurd p (by decide), fun _ => k3 q p (hb.t s)⟩))
            · exact tX11_put_115 (tX11_put_116 ((k4 q p (hb.f s)).1 s2 _ rfl))
            · refine g_isAloneAllowed hM1 hW hV.1 (by omega) (by omega) (by omega) (fun w2 v2 ho2 hb2 => ?_)
              rw [allow_iff hW hV.1 hg (TD_day hV.1 _ g)] at hb2
              obtain ⟨ka, kb⟩ := (k4 q p (hb.f s)).2 s2 w2 ho2
              refine tX11_put_108 ⟨fun s3 => tX11_put_115 (tX11_put_116 (ka (hb2.t s3))), fun s3 => ?_⟩
              exact tX11_put_111 (tX11_put_116 (tX11_put_118 ⟨fun p => absurd p (by decide), fun _ => kb (hb2.f s3)⟩))
          · rw [le_N (by omega) (by omega)] at p
            exact tX11_put_83 (tX11_put_116 (tX11_put_118 ⟨fun p => absurd p (by decide), fun _ => k2 q p⟩))
      refine ⟨vp_in_nI (by omega) (by decide), fun zf => ?_, fun zf => ?_⟩
      · rw [f0, le_N (by omega) (by omega)] at zf
        exact R51b _ _ (RM_cf hM CF_r) (fun _ => AK_of hRR (fin CF_r GF_r)) (fun p => by omega) (fun p => by omega) (fun p => by omega)
      · rw [f0, le_N (by omega) (by omega)] at zf
        refine c_leftIn hC hP hW hV hg (tX10_put_67 ⟨fun zl => ⟨by rw [pk_mul, nI_add]; exact vp_in_nI (by omega) (by decide), ?_⟩, fun zl => ?_⟩)
        · rw [le_N (by omega) (by omega)] at zl
          have hl0 := load_le hW (t := t) (g := g) (by omega)
          have eL : rd w 25 (nI t * nI 20 + nI g) = nI (load r t g) := by rw [pk_mul, nI_add, rd_N (by omega), hP.2.2 t g (by omega) (by omega)]
          rw [eL, le0_N (by omega)]
          refine ⟨fun zi => ?_, fun zi => ?_⟩
          · have nin : ¬ isIn r t g := fun p => by
              have := (load_pos hV (t := t) (g := g) (by omega)).mpr p
              omega
            have Y : (¬ x4 = 0 ∨ allowT r (load r t) t g x) → ∀ w1, Off S27 w w1 → fX4_keep [.ref 39] w1 (fun v w2 => RR (tl (fun v w1 => fX11_put [.ref 41, .int (nI g), .int (nI t), .int (nI x), .int x4] w1 (fun u w2 => AK w r v u w2)) lX10_put) 119 [.ref 0, .int (nI g), .int (nI t), .int (nI x), .int x4] (psh v []) w2) := by
              intro hok w1 ho
              have e39 := (ho 39 (by unfold S27; omega)).1
              refine c_keep (hC.off ho s27_ct) (hP.off ho s27_cp) hW hm.1 hm.2.1 (by rw [e39]; exact h3) (by rw [e39]; exact h4) (fun w2 o1 k3 k4 ks km => tX10_put_119 ?_)
              have hC2 := (hC.off ho s27_ct).off o1 (fun c a b q => by omega)
              have hP2 := (hP.off ho s27_cp).off o1 (fun c a b q => by omega)
              refine c_add hC2 hP2 hW (by omega) (by omega) (by omega) zi (fun w3 o3 hC3 hP3 => tX10_put_129 ⟨vp_in_nI (by omega) (by decide), ?_⟩)
              have hca := CA_pre ho (CA_mk hW hm.1 hm.2.1 (by rw [e39]; exact h3) (by rw [e39]; exact h4) o1 k3 k4 ks km (o3.mono (fun c q => by unfold SP at q; omega)) hC3 hP3)
              have er : rd w3 22 (nI g) = nI (r (106 + g) + 1) := by
                rw [rd_N (by omega), hP3.1 g (by omega), addR_f (by omega) (by omega) g (by omega), if_pos rfl]
              rw [er]
              have hMc := RM_ca hca hM
              have hwc := HW_ca hca hw
              generalize upI (upI w3 0 10 (nI 0)) 0 12 (-1) = wc at hca hMc hwc ⊢
              have D : ∀ w4, GO wc w4 → ∀ x5, x5 = nI 0 → RR (tl (fun u w2 => AK w r (some (.int (nI (r (106 + g) + 1)))) u w2) lX11_put) 118 [.ref 41, .int (nI g), .int (nI t), .int (nI x), .int x4, .int x5] [] w4 := by
                intro w4 go x5 hx5
                subst hx5
                refine tX11_put_118 ⟨fun _ => ?_, fun q => absurd rfl q⟩
                refine g_remembers (RM_rfs (RM_go hMc go)) (HW_rfs (HW_go go hwc)) (fun w5 og kg hgm => tX11_put_133 ?_)
                have hM5 : RM w5 r := (RM_rfs (RM_go hMc go)).off og (by decide)
                refine g_comes hM5 (by omega) (by omega) (fun w6 o6 hM6 => tX11_put_140 ⟨by rw [nI_add]; exact vp_in_nI (by omega) (by decide), ?_⟩)
                rw [nI_add, rdM hM6 (by omega), addR_f (by omega) (by omega) g (by omega), if_pos rfl]
                exact act_fin hRA0 h3 h4 hw hm hv hca (GA_pre go (GA_mk og kg hgm (o6.mono (fun c q => Or.inl q)) hM6)) (WFr_add hW (by omega) (by omega) (by omega) (by omega)) (VP_add hW hV hg ht hx (by omega) zl nin) (fun j hj => addR_o (by omega) (by omega) (by unfold FX at hj; omega))
              refine R51b wc _ hMc (fun p => by omega) (fun _ p => absurd zl p) (fun _ _ p => absurd p nin) (fun _ _ _ => ⟨fun _ => D wc GO.rf, fun p w4 o4 => ⟨fun _ => D w4 (GO_47 o4) _ rfl, fun p2 => ?_⟩⟩)
              rcases hok with q | q
              · exact absurd p q
              · exact absurd q p2
            refine ⟨fun zx => Y (Or.inl zx) w Off.rf, fun zx => ?_⟩
            refine c_allowsIn hC hP hW hV ht hg (by omega) (fun w1 v ho hb => tX10_put_103 ⟨fun q => Y (Or.inr (hb.t q)) w1 ho, fun q => ?_⟩)
            have hc : CF w (upI (upI w1 0 10 (nI 5)) 0 12 (-1)) (nI 5) := CF_a (off27 ho)
            refine R51b _ _ (RM_cf hM hc) (fun p => by omega) (fun _ p => absurd zl p) (fun _ _ p => absurd p nin) (fun _ _ _ => ⟨fun p => absurd zx p, fun _ w4 o4 => ⟨fun p => absurd p (hb.f q), fun _ => AK_of hRR (fin hc (GF_b (GO_47 o4)))⟩⟩)
          · have inn := (load_pos hV (t := t) (g := g) (by omega)).mp (by omega)
            exact R51b _ _ (RM_cf hM CF_r) (fun p => by omega) (fun _ p => absurd zl p) (fun _ _ _ => AK_of hRR (fin CF_r GF_r)) (fun _ _ p => absurd inn p)
        · rw [le_N (by omega) (by omega)] at zl
          exact R51b _ _ (RM_cf hM CF_r) (fun p => by omega) (fun _ _ => AK_of hRR (fin CF_r GF_r)) (fun _ p => absurd p zl) (fun _ p => absurd p zl)
    · refine R51 _ _ (nI 0) (RM_cf hM CF_r) (by rw [bI_f z3]) (tX11_put_51 ⟨fun _ => ?_, fun q => absurd q (by rw [un2_10]; decide)⟩)
      rw [un2_10]
      exact tX11_put_118 ⟨fun q => absurd q (by decide), fun _ => AK_of hRR (fin CF_r GF_r)⟩
  · rw [hC.1] at z2; exact N1 (fun q => z2 q.2)
end PUT
