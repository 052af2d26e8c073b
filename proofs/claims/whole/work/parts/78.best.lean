/-! best(), bestOf(), laid() -/
theorem ne_m2 {a : Nat} (h : a < 2147483648) : ¬ nI a = -2 := fun q => by
  have := congrArg Int32.toInt q
  rw [nI_toInt h] at this
  have e : (-2 : Int32).toInt = -2 := by decide
  omega
def trV (r : Nat → Nat) (x1 x2 : Int32) : Int32 := if nI 0 ≤ x1 ∧ x1 ≤ nI (r 1) - nI 1 then (if nI 1 ≤ x2 ∧ x2 ≤ nI 5 then (if x1 + x2 ≤ nI (r 1) then nI 0 else nI 1) else nI 2) else nI 1
section BEST
variable {w : Wd} {r : Nat → Nat} {K : Kt} {x1 x2 : Int32}
theorem trV_0 (hW : WFr r) (h : trV r x1 x2 = 0) : ∃ g n, x1 = nI g ∧ x2 = nI n ∧ 1 ≤ n ∧ n ≤ 5 ∧ g + n ≤ r 1 := by
  have h1 := hW.2.2.1
  unfold trV at h
  by_cases a : nI 0 ≤ x1 ∧ x1 ≤ nI (r 1) - nI 1
  · rw [if_pos a] at h
    by_cases b : nI 1 ≤ x2 ∧ x2 ≤ nI 5
    · rw [if_pos b] at h
      by_cases c : x1 + x2 ≤ nI (r 1)
      · obtain ⟨g, hg, rfl⟩ := (rng (by omega)).mp a
        obtain ⟨n, n1, n5, rfl⟩ := (rng2 (by omega) (by omega)).mp b
        rw [nI_add, le_N (by omega) (by omega)] at c
        exact ⟨g, n, rfl, rfl, n1, n5, c⟩
      · rw [if_neg c] at h; exact absurd h (by decide)
    · rw [if_neg b] at h; exact absurd h (by decide)
  · rw [if_neg a] at h; exact absurd h (by decide)
theorem c_trb (hC : CT w r) (h : K (some (.int (trV r x1 x2))) w) : fX10_troubleOfBest [.ref 0, .int x1, .int x2] w K := by
  unfold trV at h
  refine tX10_troubleOfBest_0 ?_
  rw [hC.2.1]
  refine ⟨fun a => ⟨fun b => ⟨fun c => ?_, fun c => ?_⟩, fun b => ?_⟩, fun a => ?_⟩
  · rw [if_pos a, if_pos b, if_pos c] at h; exact h
  · rw [if_pos a, if_pos b, if_neg c] at h; exact h
  · rw [if_pos a, if_neg b] at h; exact h
  · rw [if_neg a] at h; exact h
theorem g_why (hM : RM w r) (h : K (some (.int (trV r x1 x2))) w) : fX11_whyNotBest [.ref 41, .int x1, .int x2] w K := by
  unfold trV at h
  refine tX11_whyNotBest_0 ?_
  rw [rdM hM (by omega)]
  refine ⟨fun a => ⟨fun b => ⟨fun c => ?_, fun c => ?_⟩, fun b => ?_⟩, fun a => ?_⟩
  · rw [if_pos a, if_pos b, if_pos c] at h; exact h
  · rw [if_pos a, if_pos b, if_neg c] at h; exact h
  · rw [if_pos a, if_neg b] at h; exact h
  · rw [if_neg a] at h; exact h
theorem off35 {w1 : Wd} (h : Off S35 w w1) : Off S38 w w1 := h.mono (fun c q => by unfold S35 at q; unfold S38; omega)
theorem off49 {w1 : Wd} (h : Off S49 w w1) : Off S51 w w1 := h.mono (fun c q => by unfold S49 at q; unfold S51; omega)
theorem p_best (hR : RA w r) : QP w fX10_best fX11_best [.ref 0, .int x1, .int x2] [.ref 41, .int x1, .int x2] := by
  obtain ⟨hM, hC, hP, hW, hV, h6, h7⟩ := hR
  unfold QP
  refine tX10_best_0 (c_trb hC (tX10_best_6 ⟨fun y => ?_, fun y => ?_⟩))
  · obtain ⟨g, n, rfl, rfl, n1, n5, hn⟩ := trV_0 hW y
    refine c_find hC hP hW hV hn n5 n1 (fun w1 o1 e10 _ => tX10_best_26 ?_)
    rw [e10]
    have hc : CF w (upI (upI w1 0 10 (nI 0)) 0 12 (-1)) (nI 0) := CF_a (off35 o1)
    have hMc := RM_cf hM hc
    refine tX11_best_0 (g_why hMc (tX11_best_7 ⟨fun _ => ?_, fun z => absurd y z⟩))
    rw [y]
    exact g_laysBest (RM_rfs hMc) hW hV hn n5 (fun w2 o2 _ => tX11_best_23 (fin hc (GF_a (GO_off (off49 o2)))))
  · exact tX11_best_0 (g_why (RM_cf hM CF_r) (tX11_best_7 ⟨fun z => absurd z y, fun _ => fin CF_r GF_r⟩))
theorem beR_le (hW : WFr r) {g n : Nat} (hn : g + n ≤ r 1) (h5 : n ≤ 5) : 1 ≤ (beR r g n).1 ∧ (beR r g n).1 ≤ 180001 ∧ ∀ j, j < n → (beR r g n).2 j ≤ r 0 := by
  have BB : ∀ f : Nat → Nat, (∀ j, j < n → f j ≤ r 0) → roW r g n f + 1 ≤ 180001 := fun f hb => by have := roW_le hW hn h5 hb; omega
  have a := eR_pos (r := r) (g := g) n (Nat.le_refl n) (0, fun _ => r 0)
  have b := eR_bound (r := r) (g := g) (n := n) 180001 BB n (fun _ => r 0) (0, fun _ => r 0) (Nat.le_refl _) (fun _ _ => Nat.le_refl _) (by show 0 ≤ 180001; omega) (fun _ _ _ => Nat.le_refl _)
  exact ⟨a, b.1, b.2 a⟩
theorem p_bestOf (hR : RA w r) {x3 : Int32} : QP w fX10_bestOf fX11_bestOf [.ref 0, .int x1, .int x2, .int x3] [.ref 41, .int x1, .int x2, .int x3] := by
  obtain ⟨hM, hC, hP, hW, hV, h6, h7⟩ := hR
  have h0 := hW.2.1
  unfold QP
  refine tX10_bestOf_0 (c_trb hC (tX10_bestOf_6 ⟨fun y => ⟨fun z => ?_, fun z => ?_⟩, fun y => ?_⟩))
  · obtain ⟨g, n, rfl, rfl, n1, n5, hn⟩ := trV_0 hW y
    have z1 := z
    obtain ⟨i, hi, rfl⟩ := (rng (by omega)).mp z
    obtain ⟨b1, b2, b3⟩ := beR_le hW hn n5
    have bi := b3 i hi
    refine c_find hC hP hW hV hn n5 n1 (fun w1 o1 e10 e35 => tX10_bestOf_46 ⟨vp_in_nI (by omega) (by decide), ?_⟩)
    rw [rd_N (by omega), e35 i hi]
    have hc : CF w (upI (upI w1 0 10 (nI 0)) 0 12 (-1)) (nI 0) := CF_a (off35 o1)
    have hMc := RM_cf hM hc
    refine tX11_bestOf_0 (g_why hMc (tX11_bestOf_6 ⟨fun _ => ?_, fun q => absurd y q⟩))
    rw [bI_t z1, un_1]
    refine tX11_bestOf_30 ⟨fun _ => ?_, fun q => absurd rfl q⟩
    refine g_laysBest (RM_rfs hMc) hW hV hn n5 (fun w2 o2 hB => tX11_bestOf_44 ⟨vp_in_nI (by omega) (by decide), ?_⟩)
    have hM2 := (RM_rfs hMc (T := nI 0)).off o2 (by unfold S49; omega)
    rw [rd_N (by omega), hB b1 i hi, rdM hM2 (by omega), eq_N (by omega) (by omega)]
    have F : ∀ x, QK w (some (.int x)) (some (.int x)) w2 := fun x => fin hc (GF_a (GO_off (off49 o2)))
    refine ⟨fun q => ?_, fun q => ?_⟩
    · have e : enc (r 0) ((beR r g n).2 i) = nI ((beR r g n).2 i) := if_neg q
      rw [e]; exact F _
    · have e : enc (r 0) ((beR r g n).2 i) = -2 := if_pos q
      rw [e]; exact F _
  · refine tX11_bestOf_0 (g_why (RM_cf hM CF_r) (tX11_bestOf_6 ⟨fun _ => ?_, fun q => absurd y q⟩))
    rw [bI_f z, un_0]
    exact tX11_bestOf_30 ⟨fun q => absurd q (by decide), fun _ => fin CF_r GF_r⟩
  · exact tX11_bestOf_0 (g_why (RM_cf hM CF_r) (tX11_bestOf_6 ⟨fun z => absurd z y, fun _ => tX11_bestOf_30 ⟨fun z => absurd z y, fun _ => fin CF_r GF_r⟩⟩))
/-- the row with the best laid for the first i of the games -/
def ldR (r : Nat → Nat) (g : Nat) (s : Nat → Nat) : Nat → (Nat → Nat)
  | 0 => r
  | i + 1 => if s i = r 0 then upR (ldR r g s i) (106 + (g + i)) 0 else addR (upR (ldR r g s i) (106 + (g + i)) 0) (g + i) (s i) (fullN r (s i) (g + i))
theorem ldR_no {g i : Nat} {s : Nat → Nat} (h : s i = r 0) : ldR r g s (i + 1) = upR (ldR r g s i) (106 + (g + i)) 0 := if_pos h
theorem ldR_ye {g i : Nat} {s : Nat → Nat} (h : ¬ s i = r 0) : ldR r g s (i + 1) = addR (upR (ldR r g s i) (106 + (g + i)) 0) (g + i) (s i) (fullN r (s i) (g + i)) := if_neg h
theorem ldR_ok (hW : WFr r) (hV : VP r) {g n : Nat} (hn : g + n ≤ r 1) {s : Nat → Nat} (hs : ∀ j, j < n → s j ≤ r 0) : ∀ i, i ≤ n → WFr (ldR r g s i) ∧ VP (ldR r g s i) ∧ ∀ j, j < 106 ∨ 246 ≤ j → ldR r g s i j = r j := by
  have h0 := hW.2.1
  have h1 := hW.2.2.1
  intro i
  induction i with
  | zero => intro _; exact ⟨hW, hV, fun _ _ => rfl⟩
  | succ i ih =>
    intro hi
    obtain ⟨a, b, c⟩ := ih (by omega)
    have a2 := WFr_0 a (show g + i < 20 by omega)
    have b2 := VP_0 a b (show g + i < 20 by omega)
    have c2 : ∀ j, j < 106 ∨ 246 ≤ j → upR (ldR r g s i) (106 + (g + i)) 0 j = r j := fun j hj => by rw [upR_n (by omega)]; exact c j hj
    have si := hs i (by omega)
    by_cases q : s i = r 0
    · rw [ldR_no q]; exact ⟨a2, b2, c2⟩
    · rw [ldR_ye q]
      have z : upR (ldR r g s i) (106 + (g + i)) 0 (106 + (g + i)) = 0 := upR_e _ _ _
      have hT := hW.2.2.2.2.2.2.1 (s i) (by omega)
      have v1 := hV.2.2.2.2.2.1 (s i) (by omega)
      have v2 := hV.2.2.2.2.2.2 (g + i) (by omega)
      have f1 : 1 ≤ fullN r (s i) (g + i) ∧ fullN r (s i) (g + i) ≤ 120 ∧ fullN r (s i) (g + i) ≤ r (86 + (g + i)) := by unfold fullN; omega
      refine ⟨WFr_add a2 (by omega) (by omega) f1.2.1 (by omega), VP_add a2 b2 (by rw [c2 1 (by omega)]; omega) (by rw [c2 0 (by omega)]; omega) f1.1 (by omega) ?_ (fun ⟨k, hk, _⟩ => by omega), fun j hj => (addR_o (by omega) (by omega) hj).trans (c2 j hj)⟩
      unfold leftN
      rw [z, c2 (86 + (g + i)) (by omega)]
      show _ ≤ r (86 + (g + i)) - 0
      omega
theorem full_row {q : Nat → Nat} (e : ∀ j, j < 106 ∨ 246 ≤ j → q j = r j) {t g : Nat} (ht : t < 8) (hg : g < 20) : fullN q t g = fullN r t g := by
  unfold fullN
  rw [e _ (by omega), e _ (by omega)]
theorem CA_pre38 {w1 w2 : Wd} {r1 : Nat → Nat} (h : Off S38 w w1) (hc : CA w1 w2 r r1) : CA w w2 r r1 := by
  obtain ⟨a, b, c, d, e, f, g⟩ := hc
  have o : Off (fun c => c = 0 ∨ (15 ≤ c ∧ c ≤ 40)) w w1 := h.mono (fun c q => by unfold S38 at q; omega)
  have e0 := (h 0 (by unfold S38; omega)).1
  have e39 := (h 39 (by unfold S38; omega)).1
  exact ⟨o.tr a, b, c, d, by rw [e, e0], f, fun N A H h3 h4 hm => g N A H (by rw [e39]; exact h3) (by rw [e39]; exact h4) (HM_off hm h (by unfold S38; omega))⟩
theorem GA_mk3 {w1 w2 w3 : Wd} {r1 : Nat → Nat} (o0 : Off S51 (rfs w (nI 0)) w1) (o1 : Off (fun c => c = 52 ∨ c = 41) w1 w2) (k : ∀ j, j ≠ 24 → w2.1 41 j = w1.1 41 j) {A : Nat} {H : Nat → Nat → Nat} (hH : HW w2 (min (A + 1) 10) (remH r A H)) (o2 : Off (fun c => c = 43 ∨ S51 c) w2 w3) (hM : RM w3 r1) : GA w w3 r r1 A H := by
  have p0 : Off (fun c => c = 41 ∨ c = 43 ∨ S51 c ∨ c = 52) w (rfs w (nI 0)) := ((Off.up (Or.inl rfl)).tr (Off.up (Or.inl rfl))).tr (Off.up (Or.inl rfl))
  have p1 : Off (fun c => c = 41 ∨ c = 43 ∨ S51 c ∨ c = 52) (rfs w (nI 0)) w1 := o0.mono (fun c q => Or.inr (Or.inr (Or.inl q)))
  have p2 : Off (fun c => c = 41 ∨ c = 43 ∨ S51 c ∨ c = 52) w1 w2 := o1.mono (fun c q => by omega)
  have p3 : Off (fun c => c = 41 ∨ c = 43 ∨ S51 c ∨ c = 52) w2 w3 := o2.mono (fun c q => by rcases q with q | q; exact Or.inr (Or.inl q); exact Or.inr (Or.inr (Or.inl q)))
  have e41 : w3.1 41 = w2.1 41 := (o2 41 (by unfold S51; omega)).1
  have e52 : w3.1 52 = w2.1 52 := (o2 52 (by unfold S51; omega)).1
  have f41 : w1.1 41 = (rfs w (nI 0)).1 41 := (o0 41 (by unfold S51; omega)).1
  obtain ⟨-, g1, g2, g3, g5, g6, g24⟩ := GF_r (w := w) (T := nI 0)
  refine ⟨((p0.tr p1).tr p2).tr p3, hM, ?_, ?_, ?_, ?_, ?_, ?_⟩
  · rw [e41, k 1 (by decide), f41]; exact g1
  · rw [e41, k 2 (by decide), f41]; exact g2
  · rw [e41, k 3 (by decide), f41]; exact g3
  · rw [e41, k 5 (by decide), f41]; exact g5
  · rw [e41, k 6 (by decide), f41]; exact g6
  · obtain ⟨a, b, c⟩ := hH
    exact ⟨by rw [e41]; exact a, b, fun i j hi hj => by rw [e52]; exact c i j hi hj⟩
theorem p_laid (hR : RH w r) : AP w r fX10_laid fX11_laid [.ref 0, .int x1, .int x2] [.ref 41, .int x1, .int x2] := by
  have hRR := hR
  obtain ⟨hRA, N, A, H, h3, h4, hw, hm, hv⟩ := hR
  have hRA0 := hRA
  obtain ⟨hM, hC, hP, hW, hV, h6, h7, h8⟩ := hRA
  have h0 := hW.2.1
  have h1 := hW.2.2.1
  unfold AP
  refine tX10_laid_0 (c_trb hC (tX10_laid_6 ⟨fun y => ?_, fun y => ?_⟩))
  · obtain ⟨g, n, rfl, rfl, n1, n5, hn⟩ := trV_0 hW y
    obtain ⟨b1, b2, b3⟩ := beR_le hW hn n5
    refine c_find hC hP hW hV hn n5 n1 (fun w1 o1 e10 e35 => tX10_laid_26 ?_)
    have o38 := off35 o1
    have e39 := (o38 39 (by unfold S38; omega)).1
    have hC1 := hC.off o38 s38_ct
    have hP1 := hP.off o38 s38_cp
    refine c_keep hC1 hP1 hW hm.1 hm.2.1 (by rw [e39]; exact h3) (by rw [e39]; exact h4) (fun w2 o2 k3 k4 ks km => tX10_laid_33 ?_)
    have hC2 := hC1.off o2 (fun c a b q => by omega)
    have hP2 := hP1.off o2 (fun c a b q => by omega)
    have ok := ldR_ok hW hV hn b3
    -- the end
    have E : ∀ w3, Off SP w2 w3 → CT w3 (ldR r g (beR r g n).2 n) → CP w3 (ldR r g (beR r g n).2 n) → fX11_laid [.ref 41, .int (nI g), .int (nI n)] (upI (upI w3 0 10 (nI 0)) 0 12 (-1)) (fun u w4 => AK w r (some (.int (nI (beR r g n).1 - nI 1))) u w4) := by
      intro w3 o3 hC3 hP3
      obtain ⟨hWl, hVl, ol⟩ := ok n (Nat.le_refl _)
      have hca := CA_pre38 o38 (CA_mk hW hm.1 hm.2.1 (by rw [e39]; exact h3) (by rw [e39]; exact h4) o2 k3 k4 ks km (o3.mono (fun c q => by unfold SP at q; omega)) hC3 hP3)
      have hMc := RM_ca hca hM
      have hwc := HW_ca hca hw
      generalize upI (upI w3 0 10 (nI 0)) 0 12 (-1) = wc at hca hMc hwc ⊢
      refine tX11_laid_0 (g_why hMc (tX11_laid_7 ⟨fun _ => ?_, fun z => absurd y z⟩))
      rw [y]
      refine g_laysBest (RM_rfs hMc) hW hV hn n5 (fun w4 o4 hB => tX11_laid_21 ?_)
      have go4 := GO_off (off49 o4)
      have hM4 : RM w4 r := RM_go (RM_rfs hMc) go4
      refine g_remembers hM4 (HW_go go4 (HW_rfs hwc)) (fun w5 og kg hgm => tX11_laid_26 ?_)
      have hM5 : RM w5 r := hM4.off og (by decide)
      have hB5 : B49 w5 (beR r g n) n := hB.off og (by decide)
      have L : ∀ (m i : Nat) (w6 : Wd), i + m = n → Off (fun c => c = 43) w5 w6 → RM w6 (ldR r g (beR r g n).2 i) → RR (tl (fun u w4 => AK w r (some (.int (nI (beR r g n).1 - nI 1))) u w4) lX11_laid) 29 [.ref 41, .int (nI g), .int (nI n), .int (nI (beR r g n).1 - nI 1), .int (nI i)] [] w6 := by
        intro m
        induction m with
        | zero =>
          intro i w6 hi o6 hM6
          have : i = n := by omega
          subst this
          refine tX11_laid_29 ⟨fun _ => ?_, fun q => absurd (Int32.le_refl _) q⟩
          exact act_fin hRA0 h3 h4 hw hm hv hca (GA_mk3 (off49 o4) og kg hgm (o6.mono (fun c q => Or.inl q)) hM6) hWl hVl (fun j hj => ol j (by unfold FX at hj; omega))
        | succ m ih =>
          intro i w6 hi o6 hM6
          obtain ⟨hWi, hVi, oi⟩ := ok i (by omega)
          have si := b3 i (by omega)
          have hM7 := RM_set hM6 (106 + (g + i)) 0
          have oq : ∀ j, j < 106 ∨ 246 ≤ j → upR (ldR r g (beR r g n).2 i) (106 + (g + i)) 0 j = r j := fun j hj => by rw [upR_n (by omega)]; exact oi j hj
          have hW7 := WFr_0 hWi (show g + i < 20 by omega)
          have o7 : Off (fun c => c = 43) w5 (upI w6 43 (106 + (g + i)) (nI 0)) := o6.tr (Off.up rfl)
          have e49 : rd (upI w6 43 (106 + (g + i)) (nI 0)) 49 (nI i) = nI ((beR r g n).2 i) := by rw [rd_N (by omega), (o7 49 (by decide)).1]; exact hB5 b1 i (by omega)
          refine tX11_laid_29 ⟨fun q => absurd q (by rw [le_N (by omega) (by omega)]; omega), fun _ => ?_⟩
          rw [nI_add 106 g, nI_add (106 + g) i, show 106 + g + i = 106 + (g + i) by omega, wr_N (by omega), e49, rdM hM7 (by omega), oq 0 (by omega), le_N (by omega) (by omega), nI_add g i, nI_add i 1]
          refine ⟨vp_in_nI (by omega) (by decide), vp_in_nI (by omega) (by decide), fun q => ?_, fun q => ?_⟩
          · refine ih (i + 1) _ (by omega) o7 ?_
            rw [ldR_no (by omega)]; exact hM7
          · rw [full_M hM7 hW7 (by rw [oq 0 (by omega)]; omega) (by rw [oq 1 (by omega)]; omega), full_row oq (by omega) (by omega)]
            refine ⟨by rw [nI_add]; exact vp_in_nI (by omega) (by decide), by rw [nI_add]; exact vp_in_nI (by omega) (by decide), ?_⟩
            refine g_comes hM7 (by omega) (by rw [upR_e]; omega) (fun w8 o8 hM8 => tX11_laid_94 ?_)
            rw [nI_add i 1]
            refine ih (i + 1) w8 (by omega) (o7.tr o8) ?_
            rw [ldR_ye (by omega)]; exact hM8
      exact L n 0 w5 (by omega) Off.rf hM5
    have L : ∀ (m i : Nat) (u5 : Value) (w3 : Wd), i + m = n → Off SP w2 w3 → CT w3 (ldR r g (beR r g n).2 i) → CP w3 (ldR r g (beR r g n).2 i) → RR (tl (fun v w4 => fX11_laid [.ref 41, .int (nI g), .int (nI n)] w4 (fun u w5 => AK w r v u w5)) lX10_laid) 36 [.ref 0, .int (nI g), .int (nI n), .int (trV r (nI g) (nI n)), .int (nI i), u5] [] w3 := by
      intro m
      induction m with
      | zero =>
        intro i u5 w3 hi o3 hC3 hP3
        have : i = n := by omega
        subst this
        refine tX10_laid_36 ⟨fun _ => ?_, fun q => absurd (Int32.le_refl _) q⟩
        rw [(o3 29 (by unfold SP; omega)).1, (o2 29 (by decide)).1, e10]
        exact E w3 o3 hC3 hP3
      | succ m ih =>
        intro i u5 w3 hi o3 hC3 hP3
        obtain ⟨hWi, hVi, oi⟩ := ok i (by omega)
        have si := b3 i (by omega)
        have oq : ∀ j, j < 106 ∨ 246 ≤ j → upR (ldR r g (beR r g n).2 i) (106 + (g + i)) 0 j = r j := fun j hj => by rw [upR_n (by omega)]; exact oi j hj
        refine tX10_laid_36 ⟨fun q => absurd q (by rw [le_N (by omega) (by omega)]; omega), fun _ => ?_⟩
        rw [nI_add g i]
        refine c_emptyGame hC3 hP3 hWi hVi (by omega) (fun w4 o4 hC4 hP4 => tX10_laid_53 ?_)
        have hW4 := WFr_0 hWi (show g + i < 20 by omega)
        have e35' : rd w4 35 (nI i) = enc (r 0) ((beR r g n).2 i) := by
          rw [rd_N (by omega), (o4 35 (by unfold SP; omega)).1, (o3 35 (by unfold SP; omega)).1, (o2 35 (by decide)).1]
          exact e35 i (by omega)
        rw [e35', nI_add g i, nI_add i 1]
        refine ⟨vp_in_nI (by omega) (by decide), fun q => ?_, fun q => ?_⟩
        · have sR : (beR r g n).2 i = r 0 := Classical.byContradiction (fun z => by
            have e : enc (r 0) ((beR r g n).2 i) = nI ((beR r g n).2 i) := if_neg z
            rw [e] at q
            exact ne_m2 (by omega) q)
          refine ih (i + 1) _ w4 (by omega) (o3.tr o4) ?_ ?_
          · rw [ldR_no sR]; exact hC4
          · rw [ldR_no sR]; exact hP4
        · have sR : ¬ (beR r g n).2 i = r 0 := fun z => q (if_pos z)
          have e : enc (r 0) ((beR r g n).2 i) = nI ((beR r g n).2 i) := if_neg sR
          rw [e, full_C hC4 hW4 (by rw [oq 0 (by omega)]; omega) (by rw [oq 1 (by omega)]; omega), full_row oq (by omega) (by omega)]
          refine ⟨by rw [pk_mul, nI_add]; exact vp_in_nI (by omega) (by decide), by rw [pk_mul, nI_add]; exact vp_in_nI (by omega) (by decide), ?_⟩
          have z : upR (ldR r g (beR r g n).2 i) (106 + (g + i)) 0 (106 + (g + i)) = 0 := upR_e _ _ _
          refine c_add hC4 hP4 hW4 (by omega) (by omega) (by omega) (load_no (fun ⟨k, hk, _⟩ => by omega)) (fun w5 o5 hC5 hP5 => tX10_laid_98 ?_)
          rw [nI_add i 1]
          refine ih (i + 1) _ w5 (by omega) ((o3.tr o4).tr o5) ?_ ?_
          · rw [ldR_ye sR]; exact hC5
          · rw [ldR_ye sR]; exact hP5
    exact L n 0 _ w2 (by omega) Off.rf hC2 hP2
  · exact tX11_laid_0 (g_why (RM_cf hM CF_r) (tX11_laid_7 ⟨fun z => absurd z y, fun _ => AK_of hRR (fin CF_r GF_r)⟩))
end BEST
