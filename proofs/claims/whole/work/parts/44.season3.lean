/-! a season (3): the reference's, and both questions -/
section SEAS3
variable {w : Wd} {r : Nat → Nat}
theorem g_goes {K : Kt} (hM : RM w r) (hW : WFr r) (hV : VP r) {x : Int32} (h : ∀ w1, Off S501 w w1 → GS w1 (seasS r x) → K none w1) : fX11_goes [.ref 41, .int x] w K := by
  have h0 := hW.2.1
  have h1 := hW.2.2.1
  have n43 : ¬ S501 43 := by unfold S501; omega
  refine tX11_goes_0 ?_
  have M : ∀ (n g : Nat) (u5 u6 : Value) (w1 : Wd) (d : Int64), g + n = r 1 → Off S501 w w1 → d = (foldG r g (s0S x)).2.1 → GS w1 (foldG r g (s0S x)) → RR (tl K lX11_goes) 57 [.ref 41, .int x, .long d, .null, .int (nI g), u5, u6] [] w1 := by
    intro n
    induction n with
    | zero =>
      intro g u5 u6 w1 d hg ho hd hs
      have hM1 := hM.off ho n43
      refine tX11_goes_57 ⟨fun _ => h w1 ho ?_, fun q => absurd ?_ q⟩
      · have e : g = r 1 := by omega
        rw [e] at hs
        exact hs
      · rw [rdM hM1 (by omega), le_N (by omega) (by omega)]; omega
    | succ n ih =>
      intro g u5 u6 w1 d hg ho hd hs
      have hM1 := hM.off ho n43
      have hG := hW.2.2.2.2.2.2.2.1 g (by omega)
      refine tX11_goes_57 ⟨fun q => absurd q ?_, fun _ => ?_⟩
      · rw [rdM hM1 (by omega), le_N (by omega) (by omega)]; omega
      have M2 : ∀ (m k : Nat) (u6 : Value) (w2 : Wd) (d : Int64), k + m = r (106 + g) → Off S501 w w2 → d = (foldK r g k (foldG r g (s0S x))).2.1 → GS w2 (foldK r g k (foldG r g (s0S x))) → RR (tl K lX11_goes) 71 [.ref 41, .int x, .long d, .null, .int (nI g), .int (nI k), u6] [] w2 := by
        intro m
        induction m with
        | zero =>
          intro k u6 w2 d hk ho2 hd2 hs2
          have hM2 := hM.off ho2 n43
          refine tX11_goes_71 ⟨by rw [nI_add]; exact vp_in_nI (by omega) (by decide), fun _ => ?_, fun q => absurd ?_ q⟩
          · rw [nI_add g 1]
            have e : k = r (106 + g) := by omega
            rw [e] at hs2 hd2
            exact ih (g + 1) _ _ w2 d (by omega) ho2 hd2 hs2
          · rw [nI_add, rdM hM2 (by omega), le_N (by omega) (by omega)]; omega
        | succ m ih2 =>
          intro k u6 w2 d hk ho2 hd2 hs2
          have hM2 := hM.off ho2 n43
          have b := hW.2.2.2.2.2.2.2.2.1 (3 * g + k) (by omega)
          have v := hV.2.2.1 g k (by omega) (by omega)
          have m3 : thr r g k ≤ 120 := b.2
          have hB := BS_foldK hW (g := g) (by omega) (BS_foldG hW (BS_0 x) g (by omega)) k (who r g k)
          have hstep : foldK r g (k + 1) (foldG r g (s0S x)) = stepS r g k (foldK r g k (foldG r g (s0S x))) := rfl
          have ih3 := ih2 (k + 1)
          rw [hstep] at ih3
          clear hstep ih2
          generalize foldK r g k (foldG r g (s0S x)) = s at hd2 hs2 hB ih3
          obtain ⟨c1, c2, c3, c4, c5, c6⟩ := hs2
          have e1 : nI 186 + (nI 3 * nI g + nI k) = nI (186 + (3 * g + k)) := by rw [pk_mul, nI_add, nI_add]
          have e2 : nI 126 + (nI 3 * nI g + nI k) = nI (126 + (3 * g + k)) := by rw [pk_mul, nI_add, nI_add]
          have r1 : rd w2 43 (nI (186 + (3 * g + k))) = nI (thr r g k) := rdM hM2 (by omega)
          have r2 : rd w2 43 (nI (126 + (3 * g + k))) = nI (who r g k) := rdM hM2 (by omega)
          have r3 : rd w2 43 (nI 46 + nI g) = nI (r (46 + g)) := by rw [nI_add, rdM hM2 (by omega)]
          have r5 : rd w2 50 (nI (who r g k)) = nI (s.1 (who r g k)) - nI 1 := by rw [rd_N (by omega)]; exact c1 _ (by omega)
          have cmp : (nI (s.1 (who r g k)) - nI 1 < nI (r (46 + g))) ↔ s.1 (who r g k) ≤ r (46 + g) := by
            rw [Int32.lt_iff_toInt_lt, pk_sub_toInt (by omega) (by omega), nI_toInt (by omega)]
            omega
          refine tX11_goes_71 ⟨by rw [nI_add]; exact vp_in_nI (by omega) (by decide), fun q => absurd q ?_, fun _ => ⟨by rw [e2]; exact vp_in_nI (by omega) (by decide), by rw [nI_add]; exact vp_in_nI (by omega) (by decide), by rw [e2, r2]; exact vp_in_nI (by omega) (by decide), fun z => ⟨by rw [e1]; exact vp_in_nI (by omega) (by decide), ?_⟩, fun z => ?_⟩⟩
          · rw [nI_add, rdM hM2 (by omega), le_N (by omega) (by omega)]; omega
          · rw [e2, r2, r3, r5, cmp] at z
            rw [e1, e2, r1, r2]
            refine g_worthOf hM2 hW (by omega) (by omega) (by omega) ?_
            have r6 : rd w2 51 (nI 3) = s.2.2.2.2.2.1 := by rw [rd_N (by omega)]; exact c5
            refine g_g152 hM2 hW (by omega) (by omega) (by omega) r6 c1 c2 c3 c4 c6 (fun nx hnx w3 v3 ho3 hs3 => ?_)
            have en : nxtD s.2.1 = nx := by unfold nxtD; rw [← hd2]; exact hnx.symm
            clear hnx
            have es : stepS r g k s = stepP true (dec (lg_cmp (nx - nx / lN 1000 * lN 1000) (Int32.toInt64 (nI (riskN r (who r g k) (thr r g k)))) < 0)) nx (who r g k) (r (46 + g) + r 5 + 1) (nI (worthN r (who r g k) g (thr r g k))) (nI g) (nI 1 <<< (nI (who r g k) &&& 31)) s := by
              unfold stepS hurtS
              rw [dec_t z, en]
            rw [← es] at hs3
            rw [nI_add k 1]
            refine ih3 v3 w3 nx (by omega) (ho2.tr ho3) ?_ hs3
            rw [es]
            generalize dec (lg_cmp (nx - nx / lN 1000 * lN 1000) (Int32.toInt64 (nI (riskN r (who r g k) (thr r g k)))) < 0) = bb
            cases bb
            · rw [stepP_tf]
            · rw [stepP_tt]
          · rw [e2, r2, r3, r5, cmp] at z
            have r6 : rd w2 51 (nI 2) = s.2.2.2.2.1 := by rw [rd_N (by omega)]; exact c4
            rw [r6, show wr w2 51 (nI 2) (s.2.2.2.2.1 + nI 1) = upI w2 51 2 (s.2.2.2.2.1 + nI 1) from wr_N (by omega), nI_add k 1]
            have es : stepS r g k s = (s.1, s.2.1, s.2.2.1, s.2.2.2.1, s.2.2.2.2.1 + nI 1, s.2.2.2.2.2.1, s.2.2.2.2.2.2) := by
              unfold stepS
              rw [dec_f z, stepP_f]
            rw [es] at ih3
            refine ih3 _ _ d (by omega) (ho2.tr (Off.up (Or.inr rfl))) hd2 ⟨fun t ht => ?_, ?_, ?_, ?_, ?_, ?_⟩
            · rw [upI1, if_neg (fun z => absurd z.1 (by decide))]; exact c1 t ht
            · rw [upI1, if_neg (by decide)]; exact c2
            · rw [upI1, if_neg (by decide)]; exact c3
            · rw [upI1, if_pos ⟨rfl, rfl⟩]
            · rw [upI1, if_neg (by decide)]; exact c5
            · rw [upI1, if_neg (by decide)]; exact c6
      exact M2 (r (106 + g)) 0 _ w1 d (by omega) ho hd hs
  have Z2 : ∀ (n i : Nat) (w1 : Wd) (u3 u4 u5 u6 : Value), i + n = 5 → Off S501 w w1 → (∀ t, t < 8 → w1.1 50 t = -1) → (∀ j, j < i → w1.1 51 j = if j = 4 then -2 else nI 0) → RR (tl K lX11_goes) 23 [.ref 41, .int x, .int (nI i), u3, u4, u5, u6] [] w1 := by
    intro n
    induction n with
    | zero =>
      intro i w1 u3 u4 u5 u6 hi ho hb hz
      refine tX11_goes_23 ⟨fun _ => ?_, fun q => absurd ?_ q⟩
      · refine M (r 1) 0 _ _ w1 _ (by omega) ho rfl ⟨fun t ht => ?_, ?_, ?_, ?_, ?_, ?_⟩
        · rw [hb t ht]; show (-1 : Int32) = nI 0 - nI 1; decide
        · rw [hz 0 (by omega)]; rfl
        · rw [hz 1 (by omega)]; rfl
        · rw [hz 2 (by omega)]; rfl
        · rw [hz 3 (by omega)]; rfl
        · rw [hz 4 (by omega)]; rfl
      · rw [le_N (by omega) (by omega)]; omega
    | succ n ih =>
      intro i w1 u3 u4 u5 u6 hi ho hb hz
      refine tX11_goes_23 ⟨fun q => absurd q ?_, fun _ => ⟨fun q => ⟨vp_in_nI (by omega) (by decide), ?_⟩, fun q => ⟨vp_in_nI (by omega) (by decide), ?_⟩⟩⟩
      · rw [le_N (by omega) (by omega)]; omega
      · rw [eq_N (by omega) (by omega)] at q
        rw [nI_add i 1, wr_N (by omega)]
        refine ih (i + 1) _ _ _ _ _ (by omega) (ho.tr (Off.up (Or.inr rfl))) (fun t ht => ?_) (fun j hj => ?_)
        · rw [upI1, if_neg (fun z => absurd z.1 (by decide))]; exact hb t ht
        · rw [upI1]
          by_cases e : j = i
          · rw [if_pos ⟨rfl, e⟩, if_neg (by omega)]
          · rw [if_neg (fun z => e z.2)]; exact hz j (by omega)
      · rw [eq_N (by omega) (by omega)] at q
        rw [nI_add i 1, wr_N (by omega)]
        refine ih (i + 1) _ _ _ _ _ (by omega) (ho.tr (Off.up (Or.inr rfl))) (fun t ht => ?_) (fun j hj => ?_)
        · rw [upI1, if_neg (fun z => absurd z.1 (by decide))]; exact hb t ht
        · rw [upI1]
          by_cases e : j = i
          · rw [if_pos ⟨rfl, e⟩, if_pos (by omega)]
          · rw [if_neg (fun z => e z.2)]; exact hz j (by omega)
  have Z : ∀ (n t : Nat) (w1 : Wd), t + n = 8 → Off S501 w w1 → (∀ j, j < t → w1.1 50 j = -1) → RR (tl K lX11_goes) 2 [.ref 41, .int x, .int (nI t), .null, .null, .null, .null] [] w1 := by
    intro n
    induction n with
    | zero =>
      intro t w1 ht ho hz
      refine tX11_goes_2 ⟨fun _ => Z2 5 0 w1 _ _ _ _ (by omega) ho (fun j hj => hz j (by omega)) (fun j hj => by omega), fun q => absurd ?_ q⟩
      rw [le_N (by omega) (by omega)]; omega
    | succ n ih =>
      intro t w1 ht ho hz
      refine tX11_goes_2 ⟨fun q => absurd q ?_, fun _ => ⟨vp_in_nI (by omega) (by decide), ?_⟩⟩
      · rw [le_N (by omega) (by omega)]; omega
      · rw [nI_add t 1, wr_N (by omega)]
        refine ih (t + 1) _ (by omega) (ho.tr (Off.up (Or.inl rfl))) (fun j hj => ?_)
        rw [upI1]
        by_cases e : j = t
        · rw [if_pos ⟨rfl, e⟩]
        · rw [if_neg (fun z => e z.2)]; exact hz j (by omega)
  exact Z 8 0 w (by omega) Off.rf (fun j hj => by omega)
theorem off78 {w w1 : Wd} (h : Off S78 w w1) : Off S38 w w1 := h.mono (fun c q => by unfold S78 at q; unfold S38; omega)
theorem off501 {w w1 : Wd} (h : Off S501 w w1) : Off S51 w w1 := h.mono (fun c q => by unfold S501 at q; unfold S51; omega)
theorem p_season (hR : RA w r) {x1 x2 : Int32} : QP w fX10_season fX11_season [.ref 0, .int x1, .int x2] [.ref 41, .int x1, .int x2] := by
  obtain ⟨hM, hC, hP, hW, hV, h6, h7, h8⟩ := hR
  have h1 := hW.2.2.1
  have N : ¬ (0 < r 1 ∧ (nI 0 ≤ x2 ∧ x2 ≤ nI 4)) → fX11_season [.ref 41, .int x1, .int x2] (upI (upI w 0 10 (nI 1)) 0 12 (-1)) (fun u w2 => QK w (some (.int (-1))) u w2) := fun hn => n_season (RM_cf hM CF_r) hW (txr CF_r h6) hn (fin CF_r GF_r)
  unfold QP
  refine tX10_season_0 ⟨fun z => ?_, fun z => ⟨fun z2 => ⟨fun z3 => ?_, fun z3 => ?_⟩, fun z2 => ?_⟩⟩
  · rw [g0_N hC hW] at z; exact N (fun q => z q.1)
  · rw [g0_N hC hW] at z
    refine c_play hC hP hW hV (fun w1 ho hs => tX10_season_47 ?_)
    obtain ⟨c1, c2, c3, c4, c5, c6, c7⟩ := hs
    have hc : CF w (upI (upI w1 0 10 (nI 0)) 0 12 (-1)) (nI 0) := CF_a (off78 ho)
    obtain ⟨j, hj, hj2, rfl⟩ := (rng2 (by omega) (by omega)).mp z2
    have tI : (nI j).toInt = (j : Int) := nI_toInt (by omega)
    have Y : ∀ v : Int32, (j = 0 → v = (seasS r x1).2.2.1) → (j = 1 → v = (seasS r x1).2.2.2.1) → (j = 2 → v = (seasS r x1).2.2.2.2.1) → (j = 3 → v = (seasS r x1).2.2.2.2.2.1) → (j = 4 → v = (seasS r x1).2.2.2.2.2.2) → RR (tl (fun v w1 => fX11_season [.ref 41, .int x1, .int (nI j)] w1 (fun u w2 => QK w v u w2)) lX10_season) 53 [.ref 0, .int x1, .int (nI j)] [.int v, .ref 0] w1 := by
      intro v v0 v1 v2 v3 v4
      refine tX10_season_53 (y_season (RM_cf hM hc) hW (txr hc h6) z z2 z3 (g_goes (RM_rfs (RM_cf hM hc)) hW hV (fun w2 ho2 hs2 => tX11_season_46 ⟨vp_in_nI (by omega) (by decide), ?_⟩)))
      obtain ⟨d1, d2, d3, d4, d5, d6⟩ := hs2
      have e : rd w2 51 (nI j) = v := by
        rw [rd_N (by omega)]
        have : j = 0 ∨ j = 1 ∨ j = 2 ∨ j = 3 ∨ j = 4 := by omega
        rcases this with e | e | e | e | e
        · rw [v0 e, e, d2]
        · rw [v1 e, e, d3]
        · rw [v2 e, e, d4]
        · rw [v3 e, e, d5]
        · rw [v4 e, e, d6]
      rw [e]
      exact fin hc (GF_a (GO_off (off501 ho2)))
    refine tX10_tellSeason_0 ⟨fun q => ?_, fun q => ?_, fun q => ?_, fun q => ?_, fun q => ?_⟩
    all_goals rw [tI] at q
    · rw [c7]; exact Y _ (fun e => by omega) (fun e => by omega) (fun e => by omega) (fun e => by omega) (fun e => rfl)
    · rw [c3]; exact Y _ (fun e => rfl) (fun e => by omega) (fun e => by omega) (fun e => by omega) (fun e => by omega)
    · rw [c4]; exact Y _ (fun e => by omega) (fun e => rfl) (fun e => by omega) (fun e => by omega) (fun e => by omega)
    · rw [c5]; exact Y _ (fun e => by omega) (fun e => by omega) (fun e => rfl) (fun e => by omega) (fun e => by omega)
    · rw [c6]; exact Y _ (fun e => by omega) (fun e => by omega) (fun e => by omega) (fun e => rfl) (fun e => by omega)
  · rw [g0_N hC hW] at z
    exact m_season (RM_cf hM CF_r) hW (txr CF_r h6) z z2 z3 (fin CF_r GF_r)
  · exact N (fun q => z2 q.2)
end SEAS3
