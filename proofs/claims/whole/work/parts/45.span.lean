/-! span: some seasons -/
noncomputable def gaI (r : Nat → Nat) (x1 : Int32) (i : Nat) : Int32 := (seasS r (x1 + nI i)).2.2.2.2.2.1
noncomputable def unh (r : Nat → Nat) (x1 : Int32) (i : Nat) : Int32 := if (seasS r (x1 + nI i)).2.2.1 = 0 then nI 1 else nI 0
def lstI (f : Nat → Int32) (z : Int32) : Nat → Int32
  | 0 => z
  | i + 1 => if f i < lstI f z i then f i else lstI f z i
def grtI (f : Nat → Int32) : Nat → Int32
  | 0 => nI 0
  | i + 1 => if grtI f i < f i then f i else grtI f i
theorem le_max (a : Int32) : a ≤ nI 2147483647 := by
  rw [Int32.le_iff_toInt_le, nI_toInt (by omega)]
  have := a.toInt_lt
  omega
theorem lst_1 (f : Nat → Int32) : lstI f (nI 2147483647) 1 = f 0 := by
  show (if f 0 < nI 2147483647 then f 0 else nI 2147483647) = f 0
  by_cases q : f 0 < nI 2147483647
  · rw [if_pos q]
  · rw [if_neg q]
    exact Int32.le_antisymm (Int32.not_lt.mp q) (le_max _)
section SPAN
variable {w : Wd} {r : Nat → Nat}
theorem p_span (hR : RA w r) {x1 x2 x3 : Int32} : QP w fX10_span fX11_span [.ref 0, .int x1, .int x2, .int x3] [.ref 41, .int x1, .int x2, .int x3] := by
  obtain ⟨hM, hC, hP, hW, hV, h6, h7, h8⟩ := hR
  have h1 := hW.2.2.1
  have eqv : (nI 1 ≤ x2 ∧ x2 ≤ nI 100) → ((nI 1 ≤ x1 ∧ x1 ≤ (nI 2147483646 - x2) + nI 1) ↔ ((nI 1 ≤ x1 ∧ x1 ≤ nI 2147483646) ∧ ¬ (nI 2147483646 - x1 < x2 - nI 1))) := by
    intro z
    obtain ⟨n, hn, hn2, rfl⟩ := (rng2 (by omega) (by omega)).mp z
    rw [sub_N (by omega), nI_add, sub_N hn, rng2 (by omega) (by omega), rng2 (by omega) (by omega)]
    constructor
    · rintro ⟨s, a, b, rfl⟩
      refine ⟨⟨s, a, by omega, rfl⟩, fun q => ?_⟩
      rw [sub_N (by omega), lt_N (by omega) (by omega)] at q
      omega
    · rintro ⟨⟨s, a, b, rfl⟩, q⟩
      rw [sub_N (by omega), lt_N (by omega) (by omega)] at q
      exact ⟨s, a, by omega, rfl⟩
  -- the reference, refused
  have RF : ∀ (w1 : Wd) (T : Int32) (c : Int32), CF w w1 T → (∀ u4 u5 u6 u7 u8, RR (tl (fun u w2 => QK w (some (.int (-1))) u w2) lX11_span) 37 [.ref 41, .int x1, .int x2, .int x3, u4, u5, u6, u7, u8] [.int c] w1) → (((nI 1 ≤ x2 ∧ x2 ≤ nI 100) ∧ (nI 1 ≤ x1 ∧ x1 ≤ (nI 2147483646 - x2) + nI 1)) ∧ c = nI 1 ∨ ¬ ((nI 1 ≤ x2 ∧ x2 ≤ nI 100) ∧ (nI 1 ≤ x1 ∧ x1 ≤ (nI 2147483646 - x2) + nI 1)) ∧ c = nI 0) → fX11_span [.ref 41, .int x1, .int x2, .int x3] w1 (fun u w2 => QK w (some (.int (-1))) u w2) := by
    intro w1 T c hc k hcc
    rcases hcc with ⟨⟨a, b⟩, rfl⟩ | ⟨a, rfl⟩
    · have b2 := (eqv a).mp b
      exact tX11_span_0 ⟨fun q => absurd a q, fun _ => ⟨fun q => absurd b2.1 q, fun _ => ⟨fun q => absurd q b2.2, fun _ => k _ _ _ _ _⟩⟩⟩
    · refine tX11_span_0 ⟨fun _ => tX11_span_36 (k _ _ _ _ _), fun q1 => ⟨fun _ => tX11_span_36 (k _ _ _ _ _), fun q2 => ⟨fun _ => tX11_span_36 (k _ _ _ _ _), fun q3 => absurd ⟨q1, (eqv q1).mpr ⟨q2, q3⟩⟩ a⟩⟩⟩
  have cz : ∃ c : Int32, (((nI 1 ≤ x2 ∧ x2 ≤ nI 100) ∧ (nI 1 ≤ x1 ∧ x1 ≤ (nI 2147483646 - x2) + nI 1)) ∧ c = nI 1 ∨ ¬ ((nI 1 ≤ x2 ∧ x2 ≤ nI 100) ∧ (nI 1 ≤ x1 ∧ x1 ≤ (nI 2147483646 - x2) + nI 1)) ∧ c = nI 0) := by
    by_cases q : ((nI 1 ≤ x2 ∧ x2 ≤ nI 100) ∧ (nI 1 ≤ x1 ∧ x1 ≤ (nI 2147483646 - x2) + nI 1))
    · exact ⟨_, Or.inl ⟨q, rfl⟩⟩
    · exact ⟨_, Or.inr ⟨q, rfl⟩⟩
  have N : ¬ (0 < r 1 ∧ (nI 0 ≤ x3 ∧ x3 ≤ nI 2)) → fX11_span [.ref 41, .int x1, .int x2, .int x3] (upI (upI w 0 10 (nI 1)) 0 12 (-1)) (fun u w2 => QK w (some (.int (-1))) u w2) := by
    intro hn
    obtain ⟨c, hcc⟩ := cz
    have h6' := txr (w1 := upI (upI w 0 10 (nI 1)) 0 12 (-1)) CF_r h6
    refine RF _ (nI 1) c CF_r (fun u4 u5 u6 u7 u8 => ?_) hcc
    have Z : ∀ x4 : Int32, RR (tl (fun u w2 => QK w (some (.int (-1))) u w2) lX11_span) 61 [.ref 41, .int x1, .int x2, .int x3, .int x4, u5, u6, u7, u8] [.int (nI 0), .ref 41] (upI (upI w 0 10 (nI 1)) 0 12 (-1)) := fun x4 => tX11_span_61 ⟨fun q => absurd q (by rw [un2_0]; decide), fun _ => by rw [un2_0]; exact fin CF_r GF_r⟩
    refine tX11_span_37 ⟨fun _ => tX11_span_60 (Z _), fun q => ⟨fun _ => tX11_span_60 (Z _), fun q2 => absurd ⟨Classical.byContradiction (fun p => q (by rw [h6', bI_f p]; rfl)), q2⟩ hn⟩⟩
  have N2 : (0 < r 1) → (nI 0 ≤ x3 ∧ x3 ≤ nI 2) → ¬ ((nI 1 ≤ x2 ∧ x2 ≤ nI 100) ∧ (nI 1 ≤ x1 ∧ x1 ≤ (nI 2147483646 - x2) + nI 1)) → fX11_span [.ref 41, .int x1, .int x2, .int x3] (upI (upI w 0 10 (nI 2)) 0 12 (-1)) (fun u w2 => QK w (some (.int (-1))) u w2) := by
    intro z z2 hn
    have h6' := txr (w1 := upI (upI w 0 10 (nI 2)) 0 12 (-1)) CF_r h6
    refine RF _ (nI 2) (nI 0) CF_r (fun u4 u5 u6 u7 u8 => ?_) (Or.inr ⟨hn, rfl⟩)
    refine tX11_span_37 ⟨fun q => by rw [h6', bI_t z] at q; exact absurd q (by decide), fun _ => ⟨fun q => absurd z2 q, fun _ => tX11_span_61 ⟨fun q => absurd q (by rw [un2_10]; decide), fun _ => by rw [un2_10]; exact fin CF_r GF_r⟩⟩⟩
  unfold QP
  refine tX10_span_0 ⟨fun z => ?_, fun z => ⟨fun z2 => ⟨fun z3 => ?_, fun z3 => ⟨fun z4 => ?_, fun z4 => ?_⟩⟩, fun z2 => ?_⟩⟩
  · rw [g0_N hC hW] at z; exact N (fun q => z q.1)
  · rw [g0_N hC hW] at z
    exact N2 z z2 (fun q => z3 q.1)
  · rw [g0_N hC hW] at z
    have z5 := (eqv z3).mp z4
    obtain ⟨n, hn, hn2, rfl⟩ := (rng2 (by omega) (by omega)).mp z3
    have Y : ∀ (w1 : Wd) (v : Int32), Off S78 w w1 → (x3 = 0 → v = sumI (unh r x1) n) → (¬ x3 = 0 → x3 = nI 1 → v = lstI (gaI r x1) (nI 2147483647) n) → (¬ x3 = 0 → ¬ x3 = nI 1 → v = grtI (gaI r x1) n) → fX11_span [.ref 41, .int x1, .int (nI n), .int x3] (upI (upI w1 0 10 (nI 0)) 0 12 (-1)) (fun u w2 => QK w (some (.int v)) u w2) := by
      intro w1 v ho v0 v1 v2
      have hc : CF w (upI (upI w1 0 10 (nI 0)) 0 12 (-1)) (nI 0) := CF_a (off78 ho)
      have hM1 := RM_cf hM hc
      have h6' := txr hc h6
      refine tX11_span_0 ⟨fun q => absurd z3 q, fun _ => ⟨fun q => absurd z5.1 q, fun _ => ⟨fun q => absurd q z5.2, fun _ => ?_⟩⟩⟩
      refine tX11_span_37 ⟨fun q => by rw [h6', bI_t z] at q; exact absurd q (by decide), fun _ => ⟨fun q => absurd z2 q, fun _ => tX11_span_61 ⟨fun _ => ?_, fun q => absurd un2_11 q⟩⟩⟩
      rw [un2_11]
      have L : ∀ (m i : Nat) (a b c : Int32) (w2 : Wd), i + m = n → GO (rfs (upI (upI w1 0 10 (nI 0)) 0 12 (-1)) (nI 0)) w2 → a = sumI (unh r x1) i → (0 < i → b = lstI (gaI r x1) (nI 2147483647) i) → c = grtI (gaI r x1) i → RR (tl (fun u w2 => QK w (some (.int v)) u w2) lX11_span) 86 [.ref 41, .int x1, .int (nI n), .int x3, .int (nI 1), .int a, .int b, .int c, .int (nI i)] [] w2 := by
        intro m
        induction m with
        | zero =>
          intro i a b c w2 hi go ha hb hcg
          have e : i = n := by omega
          rw [e] at ha hb hcg
          refine tX11_span_86 ⟨fun _ => ⟨fun q => ⟨fun q2 => ?_, fun q2 => ?_⟩, fun q => ?_⟩, fun q => absurd ?_ q⟩
          · rw [hcg, ← v2 q q2]; exact fin hc (GF_a go)
          · rw [hb (by omega), ← v1 q q2]; exact fin hc (GF_a go)
          · rw [ha, ← v0 q]; exact fin hc (GF_a go)
          · rw [le_N (by omega) (by omega)]; omega
        | succ m ih =>
          intro i a b c w2 hi go ha hb hcg
          refine tX11_span_86 ⟨fun q => absurd q ?_, fun _ => ?_⟩
          · rw [le_N (by omega) (by omega)]; omega
          refine g_goes (RM_go (RM_rfs hM1) go) hW hV (fun w3 ho3 hs3 => ?_)
          have go3 := go.tr (GO_off (off501 ho3))
          obtain ⟨d1, d2, d3, d4, d5, d6⟩ := hs3
          have r0 : rd w3 51 (nI 0) = (seasS r (x1 + nI i)).2.2.1 := by rw [rd_N (by omega)]; exact d2
          have r3 : rd w3 51 (nI 3) = gaI r x1 i := by rw [rd_N (by omega)]; exact d5
          have F : ∀ y : Int32, y = lstI (gaI r x1) (nI 2147483647) (i + 1) → ∀ a2 : Int32, a2 = sumI (unh r x1) (i + 1) → RR (tl (fun u w2 => QK w (some (.int v)) u w2) lX11_span) 146 [.ref 41, .int x1, .int (nI n), .int x3, .int (nI 1), .int a2, .int b, .int c, .int (nI i)] [.int y] w3 := by
            intro y hy a2 ha2
            refine tX11_span_146 ⟨fun q => ?_, fun q => ?_⟩
            · rw [r3, hcg] at q
              rw [nI_add i 1]
              exact ih (i + 1) _ _ _ w3 (by omega) go3 ha2 (fun _ => hy) (by rw [grtI, if_neg (Int32.not_lt.mpr q)]; exact hcg)
            · rw [r3, hcg] at q
              rw [nI_add i 1, r3]
              exact ih (i + 1) _ _ _ w3 (by omega) go3 ha2 (fun _ => hy) (by rw [grtI, if_pos (Int32.not_le.mp q)])
          have F2 : ∀ y : Int32, y = unh r x1 i → RR (tl (fun u w2 => QK w (some (.int v)) u w2) lX11_span) 116 [.ref 41, .int x1, .int (nI n), .int x3, .int (nI 1), .int a, .int b, .int c, .int (nI i)] [.int y, .int a] w3 := by
            intro y hy
            have ha2 : a + y = sumI (unh r x1) (i + 1) := by rw [ha, hy]; rfl
            refine tX11_span_116 ⟨fun q => ?_, fun q => ⟨fun q2 => ?_, fun q2 => ?_⟩⟩
            · rw [eq0_N (by omega)] at q
              refine tX11_span_135 ?_
              rw [r3]
              refine F _ ?_ _ ha2
              rw [q, lst_1]
            · rw [eq0_N (by omega)] at q
              rw [r3] at q2
              refine F _ ?_ _ ha2
              rw [hb (by omega)] at q2 ⊢
              rw [lstI, if_neg (Int32.not_lt.mpr q2)]
            · rw [eq0_N (by omega)] at q
              rw [r3] at q2
              refine tX11_span_135 ?_
              rw [r3]
              refine F _ ?_ _ ha2
              rw [hb (by omega)] at q2
              rw [lstI, if_pos (Int32.not_le.mp q2)]
          refine tX11_span_100 ⟨fun q => F2 _ ?_, fun q => F2 _ ?_⟩
          · rw [r0] at q
            unfold unh
            rw [if_neg q]
          · rw [r0] at q
            unfold unh
            rw [if_pos q]
      exact L n 0 _ _ _ _ (by omega) GO.rf rfl (fun q => by omega) rfl
    have L : ∀ (m i : Nat) (a b c : Int32) (w1 : Wd), i + m = n → Off S78 w w1 → a = sumI (unh r x1) i → b = lstI (gaI r x1) (nI 2147483647) i → c = grtI (gaI r x1) i → RR (tl (fun v w1 => fX11_span [.ref 41, .int x1, .int (nI n), .int x3] w1 (fun u w2 => QK w v u w2)) lX10_span) 67 [.ref 0, .int x1, .int (nI n), .int x3, .int a, .int b, .int c, .int (nI i)] [] w1 := by
      intro m
      induction m with
      | zero =>
        intro i a b c w1 hi ho ha hb hcg
        have e : i = n := by omega
        rw [e] at ha hb hcg
        refine tX10_span_67 ⟨fun _ => ⟨fun q => ⟨fun q2 => ?_, fun q2 => ?_⟩, fun q => ?_⟩, fun q => absurd ?_ q⟩
        · exact Y w1 _ ho (fun p => absurd p q) (fun _ p => absurd p q2) (fun _ _ => hcg)
        · exact Y w1 _ ho (fun p => absurd p q) (fun _ _ => hb) (fun _ p => absurd q2 p)
        · exact Y w1 _ ho (fun _ => ha) (fun p => absurd q p) (fun p => absurd q p)
        · rw [le_N (by omega) (by omega)]; omega
      | succ m ih =>
        intro i a b c w1 hi ho ha hb hcg
        have hC1 := hC.off ho s78_ct
        have hP1 := hP.off ho s78_cp
        refine tX10_span_67 ⟨fun q => absurd q ?_, fun _ => ?_⟩
        · rw [le_N (by omega) (by omega)]; omega
        refine c_play hC1 hP1 hW hV (fun w2 ho2 hs => ?_)
        obtain ⟨c1, c2, c3, c4, c5, c6, c7⟩ := hs
        have g6 : w2.1 37 6 = gaI r x1 i := c6
        have F2 : ∀ y : Int32, y = unh r x1 i → RR (tl (fun v w1 => fX11_span [.ref 41, .int x1, .int (nI n), .int x3] w1 (fun u w2 => QK w v u w2)) lX10_span) 101 [.ref 0, .int x1, .int (nI n), .int x3, .int a, .int b, .int c, .int (nI i)] [.int y, .int a] w2 := by
          intro y hy
          refine tX10_span_101 ?_
          rw [g6, nI_add i 1]
          exact ih (i + 1) _ _ _ w2 (by omega) (ho.tr ho2) (by rw [ha, hy]; rfl) (by rw [hb]; rfl) (by rw [hcg]; rfl)
        refine tX10_span_84 ⟨fun q => F2 _ ?_, fun q => F2 _ ?_⟩
        · rw [c3] at q
          unfold unh
          rw [if_neg q]
        · rw [c3] at q
          unfold unh
          rw [if_pos q]
    exact L n 0 _ _ _ w (by omega) Off.rf rfl rfl rfl
  · rw [g0_N hC hW] at z
    exact N2 z z2 (fun q => z4 q.2)
  · exact N (fun q => z2 q.2)
end SPAN
