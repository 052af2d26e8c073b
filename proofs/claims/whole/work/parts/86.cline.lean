/-! the class reads a line -/
def DRt (w : Wd) (D : Nat → Nat) (nm : Nat → Nat → Nat) (B : Nat → Nat) : Prop :=
  (w.1 5 0 = nI (D 0) ∧ w.1 5 4 = nI (D 1) ∧ w.1 5 7 = nI (D 2)) ∧
  (∀ k, k < D 0 → w.2 6 k = lN (cdU (nm k) 7) ∧ w.1 7 k = nI (D (6 + k)) ∧ ∀ i, i < 4 → w.1 8 (k * 4 + i) = nI (D (14 + 8 * i + k))) ∧
  (∀ g, g < D 1 → w.1 9 (g * 3 + 0) = nI (D (46 + g)) ∧ w.1 9 (g * 3 + 1) = nI (D (66 + g)) ∧ w.1 9 (g * 3 + 2) = nI (D (86 + g))) ∧
  (∀ i, i < 3 → w.1 10 i = nI (D (3 + i)) ∧ w.1 4 i = nI (B i)) ∧
  (∀ i, i < D 2 → w.1 11 i = nI (D (246 + i)) ∧ w.1 12 i = nI (D (251 + i)))
theorem DRt.off {S : Nat → Prop} {w w1 : Wd} {D : Nat → Nat} {nm : Nat → Nat → Nat} {B : Nat → Nat} (h : DRt w D nm B) (ho : Off S w w1) (hs : ∀ c, 4 ≤ c → c ≤ 12 → ¬ S c) : DRt w1 D nm B := by
  unfold DRt at h ⊢
  rw [(ho 5 (hs 5 (by decide) (by decide))).1, (ho 6 (hs 6 (by decide) (by decide))).2, (ho 7 (hs 7 (by decide) (by decide))).1, (ho 8 (hs 8 (by decide) (by decide))).1, (ho 9 (hs 9 (by decide) (by decide))).1, (ho 10 (hs 10 (by decide) (by decide))).1, (ho 4 (hs 4 (by decide) (by decide))).1, (ho 11 (hs 11 (by decide) (by decide))).1, (ho 12 (hs 12 (by decide) (by decide))).1]
  exact h
theorem off1_d {c : Nat} (h1 : 4 ≤ c) (_ : c ≤ 12) : ¬ (c = 1) := by omega
def OKc (w : Wd) (K : Kt) (T : Nat → Nat) (n : Nat) (s : PSt) : Prop := ∀ w1, Off SRd w w1 → w1.1 3 3 = w.1 3 3 → RC w1 T n s.2.2.2 → s.2.2.2 ≤ n → DRt w1 s.1 s.2.1 s.2.2.1 → K (some (.int (nI 1))) w1
section CLINE
variable {w : Wd} {K : Kt} {T : Nat → Nat} {n : Nat} {D : Nat → Nat} {nm : Nat → Nat → Nat} {B : Nat → Nat}
theorem c_readBound (hT : ∀ j, T j < 256) (hn : n ≤ 800) {i : Nat} (hi : i < 3) {t0 : Tk} (hR : RC w T n t0.2.2) (h5 : w.1 1 5 = nI t0.2.1) (ht : t0.2.2 ≤ n) (hD : DRt w D nm B) (hB : ∀ i, i < 3 → B i ≤ 1) (hb : D 0 ≤ 8 ∧ D 1 ≤ 20 ∧ D 2 ≤ 5) (h : el (onceP T n i D nm B t0) (KFc w K) (OKc w K T n)) : fX6_readBound [.ref 3, .int (nI i)] w K := by
  have b4 : w.1 4 i = nI (B i) := (hD.2.2.2.1 i hi).2
  have bi := hB i hi
  have hl := hiB_le i
  have lb : loB i ≤ 1 := by unfold loB; split <;> omega
  refine tX6_readBound_0 ⟨vp_in_nI (by omega) (by decide), ?_⟩
  rw [rd_N (by omega), b4, eq0_N (by omega)]
  unfold onceP at h
  refine ⟨fun q => ?_, fun q => ?_⟩
  · rw [if_pos q, el_bnd] at h
    rw [ro_lo i hi, ro_hi i hi, wr_N (by omega)]
    have e1 : vp_nar .boolean (nI 1) = nI 1 := by decide
    rw [e1]
    have o4 : Off (fun c => c = 4) w (upI w 4 i (nI 1)) := Off.up rfl
    have s4 : Off SRd w (upI w 4 i (nI 1)) := o4.mono (fun c q => by unfold SRd; omega)
    refine c_readWhole hT hn (hR.off o4 (by decide) (by decide)) ht (by omega) (by omega) (el_mono h (fun f s z w1 o a b => tX6_readBound_36 ⟨fun y => absurd rfl y, fun _ => z.pre s4 w1 o a b⟩) (fun x z w1 o1 r1 p1 e6 ex b1 b2 => ?_))
    refine tX6_readBound_36 ⟨fun _ => ⟨vp_in_nI (by omega) (by decide), ?_⟩, fun y => absurd y (by decide)⟩
    rw [wr_N (by omega), e6]
    have o10 : Off (fun c => c = 10) w1 (upI w1 10 i (nI (x.1 (3 + i)))) := Off.up rfl
    have hD1 := hD
    refine z _ ((s4.tr (sr_1 o1)).tr (o10.mono (fun c q => by unfold SRd; omega))) (by rw [(o10 3 (by decide)).1, (o1 3 (by decide)).1, (o4 3 (by decide)).1]) (r1.off o10 (by decide) (by decide)) p1 ?_
    have ne : ∀ j, j ≠ 3 + i → x.1 j = D j := fun j hj => by rw [ex, upR_n hj]
    have q1 : ∀ c, c ≠ 10 → c ≠ 1 → c ≠ 4 → (upI w1 10 i (nI (x.1 (3 + i)))).1 c = w.1 c ∧ (upI w1 10 i (nI (x.1 (3 + i)))).2 c = w.2 c := fun c c10 c1 c4 => ⟨((o10 c c10).1).trans (((o1 c c1).1).trans (o4 c c4).1), ((o10 c c10).2).trans (((o1 c c1).2).trans (o4 c c4).2)⟩
    obtain ⟨⟨d0, d1, d2⟩, da, dg, db, dr⟩ := hD1
    refine ⟨⟨?_, ?_, ?_⟩, fun k hk => ?_, fun g hg => ?_, fun j hj => ?_, fun j hj => ?_⟩
    · rw [(q1 5 (by decide) (by decide) (by decide)).1, ne 0 (by omega)]; exact d0
    · rw [(q1 5 (by decide) (by decide) (by decide)).1, ne 1 (by omega)]; exact d1
    · rw [(q1 5 (by decide) (by decide) (by decide)).1, ne 2 (by omega)]; exact d2
    · have hk : k < x.1 0 := hk
      rw [ne 0 (by omega)] at hk
      rw [(q1 6 (by decide) (by decide) (by decide)).2, (q1 7 (by decide) (by decide) (by decide)).1, (q1 8 (by decide) (by decide) (by decide)).1, ne (6 + k) (by omega)]
      refine ⟨(da k hk).1, (da k hk).2.1, fun u hu => ?_⟩
      show _ = nI (x.1 (14 + 8 * u + k))
      rw [ne _ (by omega)]; exact (da k hk).2.2 u hu
    · have hg : g < x.1 1 := hg
      rw [ne 1 (by omega)] at hg
      rw [(q1 9 (by decide) (by decide) (by decide)).1, ne (46 + g) (by omega), ne (66 + g) (by omega), ne (86 + g) (by omega)]
      exact dg g hg
    · show _ = nI (x.1 (3 + j)) ∧ _ = nI (upR B i 1 j)
      constructor
      · rw [upI1]
        by_cases c : j = i
        · rw [if_pos ⟨rfl, c⟩, c]
        · rw [if_neg (fun z => c z.2), (o1 10 (by decide)).1, (o4 10 (by decide)).1, ne _ (by omega)]; exact (db j hj).1
      · rw [(o10 4 (by decide)).1, (o1 4 (by decide)).1, upI1]
        by_cases c : j = i
        · rw [if_pos ⟨rfl, c⟩, c, upR_e]
        · rw [if_neg (fun z => c z.2), upR_n c]; exact (db j hj).2
    · have hj : j < x.1 2 := hj
      rw [ne 2 (by omega)] at hj
      rw [(q1 11 (by decide) (by decide) (by decide)).1, (q1 12 (by decide) (by decide) (by decide)).1, ne (246 + j) (by omega), ne (251 + j) (by omega)]
      exact dr j hj
  · rw [if_neg q] at h
    exact c_fail (t := t0) h Off.rf h5
theorem c_readRest (hT : ∀ j, T j < 256) (hn : n ≤ 800) {t0 : Tk} (hR : RC w T n t0.2.2) (h5 : w.1 1 5 = nI t0.2.1) (ht : t0.2.2 ≤ n) (hD : DRt w D nm B) (hb : D 0 ≤ 8 ∧ D 1 ≤ 20 ∧ D 2 ≤ 5) (hd : ∀ j, D j ≤ 500) (h : el (restP T n D nm B t0) (KFc w K) (OKc w K T n)) : fX6_readRest [.ref 3] w K := by
  have hD0 := hD
  obtain ⟨⟨d0, d1, d2⟩, da, dg, db, dr⟩ := hD
  unfold restP at h
  refine tX6_readRest_0 ?_
  rw [d2, lt_N (by omega) (by omega), le0_N (by omega)]
  refine ⟨fun q => ?_, fun q => ?_⟩
  · rw [if_neg (by omega), el_bnd] at h
    have lo1 : (if D 2 = 0 then 1 else D (246 + D 2 - 1) + 1) < 2147483648 := by
      have := hd (246 + D 2 - 1)
      split <;> omega
    -- behind the first number
    have G : ∀ x2 : Int32, fX6_readWhole [.ref 3, .int (nI (if D 2 = 0 then 1 else D (246 + D 2 - 1) + 1)), .int (nI 120)] w (fun v w1 => RR (tl K lX6_readRest) 48 [.ref 3, .int (nI (D 2)), .int x2] (psh v []) w1) := by
      intro x2
      refine c_readWhole hT hn hR ht lo1 (by omega) (el_mono h (fun f s z w1 o a b => tX6_readRest_48 ⟨fun y => absurd rfl y, fun _ => z w1 o a b⟩) (fun x z w1 o1 r1 p1 e6 ex b1 b2 => ?_))
      refine tX6_readRest_48 ⟨fun _ => ⟨vp_in_nI (by omega) (by decide), ?_⟩, fun y => absurd y (by decide)⟩
      rw [wr_N (by omega), e6]
      have o11 : Off (fun c => c = 11) w1 (upI w1 11 (D 2) (nI (x.1 (246 + D 2)))) := Off.up rfl
      have s11 : Off SRd w (upI w1 11 (D 2) (nI (x.1 (246 + D 2)))) := (sr_1 o1).tr (o11.mono (fun c q => by unfold SRd; omega))
      rw [el_bnd] at z
      refine c_readWhole hT hn (r1.off o11 (by decide) (by decide)) p1 (by omega) (by omega) (el_mono z (fun f s y w2 o a b => tX6_readRest_76 ⟨fun u => absurd rfl u, fun _ => y.pre s11 w2 o a b⟩) (fun x2 z2 w2 o2 r2 p2 f6 fx c1 c2 => ?_))
      refine tX6_readRest_76 ⟨fun _ => ⟨vp_in_nI (by omega) (by decide), ?_⟩, fun y => absurd y (by decide)⟩
      rw [wr_N (by omega), f6]
      have o12 : Off (fun c => c = 12) w2 (upI w2 12 (D 2) (nI (x2.1 (251 + D 2)))) := Off.up rfl
      have e5 : (upI w2 12 (D 2) (nI (x2.1 (251 + D 2)))).1 5 7 + nI 1 = nI (D 2 + 1) := by
        rw [(o12 5 (by decide)).1, (o2 5 (by decide)).1, (o11 5 (by decide)).1, (o1 5 (by decide)).1, d2, nI_add]
      rw [e5]
      have o5 : Off (fun c => c = 5) (upI w2 12 (D 2) (nI (x2.1 (251 + D 2)))) (upI (upI w2 12 (D 2) (nI (x2.1 (251 + D 2)))) 5 7 (nI (D 2 + 1))) := Off.up rfl
      refine z2 _ (((s11.tr (sr_1 o2)).tr (o12.mono (fun c q => by unfold SRd; omega))).tr (o5.mono (fun c q => by unfold SRd; omega))) (by rw [(o5 3 (by decide)).1, (o12 3 (by decide)).1, (o2 3 (by decide)).1, (o11 3 (by decide)).1, (o1 3 (by decide)).1]) ((r2.off o12 (by decide) (by decide)).off o5 (by decide) (by decide)) p2 ?_
      have ne : ∀ j, j ≠ 2 → j ≠ 246 + D 2 → j ≠ 251 + D 2 → x2.1 j = D j := fun j j2 ja jb => by rw [fx, upR_n jb, ex, upR_n ja, upR_n j2]
      have n2 : x2.1 2 = D 2 + 1 := by rw [fx, upR_n (by omega), ex, upR_n (by omega), upR_e]
      have na : x2.1 (246 + D 2) = x.1 (246 + D 2) := by rw [fx, upR_n (by omega)]
      have q1 : ∀ c, c ≠ 1 → c ≠ 5 → c ≠ 11 → c ≠ 12 → (upI (upI w2 12 (D 2) (nI (x2.1 (251 + D 2)))) 5 7 (nI (D 2 + 1))).1 c = w.1 c ∧ (upI (upI w2 12 (D 2) (nI (x2.1 (251 + D 2)))) 5 7 (nI (D 2 + 1))).2 c = w.2 c := fun c c1 c5 c11 c12 => ⟨((o5 c c5).1).trans (((o12 c c12).1).trans (((o2 c c1).1).trans (((o11 c c11).1).trans (o1 c c1).1))), ((o5 c c5).2).trans (((o12 c c12).2).trans (((o2 c c1).2).trans (((o11 c c11).2).trans (o1 c c1).2)))⟩
      have w5 : ∀ j, j ≠ 7 → (upI (upI w2 12 (D 2) (nI (x2.1 (251 + D 2)))) 5 7 (nI (D 2 + 1))).1 5 j = w.1 5 j := fun j hj => by rw [upI1, if_neg (fun z => hj z.2), (o12 5 (by decide)).1, (o2 5 (by decide)).1, (o11 5 (by decide)).1, (o1 5 (by decide)).1]
      refine ⟨⟨?_, ?_, ?_⟩, fun k hk => ?_, fun g hg => ?_, fun j hj => ?_, fun j hj => ?_⟩
      · rw [w5 0 (by decide), ne 0 (by omega) (by omega) (by omega)]; exact d0
      · rw [w5 4 (by decide), ne 1 (by omega) (by omega) (by omega)]; exact d1
      · rw [upI1, if_pos ⟨rfl, rfl⟩, n2]
      · have hk : k < x2.1 0 := hk
        rw [ne 0 (by omega) (by omega) (by omega)] at hk
        rw [(q1 6 (by decide) (by decide) (by decide) (by decide)).2, (q1 7 (by decide) (by decide) (by decide) (by decide)).1, (q1 8 (by decide) (by decide) (by decide) (by decide)).1, ne (6 + k) (by omega) (by omega) (by omega)]
        refine ⟨(da k hk).1, (da k hk).2.1, fun u hu => ?_⟩
        show _ = nI (x2.1 (14 + 8 * u + k))
        rw [ne _ (by omega) (by omega) (by omega)]; exact (da k hk).2.2 u hu
      · have hg : g < x2.1 1 := hg
        rw [ne 1 (by omega) (by omega) (by omega)] at hg
        rw [(q1 9 (by decide) (by decide) (by decide) (by decide)).1, ne (46 + g) (by omega) (by omega) (by omega), ne (66 + g) (by omega) (by omega) (by omega), ne (86 + g) (by omega) (by omega) (by omega)]
        exact dg g hg
      · rw [(q1 10 (by decide) (by decide) (by decide) (by decide)).1, (q1 4 (by decide) (by decide) (by decide) (by decide)).1, ne (3 + j) (by omega) (by omega) (by omega)]
        exact db j hj
      · have hj : j < x2.1 2 := hj
        rw [n2] at hj
        constructor
        · rw [(o5 11 (by decide)).1, (o12 11 (by decide)).1, (o2 11 (by decide)).1, upI1]
          by_cases c : j = D 2
          · rw [if_pos ⟨rfl, c⟩, c, na]
          · rw [if_neg (fun z => c z.2), (o1 11 (by decide)).1, ne _ (by omega) (by omega) (by omega)]; exact (dr j (by omega)).1
        · rw [(o5 12 (by decide)).1, upI1]
          by_cases c : j = D 2
          · rw [if_pos ⟨rfl, c⟩, c]
          · rw [if_neg (fun z => c z.2), (o2 12 (by decide)).1, (o11 12 (by decide)).1, (o1 12 (by decide)).1, ne _ (by omega) (by omega) (by omega)]; exact (dr j (by omega)).2
    refine ⟨fun y => ?_, fun y => ?_⟩
    · have := G (nI 1)
      rw [if_pos y] at this
      exact this
    · have r11 : rd w 11 (nI (D 2) - nI 1) + nI 1 = nI (D (246 + D 2 - 1) + 1) := by
        rw [sub_N (by omega), rd_N (by omega), (dr (D 2 - 1) (by omega)).1, nI_add, show 246 + (D 2 - 1) = 246 + D 2 - 1 by omega]
      rw [r11]
      have := G (nI (D (246 + D 2 - 1) + 1))
      rw [if_neg y] at this
      exact ⟨by rw [sub_N (by omega)]; exact vp_in_nI (by omega) (by decide), this⟩
  · rw [if_pos (by omega)] at h
    exact c_fail (t := t0) h Off.rf h5
end CLINE
