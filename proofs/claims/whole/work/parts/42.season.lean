/-! a season: both sides play it alike -/
abbrev Sn : Type := (Nat → Nat) × Int64 × Int32 × Int32 × Int32 × Int32 × Int32
def nxtD (d : Int64) : Int64 := (lN 16807 * d) - (lN 16807 * d) / lN 2147483647 * lN 2147483647
def hurtS (r : Nat → Nat) (g k : Nat) (s : Sn) : Prop := lg_cmp (nxtD s.2.1 - nxtD s.2.1 / lN 1000 * lN 1000) (Int32.toInt64 (nI (riskN r (who r g k) (thr r g k)))) < 0
noncomputable def stepP (a b : Bool) (nx : Int64) (t dy : Nat) (vl gI bit : Int32) (s : Sn) : Sn :=
  bif a then
    (bif b then (updN s.1 t dy, nx, s.2.2.1 + nI 1, s.2.2.2.1 ||| bit, s.2.2.2.2.1, s.2.2.2.2.2.1 + vl, if s.2.2.2.2.2.2 = -2 then gI else s.2.2.2.2.2.2)
    else (s.1, nx, s.2.2.1, s.2.2.2.1, s.2.2.2.2.1, s.2.2.2.2.2.1 + vl, s.2.2.2.2.2.2))
  else (s.1, s.2.1, s.2.2.1, s.2.2.2.1, s.2.2.2.2.1 + nI 1, s.2.2.2.2.2.1, s.2.2.2.2.2.2)
theorem stepP_f (b : Bool) (nx : Int64) (t dy : Nat) (vl gI bit : Int32) (s : Sn) : stepP false b nx t dy vl gI bit s = (s.1, s.2.1, s.2.2.1, s.2.2.2.1, s.2.2.2.2.1 + nI 1, s.2.2.2.2.2.1, s.2.2.2.2.2.2) := rfl
theorem stepP_tf (nx : Int64) (t dy : Nat) (vl gI bit : Int32) (s : Sn) : stepP true false nx t dy vl gI bit s = (s.1, nx, s.2.2.1, s.2.2.2.1, s.2.2.2.2.1, s.2.2.2.2.2.1 + vl, s.2.2.2.2.2.2) := rfl
theorem stepP_tt (nx : Int64) (t dy : Nat) (vl gI bit : Int32) (s : Sn) : stepP true true nx t dy vl gI bit s = (updN s.1 t dy, nx, s.2.2.1 + nI 1, s.2.2.2.1 ||| bit, s.2.2.2.2.1, s.2.2.2.2.2.1 + vl, if s.2.2.2.2.2.2 = -2 then gI else s.2.2.2.2.2.2) := rfl
theorem stepP_b {a b : Bool} {nx : Int64} {t dy : Nat} {vl gI bit : Int32} {s : Sn} (h : ∀ t, s.1 t ≤ 120) (hd : dy ≤ 120) : ∀ u, (stepP a b nx t dy vl gI bit s).1 u ≤ 120 := by
  intro u
  cases a
  · rw [stepP_f]; exact h u
  · cases b
    · rw [stepP_tf]; exact h u
    · rw [stepP_tt]
      show updN s.1 t dy u ≤ 120
      unfold updN
      split
      · omega
      · exact h u
noncomputable def stepS (r : Nat → Nat) (g k : Nat) (s : Sn) : Sn := stepP (dec (s.1 (who r g k) ≤ r (46 + g))) (dec (hurtS r g k s)) (nxtD s.2.1) (who r g k) (r (46 + g) + r 5 + 1) (nI (worthN r (who r g k) g (thr r g k))) (nI g) (nI 1 <<< (nI (who r g k) &&& 31)) s
noncomputable def foldK (r : Nat → Nat) (g : Nat) : Nat → Sn → Sn
  | 0, s => s
  | k + 1, s => stepS r g k (foldK r g k s)
noncomputable def foldG (r : Nat → Nat) : Nat → Sn → Sn
  | 0, s => s
  | g + 1, s => foldK r g (r (106 + g)) (foldG r g s)
def s0S (x : Int32) : Sn := (fun _ => 0, Int32.toInt64 x, nI 0, nI 0, nI 0, nI 0, -2)
noncomputable def seasS (r : Nat → Nat) (x : Int32) : Sn := foldG r (r 1) (s0S x)
def CS (w : Wd) (s : Sn) : Prop := (∀ t, t < 8 → w.1 38 t = nI (s.1 t)) ∧ w.2 37 2 = s.2.1 ∧ w.1 37 3 = s.2.2.1 ∧ w.1 37 4 = s.2.2.2.1 ∧ w.1 37 5 = s.2.2.2.2.1 ∧ w.1 37 6 = s.2.2.2.2.2.1 ∧ w.1 37 7 = s.2.2.2.2.2.2
def GS (w : Wd) (s : Sn) : Prop := (∀ t, t < 8 → w.1 50 t = nI (s.1 t) - nI 1) ∧ w.1 51 0 = s.2.2.1 ∧ w.1 51 1 = s.2.2.2.1 ∧ w.1 51 2 = s.2.2.2.2.1 ∧ w.1 51 3 = s.2.2.2.2.2.1 ∧ w.1 51 4 = s.2.2.2.2.2.2
def BS (s : Sn) : Prop := ∀ t, s.1 t ≤ 120
theorem BS_step {r : Nat → Nat} (hW : WFr r) {g k : Nat} (hg : g < 20) {s : Sn} (h : BS s) : BS (stepS r g k s) := by
  have hG := hW.2.2.2.2.2.2.2.1 g hg
  have h5 := hW.2.2.2.2.2.1
  unfold stepS
  exact stepP_b h (by omega)
theorem Off.upL {S : Nat → Prop} {w : Wd} {c j : Nat} {v : Int64} (hc : S c) : Off S w (upL w c j v) := fun a ha => ⟨rfl, by funext b; rw [upL2, if_neg (fun (z : a = c ∧ b = j) => ha (by rw [z.1]; exact hc))]⟩
def S78 (c : Nat) : Prop := c = 37 ∨ c = 38
theorem s78_ct : ∀ c, 13 ≤ c → c ≤ 20 → ¬ S78 c := fun c h1 h2 h => by unfold S78 at h; omega
theorem s78_cp : ∀ c, 21 ≤ c → c ≤ 25 → ¬ S78 c := fun c h1 h2 h => by unfold S78 at h; omega
def S501 (c : Nat) : Prop := c = 50 ∨ c = 51
section SEAS
variable {w : Wd} {r : Nat → Nat} {K : Kt}
/-- the later half of an outing, with the draw as some number -/
theorem c_po100 {w2 : Wd} (hC : CT w2 r) (hW : WFr r) {g k : Nat} (hg : g < r 1) {u : Nat} (hu : u < 8) {s : Sn} {nx : Int64} {vl : Int32} (c1 : ∀ t, t < 8 → w2.1 38 t = nI (s.1 t)) (f2 : w2.2 37 2 = nx) (x3 : w2.1 37 3 = s.2.2.1) (x4 : w2.1 37 4 = s.2.2.2.1) (x5 : w2.1 37 5 = s.2.2.2.2.1) (x6 : w2.1 37 6 = s.2.2.2.2.2.1 + vl) (x7 : w2.1 37 7 = s.2.2.2.2.2.2) {y0 : Int32} {y1 : Int64} {b : Bool} (hb : b = dec (lg_cmp y1 (Int32.toInt64 y0) < 0)) (h : ∀ w1, Off S78 w2 w1 → CS w1 (stepP true b nx u (r (46 + g) + r 5 + 1) vl (nI g) (nI 1 <<< (nI u &&& 31)) s) → K none w1) : RR (tl K lX7_playOuting) 100 [.ref 37, .int (nI g), .int (nI k), .int (nI u), .int (nI (r (46 + g)))] [.int y0, .long y1] w2 := by
  have h1 := hW.2.2.1
  have hG := hW.2.2.2.2.2.2.2.1 g (by omega)
  have h5 := hW.2.2.2.2.2.1
  refine tX7_playOuting_100 ⟨fun hh => ⟨vp_in_nI (by omega) (by decide), ?_⟩, fun hh => ?_⟩
  · rw [hb, dec_t hh, stepP_tt] at h
    generalize (nI 1 <<< (nI u &&& 31)) = bit at h ⊢
    have y4 : (upI w2 37 3 (w2.1 37 3 + nI 1)).1 37 4 = s.2.2.2.1 := by rw [upI1, if_neg (by decide), x4]
    rw [y4, x3]
    have y18 : rd (upI (upI w2 37 3 (s.2.2.1 + nI 1)) 37 4 (s.2.2.2.1 ||| bit)) 18 (nI 2) = nI (r 5) := by
      rw [rd_N (by omega), upI1, if_neg (by decide), upI1, if_neg (by decide)]
      exact hC.2.2.2.2.2.1.2.2
    rw [y18, nI_add, nI_add, wr_N (by omega)]
    obtain ⟨w3, hw3⟩ : ∃ w3, w3 = upI (upI (upI w2 37 3 (s.2.2.1 + nI 1)) 37 4 (s.2.2.2.1 ||| bit)) 38 u (nI (r (46 + g) + r 5 + 1)) := ⟨_, rfl⟩
    rw [← hw3]
    have o3 : Off S78 w2 w3 := by
      rw [hw3]
      have a1 : Off S78 w2 (upI w2 37 3 (s.2.2.1 + nI 1)) := Off.up (Or.inl rfl)
      have a2 : Off S78 (upI w2 37 3 (s.2.2.1 + nI 1)) (upI (upI w2 37 3 (s.2.2.1 + nI 1)) 37 4 (s.2.2.2.1 ||| bit)) := Off.up (Or.inl rfl)
      exact (a1.tr a2).tr (Off.up (Or.inr rfl))
    have k37 : ∀ j, w3.1 37 j = if j = 4 then s.2.2.2.1 ||| bit else if j = 3 then s.2.2.1 + nI 1 else w2.1 37 j := by
      intro j
      rw [hw3, upI1, if_neg (fun z => absurd z.1 (by decide)), upI1, upI1]
      by_cases j4 : j = 4
      · rw [if_pos ⟨rfl, j4⟩, if_pos j4]
      · rw [if_neg (fun z => j4 z.2), if_neg j4]
        by_cases j3 : j = 3
        · rw [if_pos ⟨rfl, j3⟩, if_pos j3]
        · rw [if_neg (fun z => j3 z.2), if_neg j3]
    have k38 : ∀ t, t < 8 → w3.1 38 t = nI (updN s.1 u (r (46 + g) + r 5 + 1) t) := by
      intro t ht
      unfold updN
      rw [hw3, upI1]
      by_cases q : t = u
      · rw [if_pos ⟨rfl, q⟩, if_pos q]
      · rw [if_neg (fun z => q z.2), if_neg q, upI1, if_neg (fun z => absurd z.1 (by decide)), upI1, if_neg (fun z => absurd z.1 (by decide))]
        exact c1 t ht
    have kL : w3.2 37 2 = nx := by rw [hw3, upI2, upI2, upI2, f2]
    clear hw3
    have v7 : w3.1 37 7 = s.2.2.2.2.2.2 := by rw [k37, if_neg (by decide), if_neg (by decide), x7]
    have v3 : w3.1 37 3 = s.2.2.1 + nI 1 := by rw [k37, if_neg (by decide), if_pos rfl]
    have v4 : w3.1 37 4 = s.2.2.2.1 ||| bit := by rw [k37, if_pos rfl]
    have v5 : w3.1 37 5 = s.2.2.2.2.1 := by rw [k37, if_neg (by decide), if_neg (by decide), x5]
    have v6 : w3.1 37 6 = s.2.2.2.2.2.1 + vl := by rw [k37, if_neg (by decide), if_neg (by decide), x6]
    refine ⟨fun n7 => h w3 o3 ⟨k38, kL, v3, v4, v5, v6, ?_⟩, fun n7 => h _ (o3.tr (Off.up (Or.inl rfl))) ⟨fun t ht => ?_, kL, ?_, ?_, ?_, ?_, ?_⟩⟩
    · rw [v7] at n7
      show _ = if s.2.2.2.2.2.2 = -2 then nI g else s.2.2.2.2.2.2
      rw [if_neg n7, v7]
    · rw [upI1, if_neg (fun z => absurd z.1 (by decide))]; exact k38 t ht
    · rw [upI1, if_neg (by decide)]; exact v3
    · rw [upI1, if_neg (by decide)]; exact v4
    · rw [upI1, if_neg (by decide)]; exact v5
    · rw [upI1, if_neg (by decide)]; exact v6
    · rw [v7] at n7
      show _ = if s.2.2.2.2.2.2 = -2 then nI g else s.2.2.2.2.2.2
      rw [if_pos n7, upI1, if_pos ⟨rfl, rfl⟩]
  · rw [hb, dec_f hh, stepP_tf] at h
    exact h w2 Off.rf ⟨c1, f2, x3, x4, x5, x6, x7⟩
theorem c_po63 (hC : CT w r) (hP : CP w r) (hW : WFr r) (hV : VP r) {g k : Nat} (hg : g < r 1) (hk : k < r (106 + g)) {s : Sn} {y0 y1 : Int32} (hy1 : y1 = s.2.2.2.2.2.1) {d : Int64} (hd : w.2 37 2 = d) (c1 : ∀ t, t < 8 → w.1 38 t = nI (s.1 t)) (x3 : w.1 37 3 = s.2.2.1) (x4 : w.1 37 4 = s.2.2.2.1) (x5 : w.1 37 5 = s.2.2.2.2.1) (x7 : w.1 37 7 = s.2.2.2.2.2.2) (h : ∀ (nx : Int64), nx = lN 16807 * d - lN 16807 * d / lN 2147483647 * lN 2147483647 → ∀ w1, Off S78 w w1 → CS w1 (stepP true (dec (lg_cmp (nx - nx / lN 1000 * lN 1000) (Int32.toInt64 (nI (riskN r (who r g k) (thr r g k)))) < 0)) nx (who r g k) (r (46 + g) + r 5 + 1) y0 (nI g) (nI 1 <<< (nI (who r g k) &&& 31)) s) → K none w1) : RR (tl K lX7_playOuting) 63 [.ref 37, .int (nI g), .int (nI k), .int (nI (who r g k)), .int (nI (r (46 + g)))] [.int y0, .int y1, .ref 37] w := by
  have h0 := hW.2.1
  have v := hV.2.2.1 g k (by have := hW.2.2.1; omega) hk
  refine tX7_playOuting_63 ?_
  have f1 : (upI w 37 6 (y1 + y0)).2 37 2 = d := by rw [upI2]; exact hd
  rw [f1]
  obtain ⟨nx, hnx⟩ : ∃ nx, nx = lN 16807 * d - lN 16807 * d / lN 2147483647 * lN 2147483647 := ⟨_, rfl⟩
  rw [← hnx]
  have h := h nx hnx
  clear hnx
  have f2 : (upL (upI w 37 6 (y1 + y0)) 37 2 nx).2 37 2 = nx := by rw [upL2, if_pos ⟨rfl, rfl⟩]
  rw [f2]
  have a1 : Off S78 w (upI w 37 6 (y1 + y0)) := Off.up (Or.inl rfl)
  have o2 : Off S78 w (upL (upI w 37 6 (y1 + y0)) 37 2 nx) := a1.tr (Off.upL (Or.inl rfl))
  have q1 : ∀ c j, c ≠ 37 → (upL (upI w 37 6 (y1 + y0)) 37 2 nx).1 c j = w.1 c j := fun c j hc => by rw [upL1, upI1, if_neg (fun z => hc z.1)]
  have q2 : ∀ j, j ≠ 6 → (upL (upI w 37 6 (y1 + y0)) 37 2 nx).1 37 j = w.1 37 j := fun j hj => by rw [upL1, upI1, if_neg (fun z => hj z.2)]
  have q6 : (upL (upI w 37 6 (y1 + y0)) 37 2 nx).1 37 6 = s.2.2.2.2.2.1 + y0 := by rw [upL1, upI1, if_pos ⟨rfl, rfl⟩, hy1]
  generalize upL (upI w 37 6 (y1 + y0)) 37 2 nx = w2 at f2 o2 q1 q2 q6 ⊢
  refine c_riskAt (hC.off o2 s78_ct) (hP.off o2 s78_cp) hW hV hg hk ?_
  exact c_po100 (hC.off o2 s78_ct) hW hg (by omega) (fun t ht => by rw [q1 38 t (by decide)]; exact c1 t ht) f2 ((q2 3 (by decide)).trans x3) ((q2 4 (by decide)).trans x4) ((q2 5 (by decide)).trans x5) q6 ((q2 7 (by decide)).trans x7) rfl (fun w1 ho hc => h w1 (o2.tr ho) hc)
theorem c_playOuting (hC : CT w r) (hP : CP w r) (hW : WFr r) (hV : VP r) {g k : Nat} (hg : g < r 1) (hk : k < r (106 + g)) {s : Sn} (hS : CS w s) (hB : BS s) (h : ∀ w1, Off S78 w w1 → CS w1 (stepS r g k s) → K none w1) : fX7_playOuting [.ref 37, .int (nI g), .int (nI k)] w K := by
  have h0 := hW.2.1
  have h1 := hW.2.2.1
  have hG := hW.2.2.2.2.2.2.2.1 g (by omega)
  have b := hW.2.2.2.2.2.2.2.2.1 (3 * g + k) (by omega)
  have v := hV.2.2.1 g k (by omega) hk
  have p := hP.2.1 g k (by omega) hk
  have e1 : rd w 23 (nI g * nI 3 + nI k) = nI (who r g k) := by rw [pk_mul, nI_add, rd_N (by omega), p.1]
  have d1 : rd w 17 (nI g * nI 3 + nI 0) = nI (r (46 + g)) := by rw [pk_mul, nI_add, rd_N (by omega)]; exact (hC.2.2.2.2.1 g (by omega)).1
  have bk : rd w 38 (nI (who r g k)) = nI (s.1 (who r g k)) := by rw [rd_N (by omega)]; exact hS.1 _ (by omega)
  have sb := hB (who r g k)
  obtain ⟨c1, c2, c3, c4, c5, c6, c7⟩ := hS
  refine tX7_playOuting_0 ⟨by rw [pk_mul, nI_add]; exact vp_in_nI (by omega) (by decide), by rw [pk_mul, nI_add]; exact vp_in_nI (by omega) (by decide), by rw [e1]; exact vp_in_nI (by omega) (by decide), fun z => ?_, fun z => ?_⟩
  · rw [e1, d1, bk, le_N (by omega) (by omega)] at z
    rw [e1, d1]
    refine c_valueAt hC hP hW hV hg hk (c_po63 hC hP hW hV hg hk c6 c2 c1 c3 c4 c5 c7 (fun nx hnx w1 ho hc => h w1 ho ?_))
    have en : nxtD s.2.1 = nx := by unfold nxtD; exact hnx.symm
    unfold stepS hurtS
    rw [dec_t z, en]
    exact hc
  · rw [e1, d1, bk, le_N (by omega) (by omega)] at z
    refine h _ (Off.up (Or.inl rfl)) ?_
    unfold stepS
    rw [dec_f z, stepP_f]
    refine ⟨fun t ht => ?_, c2, ?_, ?_, ?_, ?_, ?_⟩
    · rw [upI1, if_neg (fun z => absurd z.1 (by decide))]; exact c1 t ht
    · rw [upI1, if_neg (by decide)]; exact c3
    · rw [upI1, if_neg (by decide)]; exact c4
    · rw [upI1, if_pos ⟨rfl, rfl⟩, c5]
    · rw [upI1, if_neg (by decide)]; exact c6
    · rw [upI1, if_neg (by decide)]; exact c7
end SEAS
