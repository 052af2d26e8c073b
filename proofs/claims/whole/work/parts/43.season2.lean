/-! a season (2) -/
theorem BS_foldK {r : Nat → Nat} (hW : WFr r) {g : Nat} (hg : g < 20) {s : Sn} (h : BS s) : ∀ k, BS (foldK r g k s)
  | 0 => h
  | k + 1 => BS_step hW hg (BS_foldK hW hg h k)
theorem BS_foldG {r : Nat → Nat} (hW : WFr r) {s : Sn} (h : BS s) : ∀ g, g ≤ 20 → BS (foldG r g s)
  | 0, _ => h
  | g + 1, hg => BS_foldK hW (by omega) (BS_foldG hW h g (by omega)) _
theorem BS_0 (x : Int32) : BS (s0S x) := fun _ => Nat.zero_le _
section SEAS2
variable {w : Wd} {r : Nat → Nat} {K : Kt}
theorem c_play (hC : CT w r) (hP : CP w r) (hW : WFr r) (hV : VP r) {x : Int32} (h : ∀ w1, Off S78 w w1 → CS w1 (seasS r x) → K none w1) : fX7_play [.ref 37, .int x] w K := by
  have h1 := hW.2.2.1
  refine tX7_play_0 ?_
  have M : ∀ (n g : Nat) (u : Value) (w1 : Wd), g + n = r 1 → Off S78 w w1 → CS w1 (foldG r g (s0S x)) → RR (tl K lX7_play) 55 [.ref 37, .int x, .int (nI g), u] [] w1 := by
    intro n
    induction n with
    | zero =>
      intro g u w1 hg ho hs
      have hC1 := hC.off ho s78_ct
      refine tX7_play_55 ⟨fun _ => h w1 ho ?_, fun q => absurd ?_ q⟩
      · have e : g = r 1 := by omega
        rw [e] at hs
        exact hs
      · rw [hC1.2.1, le_N (by omega) (by omega)]; omega
    | succ n ih =>
      intro g u w1 hg ho hs
      have hC1 := hC.off ho s78_ct
      have hG := hW.2.2.2.2.2.2.2.1 g (by omega)
      refine tX7_play_55 ⟨fun q => absurd q ?_, fun _ => ?_⟩
      · rw [hC1.2.1, le_N (by omega) (by omega)]; omega
      have M2 : ∀ (m k : Nat) (w2 : Wd), k + m = r (106 + g) → Off S78 w w2 → CS w2 (foldK r g k (foldG r g (s0S x))) → RR (tl K lX7_play) 71 [.ref 37, .int x, .int (nI g), .int (nI k)] [] w2 := by
        intro m
        induction m with
        | zero =>
          intro k w2 hk ho2 hs2
          have hP2 := hP.off ho2 s78_cp
          refine tX7_play_71 ⟨vp_in_nI (by omega) (by decide), fun _ => ?_, fun q => absurd ?_ q⟩
          · rw [nI_add g 1]
            have e : k = r (106 + g) := by omega
            rw [e] at hs2
            exact ih (g + 1) _ w2 (by omega) ho2 hs2
          · rw [rd_N (by omega), hP2.1 g (by omega), le_N (by omega) (by omega)]; omega
        | succ m ih2 =>
          intro k w2 hk ho2 hs2
          have hC2 := hC.off ho2 s78_ct
          have hP2 := hP.off ho2 s78_cp
          refine tX7_play_71 ⟨vp_in_nI (by omega) (by decide), fun q => absurd q ?_, fun _ => ?_⟩
          · rw [rd_N (by omega), hP2.1 g (by omega), le_N (by omega) (by omega)]; omega
          · refine c_playOuting hC2 hP2 hW hV (by omega) (by omega) hs2 (BS_foldK hW (by omega) (BS_foldG hW (BS_0 x) g (by omega)) k) (fun w3 ho3 hs3 => tX7_play_93 ?_)
            rw [nI_add k 1]
            exact ih2 (k + 1) w3 (by omega) (ho2.tr ho3) hs3
      exact M2 (r (106 + g)) 0 w1 (by omega) ho hs
  have Z : ∀ (n t : Nat) (w1 : Wd), t + n = 8 → Off S78 w w1 → (∀ j, j < t → w1.1 38 j = nI 0) → RR (tl K lX7_play) 2 [.ref 37, .int x, .int (nI t), .null] [] w1 := by
    intro n
    induction n with
    | zero =>
      intro t w1 ht ho hz
      refine tX7_play_2 ⟨fun _ => ?_, fun q => absurd ?_ q⟩
      · generalize hL : Int32.toInt64 x = X
        have p0 : Off S78 w1 (upL w1 37 2 X) := Off.upL (Or.inl rfl)
        have p1 : Off S78 (upL w1 37 2 X) (upI (upL w1 37 2 X) 37 3 (nI 0)) := Off.up (Or.inl rfl)
        have p2 : Off S78 (upI (upL w1 37 2 X) 37 3 (nI 0)) (upI (upI (upL w1 37 2 X) 37 3 (nI 0)) 37 4 (nI 0)) := Off.up (Or.inl rfl)
        have p3 : Off S78 (upI (upI (upL w1 37 2 X) 37 3 (nI 0)) 37 4 (nI 0)) (upI (upI (upI (upL w1 37 2 X) 37 3 (nI 0)) 37 4 (nI 0)) 37 5 (nI 0)) := Off.up (Or.inl rfl)
        have p4 : Off S78 (upI (upI (upI (upL w1 37 2 X) 37 3 (nI 0)) 37 4 (nI 0)) 37 5 (nI 0)) (upI (upI (upI (upI (upL w1 37 2 X) 37 3 (nI 0)) 37 4 (nI 0)) 37 5 (nI 0)) 37 6 (nI 0)) := Off.up (Or.inl rfl)
        have p5 : Off S78 (upI (upI (upI (upI (upL w1 37 2 X) 37 3 (nI 0)) 37 4 (nI 0)) 37 5 (nI 0)) 37 6 (nI 0)) (upI (upI (upI (upI (upI (upL w1 37 2 X) 37 3 (nI 0)) 37 4 (nI 0)) 37 5 (nI 0)) 37 6 (nI 0)) 37 7 (-2)) := Off.up (Or.inl rfl)
        refine M (r 1) 0 _ _ (by omega) (((((((ho.tr p0).tr p1).tr p2).tr p3).tr p4).tr p5)) ⟨fun j hj => ?_, ?_, ?_, ?_, ?_, ?_, ?_⟩
        · rw [upI1, if_neg (fun z => absurd z.1 (by decide)), upI1, if_neg (fun z => absurd z.1 (by decide)), upI1, if_neg (fun z => absurd z.1 (by decide)), upI1, if_neg (fun z => absurd z.1 (by decide)), upI1, if_neg (fun z => absurd z.1 (by decide)), upL1]
          exact hz j (by omega)
        · rw [upI2, upI2, upI2, upI2, upI2, upL2, if_pos ⟨rfl, rfl⟩, ← hL]; rfl
        · rw [upI1, if_neg (by decide), upI1, if_neg (by decide), upI1, if_neg (by decide), upI1, if_neg (by decide), upI1, if_pos ⟨rfl, rfl⟩]; rfl
        · rw [upI1, if_neg (by decide), upI1, if_neg (by decide), upI1, if_neg (by decide), upI1, if_pos ⟨rfl, rfl⟩]; rfl
        · rw [upI1, if_neg (by decide), upI1, if_neg (by decide), upI1, if_pos ⟨rfl, rfl⟩]; rfl
        · rw [upI1, if_neg (by decide), upI1, if_pos ⟨rfl, rfl⟩]; rfl
        · rw [upI1, if_pos ⟨rfl, rfl⟩]; rfl
      · rw [le_N (by omega) (by omega)]; omega
    | succ n ih =>
      intro t w1 ht ho hz
      refine tX7_play_2 ⟨fun q => absurd q ?_, fun _ => ⟨vp_in_nI (by omega) (by decide), ?_⟩⟩
      · rw [le_N (by omega) (by omega)]; omega
      · rw [nI_add t 1, wr_N (by omega)]
        refine ih (t + 1) _ (by omega) (ho.tr (Off.up (Or.inr rfl))) (fun j hj => ?_)
        rw [upI1]
        by_cases e : j = t
        · rw [if_pos ⟨rfl, e⟩]
        · rw [if_neg (fun z => e z.2)]; exact hz j (by omega)
  exact Z 8 0 w (by omega) Off.rf (fun j hj => by omega)
theorem g_g238 (hM : RM w r) (hW : WFr r) {g k u : Nat} (hg : g < 20) (hu : u < 8) {x : Int32} {nx : Int64} {y0 : Int32} {s : Sn} (c1 : ∀ t, t < 8 → w.1 50 t = nI (s.1 t) - nI 1) {hu3 wh mi ga : Int32} (x0 : w.1 51 0 = hu3) (x1 : w.1 51 1 = wh) (x2 : w.1 51 2 = mi) (x3 : w.1 51 3 = ga) (h : ∀ w1 v, Off S501 w w1 → GS w1 (updN s.1 u (r (46 + g) + r 5 + 1), nx, hu3, wh, mi, ga, y0) → RR (tl K lX11_goes) 71 [.ref 41, .int x, .long nx, .null, .int (nI g), .int (nI k + nI 1), v] [] w1) : RR (tl K lX11_goes) 238 [.ref 41, .int x, .long nx, .null, .int (nI g), .int (nI k), .int (nI u)] [.int y0, .int (nI 4), .ref 51] w := by
  have hG := hW.2.2.2.2.2.2.2.1 g hg
  have h5 := hW.2.2.2.2.2.1
  refine tX11_goes_238 ⟨vp_in_nI (by omega) (by decide), by rw [nI_add]; exact vp_in_nI (by omega) (by decide), vp_in_nI (by omega) (by decide), ?_⟩
  rw [show wr w 51 (nI 4) y0 = upI w 51 4 y0 from wr_N (by omega)]
  have hM1 : RM (upI w 51 4 y0) r := RM_up hM (by decide) _ _
  rw [nI_add 46 g, rdM hM1 (by omega), rdM hM1 (by omega), nI_add (r (46 + g)) (r 5), wr_N (by omega)]
  have o1 : Off S501 w (upI w 51 4 y0) := Off.up (Or.inr rfl)
  refine h _ _ (o1.tr (Off.up (Or.inl rfl))) ⟨fun t ht => ?_, ?_, ?_, ?_, ?_, ?_⟩
  · show _ = nI (updN s.1 u (r (46 + g) + r 5 + 1) t) - nI 1
    unfold updN
    rw [upI1]
    by_cases q : t = u
    · rw [if_pos ⟨rfl, q⟩, if_pos q, sub_N (by omega)]; rfl
    · rw [if_neg (fun z => q z.2), if_neg q, upI1, if_neg (fun z => absurd z.1 (by decide))]; exact c1 t ht
  · rw [upI1, if_neg (fun z => absurd z.1 (by decide)), upI1, if_neg (by decide)]; exact x0
  · rw [upI1, if_neg (fun z => absurd z.1 (by decide)), upI1, if_neg (by decide)]; exact x1
  · rw [upI1, if_neg (fun z => absurd z.1 (by decide)), upI1, if_neg (by decide)]; exact x2
  · rw [upI1, if_neg (fun z => absurd z.1 (by decide)), upI1, if_neg (by decide)]; exact x3
  · rw [upI1, if_neg (fun z => absurd z.1 (by decide)), upI1, if_pos ⟨rfl, rfl⟩]
theorem g_g183 (hM : RM w r) (hW : WFr r) {g k u : Nat} (hg : g < 20) (hu : u < 8) {x : Int32} {nx : Int64} {vl : Int32} {s : Sn} (c1 : ∀ t, t < 8 → w.1 50 t = nI (s.1 t) - nI 1) (x0 : w.1 51 0 = s.2.2.1) (x1 : w.1 51 1 = s.2.2.2.1) (x2 : w.1 51 2 = s.2.2.2.2.1) (x3 : w.1 51 3 = s.2.2.2.2.2.1 + vl) (x4 : w.1 51 4 = s.2.2.2.2.2.2) {y0 : Int32} {y1 : Int64} {b : Bool} (hb : b = dec (lg_cmp y1 (Int32.toInt64 y0) < 0)) (h : ∀ w1 v, Off S501 w w1 → GS w1 (stepP true b nx u (r (46 + g) + r 5 + 1) vl (nI g) (nI 1 <<< (nI u &&& 31)) s) → RR (tl K lX11_goes) 71 [.ref 41, .int x, .long nx, .null, .int (nI g), .int (nI k + nI 1), v] [] w1) : RR (tl K lX11_goes) 183 [.ref 41, .int x, .long nx, .null, .int (nI g), .int (nI k), .int (nI u)] [.int y0, .long y1] w := by
  refine tX11_goes_183 ⟨fun q => ?_, fun q => ?_⟩
  · rw [hb, dec_f (Int32.not_lt.mpr q), stepP_tf] at h
    exact h w _ Off.rf ⟨c1, x0, x1, x2, x3, x4⟩
  · rw [hb, dec_t (Int32.not_le.mp q), stepP_tt] at h
    generalize (nI 1 <<< (nI u &&& 31)) = bit at h ⊢
    have a0 : rd w 51 (nI 0) = s.2.2.1 := by rw [rd_N (by omega)]; exact x0
    rw [a0, show wr w 51 (nI 0) (s.2.2.1 + nI 1) = upI w 51 0 (s.2.2.1 + nI 1) from wr_N (by omega)]
    have a1 : rd (upI w 51 0 (s.2.2.1 + nI 1)) 51 (nI 1) = s.2.2.2.1 := by rw [rd_N (by omega), upI1, if_neg (by decide)]; exact x1
    rw [a1, wr_N (by omega)]
    obtain ⟨w3, hw3⟩ : ∃ w3, w3 = upI (upI w 51 0 (s.2.2.1 + nI 1)) 51 1 (s.2.2.2.1 ||| bit) := ⟨_, rfl⟩
    rw [← hw3]
    have o3 : Off S501 w w3 := by
      rw [hw3]
      have p1 : Off S501 w (upI w 51 0 (s.2.2.1 + nI 1)) := Off.up (Or.inr rfl)
      exact p1.tr (Off.up (Or.inr rfl))
    have z0 : w3.1 51 0 = s.2.2.1 + nI 1 := by rw [hw3, upI1, if_neg (by decide), upI1, if_pos ⟨rfl, rfl⟩]
    have z1 : w3.1 51 1 = s.2.2.2.1 ||| bit := by rw [hw3, upI1, if_pos ⟨rfl, rfl⟩]
    have z2 : w3.1 51 2 = s.2.2.2.2.1 := by rw [hw3, upI1, if_neg (by decide), upI1, if_neg (by decide)]; exact x2
    have z3 : w3.1 51 3 = s.2.2.2.2.2.1 + vl := by rw [hw3, upI1, if_neg (by decide), upI1, if_neg (by decide)]; exact x3
    have z4 : w3.1 51 4 = s.2.2.2.2.2.2 := by rw [hw3, upI1, if_neg (by decide), upI1, if_neg (by decide)]; exact x4
    have zb : ∀ t, t < 8 → w3.1 50 t = nI (s.1 t) - nI 1 := fun t ht => by
      rw [hw3, upI1, if_neg (fun z => absurd z.1 (by decide)), upI1, if_neg (fun z => absurd z.1 (by decide))]; exact c1 t ht
    clear hw3
    have hM3 : RM w3 r := hM.off o3 (by unfold S501; omega)
    have r4 : rd w3 51 (nI 4) = s.2.2.2.2.2.2 := by rw [rd_N (by omega)]; exact z4
    rw [r4]
    refine ⟨fun n => ?_, fun n => ?_⟩
    · rw [if_neg n] at h
      exact g_g238 hM3 hW hg hu zb z0 z1 z2 z3 (fun w1 v ho hs => h w1 v (o3.tr ho) hs)
    · rw [if_pos n] at h
      exact g_g238 hM3 hW hg hu zb z0 z1 z2 z3 (fun w1 v ho hs => h w1 v (o3.tr ho) hs)
theorem g_g152 (hM : RM w r) (hW : WFr r) {g k u : Nat} (hg : g < 20) (hk : k < 3) (hu : u < 8) {x : Int32} {d : Int64} {s : Sn} {y0 y1 : Int32} (hy1 : y1 = s.2.2.2.2.2.1) (c1 : ∀ t, t < 8 → w.1 50 t = nI (s.1 t) - nI 1) (x0 : w.1 51 0 = s.2.2.1) (x1 : w.1 51 1 = s.2.2.2.1) (x2 : w.1 51 2 = s.2.2.2.2.1) (x4 : w.1 51 4 = s.2.2.2.2.2.2) (h : ∀ (nx : Int64), nx = lN 16807 * d - lN 16807 * d / lN 2147483647 * lN 2147483647 → ∀ w1 v, Off S501 w w1 → GS w1 (stepP true (dec (lg_cmp (nx - nx / lN 1000 * lN 1000) (Int32.toInt64 (nI (riskN r u (thr r g k)))) < 0)) nx u (r (46 + g) + r 5 + 1) y0 (nI g) (nI 1 <<< (nI u &&& 31)) s) → RR (tl K lX11_goes) 71 [.ref 41, .int x, .long nx, .null, .int (nI g), .int (nI k + nI 1), v] [] w1) : RR (tl K lX11_goes) 152 [.ref 41, .int x, .long d, .null, .int (nI g), .int (nI k), .int (nI u)] [.int y0, .int y1, .int (nI 3), .ref 51] w := by
  have b := hW.2.2.2.2.2.2.2.2.1 (3 * g + k) (by omega)
  have m3 : thr r g k ≤ 120 := b.2
  have e1 : nI 186 + (nI 3 * nI g + nI k) = nI (186 + (3 * g + k)) := by rw [pk_mul, nI_add, nI_add]
  refine tX11_goes_152 ⟨vp_in_nI (by omega) (by decide), by rw [e1]; exact vp_in_nI (by omega) (by decide), ?_⟩
  rw [Int64.mul_comm d (lN 16807)]
  obtain ⟨nx, hnx⟩ : ∃ nx, nx = lN 16807 * d - lN 16807 * d / lN 2147483647 * lN 2147483647 := ⟨_, rfl⟩
  rw [← hnx]
  have h := h nx hnx
  clear hnx
  rw [wr_N (by omega)]
  have hM1 : RM (upI w 51 3 (y1 + y0)) r := RM_up hM (by decide) _ _
  have o1 : Off S501 w (upI w 51 3 (y1 + y0)) := Off.up (Or.inr rfl)
  rw [e1, show rd (upI w 51 3 (y1 + y0)) 43 (nI (186 + (3 * g + k))) = nI (thr r g k) from rdM hM1 (by omega)]
  refine g_riskOf hM1 hW hu (by omega) ?_
  refine g_g183 hM1 hW hg hu (s := s) (vl := y0) (fun t ht => ?_) ?_ ?_ ?_ ?_ ?_ rfl (fun w1 v ho hs => h w1 v (o1.tr ho) hs)
  · rw [upI1, if_neg (fun z => absurd z.1 (by decide))]; exact c1 t ht
  · rw [upI1, if_neg (by decide)]; exact x0
  · rw [upI1, if_neg (by decide)]; exact x1
  · rw [upI1, if_neg (by decide)]; exact x2
  · rw [upI1, if_pos ⟨rfl, rfl⟩, hy1]
  · rw [upI1, if_neg (by decide)]; exact x4
end SEAS2
