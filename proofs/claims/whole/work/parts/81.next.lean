/-! the next token on both sides -/
section NEXT
variable {w : Wd} {K : Kt} {T : Nat → Nat} {n : Nat}
def BYc (w : Wd) (T : Nat → Nat) : Prop := ∀ j, j < 800 → w.1 2 j = sg (T j)
def BYg (w : Wd) (T : Nat → Nat) : Prop := ∀ j, j < 800 → w.1 42 j = nI (T j)
theorem BYc.off {S : Nat → Prop} {w1 : Wd} (h : BYc w T) (ho : Off S w w1) (hs : ¬ S 2) : BYc w1 T := fun j hj => by rw [(ho 2 hs).1]; exact h j hj
theorem BYg.off {S : Nat → Prop} {w1 : Wd} (h : BYg w T) (ho : Off S w w1) (hs : ¬ S 42) : BYg w1 T := fun j hj => by rw [(ho 42 hs).1]; exact h j hj
theorem c_scanWord (hT : ∀ j, T j < 256) (hb : BYc w T) (hn : n ≤ 800) (h2 : w.1 1 2 = nI n) {s : Nat} (hs : s ≤ n) (h3 : w.1 1 3 = nI s) (h5 : w.1 1 5 = nI s) (h : ∀ w1, Off (· = 1) w w1 → (∀ j, j ≠ 3 → j ≠ 4 → w1.1 1 j = w.1 1 j) → w1.1 1 3 = nI (run T isL n s) → w1.1 1 4 = nI (if run T isL n s - s ≤ 7 then 1 else 4) → (run T isL n s - s ≤ 7 → w1.2 1 7 = lN (cod T s (run T isL n s - s))) → K none w1) : fX8_scanWord [.ref 1] w K := by
  have M : ∀ (m k : Nat) (w1 : Wd), s + k + m = n → Off (· = 1) w w1 → (∀ j, j ≠ 3 → w1.1 1 j = w.1 1 j) → w1.1 1 3 = nI (s + k) → (k ≤ 7 → w1.2 1 7 = lN (cod T s k)) → (∀ j, j < k → isL (T (s + j)) = true) → run T isL n s = run T isL n (s + k) → RR (tl K lX8_scanWord) 5 [.ref 1] [] w1 := by
    intro m
    induction m with
    | zero =>
      intro k w1 hk ho h1 ha hc hl hr
      have e := run_ge (T := T) (P := isL) (n := n) (p := s + k) (by omega)
      rw [e] at hr
      have w2 : w1.1 1 2 = nI n := by rw [h1 2 (by decide)]; exact h2
      refine tX8_scanWord_5 ⟨fun _ => tX8_scanWord_70 ?_, fun q => absurd (by rw [w2, ha, le_N (by omega) (by omega)]; omega) q⟩
      rw [ha, h1 5 (by decide), h5, sub_N (by omega), show s + k - s = k by omega, lt_N (by omega) (by omega)]
      refine ⟨fun q => ?_, fun q => ?_⟩
      · refine h _ (ho.tr (Off.up rfl)) (fun j j3 j4 => by rw [upI1, if_neg (fun z => j4 z.2)]; exact h1 j j3) (by rw [upI1, if_neg (by decide), hr]; exact ha) (by rw [upI1, if_pos ⟨rfl, rfl⟩, hr, if_neg (by omega)]) (fun z => by rw [hr] at z; omega)
      · refine h _ (ho.tr (Off.up rfl)) (fun j j3 j4 => by rw [upI1, if_neg (fun z => j4 z.2)]; exact h1 j j3) (by rw [upI1, if_neg (by decide), hr]; exact ha) (by rw [upI1, if_pos ⟨rfl, rfl⟩, hr, if_pos (by omega)]) (fun z => by rw [hr, show s + k - s = k by omega]; exact hc (by omega))
    | succ m ih =>
      intro k w1 hk ho h1 ha hc hl hr
      have w2 : w1.1 1 2 = nI n := by rw [h1 2 (by decide)]; exact h2
      have hb1 := hb.off ho (by decide)
      have f : rd w1 2 (nI (s + k)) = sg (T (s + k)) := by rw [rd_N (by omega)]; exact hb1 _ (by omega)
      refine tX8_scanWord_5 ⟨fun q => absurd q (by rw [w2, ha, le_N (by omega) (by omega)]; omega), fun _ => ?_⟩
      rw [ha, f, sg_rng (hT _) (by omega) (by omega) (by omega)]
      refine ⟨vp_in_nI (by omega) (by decide), fun q => tX8_scanWord_70 ?_, fun q => ?_⟩
      · have e := run_n (T := T) (P := isL) (n := n) (p := s + k) (fun z => q (isL_iff.mp z))
        rw [e] at hr
        rw [ha, h1 5 (by decide), h5, sub_N (by omega), show s + k - s = k by omega, lt_N (by omega) (by omega)]
        refine ⟨fun q => ?_, fun q => ?_⟩
        · refine h _ (ho.tr (Off.up rfl)) (fun j j3 j4 => by rw [upI1, if_neg (fun z => j4 z.2)]; exact h1 j j3) (by rw [upI1, if_neg (by decide), hr]; exact ha) (by rw [upI1, if_pos ⟨rfl, rfl⟩, hr, if_neg (by omega)]) (fun z => by rw [hr] at z; omega)
        · refine h _ (ho.tr (Off.up rfl)) (fun j j3 j4 => by rw [upI1, if_neg (fun z => j4 z.2)]; exact h1 j j3) (by rw [upI1, if_neg (by decide), hr]; exact ha) (by rw [upI1, if_pos ⟨rfl, rfl⟩, hr, if_pos (by omega)]) (fun z => by rw [hr, show s + k - s = k by omega]; exact hc (by omega))
      · have ll := isL_iff.mpr q
        have ev : sg (T (s + k)) - nI 97 + nI 1 = nI (T (s + k) - 96) := by
          rw [sg_lo (by omega), sub_N (by omega), nI_add]
          exact congrArg nI (by omega)
        rw [ev]
        have ec : ((upL w1 1 7 ((w1.2 1 7 <<< (Int32.toInt64 (nI 5) &&& 63)) ||| Int32.toInt64 (nI (T (s + k) - 96)))).1 1 3) + nI 1 = nI (s + (k + 1)) := by
          rw [upL1, ha, nI_add]; rfl
        rw [ec]
        have o1 : Off (· = 1) w1 (upL w1 1 7 ((w1.2 1 7 <<< (Int32.toInt64 (nI 5) &&& 63)) ||| Int32.toInt64 (nI (T (s + k) - 96)))) := Off.upL rfl
        refine ih (k + 1) _ (by omega) ((ho.tr o1).tr (Off.up rfl)) (fun j hj => ?_) (by rw [upI1, if_pos ⟨rfl, rfl⟩]) (fun hk7 => ?_) (fun j hj => ?_) ?_
        · rw [upI1, if_neg (fun z => hj z.2), upL1]; exact h1 j hj
        · rw [upI2, upL2, if_pos ⟨rfl, rfl⟩, hc (by omega), nI_l (n := T (s + k) - 96) (by omega)]
          have cl := cod_lt (T := T) (s := s) k hl
          have p7 : 32 ^ k ≤ 32 ^ 7 := Nat.pow_le_pow_right (by omega) (by omega)
          have e7 : (32 : Nat) ^ 7 = 34359738368 := by decide
          rw [sh5 (by omega) (by omega)]; rfl
        · by_cases c : j = k
          · rw [c]; exact ll
          · exact hl j (by omega)
        · rw [hr, run_y (by omega) ll]; rfl
  exact tX8_scanWord_0 (M (n - s) 0 _ (by omega) (Off.upL rfl) (fun j hj => by rw [upL1]) (by rw [upL1, Nat.add_zero]; exact h3) (fun _ => by rw [upL2, if_pos ⟨rfl, rfl⟩]; rfl) (fun j hj => by omega) (by rw [Nat.add_zero]))
theorem c_scanWhole (hT : ∀ j, T j < 256) (hb : BYc w T) (hn : n ≤ 800) (h2 : w.1 1 2 = nI n) {s : Nat} (hs : s ≤ n) (h3 : w.1 1 3 = nI s) (h5 : w.1 1 5 = nI s) (h : ∀ w1, Off (· = 1) w w1 → (∀ j, j ≠ 3 → j ≠ 4 → j ≠ 6 → w1.1 1 j = w.1 1 j) → w1.1 1 3 = nI (run T isD n s) → w1.1 1 4 = nI (if run T isD n s - s ≤ 3 then 2 else 4) → w1.1 1 6 = nI (val T s (run T isD n s - s)) → K none w1) : fX8_scanWhole [.ref 1] w K := by
  have M : ∀ (m k : Nat) (w1 : Wd), s + k + m = n → Off (· = 1) w w1 → (∀ j, j ≠ 3 → j ≠ 6 → w1.1 1 j = w.1 1 j) → w1.1 1 3 = nI (s + k) → w1.1 1 6 = nI (val T s k) → run T isD n s = run T isD n (s + k) → RR (tl K lX8_scanWhole) 5 [.ref 1] [] w1 := by
    intro m
    induction m with
    | zero =>
      intro k w1 hk ho h1 ha hc hr
      have e := run_ge (T := T) (P := isD) (n := n) (p := s + k) (by omega)
      rw [e] at hr
      have w2 : w1.1 1 2 = nI n := by rw [h1 2 (by decide) (by decide)]; exact h2
      refine tX8_scanWhole_5 ⟨fun _ => tX8_scanWhole_68 ?_, fun q => absurd (by rw [w2, ha, le_N (by omega) (by omega)]; omega) q⟩
      rw [ha, h1 5 (by decide) (by decide), h5, sub_N (by omega), show s + k - s = k by omega, lt_N (by omega) (by omega)]
      refine ⟨fun q => ?_, fun q => ?_⟩
      · refine h _ (ho.tr (Off.up rfl)) (fun j j3 j4 j6 => by rw [upI1, if_neg (fun z => j4 z.2)]; exact h1 j j3 j6) (by rw [upI1, if_neg (by decide), hr]; exact ha) (by rw [upI1, if_pos ⟨rfl, rfl⟩, hr, if_neg (by omega)]) (by rw [upI1, if_neg (by decide), hr, show s + k - s = k by omega]; exact hc)
      · refine h _ (ho.tr (Off.up rfl)) (fun j j3 j4 j6 => by rw [upI1, if_neg (fun z => j4 z.2)]; exact h1 j j3 j6) (by rw [upI1, if_neg (by decide), hr]; exact ha) (by rw [upI1, if_pos ⟨rfl, rfl⟩, hr, if_pos (by omega)]) (by rw [upI1, if_neg (by decide), hr, show s + k - s = k by omega]; exact hc)
    | succ m ih =>
      intro k w1 hk ho h1 ha hc hr
      have w2 : w1.1 1 2 = nI n := by rw [h1 2 (by decide) (by decide)]; exact h2
      have hb1 := hb.off ho (by decide)
      have f : rd w1 2 (nI (s + k)) = sg (T (s + k)) := by rw [rd_N (by omega)]; exact hb1 _ (by omega)
      refine tX8_scanWhole_5 ⟨fun q => absurd q (by rw [w2, ha, le_N (by omega) (by omega)]; omega), fun _ => ?_⟩
      rw [ha, f, sg_rng (hT _) (by omega) (by omega) (by omega)]
      refine ⟨vp_in_nI (by omega) (by decide), fun q => tX8_scanWhole_68 ?_, fun q => ?_⟩
      · have e := run_n (T := T) (P := isD) (n := n) (p := s + k) (fun z => q (isD_iff.mp z))
        rw [e] at hr
        rw [ha, h1 5 (by decide) (by decide), h5, sub_N (by omega), show s + k - s = k by omega, lt_N (by omega) (by omega)]
        refine ⟨fun q => ?_, fun q => ?_⟩
        · refine h _ (ho.tr (Off.up rfl)) (fun j j3 j4 j6 => by rw [upI1, if_neg (fun z => j4 z.2)]; exact h1 j j3 j6) (by rw [upI1, if_neg (by decide), hr]; exact ha) (by rw [upI1, if_pos ⟨rfl, rfl⟩, hr, if_neg (by omega)]) (by rw [upI1, if_neg (by decide), hr, show s + k - s = k by omega]; exact hc)
        · refine h _ (ho.tr (Off.up rfl)) (fun j j3 j4 j6 => by rw [upI1, if_neg (fun z => j4 z.2)]; exact h1 j j3 j6) (by rw [upI1, if_neg (by decide), hr]; exact ha) (by rw [upI1, if_pos ⟨rfl, rfl⟩, hr, if_pos (by omega)]) (by rw [upI1, if_neg (by decide), hr, show s + k - s = k by omega]; exact hc)
      · have ll := isD_iff.mpr q
        have ev : nI 10 * w1.1 1 6 + (sg (T (s + k)) - nI 48) = nI (val T s (k + 1)) := by
          rw [hc, sg_lo (by omega), sub_N (by omega), pk_mul, nI_add]; rfl
        rw [ev]
        have ec : ((upI w1 1 6 (nI (val T s (k + 1)))).1 1 3) + nI 1 = nI (s + (k + 1)) := by
          rw [upI1, if_neg (by decide), ha, nI_add]; rfl
        rw [ec]
        have o1 : Off (· = 1) w1 (upI w1 1 6 (nI (val T s (k + 1)))) := Off.up rfl
        refine ih (k + 1) _ (by omega) ((ho.tr o1).tr (Off.up rfl)) (fun j j3 j6 => ?_) (by rw [upI1, if_pos ⟨rfl, rfl⟩]) (by rw [upI1, if_neg (by decide), upI1, if_pos ⟨rfl, rfl⟩]) ?_
        · rw [upI1, if_neg (fun z => j3 z.2), upI1, if_neg (fun z => j6 z.2)]; exact h1 j j3 j6
        · rw [hr, run_y (by omega) ll]; rfl
  exact tX8_scanWhole_0 (M (n - s) 0 _ (by omega) (Off.up rfl) (fun j j3 j6 => by rw [upI1, if_neg (fun z => j6 z.2)]) (by rw [upI1, if_neg (by decide), Nat.add_zero]; exact h3) (by rw [upI1, if_pos ⟨rfl, rfl⟩]; rfl) (by rw [Nat.add_zero]))
theorem c_nextToken (hT : ∀ j, T j < 256) (hb : BYc w T) (hn : n ≤ 800) (h2 : w.1 1 2 = nI n) {p : Nat} (hp : p ≤ n) (h3 : w.1 1 3 = nI p) (h : ∀ w1, Off (· = 1) w w1 → (∀ j, j ≤ 2 → w1.1 1 j = w.1 1 j) → TkC w1 T (tok T n p) → K none w1) : fX8_nextToken [.ref 1] w K := by
  have E : ∀ (s : Nat) (w1 : Wd), s ≤ n → Off (· = 1) w w1 → (∀ j, j ≤ 2 → w1.1 1 j = w.1 1 j) → w1.1 1 3 = nI s → tok T n p = tkAt T n s → RR (tl K lX8_nextToken) 38 [.ref 1] [] w1 := by
    intro s w1 hs ho h1 ha et
    have hb1 := hb.off ho (by decide)
    have w2 : w1.1 1 2 = nI n := by rw [h1 2 (by decide)]; exact h2
    refine tX8_nextToken_38 ?_
    have b3 : (upI w1 1 5 (w1.1 1 3)).1 1 3 = nI s := by rw [upI1, if_neg (by decide), ha]
    have b2 : (upI w1 1 5 (w1.1 1 3)).1 1 2 = nI n := by rw [upI1, if_neg (by decide), w2]
    have b5 : (upI w1 1 5 (w1.1 1 3)).1 1 5 = nI s := by rw [upI1, if_pos ⟨rfl, rfl⟩, ha]
    have o5 : Off (· = 1) w1 (upI w1 1 5 (w1.1 1 3)) := Off.up rfl
    have k5 : ∀ j, j ≤ 2 → (upI w1 1 5 (w1.1 1 3)).1 1 j = w.1 1 j := fun j hj => by rw [upI1, if_neg (by omega)]; exact h1 j hj
    generalize upI w1 1 5 (w1.1 1 3) = wb at b3 b2 b5 o5 k5 ⊢
    have hbb := hb1.off o5 (by decide)
    have oo := ho.tr o5
    rw [b3, b2, lt_N (by omega) (by omega)]
    refine ⟨fun q => ?_, fun q => ?_⟩
    · have f : rd wb 2 (nI s) = sg (T s) := by rw [rd_N (by omega)]; exact hbb _ (by omega)
      have hTs := hT s
      rw [f, sg_rng hTs (by omega) (by omega) (by omega), sg_rng hTs (by omega) (by omega) (by omega), sg_eq hTs (by omega)]
      refine ⟨vp_in_nI (by omega) (by decide), fun q1 => ⟨fun q2 => ⟨fun q3 => ?_, fun q3 => ?_⟩, fun q2 => ?_⟩, fun q1 => ?_⟩
      · have e4 : (upI wb 1 4 (nI 4)).1 1 3 + nI 1 = nI (s + 1) := by rw [upI1, if_neg (by decide), b3, nI_add]
        rw [e4]
        have et : tok T n p = (4, s, s + 1) := by rw [et]; unfold tkAt; rw [if_neg (by omega), if_neg (fun z => q1 (isL_iff.mp z)), if_neg (fun z => q2 (isD_iff.mp z)), if_neg q3]
        have o4 : Off (· = 1) wb (upI wb 1 4 (nI 4)) := Off.up rfl
        refine h _ ((oo.tr o4).tr (Off.up rfl)) (fun j hj => by rw [upI1, if_neg (by omega), upI1, if_neg (by omega)]; exact k5 j hj) ?_
        rw [et]
        exact ⟨by rw [upI1, if_pos ⟨rfl, rfl⟩], by rw [upI1, if_neg (by decide), upI1, if_pos ⟨rfl, rfl⟩], by rw [upI1, if_neg (by decide), upI1, if_neg (by decide)]; exact b5, fun z => absurd z (by show (4 : Nat) ≠ 2; decide), fun z => absurd z (by show (4 : Nat) ≠ 1; decide)⟩
      · have e4 : (upI wb 1 4 (nI 3)).1 1 3 + nI 1 = nI (s + 1) := by rw [upI1, if_neg (by decide), b3, nI_add]
        rw [e4]
        have et : tok T n p = (3, s, s + 1) := by rw [et]; unfold tkAt; rw [if_neg (by omega), if_neg (fun z => q1 (isL_iff.mp z)), if_neg (fun z => q2 (isD_iff.mp z)), if_pos q3]
        have o4 : Off (· = 1) wb (upI wb 1 4 (nI 3)) := Off.up rfl
        refine h _ ((oo.tr o4).tr (Off.up rfl)) (fun j hj => by rw [upI1, if_neg (by omega), upI1, if_neg (by omega)]; exact k5 j hj) ?_
        rw [et]
        exact ⟨by rw [upI1, if_pos ⟨rfl, rfl⟩], by rw [upI1, if_neg (by decide), upI1, if_pos ⟨rfl, rfl⟩], by rw [upI1, if_neg (by decide), upI1, if_neg (by decide)]; exact b5, fun z => absurd z (by show (3 : Nat) ≠ 2; decide), fun z => absurd z (by show (3 : Nat) ≠ 1; decide)⟩
      · have et : tok T n p = (if run T isD n s - s ≤ 3 then 2 else 4, s, run T isD n s) := by rw [et]; unfold tkAt; rw [if_neg (by omega), if_neg (fun z => q1 (isL_iff.mp z)), if_pos (isD_iff.mpr q2)]
        refine c_scanWhole hT hbb hn b2 hs b3 b5 (fun w3 o3 k3 a3 a4 a6 => tX8_nextToken_106 (h w3 (oo.tr o3) (fun j hj => by rw [k3 j (by omega) (by omega) (by omega)]; exact k5 j hj) ?_))
        rw [et]
        refine ⟨a3, a4, by rw [k3 5 (by decide) (by decide) (by decide)]; exact b5, fun _ => a6, fun z => ?_⟩
        have z : (if run T isD n s - s ≤ 3 then 2 else 4) = 1 := z
        split at z <;> omega
      · have et : tok T n p = (if run T isL n s - s ≤ 7 then 1 else 4, s, run T isL n s) := by rw [et]; unfold tkAt; rw [if_neg (by omega), if_pos (isL_iff.mpr q1)]
        refine c_scanWord hT hbb hn b2 hs b3 b5 (fun w3 o3 k3 a3 a4 a7 => tX8_nextToken_84 (h w3 (oo.tr o3) (fun j hj => by rw [k3 j (by omega) (by omega)]; exact k5 j hj) ?_))
        rw [et]
        refine ⟨a3, a4, by rw [k3 5 (by decide) (by decide)]; exact b5, fun z => ?_, fun z => a7 ?_⟩
        · have z : (if run T isL n s - s ≤ 7 then 1 else 4) = 2 := z
          split at z <;> omega
        · have z : (if run T isL n s - s ≤ 7 then 1 else 4) = 1 := z
          by_cases y : run T isL n s - s ≤ 7
          · exact y
          · rw [if_neg y] at z; omega
    · have et : tok T n p = (0, s, s) := by rw [et]; unfold tkAt; rw [if_pos (by omega)]
      refine h _ (oo.tr (Off.up rfl)) (fun j hj => by rw [upI1, if_neg (by omega)]; exact k5 j hj) ?_
      rw [et]
      exact ⟨by rw [upI1, if_neg (by decide)]; exact b3, by rw [upI1, if_pos ⟨rfl, rfl⟩], by rw [upI1, if_neg (by decide)]; exact b5, fun z => absurd z (by show (0 : Nat) ≠ 2; decide), fun z => absurd z (by show (0 : Nat) ≠ 1; decide)⟩
  have M : ∀ (m q : Nat) (w1 : Wd), q + m = n → Off (· = 1) w w1 → (∀ j, j ≤ 2 → w1.1 1 j = w.1 1 j) → w1.1 1 3 = nI q → run T isSp n p = run T isSp n q → fX8_nextToken [.ref 1] w1 K := by
    intro m
    induction m with
    | zero =>
      intro q w1 hq ho h1 ha hr
      have w2 : w1.1 1 2 = nI n := by rw [h1 2 (by decide)]; exact h2
      rw [run_ge (n := n) (p := q) (by omega)] at hr
      refine tX8_nextToken_0 ⟨fun _ => E q w1 (by omega) ho h1 ha (by unfold tok; rw [hr]), fun z => absurd (by rw [w2, ha, le_N (by omega) (by omega)]; omega) z⟩
    | succ m ih =>
      intro q w1 hq ho h1 ha hr
      have w2 : w1.1 1 2 = nI n := by rw [h1 2 (by decide)]; exact h2
      have hb1 := hb.off ho (by decide)
      have f : rd w1 2 (nI q) = sg (T q) := by rw [rd_N (by omega)]; exact hb1 _ (by omega)
      refine tX8_nextToken_0 ⟨fun z => absurd z (by rw [w2, ha, le_N (by omega) (by omega)]; omega), fun _ => ?_⟩
      rw [ha, f, sg_eq (hT _) (by omega), nI_add q 1]
      refine ⟨vp_in_nI (by omega) (by decide), fun z => ?_, fun z => ?_⟩
      · rw [run_n (fun y => z (isSp_iff.mp y))] at hr
        exact E q w1 (by omega) ho h1 ha (by unfold tok; rw [hr])
      · rw [run_y (by omega) (isSp_iff.mpr z)] at hr
        exact (ih (q + 1) (upI w1 1 3 (nI (q + 1))) (by omega) (ho.tr (Off.up rfl)) (fun j hj => by rw [upI1, if_neg (by omega)]; exact h1 j hj) (by rw [upI1, if_pos ⟨rfl, rfl⟩]) hr).2
  exact M (n - p) p w (by omega) Off.rf (fun _ _ => rfl) h3 rfl
end NEXT
