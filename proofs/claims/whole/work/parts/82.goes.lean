/-! the reference's next token -/
section GOES
variable {w : Wd} {K : Kt} {T : Nat → Nat} {n : Nat}
theorem seN (h11 : w.1 41 11 = nI n) (hb : BYg w T) (hn : n ≤ 800) {p : Nat} (hp : p ≤ n) : seI w (nI p) = if n ≤ p then -1 else nI (T p) := by
  unfold seI
  rw [h11]
  by_cases q : n ≤ p
  · rw [if_pos ((le_N (by omega) (by omega)).mpr q), if_pos q]
  · rw [if_neg (fun z => q ((le_N (by omega) (by omega)).mp z)), if_neg q, rd_N (by omega)]
    exact hb p (by omega)
theorem seR (hT : ∀ j, T j < 256) (h11 : w.1 41 11 = nI n) (hb : BYg w T) (hn : n ≤ 800) {p a b : Nat} (hp : p ≤ n) (ha : a < 256) (hb2 : b < 256) : (nI a ≤ seI w (nI p) ∧ seI w (nI p) ≤ nI b) ↔ p < n ∧ a ≤ T p ∧ T p ≤ b := by
  have := hT p
  rw [seN h11 hb hn hp]
  by_cases q : n ≤ p
  · rw [if_pos q]
    exact ⟨fun z => absurd z.1 (nle_m1 (by omega)), fun z => by omega⟩
  · rw [if_neg q, le_N (by omega) (by omega), le_N (by omega) (by omega)]
    omega
theorem seE (hT : ∀ j, T j < 256) (h11 : w.1 41 11 = nI n) (hb : BYg w T) (hn : n ≤ 800) {p c : Nat} (hp : p ≤ n) (hc : c < 256) : seI w (nI p) = nI c ↔ p < n ∧ T p = c := by
  have := hT p
  rw [seN h11 hb hn hp]
  by_cases q : n ≤ p
  · rw [if_pos q]
    exact ⟨fun z => absurd z.symm (ne_m1 (by omega)), fun z => by omega⟩
  · rw [if_neg q, eq_N (by omega) (by omega)]
    omega
def K41 (w w1 : Wd) : Prop := Off (· = 41) w w1 ∧ ∀ j, j < 12 ∨ 16 ≤ j → w1.1 41 j = w.1 41 j
theorem K41.rf : K41 w w := ⟨Off.rf, fun _ _ => rfl⟩
theorem K41.tr {w1 w2 : Wd} (a : K41 w w1) (b : K41 w1 w2) : K41 w w2 := ⟨a.1.tr b.1, fun j hj => (b.2 j hj).trans (a.2 j hj)⟩
theorem K41.up {j : Nat} {v : Int32} (hj : 12 ≤ j ∧ j < 16) : K41 w (upI w 41 j v) := ⟨Off.up rfl, fun i hi => by rw [upI1, if_neg (by omega)]⟩
theorem g_goesOn (hT : ∀ j, T j < 256) (hb : BYg w T) (hn : n ≤ 800) (h11 : w.1 41 11 = nI n) {p : Nat} (hp : p ≤ n) (h13 : w.1 41 13 = nI p) (h : ∀ w1, K41 w w1 → TkG w1 T (tok T n p) → K none w1) : fX11_goesOn [.ref 41] w K := by
  -- a word
  have Wd1 : ∀ (s : Nat) (x1 : Int32), s ≤ n → tok T n p = (if run T isL n s - s ≤ 7 then 1 else 4, s, run T isL n s) → ∀ (m k : Nat) (w1 : Wd), s + k + m = n → K41 w w1 → w1.1 41 12 = nI s → w1.1 41 13 = nI (s + k) → run T isL n s = run T isL n (s + k) → RR (tl K lX11_goesOn) 65 [.ref 41, .int x1] [] w1 := by
    intro s x1 hs et m
    have fin3 : ∀ (k : Nat) (w1 : Wd), s + k ≤ n → K41 w w1 → w1.1 41 12 = nI s → w1.1 41 13 = nI (s + k) → run T isL n s = s + k → (w1.1 41 13 - w1.1 41 12 ≤ nI 7 → K none (upI w1 41 14 (nI 2))) ∧ (¬ (w1.1 41 13 - w1.1 41 12 ≤ nI 7) → K none (upI w1 41 14 (nI 1))) := by
      intro k w1 hk ho a12 a13 hr
      rw [a12, a13, sub_N (by omega), show s + k - s = k by omega, le_N (by omega) (by omega)]
      refine ⟨fun q => h _ (ho.tr (K41.up (by omega))) ?_, fun q => h _ (ho.tr (K41.up (by omega))) ?_⟩
      · rw [et, hr, if_pos (by omega)]
        exact ⟨by rw [upI1, if_neg (by decide)]; exact a13, by rw [upI1, if_pos ⟨rfl, rfl⟩]; rfl, by rw [upI1, if_neg (by decide)]; exact a12, fun z => absurd z (by show (1 : Nat) ≠ 2; decide)⟩
      · rw [et, hr, if_neg (by omega)]
        exact ⟨by rw [upI1, if_neg (by decide)]; exact a13, by rw [upI1, if_pos ⟨rfl, rfl⟩]; rfl, by rw [upI1, if_neg (by decide)]; exact a12, fun z => absurd z (by show (4 : Nat) ≠ 2; decide)⟩
    induction m with
    | zero =>
      intro k w1 hk ho a12 a13 hr
      have hb1 := hb.off ho.1 (by decide)
      have g11 : w1.1 41 11 = nI n := by rw [ho.2 11 (by omega)]; exact h11
      rw [run_ge (n := n) (p := s + k) (by omega)] at hr
      refine tX11_goesOn_65 ?_
      rw [a13, seR hT g11 hb1 hn (by omega) (by omega) (by omega)]
      refine ⟨fun z => absurd z (by rw [g11, lt_N (by omega) (by omega)]; omega), fun _ => ?_, fun z => by omega⟩
      have := fin3 k w1 (by omega) ho a12 a13 hr
      rw [a13] at this
      exact this
    | succ m ih =>
      intro k w1 hk ho a12 a13 hr
      have hb1 := hb.off ho.1 (by decide)
      have g11 : w1.1 41 11 = nI n := by rw [ho.2 11 (by omega)]; exact h11
      refine tX11_goesOn_65 ?_
      rw [a13, seR hT g11 hb1 hn (by omega) (by omega) (by omega), nI_add (s + k) 1]
      refine ⟨fun _ => vp_in_nI (by omega) (by decide), fun z => ?_, fun z => ?_⟩
      · rw [run_n (fun y => z ⟨by omega, isL_iff.mp y⟩)] at hr
        have := fin3 k w1 (by omega) ho a12 a13 hr
        rw [a13] at this
        exact this
      · refine ih (k + 1) _ (by omega) (ho.tr (K41.up (by omega))) (by rw [upI1, if_neg (by decide)]; exact a12) (by rw [upI1, if_pos ⟨rfl, rfl⟩]; rfl) ?_
        rw [hr, run_y (by omega) (isL_iff.mpr z.2)]; rfl
  -- a number
  have Nu1 : ∀ (s : Nat) (x1 : Int32), s ≤ n → tok T n p = (if run T isD n s - s ≤ 3 then 2 else 4, s, run T isD n s) → ∀ (m k : Nat) (w1 : Wd), s + k + m = n → K41 w w1 → w1.1 41 12 = nI s → w1.1 41 13 = nI (s + k) → (k ≤ 3 → w1.1 41 15 = nI (val T s k)) → run T isD n s = run T isD n (s + k) → RR (tl K lX11_goesOn) 136 [.ref 41, .int x1] [] w1 := by
    intro s x1 hs et m
    have fin3 : ∀ (k : Nat) (w1 : Wd), s + k ≤ n → K41 w w1 → w1.1 41 12 = nI s → w1.1 41 13 = nI (s + k) → (k ≤ 3 → w1.1 41 15 = nI (val T s k)) → run T isD n s = s + k → (w1.1 41 13 - w1.1 41 12 ≤ nI 3 → K none (upI w1 41 14 (nI 3))) ∧ (¬ (w1.1 41 13 - w1.1 41 12 ≤ nI 3) → K none (upI w1 41 14 (nI 1))) := by
      intro k w1 hk ho a12 a13 a15 hr
      rw [a12, a13, sub_N (by omega), show s + k - s = k by omega, le_N (by omega) (by omega)]
      refine ⟨fun q => h _ (ho.tr (K41.up (by omega))) ?_, fun q => h _ (ho.tr (K41.up (by omega))) ?_⟩
      · rw [et, hr, if_pos (by omega)]
        refine ⟨by rw [upI1, if_neg (by decide)]; exact a13, by rw [upI1, if_pos ⟨rfl, rfl⟩]; rfl, by rw [upI1, if_neg (by decide)]; exact a12, fun _ => ?_⟩
        show (upI w1 41 14 (nI 3)).1 41 15 = nI (val T s (s + k - s))
        rw [upI1, if_neg (by decide), show s + k - s = k by omega]
        exact a15 q
      · rw [et, hr, if_neg (by omega)]
        exact ⟨by rw [upI1, if_neg (by decide)]; exact a13, by rw [upI1, if_pos ⟨rfl, rfl⟩]; rfl, by rw [upI1, if_neg (by decide)]; exact a12, fun z => absurd z (by show (4 : Nat) ≠ 2; decide)⟩
    induction m with
    | zero =>
      intro k w1 hk ho a12 a13 a15 hr
      have hb1 := hb.off ho.1 (by decide)
      have g11 : w1.1 41 11 = nI n := by rw [ho.2 11 (by omega)]; exact h11
      rw [run_ge (n := n) (p := s + k) (by omega)] at hr
      refine tX11_goesOn_136 ?_
      rw [a13, seR hT g11 hb1 hn (by omega) (by omega) (by omega)]
      refine ⟨fun z => absurd z (by rw [g11, lt_N (by omega) (by omega)]; omega), fun _ => ?_, fun z => by omega⟩
      have := fin3 k w1 (by omega) ho a12 a13 a15 hr
      rw [a13] at this
      exact this
    | succ m ih =>
      intro k w1 hk ho a12 a13 a15 hr
      have hb1 := hb.off ho.1 (by decide)
      have g11 : w1.1 41 11 = nI n := by rw [ho.2 11 (by omega)]; exact h11
      have es : s + k < n → seI w1 (nI (s + k)) = nI (T (s + k)) := fun z => by rw [seN g11 hb1 hn (by omega), if_neg (by omega)]
      refine tX11_goesOn_136 ?_
      rw [a13, seR hT g11 hb1 hn (by omega) (by omega) (by omega)]
      refine ⟨fun _ => vp_in_nI (by omega) (by decide), fun z => ?_, fun z => ?_⟩
      · rw [run_n (fun y => z ⟨by omega, isD_iff.mp y⟩)] at hr
        have := fin3 k w1 (by omega) ho a12 a13 a15 hr
        rw [a13] at this
        exact this
      · rw [a12, sub_N (by omega), show s + k - s = k by omega, le_N (by omega) (by omega), es z.1]
        have hr2 : run T isD n s = run T isD n (s + (k + 1)) := by rw [hr, run_y (by omega) (isD_iff.mpr z.2)]; rfl
        refine ⟨fun y => ?_, fun y => ⟨fun _ => vp_in_nI (by omega) (by decide), ?_⟩⟩
        · have e : (upI w1 41 15 (w1.1 41 15)).1 41 13 + nI 1 = nI (s + (k + 1)) := by rw [upI1, if_neg (by decide), a13, nI_add]; rfl
          rw [e]
          exact ih (k + 1) _ (by omega) ((ho.tr (K41.up (by omega))).tr (K41.up (by omega))) (by rw [upI1, if_neg (by decide), upI1, if_neg (by decide)]; exact a12) (by rw [upI1, if_pos ⟨rfl, rfl⟩]) (fun z => by omega) hr2
        · have ev : nI 10 * w1.1 41 15 + nI (T (s + k)) - nI 48 = nI (val T s (k + 1)) := by
            rw [a15 (by omega), pk_mul, nI_add, sub_N (by omega)]
            show nI (10 * val T s k + T (s + k) - 48) = nI (10 * val T s k + (T (s + k) - 48))
            exact congrArg nI (by omega)
          rw [ev]
          have e : (upI w1 41 15 (nI (val T s (k + 1)))).1 41 13 + nI 1 = nI (s + (k + 1)) := by rw [upI1, if_neg (by decide), a13, nI_add]; rfl
          rw [e]
          exact ih (k + 1) _ (by omega) ((ho.tr (K41.up (by omega))).tr (K41.up (by omega))) (by rw [upI1, if_neg (by decide), upI1, if_neg (by decide)]; exact a12) (by rw [upI1, if_pos ⟨rfl, rfl⟩]) (fun _ => by rw [upI1, if_neg (by decide), upI1, if_pos ⟨rfl, rfl⟩]) hr2
  have M : ∀ (m q : Nat) (w1 : Wd), q + m = n → K41 w w1 → w1.1 41 13 = nI q → run T isSp n p = run T isSp n q → fX11_goesOn [.ref 41] w1 K := by
    intro m
    induction m with
    | zero =>
      intro q w1 hq ho a13 hr
      have hb1 := hb.off ho.1 (by decide)
      have g11 : w1.1 41 11 = nI n := by rw [ho.2 11 (by omega)]; exact h11
      rw [run_ge (n := n) (p := q) (by omega)] at hr
      have et : tok T n p = (0, q, q) := by unfold tok; rw [hr]; unfold tkAt; rw [if_pos (by omega)]
      refine tX11_goesOn_0 ?_
      rw [a13, seE hT g11 hb1 hn (by omega) (by omega)]
      have b13 : (upI w1 41 12 (nI q)).1 41 13 = nI q := by rw [upI1, if_neg (by decide)]; exact a13
      have b11 : (upI w1 41 12 (nI q)).1 41 11 = nI n := by rw [upI1, if_neg (by decide)]; exact g11
      have ob : K41 w1 (upI w1 41 12 (nI q)) := K41.up (by omega)
      rw [b13, seN b11 (hb1.off ob.1 (by decide)) hn (by omega), if_pos (by omega)]
      refine ⟨fun z => absurd z (by rw [g11, lt_N (by omega) (by omega)]; omega), fun _ => ⟨fun z => absurd z (by rw [b11, lt_N (by omega) (by omega)]; omega), fun z => absurd rfl z, fun _ => ?_⟩, fun z => by omega⟩
      refine h _ ((ho.tr ob).tr (K41.up (by omega))) ?_
      rw [et]
      exact ⟨by rw [upI1, if_neg (by decide)]; exact b13, by rw [upI1, if_pos ⟨rfl, rfl⟩]; rfl, by rw [upI1, if_neg (by decide), upI1, if_pos ⟨rfl, rfl⟩], fun z => absurd z (by show (0 : Nat) ≠ 2; decide)⟩
    | succ m ih =>
      intro q w1 hq ho a13 hr
      have hb1 := hb.off ho.1 (by decide)
      have g11 : w1.1 41 11 = nI n := by rw [ho.2 11 (by omega)]; exact h11
      refine tX11_goesOn_0 ?_
      rw [a13, seE hT g11 hb1 hn (by omega) (by omega)]
      have b13 : (upI w1 41 12 (nI q)).1 41 13 = nI q := by rw [upI1, if_neg (by decide)]; exact a13
      have b11 : (upI w1 41 12 (nI q)).1 41 11 = nI n := by rw [upI1, if_neg (by decide)]; exact g11
      have b12 : (upI w1 41 12 (nI q)).1 41 12 = nI q := by rw [upI1, if_pos ⟨rfl, rfl⟩]
      have ob : K41 w1 (upI w1 41 12 (nI q)) := K41.up (by omega)
      have hbb := hb1.off ob.1 (by decide)
      have hTq := hT q
      rw [b13, seR hT b11 hbb hn (by omega) (by omega) (by omega), seR hT b11 hbb hn (by omega) (by omega) (by omega), seE hT b11 hbb hn (by omega) (by omega)]
      have es : seI (upI w1 41 12 (nI q)) (nI q) = nI (T q) := by rw [seN b11 hbb hn (by omega), if_neg (by omega)]
      rw [es]
      have oT := ho.tr ob
      refine ⟨fun _ => vp_in_nI (by omega) (by decide), fun z => ⟨fun _ => vp_in_nI (by omega) (by decide), fun _ => ⟨fun y1 => ⟨fun y2 => ⟨fun y3 => ?_, fun y3 => ?_⟩, fun y2 => ?_⟩, fun y1 => ?_⟩, fun y => absurd y (ne_m1 (by omega))⟩, fun z => ?_⟩
      · have hr' := hr
        rw [run_n (fun y => z ⟨by omega, isSp_iff.mp y⟩)] at hr'
        have et : tok T n p = (4, q, q + 1) := by
          unfold tok; rw [hr']; unfold tkAt
          rw [if_neg (by omega), if_neg (fun y => y1 ⟨by omega, isL_iff.mp y⟩), if_neg (fun y => y2 ⟨by omega, isD_iff.mp y⟩), if_neg (fun y => y3 ⟨by omega, y⟩)]
        rw [nI_add q 1]
        refine h _ ((oT.tr (K41.up (by omega))).tr (K41.up (by omega))) ?_
        rw [et]
        exact ⟨by rw [upI1, if_neg (by decide), upI1, if_pos ⟨rfl, rfl⟩], by rw [upI1, if_pos ⟨rfl, rfl⟩]; rfl, by rw [upI1, if_neg (by decide), upI1, if_neg (by decide)]; exact b12, fun z => absurd z (by show (4 : Nat) ≠ 2; decide)⟩
      · have hr' := hr
        rw [run_n (fun y => z ⟨by omega, isSp_iff.mp y⟩)] at hr'
        have et : tok T n p = (3, q, q + 1) := by
          unfold tok; rw [hr']; unfold tkAt
          rw [if_neg (by omega), if_neg (fun y => y1 ⟨by omega, isL_iff.mp y⟩), if_neg (fun y => y2 ⟨by omega, isD_iff.mp y⟩), if_pos y3.2]
        rw [nI_add q 1, y3.2]
        refine h _ ((oT.tr (K41.up (by omega))).tr (K41.up (by omega))) ?_
        rw [et]
        exact ⟨by rw [upI1, if_neg (by decide), upI1, if_pos ⟨rfl, rfl⟩], by rw [upI1, if_pos ⟨rfl, rfl⟩]; rfl, by rw [upI1, if_neg (by decide), upI1, if_neg (by decide)]; exact b12, fun z => absurd z (by show (3 : Nat) ≠ 2; decide)⟩
      · have hr' := hr
        rw [run_n (fun y => z ⟨by omega, isSp_iff.mp y⟩)] at hr'
        have et : tok T n p = (if run T isD n q - q ≤ 3 then 2 else 4, q, run T isD n q) := by
          unfold tok; rw [hr']; unfold tkAt
          rw [if_neg (by omega), if_neg (fun y => y1 ⟨by omega, isL_iff.mp y⟩), if_pos (isD_iff.mpr y2.2)]
        exact Nu1 q _ (by omega) et (n - q) 0 _ (by omega) (oT.tr (K41.up (by omega))) (by rw [upI1, if_neg (by decide)]; exact b12) (by rw [upI1, if_neg (by decide)]; exact b13) (fun _ => by rw [upI1, if_pos ⟨rfl, rfl⟩]; rfl) (by rw [Nat.add_zero])
      · have hr' := hr
        rw [run_n (fun y => z ⟨by omega, isSp_iff.mp y⟩)] at hr'
        have et : tok T n p = (if run T isL n q - q ≤ 7 then 1 else 4, q, run T isL n q) := by
          unfold tok; rw [hr']; unfold tkAt
          rw [if_neg (by omega), if_pos (isL_iff.mpr y1.2)]
        exact Wd1 q _ (by omega) et (n - q) 0 _ (by omega) oT b12 b13 (by rw [Nat.add_zero])
      · rw [run_y (by omega) (isSp_iff.mpr z.2)] at hr
        rw [nI_add q 1]
        exact (ih (q + 1) (upI w1 41 13 (nI (q + 1))) (by omega) (ho.tr (K41.up (by omega))) (by rw [upI1, if_pos ⟨rfl, rfl⟩]) hr).2
  exact M (n - p) p w (by omega) K41.rf h13 rfl
end GOES
