/-! the class reads a game, a thrower -/
def loF (i : Nat) : Nat := if i = 2 then 1 else 0
def hiF (i : Nat) : Nat := if i = 0 then 59 else if i = 1 then 9 else 200
theorem ro_loF : ∀ i, i < 3 → ro 102 (nI i) = nI (loF i) := by decide
theorem ro_hiF : ∀ i, i < 3 → ro 103 (nI i) = nI (hiF i) := by decide
theorem hiF_le (i : Nat) : hiF i ≤ 200 := by
  unfold hiF
  split
  · omega
  · split <;> omega
theorem loF_le (i : Nat) : loF i ≤ 1 := by unfold loF; split <;> omega
section CGAME
variable {w : Wd} {K : Kt} {T : Nat → Nat} {n : Nat} {D : Nat → Nat} {nm : Nat → Nat → Nat} {B : Nat → Nat}
/-- one number of a game -/
theorem c_fact (hT : ∀ j, T j < 256) (hn : n ≤ 800) {g i lo p at_ : Nat} {Dx : Nat → Nat} {u3 u4 : Value} (hg : g < 20) (hi : i < 3) (hlo : (i = 0 → 0 < g → w.1 9 ((g - 1) * 3 + 0) + nI 1 = nI lo) ∧ (¬ (i = 0 ∧ 0 < g) → lo = loF i)) (hl : lo < 2147483648) (hR : RC w T n p) (hp : p ≤ n) (h : el (takesP T n at_ lo (hiF i) Dx p) (KFc w K) (fun x => ∀ w1, Off (fun c => c = 1 ∨ c = 9) w w1 → RC w1 T n x.2 → x.2 ≤ n → w1.1 9 (g * 3 + i) = nI (x.1 at_) → (∀ j, j ≠ g * 3 + i → w1.1 9 j = w.1 9 j) → x.1 = upR Dx at_ (x.1 at_) → lo ≤ x.1 at_ → x.1 at_ ≤ hiF i → ∀ u3 u4, RR (tl K lX6_readGame) 22 [.ref 3, .int (nI g), .int (nI (i + 1)), u3, u4] [] w1)) : RR (tl K lX6_readGame) 22 [.ref 3, .int (nI g), .int (nI i), u3, u4] [] w := by
  have hh := hiF_le i
  have R : ∀ x3 x4 : Int32, fX6_readWhole [.ref 3, .int (nI lo), .int (nI (hiF i))] w (fun v w1 => RR (tl K lX6_readGame) 79 [.ref 3, .int (nI g), .int (nI i), .int x3, .int x4] (psh v []) w1) := by
    intro x3 x4
    refine c_readWhole hT hn hR hp hl (by omega) (el_mono h (fun f s z w1 o a b => tX6_readGame_79 ⟨fun y => absurd rfl y, fun _ => z w1 o a b⟩) (fun x z w1 o1 r1 p1 e6 ex b1 b2 => ?_))
    refine tX6_readGame_79 ⟨fun _ => ?_, fun y => absurd y (by decide)⟩
    rw [pk_mul, nI_add, wr_N (by omega), e6, nI_add i 1]
    have o9 : Off (fun c => c = 9) w1 (upI w1 9 (g * 3 + i) (nI (x.1 at_))) := Off.up rfl
    refine ⟨vp_in_nI (by omega) (by decide), z _ ((o1.mono (fun c q => Or.inl q)).tr (o9.mono (fun c q => Or.inr q))) (r1.off o9 (by decide) (by decide)) p1 (by rw [upI1, if_pos ⟨rfl, rfl⟩]) (fun j hj => by rw [upI1, if_neg (fun y => hj y.2), (o1 9 (by decide)).1]) ex b1 b2 _ _⟩
  have Z : ¬ (i = 0 ∧ 0 < g) → RR (tl K lX6_readGame) 39 [.ref 3, .int (nI g), .int (nI i), u3, u4] [] w := fun z => by
    refine tX6_readGame_39 (tX6_readGame_40 ⟨fun _ => ?_, fun y => absurd rfl y⟩)
    rw [ro_loF i hi, ro_hiF i hi, ← hlo.2 z]
    exact ⟨vp_in_nI (by omega) (by decide), R _ _⟩
  refine tX6_readGame_22 ⟨fun q => absurd q (by rw [le_N (by omega) (by omega)]; omega), fun _ => ?_⟩
  rw [eq0_N (by omega), le0_N (by omega)]
  refine ⟨fun q => Z (fun z => q z.1), fun q => ⟨fun q2 => Z (fun z => by omega), fun q2 => ?_⟩⟩
  refine tX6_readGame_40 ⟨fun y => absurd y (by decide), fun _ => ?_⟩
  have e : (nI g - nI 1) * nI 3 + nI 0 = nI ((g - 1) * 3 + 0) := by rw [sub_N (by omega), pk_mul, nI_add]
  rw [e, rd_N (by omega), hlo.1 q (by omega), ro_hiF i hi]
  exact ⟨vp_in_nI (by omega) (by decide), vp_in_nI (by omega) (by decide), R _ _⟩
theorem c_readGame (hT : ∀ j, T j < 256) (hn : n ≤ 800) {t0 : Tk} (hR : RC w T n t0.2.2) (h5 : w.1 1 5 = nI t0.2.1) (ht : t0.2.2 ≤ n) (hD : DRt w D nm B) (hb : D 0 ≤ 8 ∧ D 1 ≤ 20 ∧ D 2 ≤ 5) (hd : ∀ j, D j ≤ 500) (h : el (gameP T n D nm B t0) (KFc w K) (OKc w K T n)) : fX6_readGame [.ref 3] w K := by
  obtain ⟨⟨d0, d1, d2⟩, da, dg, db, dr⟩ := hD
  unfold gameP at h
  have hdl := hd (46 + D 1 - 1)
  refine tX6_readGame_0 ?_
  rw [d1, lt_N (by omega) (by omega)]
  refine ⟨fun q => ?_, fun q => ?_⟩
  · rw [if_neg (by omega), el_bnd] at h
    have f09 : Off SRd w w := Off.rf
    have s9 : ∀ {a b : Wd}, Off (fun c => c = 1 ∨ c = 9) a b → Off SRd a b := fun o => o.mono (fun c q => by unfold SRd; omega)
    refine c_fact (i := 0) (lo := if D 1 = 0 then 0 else D (46 + D 1 - 1) + 1) hT hn q (by omega) ⟨fun _ z => ?_, fun z => ?_⟩ (by split <;> omega) hR ht (el_mono h (fun _ _ z => z) (fun x z w1 o1 r1 p1 a1 k1 ex b1 b2 v3 v4 => ?_))
    · rw [(dg (D 1 - 1) (by omega)).1, nI_add, if_neg (by omega), show 46 + (D 1 - 1) = 46 + D 1 - 1 by omega]
    · rw [if_pos (by omega)]; rfl
    rw [el_bnd] at z
    refine c_fact (i := 1) (lo := 0) hT hn q (by omega) ⟨fun z => by omega, fun _ => rfl⟩ (by omega) r1 p1 (el_mono z (fun _ _ z => z.pre (s9 o1)) (fun x2 z2 w2 o2 r2 p2 a2 k2 ex2 c1 c2 v3 v4 => ?_))
    rw [el_bnd] at z2
    refine c_fact (i := 2) (lo := 1) hT hn q (by omega) ⟨fun z => by omega, fun _ => rfl⟩ (by omega) r2 p2 (el_mono z2 (fun _ _ z => z.pre ((s9 o1).tr (s9 o2))) (fun x3 z3 w3 o3 r3 p3 a3 k3 ex3 e1 e2 v3 v4 => ?_))
    refine tX6_readGame_22 ⟨fun _ => ?_, fun y => absurd (Int32.le_refl _) y⟩
    have e5 : w3.1 5 = w.1 5 := ((o3 5 (by decide)).1).trans (((o2 5 (by decide)).1).trans (o1 5 (by decide)).1)
    rw [e5, d1, nI_add]
    have o5 : Off (fun c => c = 5) w3 (upI w3 5 4 (nI (D 1 + 1))) := Off.up rfl
    refine z3 _ ((((s9 o1).tr (s9 o2)).tr (s9 o3)).tr (o5.mono (fun c q => by unfold SRd; omega))) (by rw [(o5 3 (by decide)).1, (o3 3 (by decide)).1, (o2 3 (by decide)).1, (o1 3 (by decide)).1]) (r3.off o5 (by decide) (by decide)) p3 ?_
    have ne : ∀ j, j ≠ 1 → j ≠ 46 + D 1 → j ≠ 66 + D 1 → j ≠ 86 + D 1 → x3.1 j = D j := fun j j1 ja jb jc => by rw [ex3, upR_n jc, ex2, upR_n jb, ex, upR_n ja, upR_n j1]
    have n1 : x3.1 1 = D 1 + 1 := by rw [ex3, upR_n (by omega), ex2, upR_n (by omega), ex, upR_n (by omega), upR_e]
    have na : x3.1 (46 + D 1) = x.1 (46 + D 1) := by rw [ex3, upR_n (by omega), ex2, upR_n (by omega)]
    have nb : x3.1 (66 + D 1) = x2.1 (66 + D 1) := by rw [ex3, upR_n (by omega)]
    have q1 : ∀ c, c ≠ 1 → c ≠ 5 → c ≠ 9 → (upI w3 5 4 (nI (D 1 + 1))).1 c = w.1 c ∧ (upI w3 5 4 (nI (D 1 + 1))).2 c = w.2 c := fun c c1 c5 c9 => ⟨((o5 c c5).1).trans (((o3 c (by omega)).1).trans (((o2 c (by omega)).1).trans (o1 c (by omega)).1)), ((o5 c c5).2).trans (((o3 c (by omega)).2).trans (((o2 c (by omega)).2).trans (o1 c (by omega)).2))⟩
    have w5 : ∀ j, j ≠ 4 → (upI w3 5 4 (nI (D 1 + 1))).1 5 j = w.1 5 j := fun j hj => by rw [upI1, if_neg (fun z => hj z.2), e5]
    refine ⟨⟨?_, ?_, ?_⟩, fun k hk => ?_, fun u hu => ?_, fun j hj => ?_, fun j hj => ?_⟩
    · rw [w5 0 (by decide), ne 0 (by omega) (by omega) (by omega) (by omega)]; exact d0
    · rw [upI1, if_pos ⟨rfl, rfl⟩, n1]
    · rw [w5 7 (by decide), ne 2 (by omega) (by omega) (by omega) (by omega)]; exact d2
    · have hk : k < x3.1 0 := hk
      rw [ne 0 (by omega) (by omega) (by omega) (by omega)] at hk
      rw [(q1 6 (by decide) (by decide) (by decide)).2, (q1 7 (by decide) (by decide) (by decide)).1, (q1 8 (by decide) (by decide) (by decide)).1, ne (6 + k) (by omega) (by omega) (by omega) (by omega)]
      refine ⟨(da k hk).1, (da k hk).2.1, fun u hu => ?_⟩
      show _ = nI (x3.1 (14 + 8 * u + k))
      rw [ne _ (by omega) (by omega) (by omega) (by omega)]; exact (da k hk).2.2 u hu
    · have hu : u < x3.1 1 := hu
      rw [n1] at hu
      rw [(o5 9 (by decide)).1]
      by_cases c : u = D 1
      · subst c
        refine ⟨?_, ?_, a3⟩
        · rw [k3 _ (by omega), k2 _ (by omega), a1, na]
        · rw [k3 _ (by omega), a2, nb]
      · rw [k3 _ (by omega), k2 _ (by omega), k1 _ (by omega), k3 _ (by omega), k2 _ (by omega), k1 _ (by omega), k3 _ (by omega), k2 _ (by omega), k1 _ (by omega), ne (46 + u) (by omega) (by omega) (by omega) (by omega), ne (66 + u) (by omega) (by omega) (by omega) (by omega), ne (86 + u) (by omega) (by omega) (by omega) (by omega)]
        exact dg u (by omega)
    · rw [(q1 10 (by decide) (by decide) (by decide)).1, (q1 4 (by decide) (by decide) (by decide)).1, ne (3 + j) (by omega) (by omega) (by omega) (by omega)]
      exact db j hj
    · have hj : j < x3.1 2 := hj
      rw [ne 2 (by omega) (by omega) (by omega) (by omega)] at hj
      rw [(q1 11 (by decide) (by decide) (by decide)).1, (q1 12 (by decide) (by decide) (by decide)).1, ne (246 + j) (by omega) (by omega) (by omega) (by omega), ne (251 + j) (by omega) (by omega) (by omega) (by omega)]
      exact dr j hj
  · rw [if_pos (by omega)] at h
    exact c_fail (t := t0) h Off.rf h5
/-- one number of a thrower -/
theorem c_traitD (hT : ∀ j, T j < 256) (hn : n ≤ 800) {a i hi p at_ : Nat} {Dx : Nat → Nat} (ha : a < 8) (h4 : i < 4) (hhi : (i = 2 → w.1 8 (a * 4 + 1) = nI hi) ∧ (i ≠ 2 → hi = hiT i)) (hl : hi < 2147483648) (hR : RC w T n p) (hp : p ≤ n) (h : el (takesP T n at_ (loT i) hi Dx p) (KFc w K) (fun x => ∀ w1, Off (fun c => c = 1 ∨ c = 8) w w1 → RC w1 T n x.2 → x.2 ≤ n → w1.1 8 (a * 4 + i) = nI (x.1 at_) → (∀ j, j ≠ a * 4 + i → w1.1 8 j = w.1 8 j) → x.1 = upR Dx at_ (x.1 at_) → loT i ≤ x.1 at_ → x.1 at_ ≤ hi → RR (tl K lX6_readArm) 40 [.ref 3, .int (nI a), .int (nI (i + 1))] [] w1)) : RR (tl K lX6_readArm) 40 [.ref 3, .int (nI a), .int (nI i)] [] w := by
  have hh := hiT_le i
  have ll : loT i ≤ 1 := by unfold loT; split <;> omega
  refine tX6_readArm_40 ⟨fun q => absurd q (by rw [le_N (by omega) (by omega)]; omega), fun _ => ⟨vp_in_nI (by omega) (by decide), ?_⟩⟩
  rw [ro_loT i h4]
  have R : fX6_readWhole [.ref 3, .int (nI (loT i)), .int (nI hi)] w (fun v w1 => RR (tl K lX6_readArm) 63 [.ref 3, .int (nI a), .int (nI i)] (psh v []) w1) := by
    refine c_readWhole hT hn hR hp (by omega) hl (el_mono h (fun f s z w1 o a b => tX6_readArm_63 ⟨fun y => absurd rfl y, fun _ => z w1 o a b⟩) (fun x z w1 o1 r1 p1 e6 ex b1 b2 => ?_))
    refine tX6_readArm_63 ⟨fun _ => ?_, fun y => absurd y (by decide)⟩
    rw [pk_mul, nI_add, wr_N (by omega), e6, nI_add i 1]
    have o9 : Off (fun c => c = 8) w1 (upI w1 8 (a * 4 + i) (nI (x.1 at_))) := Off.up rfl
    exact ⟨vp_in_nI (by omega) (by decide), z _ ((o1.mono (fun c q => Or.inl q)).tr (o9.mono (fun c q => Or.inr q))) (r1.off o9 (by decide) (by decide)) p1 (by rw [upI1, if_pos ⟨rfl, rfl⟩]) (fun j hj => by rw [upI1, if_neg (fun y => hj y.2), (o1 8 (by decide)).1]) ex b1 b2⟩
  refine tX9_highestTrait_0d ?_
  rw [eq_N (by omega) (by omega), ro_hiT i h4, pk_mul, nI_add, rd_N (by omega)]
  refine ⟨fun q => ⟨vp_in_nI (by omega) (by decide), ?_⟩, fun q => ⟨vp_in_nI (by omega) (by decide), ?_⟩⟩
  · rw [← hhi.2 q]; exact tX6_readArm_60 R
  · rw [hhi.1 q]; exact tX6_readArm_60 R
theorem c_readName (hT : ∀ j, T j < 256) (hn : n ≤ 800) {p : Nat} (hR : RC w T n p) (hp : p ≤ n) (ha : D 0 < 8) (h50 : w.1 5 0 = nI (D 0)) (h6 : ∀ k, k < D 0 → w.2 6 k = lN (cdU (nm k) 7) ∧ okW (nm k)) (kf1 : ¬ nameOk T (tok T n p) → KFc w K 1 (tok T n p).2.1) (kf3 : nameOk T (tok T n p) → (∃ k, k < D 0 ∧ ∀ j, j < 7 → nm k j = nmT T (tok T n p) j) → KFc w K 3 (tok T n p).2.1) (ko : nameOk T (tok T n p) → ¬ (∃ k, k < D 0 ∧ ∀ j, j < 7 → nm k j = nmT T (tok T n p) j) → ∀ w1, Off (fun c => c = 1 ∨ c = 6) w w1 → RC w1 T n (tok T n p).2.2 → w1.2 6 (D 0) = lN (cdU (nmT T (tok T n p)) 7) → (∀ k, k ≠ D 0 → w1.2 6 k = w.2 6 k) → K (some (.int (nI 1))) w1) : fX6_readName [.ref 3, .int (nI (D 0))] w K := by
  have tb := tok_b (T := T) hp
  refine tX6_readName_0 (c_next hT hn hR hp (fun w1 o1 r1 t1 => tX6_readName_7 ?_))
  rw [t1.2.1, eq_N (by omega) (by omega)]
  refine ⟨fun q => c_fail (t := tok T n p) (kf1 (fun z => q z.1)) (sr_1 o1) t1.2.2.1, fun q => ?_⟩
  have wd := tok_wd hp q
  refine c_isReserved hT r1.1 t1 tb.2.1 (by omega) tb.2.2.2.1 (fun v hv => tX6_readName_22 ⟨fun y => ?_, fun y => ?_⟩)
  · have ok : nameOk T (tok T n p) := ⟨q, fun c hc z => hv.f y ⟨c, hc, z⟩⟩
    rw [t1.2.2.2.2 q, ← nmT_cd wd]
    refine c_armNamedD (a := D 0) (nm := nm) (by omega) (by rw [(o1 5 (by decide)).1]; exact h50) (fun k hk => by rw [(o1 6 (by decide)).2]; exact h6 k hk) (nmT_ok wd) (fun z => tX6_readName_45 ⟨fun _ => ?_, fun y => absurd rfl y⟩) (fun k hk z _ => tX6_readName_45 ⟨fun y => absurd y (ne_m1 (by omega)), fun _ => ?_⟩)
    · rw [wrL_N (by omega), t1.2.2.2.2 q]
      have o6 : Off (fun c => c = 6) w1 (upL w1 6 (D 0) (lN (cod T (tok T n p).2.1 ((tok T n p).2.2 - (tok T n p).2.1)))) := Off.upL rfl
      refine ⟨vp_in_nI (by omega) (by decide), ko ok (fun ⟨k, hk, e⟩ => z k hk e) _ ((o1.mono (fun c q => Or.inl q)).tr (o6.mono (fun c q => Or.inr q))) (r1.off o6 (by decide) (by decide)) ?_ (fun k hk => ?_)⟩
      · rw [upL2, if_pos ⟨rfl, rfl⟩, nmT_cd wd]
      · rw [upL2, if_neg (fun z => hk z.2), (o1 6 (by decide)).2]
    · exact c_fail (t := tok T n p) (kf3 ok ⟨k, hk, z⟩) (sr_1 o1) t1.2.2.1
  · exact c_fail (t := tok T n p) (kf1 (fun z => by
      obtain ⟨c, hc, u⟩ := hv.t y
      exact z.2 c hc u)) (sr_1 o1) t1.2.2.1
theorem c_readHand (hT : ∀ j, T j < 256) (hn : n ≤ 800) {p a : Nat} (hR : RC w T n p) (hp : p ≤ n) (ha : a < 8) (kf1 : ¬ (isW T (tok T n p) 201 ∨ isW T (tok T n p) 202) → KFc w K 1 (tok T n p).2.1) (ko : (isW T (tok T n p) 201 ∨ isW T (tok T n p) 202) → ∀ w1, Off (fun c => c = 1 ∨ c = 7) w w1 → RC w1 T n (tok T n p).2.2 → w1.1 7 a = nI (bif dec (isW T (tok T n p) 201) then 0 else 1) → (∀ k, k ≠ a → w1.1 7 k = w.1 7 k) → K (some (.int (nI 1))) w1) : fX6_readHand [.ref 3, .int (nI a)] w K := by
  have tb := tok_b (T := T) hp
  refine tX6_readHand_0 (c_next hT hn hR hp (fun w1 o1 r1 t1 => tX6_readHand_7 ?_))
  refine c_isWord_right hT r1.1 t1 tb.2.1 (by omega) tb.2.2.2.1 (fun v hv => tX6_readHand_16 ⟨fun y => ?_, fun y => ?_⟩)
  · have i2 := hv.t y
    have n1 : ¬ isW T (tok T n p) 201 := fun z => by
      have a1 := z.2.1
      have a2 := i2.2.1
      have w1 : wl 201 = 4 := rfl
      have w2 : wl 202 = 5 := rfl
      omega
    refine tX6_readHand_39 ⟨fun z => absurd z y, fun _ => ⟨vp_in_nI (by omega) (by decide), ?_⟩⟩
    rw [wr_N (by omega)]
    have o7 : Off (fun c => c = 7) w1 (upI w1 7 a (nI 1)) := Off.up rfl
    exact ko (Or.inr i2) _ ((o1.mono (fun c q => Or.inl q)).tr (o7.mono (fun c q => Or.inr q))) (r1.off o7 (by decide) (by decide)) (by rw [upI1, if_pos ⟨rfl, rfl⟩, dec_f n1]; rfl) (fun k hk => by rw [upI1, if_neg (fun z => hk z.2), (o1 7 (by decide)).1])
  · refine c_isWord_left hT r1.1 t1 tb.2.1 (by omega) tb.2.2.2.1 (fun v2 hv2 => tX6_readHand_30 ⟨fun y2 => ?_, fun y2 => ?_⟩)
    · have i1 := hv2.t y2
      refine tX6_readHand_39 ⟨fun _ => ⟨vp_in_nI (by omega) (by decide), ?_⟩, fun z => absurd y z⟩
      rw [wr_N (by omega)]
      have o7 : Off (fun c => c = 7) w1 (upI w1 7 a (nI 0)) := Off.up rfl
      exact ko (Or.inl i1) _ ((o1.mono (fun c q => Or.inl q)).tr (o7.mono (fun c q => Or.inr q))) (r1.off o7 (by decide) (by decide)) (by rw [upI1, if_pos ⟨rfl, rfl⟩, dec_t i1]; rfl) (fun k hk => by rw [upI1, if_neg (fun z => hk z.2), (o1 7 (by decide)).1])
    · exact c_fail (t := tok T n p) (kf1 (fun z => by
        rcases z with z | z
        · exact hv2.f y2 z
        · exact hv.f y z)) (sr_1 o1) t1.2.2.1
end CGAME
