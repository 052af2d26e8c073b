/-! the class reads a thrower, a line, a text -/
section CREAD2
variable {w : Wd} {K : Kt} {T : Nat → Nat} {n : Nat} {D : Nat → Nat} {nm : Nat → Nat → Nat} {B : Nat → Nat}
theorem c_readArm (hT : ∀ j, T j < 256) (hn : n ≤ 800) {t0 : Tk} (hR : RC w T n t0.2.2) (h5 : w.1 1 5 = nI t0.2.1) (ht : t0.2.2 ≤ n) (hD : DRt w D nm B) (hb : D 0 ≤ 8 ∧ D 1 ≤ 20 ∧ D 2 ≤ 5) (hN : ∀ k, k < D 0 → okW (nm k)) (h : el (armP T n D nm B t0) (KFc w K) (OKc w K T n)) : fX6_readArm [.ref 3] w K := by
  obtain ⟨⟨d0, d1, d2⟩, da, dg, db, dr⟩ := hD
  unfold armP at h
  refine tX6_readArm_0 ?_
  rw [d0, lt_N (by omega) (by omega)]
  refine ⟨fun q => ?_, fun q => ?_⟩
  · rw [dec_f (by omega)] at h
    have tb := tok_b (T := T) ht
    refine c_readName (nm := nm) hT hn hR ht q d0 (fun k hk => ⟨(da k hk).1, hN k hk⟩) (fun z w1 o a b => tX6_readArm_25 ⟨fun _ => ?_, fun y => absurd rfl y⟩) (fun z z2 w1 o a b => tX6_readArm_25 ⟨fun _ => ?_, fun y => absurd rfl y⟩) (fun z z2 w1 o1 r1 a6 k6 => tX6_readArm_25 ⟨fun y => absurd y (by decide), fun _ => ?_⟩)
    · rw [dec_f z] at h
      have h : KFc w K 1 (tok T n t0.2.2).2.1 := h
      exact h w1 o a b
    · rw [dec_t z, dec_t z2] at h
      have h : KFc w K 3 (tok T n t0.2.2).2.1 := h
      exact h w1 o a b
    · rw [dec_t z, dec_f z2] at h
      have tb2 := tok_b (T := T) tb.2.2.1
      have s1 : Off SRd w w1 := o1.mono (fun c q => by unfold SRd; omega)
      refine c_readHand hT hn r1 tb.2.2.1 q (fun y w2 o a b => tX6_readArm_33 ⟨fun u => absurd rfl u, fun _ => ?_⟩) (fun y w2 o2 r2 a7 k7 => tX6_readArm_33 ⟨fun _ => ?_, fun u => absurd u (by decide)⟩)
      · rw [dec_f y] at h
        have h : KFc w K 1 (tok T n (tok T n t0.2.2).2.2).2.1 := h
        exact h w2 (s1.tr o) a b
      · rw [dec_t y] at h
        generalize (bif dec (isW T (tok T n (tok T n t0.2.2).2.2) 201) then 0 else 1) = hd at h a7
        have h : el (bnd (takesP T n (14 + D 0) 1 99 (upR (upR D (6 + D 0) hd) 0 (D 0 + 1)) (tok T n (tok T n t0.2.2).2.2).2.2) (fun x => bnd (takesP T n (22 + D 0) 1 120 x.1 x.2) (fun x => bnd (takesP T n (30 + D 0) 0 (x.1 (22 + D 0)) x.1 x.2) (fun x => bnd (takesP T n (38 + D 0) 0 9 x.1 x.2) (fun x => .inr (x.1, fun k => if k = D 0 then nmT T (tok T n t0.2.2) else nm k, B, x.2)))))) (KFc w K) (OKc w K T n) := h
        have s2 : Off SRd w w2 := s1.tr (o2.mono (fun c q => by unfold SRd; omega))
        have s8 : ∀ {a b : Wd}, Off (fun c => c = 1 ∨ c = 8) a b → Off SRd a b := fun o => o.mono (fun c q => by unfold SRd; omega)
        rw [el_bnd] at h
        refine c_traitD (i := 0) (hi := 99) hT hn q (by omega) ⟨fun z => by omega, fun _ => rfl⟩ (by omega) r2 tb2.2.2.1 (el_mono h (fun _ _ z => z.pre s2) (fun x z w3 o3 r3 p3 a3 k3 ex3 b3 c3 => ?_))
        rw [el_bnd] at z
        refine c_traitD (i := 1) (hi := 120) hT hn q (by omega) ⟨fun z => by omega, fun _ => rfl⟩ (by omega) r3 p3 (el_mono z (fun _ _ z => z.pre (s2.tr (s8 o3))) (fun x4 z4 w4 o4 r4 p4 a4 k4 ex4 b4 c4 => ?_))
        rw [el_bnd] at z4
        refine c_traitD (i := 2) (hi := x4.1 (22 + D 0)) hT hn q (by omega) ⟨fun _ => a4, fun z => absurd rfl z⟩ (by omega) r4 p4 (el_mono z4 (fun _ _ z => z.pre ((s2.tr (s8 o3)).tr (s8 o4))) (fun x5 z5 w5 o5 r5 p5 a5 k5 ex5 b5 c5 => ?_))
        rw [el_bnd] at z5
        refine c_traitD (i := 3) (hi := 9) hT hn q (by omega) ⟨fun z => by omega, fun _ => rfl⟩ (by omega) r5 p5 (el_mono z5 (fun _ _ z => z.pre (((s2.tr (s8 o3)).tr (s8 o4)).tr (s8 o5))) (fun x6 z6 w6 o6 r6 p6 a8 k8 ex6 b6 c6 => ?_))
        refine tX6_readArm_40 ⟨fun _ => ?_, fun y => absurd (Int32.le_refl _) y⟩
        have s6 := (((s2.tr (s8 o3)).tr (s8 o4)).tr (s8 o5)).tr (s8 o6)
        -- what the cells hold
        have q1 : ∀ c, c ≠ 1 → c ≠ 6 → c ≠ 7 → c ≠ 8 → w6.1 c = w.1 c ∧ w6.2 c = w.2 c := fun c c1 c6 c7 c8 => ⟨((o6 c (by omega)).1).trans (((o5 c (by omega)).1).trans (((o4 c (by omega)).1).trans (((o3 c (by omega)).1).trans (((o2 c (by omega)).1).trans (o1 c (by omega)).1)))), ((o6 c (by omega)).2).trans (((o5 c (by omega)).2).trans (((o4 c (by omega)).2).trans (((o3 c (by omega)).2).trans (((o2 c (by omega)).2).trans (o1 c (by omega)).2))))⟩
        have v6 : w6.2 6 = w1.2 6 := ((o6 6 (by decide)).2).trans (((o5 6 (by decide)).2).trans (((o4 6 (by decide)).2).trans (((o3 6 (by decide)).2).trans (o2 6 (by decide)).2)))
        have v7 : w6.1 7 = w2.1 7 := ((o6 7 (by decide)).1).trans (((o5 7 (by decide)).1).trans (((o4 7 (by decide)).1).trans (o3 7 (by decide)).1))
        have v7b : w1.1 7 = w.1 7 := (o1 7 (by decide)).1
        have v8 : w2.1 8 = w.1 8 := ((o2 8 (by decide)).1).trans (o1 8 (by decide)).1
        rw [(q1 5 (by decide) (by decide) (by decide) (by decide)).1, d0, nI_add]
        have o7 : Off (fun c => c = 5) w6 (upI w6 5 0 (nI (D 0 + 1))) := Off.up rfl
        refine z6 _ (s6.tr (o7.mono (fun c q => by unfold SRd; omega))) (by rw [(o7 3 (by decide)).1, (q1 3 (by decide) (by decide) (by decide) (by decide)).1]) (r6.off o7 (by decide) (by decide)) p6 ?_
        have ne : ∀ j, j ≠ 0 → j ≠ 6 + D 0 → j ≠ 14 + D 0 → j ≠ 22 + D 0 → j ≠ 30 + D 0 → j ≠ 38 + D 0 → x6.1 j = D j := fun j j0 j6 ja jb jc jd => by rw [ex6, upR_n jd, ex5, upR_n jc, ex4, upR_n jb, ex3, upR_n ja, upR_n j0, upR_n j6]
        have n0 : x6.1 0 = D 0 + 1 := by rw [ex6, upR_n (by omega), ex5, upR_n (by omega), ex4, upR_n (by omega), ex3, upR_n (by omega), upR_e]
        have n6 : x6.1 (6 + D 0) = hd := by rw [ex6, upR_n (by omega), ex5, upR_n (by omega), ex4, upR_n (by omega), ex3, upR_n (by omega), upR_n (by omega), upR_e]
        have n14 : x6.1 (14 + D 0) = x.1 (14 + D 0) := by rw [ex6, upR_n (by omega), ex5, upR_n (by omega), ex4, upR_n (by omega)]
        have n22 : x6.1 (22 + D 0) = x4.1 (22 + D 0) := by rw [ex6, upR_n (by omega), ex5, upR_n (by omega)]
        have n30 : x6.1 (30 + D 0) = x5.1 (30 + D 0) := by rw [ex6, upR_n (by omega)]
        have w5' : ∀ j, j ≠ 0 → (upI w6 5 0 (nI (D 0 + 1))).1 5 j = w.1 5 j := fun j hj => by rw [upI1, if_neg (fun z => hj z.2), (q1 5 (by decide) (by decide) (by decide) (by decide)).1]
        refine ⟨⟨?_, ?_, ?_⟩, fun k hk => ?_, fun u hu => ?_, fun j hj => ?_, fun j hj => ?_⟩
        · rw [upI1, if_pos ⟨rfl, rfl⟩, n0]
        · rw [w5' 4 (by decide), ne 1 (by omega) (by omega) (by omega) (by omega) (by omega) (by omega)]; exact d1
        · rw [w5' 7 (by decide), ne 2 (by omega) (by omega) (by omega) (by omega) (by omega) (by omega)]; exact d2
        · have hk : k < x6.1 0 := hk
          rw [n0] at hk
          rw [(o7 6 (by decide)).2, (o7 7 (by decide)).1, (o7 8 (by decide)).1, v6, v7]
          by_cases c : k = D 0
          · subst c
            refine ⟨?_, ?_, fun u hu => ?_⟩
            · show _ = lN (cdU (if D 0 = D 0 then nmT T (tok T n t0.2.2) else nm (D 0)) 7)
              rw [if_pos rfl]; exact a6
            · rw [a7]; exact congrArg nI n6.symm
            · have u4 : u = 0 ∨ u = 1 ∨ u = 2 ∨ u = 3 := by omega
              rcases u4 with rfl | rfl | rfl | rfl
              · rw [k8 _ (by omega), k5 _ (by omega), k4 _ (by omega), a3]
                exact congrArg nI n14.symm
              · rw [k8 _ (by omega), k5 _ (by omega), a4]
                exact congrArg nI n22.symm
              · rw [k8 _ (by omega), a5]
                exact congrArg nI n30.symm
              · exact a8
          · refine ⟨?_, ?_, fun u hu => ?_⟩
            · show _ = lN (cdU (if k = D 0 then nmT T (tok T n t0.2.2) else nm k) 7)
              rw [if_neg c, k6 k c]; exact (da k (by omega)).1
            · rw [k7 k c, v7b, ne (6 + k) (by omega) (by omega) (by omega) (by omega) (by omega) (by omega)]; exact (da k (by omega)).2.1
            · rw [k8 _ (by omega), k5 _ (by omega), k4 _ (by omega), k3 _ (by omega), v8]
              show _ = nI (x6.1 (14 + 8 * u + k))
              rw [ne _ (by omega) (by omega) (by omega) (by omega) (by omega) (by omega)]; exact (da k (by omega)).2.2 u hu
        · have hu : u < x6.1 1 := hu
          rw [ne 1 (by omega) (by omega) (by omega) (by omega) (by omega) (by omega)] at hu
          rw [(o7 9 (by decide)).1, (q1 9 (by decide) (by decide) (by decide) (by decide)).1, ne (46 + u) (by omega) (by omega) (by omega) (by omega) (by omega) (by omega), ne (66 + u) (by omega) (by omega) (by omega) (by omega) (by omega) (by omega), ne (86 + u) (by omega) (by omega) (by omega) (by omega) (by omega) (by omega)]
          exact dg u hu
        · rw [(o7 10 (by decide)).1, (o7 4 (by decide)).1, (q1 10 (by decide) (by decide) (by decide) (by decide)).1, (q1 4 (by decide) (by decide) (by decide) (by decide)).1, ne (3 + j) (by omega) (by omega) (by omega) (by omega) (by omega) (by omega)]
          exact db j hj
        · have hj : j < x6.1 2 := hj
          rw [ne 2 (by omega) (by omega) (by omega) (by omega) (by omega) (by omega)] at hj
          rw [(o7 11 (by decide)).1, (o7 12 (by decide)).1, (q1 11 (by decide) (by decide) (by decide) (by decide)).1, (q1 12 (by decide) (by decide) (by decide) (by decide)).1, ne (246 + j) (by omega) (by omega) (by omega) (by omega) (by omega) (by omega), ne (251 + j) (by omega) (by omega) (by omega) (by omega) (by omega) (by omega)]
          exact dr j hj
  · rw [dec_t (by omega)] at h
    exact c_fail (t := t0) h Off.rf h5
theorem c_readLine (hT : ∀ j, T j < 256) (hn : n ≤ 800) {p : Nat} (hR : RC w T n p) (hD : DRt w D nm B) (hI : IV n (D, nm, B, p)) (h : el (lineP T n D nm B p) (KFc w K) (OKc w K T n)) : fX6_readLine [.ref 3] w K := by
  have hp : p ≤ n := hI.2.2.1
  have tb := tok_b (T := T) hp
  have b := hI.1.1
  have hb : D 0 ≤ 8 ∧ D 1 ≤ 20 ∧ D 2 ≤ 5 := ⟨b 0, b 1, b 2⟩
  have hd : ∀ j, D j ≤ 500 := fun j => Nat.le_trans (b j) (bd_le j)
  have hB : ∀ i, i < 3 → B i ≤ 1 := hI.2.1
  have hN : ∀ k, k < D 0 → okW (nm k) := hI.2.2.2
  refine tX6_readLine_0 (c_next hT hn hR hp (fun w1 o1 r1 t1 => tX6_readLine_7 ?_))
  have s1 := sr_1 o1
  have hD1 := hD.off o1 (fun c a b => off1_d a b)
  unfold lineP at h
  have L : ∀ {x : ER ⊕ PSt}, el x (KFc w K) (OKc w K T n) → el x (KFc w1 K) (OKc w1 K T n) := fun z => el_mono z (fun _ _ y => y.pre s1) (fun s y w2 o e r p d => y w2 (s1.tr o) (by rw [e, (o1 3 (by decide)).1]) r p d)
  -- each kind hands its answer on
  have hand : ∀ (pc : Nat) (x : ER ⊕ PSt) (K2 : Kt), (∀ y w2, (y = 0 ∨ y = 1) → K (some (.int y)) w2 → K2 (some (.int y)) w2) → el x (KFc w1 K) (OKc w1 K T n) → el x (KFc w1 K2) (OKc w1 K2 T n) := fun _ x K2 hk z => el_mono z (fun _ _ y w2 o a b => hk _ _ (Or.inl rfl) (y w2 o a b)) (fun s y w2 o e r p d => hk _ _ (Or.inr rfl) (y w2 o e r p d))
  refine c_isWord_arm hT r1.1 t1 tb.2.1 (by omega) tb.2.2.2.1 (fun v0 b0 => tX6_readLine_16 ⟨fun z0 => ?_, fun z0 => ?_⟩)
  · rw [dec_f (b0.f z0)] at h
    refine c_isWord_game hT r1.1 t1 tb.2.1 (by omega) tb.2.2.2.1 (fun v1 b1 => tX6_readLine_33 ⟨fun z1 => ?_, fun z1 => ?_⟩)
    · rw [dec_f (b1.f z1)] at h
      refine c_isWord_rest hT r1.1 t1 tb.2.1 (by omega) tb.2.2.2.1 (fun v2 b2 => tX6_readLine_50 ⟨fun z2 => ?_, fun z2 => ?_⟩)
      · rw [dec_f (b2.f z2)] at h
        refine c_isWord_week hT r1.1 t1 tb.2.1 (by omega) tb.2.2.2.1 (fun v3 b3 => tX6_readLine_67 ⟨fun z3 => ?_, fun z3 => ?_⟩)
        · rw [dec_f (b3.f z3)] at h
          refine c_isWord_edge hT r1.1 t1 tb.2.1 (by omega) tb.2.2.2.1 (fun v4 b4 => tX6_readLine_85 ⟨fun z4 => ?_, fun z4 => ?_⟩)
          · rw [dec_f (b4.f z4)] at h
            refine c_isWord_out hT r1.1 t1 tb.2.1 (by omega) tb.2.2.2.1 (fun v5 b5 => tX6_readLine_103 ⟨fun z5 => ?_, fun z5 => ?_⟩)
            · rw [dec_f (b5.f z5)] at h
              have h : KFc w K 1 (tok T n p).2.1 := h
              exact c_fail (t := tok T n p) h s1 t1.2.2.1
            · rw [dec_t (b5.t z5)] at h
              exact c_readBound hT hn (by decide) r1 t1.2.2.1 tb.2.2.1 hD1 hB hb (hand 111 _ _ (fun y w2 hy hk => tX6_readLine_111 ⟨hy, hk⟩) (L h))
          · rw [dec_t (b4.t z4)] at h
            exact c_readBound hT hn (by decide) r1 t1.2.2.1 tb.2.2.1 hD1 hB hb (hand 93 _ _ (fun y w2 hy hk => tX6_readLine_93 ⟨hy, hk⟩) (L h))
        · rw [dec_t (b3.t z3)] at h
          exact c_readBound hT hn (by decide) r1 t1.2.2.1 tb.2.2.1 hD1 hB hb (hand 75 _ _ (fun y w2 hy hk => tX6_readLine_75 ⟨hy, hk⟩) (L h))
      · rw [dec_t (b2.t z2)] at h
        exact c_readRest hT hn r1 t1.2.2.1 tb.2.2.1 hD1 hb hd (hand 57 _ _ (fun y w2 hy hk => tX6_readLine_57 ⟨hy, hk⟩) (L h))
    · rw [dec_t (b1.t z1)] at h
      exact c_readGame hT hn r1 t1.2.2.1 tb.2.2.1 hD1 hb hd (hand 40 _ _ (fun y w2 hy hk => tX6_readLine_40 ⟨hy, hk⟩) (L h))
  · rw [dec_t (b0.t z0)] at h
    exact c_readArm hT hn r1 t1.2.2.1 tb.2.2.1 hD1 hb hN (hand 23 _ _ (fun y w2 hy hk => tX6_readLine_23 ⟨hy, hk⟩) (L h))
theorem IV_0 (n : Nat) : IV n (D0, fun _ _ => 0, fun _ => 0, 0) := by
  refine ⟨⟨fun j => ?_, fun u v huv hv => ?_, fun t ht => ?_, fun g hg => ?_⟩, fun _ _ => Nat.zero_le _, Nat.zero_le _, fun k hk => ?_⟩
  · show (if j = 5 then 15 else 0) ≤ bd j
    by_cases q : j = 5
    · rw [if_pos q, q]; decide
    · rw [if_neg q]; exact Nat.zero_le _
  · exact absurd hv (Nat.not_lt_zero v)
  · exact absurd ht (Nat.not_lt_zero t)
  · exact absurd hg (Nat.not_lt_zero g)
  · exact absurd hk (Nat.not_lt_zero k)
theorem c_read (hT : ∀ j, T j < 256) {L : Nat} (hb : BYc w T) (hL : w.1 1 1 = nI L) (hL8 : L ≤ 800) (hn : n ≤ L) (h : el (parseP T n) (KFc w K) (fun x => ∀ w1, Off SRd w w1 → (∃ B, DRt w1 x.1 x.2 B) → WDp x.1 → (∀ k, k < x.1 0 → okW (x.2 k)) → 0 < x.1 0 → 0 < x.1 1 → w1.1 3 3 = nI 0 → K (some (.int (nI 1))) w1)) : fX6_read [.ref 3, .int (nI n)] w K := by
  have M : ∀ (m c : Nat) (s : PSt) (w1 : Wd), c + m = 37 → Off SRd w w1 → RC w1 T n s.2.2.2 → DRt w1 s.1 s.2.1 s.2.2.1 → IV n s → cnt s = c → w1.1 3 3 = nI 0 → el (linesP T n m s) (KFc w K) (fun x => ∀ w1, Off SRd w w1 → (∃ B, DRt w1 x.1 x.2 B) → WDp x.1 → (∀ k, k < x.1 0 → okW (x.2 k)) → 0 < x.1 0 → 0 < x.1 1 → w1.1 3 3 = nI 0 → K (some (.int (nI 1))) w1) → RR (tl K lX6_read) 47 [.ref 3, .int (nI n), .int (nI c)] [] w1 := by
    intro m
    induction m with
    | zero =>
      intro c s w1 hc o1 r1 d1 i1 ec e3 hl
      have := cnt_le i1
      omega
    | succ m ih =>
      intro c s w1 hc o1 r1 d1 i1 ec e3 hl
      refine tX6_read_47 ⟨fun q => absurd q (by rw [lt_N (by omega) (by omega)]; omega), fun _ => ?_⟩
      have hl : el (bnd (lineP T n s.1 s.2.1 s.2.2.1 s.2.2.2) (fun s => if (tok T n s.2.2.2).1 = 3 then linesP T n m (s.1, s.2.1, s.2.2.1, (tok T n s.2.2.2).2.2) else if (tok T n s.2.2.2).1 = 0 then (if 0 < s.1 0 ∧ 0 < s.1 1 then .inr (s.1, s.2.1) else .inl (5, (tok T n s.2.2.2).2.1)) else .inl (1, (tok T n s.2.2.2).2.1))) (KFc w K) (fun x => ∀ w1, Off SRd w w1 → (∃ B, DRt w1 x.1 x.2 B) → WDp x.1 → (∀ k, k < x.1 0 → okW (x.2 k)) → 0 < x.1 0 → 0 < x.1 1 → w1.1 3 3 = nI 0 → K (some (.int (nI 1))) w1) := hl
      rw [el_bnd] at hl
      refine c_readLine hT (by omega) r1 d1 i1 (el_mono (el_and hl (line_ok i1)) (fun f q z w2 o a b => tX6_read_57 ⟨fun y => absurd rfl y, fun _ => z.1.pre o1 w2 o a b⟩) (fun s2 z w2 o2 e2 r2 p2 d2 => tX6_read_57 ⟨fun _ => ?_, fun y => absurd y (by decide)⟩))
      obtain ⟨z, i2, c2⟩ := z
      have tb := tok_b (T := T) p2
      have c2 : cnt s2 = cnt s + 1 := c2
      refine c_next hT (by omega) r2 p2 (fun w3 o3 r3 t3 => tX6_read_69 ?_)
      have o13 : Off SRd w w3 := (o1.tr o2).tr (sr_1 o3)
      have e33 : w3.1 3 3 = nI 0 := by rw [(o3 3 (by decide)).1, e2, e3]
      have d3 := d2.off o3 (fun c a b => off1_d a b)
      have b0 : s2.1 0 ≤ 8 := i2.1.1 0
      have b1 : s2.1 1 ≤ 20 := i2.1.1 1
      rw [t3.2.1, eq0_N (by omega), eq_N (by omega) (by omega), d3.1.1, d3.1.2.1, le0_N (by omega), gt0_N (by omega)]
      refine ⟨fun q => ⟨fun q3 => ?_, fun q3 => ?_⟩, fun q => ?_⟩
      · rw [if_pos q3] at z
        rw [nI_add c 1]
        exact ih (c + 1) (s2.1, s2.2.1, s2.2.2.1, (tok T n s2.2.2.2).2.2) w3 (by omega) o13 r3 d3 ⟨i2.1, i2.2.1, tb.2.2.1, i2.2.2.2⟩ (by show cnt s2 = c + 1; omega) e33 z
      · rw [if_neg q3, if_neg q] at z
        exact c_fail (t := tok T n s2.2.2.2) z o13 t3.2.2.1
      · rw [if_neg (by omega), if_pos q] at z
        have F : ¬ (0 < s2.1 0 ∧ 0 < s2.1 1) → RR (tl K lX6_read) 99 [.ref 3, .int (nI n), .int (nI c)] [] w3 := fun y => by
          rw [if_neg y] at z
          exact tX6_read_99 (c_fail (t := tok T n s2.2.2.2) z o13 t3.2.2.1)
        refine ⟨fun y => F (fun u => by omega), fun y => ⟨fun y1 => ?_, fun y1 => F (fun u => y1 u.2)⟩⟩
        rw [if_pos ⟨by omega, y1⟩] at z
        exact z w3 o13 ⟨_, d3⟩ i2.1 i2.2.2.2 (show 0 < s2.1 0 by omega) y1 e33
  -- the beginning
  refine tX6_read_0 (tX9_empty_0d (tX6_read_17 ?_))
  rw [cpy_N (by omega) (by omega) (by omega)]
  have s3 : SRd 3 := by unfold SRd; omega
  have s5 : SRd 5 := by unfold SRd; omega
  have oa : Off SRd w (upI (upI w 3 3 (nI 0)) 3 4 (-1)) := (Off.up s3).tr (Off.up s3)
  have a33 : (upI (upI w 3 3 (nI 0)) 3 4 (-1)).1 3 3 = nI 0 := by rw [upI1, if_neg (by decide), upI1, if_pos ⟨rfl, rfl⟩]
  have oa1 : Off (fun c => c = 3) w (upI (upI w 3 3 (nI 0)) 3 4 (-1)) := ((Off.up (S := fun c => c = 3) rfl)).tr (Off.up rfl)
  generalize upI (upI w 3 3 (nI 0)) 3 4 (-1) = wa at oa a33 oa1 ⊢
  have ob : Off (fun c => c = 5) wa (upI (upI (upI wa 5 0 (nI 0)) 5 4 (nI 0)) 5 7 (nI 0)) := ((Off.up (S := fun c => c = 5) rfl).tr (Off.up rfl)).tr (Off.up rfl)
  have b0 : (upI (upI (upI wa 5 0 (nI 0)) 5 4 (nI 0)) 5 7 (nI 0)).1 5 0 = nI 0 := by rw [upI1, if_neg (by decide), upI1, if_neg (by decide), upI1, if_pos ⟨rfl, rfl⟩]
  have b4 : (upI (upI (upI wa 5 0 (nI 0)) 5 4 (nI 0)) 5 7 (nI 0)).1 5 4 = nI 0 := by rw [upI1, if_neg (by decide), upI1, if_pos ⟨rfl, rfl⟩]
  have b7 : (upI (upI (upI wa 5 0 (nI 0)) 5 4 (nI 0)) 5 7 (nI 0)).1 5 7 = nI 0 := by rw [upI1, if_pos ⟨rfl, rfl⟩]
  generalize upI (upI (upI wa 5 0 (nI 0)) 5 4 (nI 0)) 5 7 (nI 0) = wb at ob b0 b4 b7 ⊢
  have oc : Off (fun c => c = 10) wb (cpI wb 10 (fun j => (roV.getD (106 - 100) []).getD j 0) 0 0 3) := Off.cpI rfl
  have c10 : ∀ i, i < 3 → (cpI wb 10 (fun j => (roV.getD (106 - 100) []).getD j 0) 0 0 3).1 10 i = nI (D0 (3 + i)) := fun i hi => by
    rw [cpI_c, pk_cpy_in (Nat.zero_le _) (by omega), show 0 + (i - 0) = i by omega]
    have i3 : i = 0 ∨ i = 1 ∨ i = 2 := by omega
    rcases i3 with rfl | rfl | rfl <;> decide
  generalize cpI wb 10 (fun j => (roV.getD (106 - 100) []).getD j 0) 0 0 3 = wc at oc c10 ⊢
  have N : ∀ (m i : Nat) (w1 : Wd), i + m = 3 → Off (fun c => c = 4) wc w1 → (∀ j, j < i → w1.1 4 j = nI 0) → RR (tl K lX6_read) 19 [.ref 3, .int (nI n), .int (nI i)] [] w1 := by
    intro m
    induction m with
    | zero =>
      intro i w1 hi o1 h4
      have : i = 3 := by omega
      subst this
      refine tX6_read_19 ⟨fun _ => tX8_beginTokens_0 (tX6_read_45 ?_), fun q => absurd (Int32.le_refl _) q⟩
      have e1 : w1.1 1 = w.1 1 := ((o1 1 (by decide)).1).trans (((oc 1 (by decide)).1).trans (((ob 1 (by decide)).1).trans (oa1 1 (by decide)).1))
      have e2 : w1.1 2 = w.1 2 := ((o1 2 (by decide)).1).trans (((oc 2 (by decide)).1).trans (((ob 2 (by decide)).1).trans (oa1 2 (by decide)).1))
      have el1 : (if nI 0 < (if w1.1 1 1 < nI n then w1.1 1 1 else nI n) then (if w1.1 1 1 < nI n then w1.1 1 1 else nI n) else nI 0) = nI n := by
        have inner : (if w1.1 1 1 < nI n then w1.1 1 1 else nI n) = nI n := by
          rw [e1, hL]
          exact if_neg (fun z => by rw [lt_N (by omega) (by omega)] at z; omega)
        rw [inner]
        by_cases q : 0 < n
        · rw [if_pos ((lt_N (by omega) (by omega)).mpr q)]
        · rw [if_neg (fun z => q ((lt_N (by omega) (by omega)).mp z)), show n = 0 by omega]
      rw [el1]
      have od : Off (fun c => c = 1) w1 (upI (upI w1 1 2 (nI n)) 1 3 (nI 0)) := (Off.up (S := fun c => c = 1) rfl).tr (Off.up rfl)
      have q1 : ∀ c, c ≠ 1 → (upI (upI w1 1 2 (nI n)) 1 3 (nI 0)).1 c = w1.1 c := fun c hc => (od c hc).1
      have all : Off SRd w (upI (upI w1 1 2 (nI n)) 1 3 (nI 0)) := (((oa.tr (ob.mono (fun c q => by unfold SRd; omega))).tr (oc.mono (fun c q => by unfold SRd; omega))).tr (o1.mono (fun c q => by unfold SRd; omega))).tr (od.mono (fun c q => Or.inl q))
      refine M 37 0 (D0, fun _ _ => 0, fun _ => 0, 0) _ rfl all ⟨fun j hj => ?_, ?_, ?_⟩ ⟨⟨?_, ?_, ?_⟩, fun k hk => absurd hk (Nat.not_lt_zero k), fun g hg => absurd hg (Nat.not_lt_zero g), fun i hi => ⟨?_, ?_⟩, fun i hi => absurd hi (Nat.not_lt_zero i)⟩ (IV_0 n) rfl ?_ h
      · rw [q1 2 (by decide), e2]; exact hb j hj
      · rw [upI1, if_neg (by decide), upI1, if_pos ⟨rfl, rfl⟩]
      · rw [upI1, if_pos ⟨rfl, rfl⟩]
      · rw [q1 5 (by decide), (o1 5 (by decide)).1, (oc 5 (by decide)).1, b0]; rfl
      · rw [q1 5 (by decide), (o1 5 (by decide)).1, (oc 5 (by decide)).1, b4]; rfl
      · rw [q1 5 (by decide), (o1 5 (by decide)).1, (oc 5 (by decide)).1, b7]; rfl
      · rw [q1 10 (by decide), (o1 10 (by decide)).1]; exact c10 i hi
      · rw [q1 4 (by decide)]; exact h4 i hi
      · rw [q1 3 (by decide), (o1 3 (by decide)).1, (oc 3 (by decide)).1, (ob 3 (by decide)).1]; exact a33
    | succ m ih =>
      intro i w1 hi o1 h4
      refine tX6_read_19 ⟨fun q => absurd q (by rw [le_N (by omega) (by omega)]; omega), fun _ => ⟨vp_in_nI (by omega) (by decide), ?_⟩⟩
      have e0 : vp_nar .boolean (nI 0) = nI 0 := by decide
      rw [e0, wr_N (by omega), nI_add i 1]
      refine ih (i + 1) _ (by omega) (o1.tr (Off.up rfl)) (fun j hj => ?_)
      rw [upI1]
      by_cases c : j = i
      · rw [if_pos ⟨rfl, c⟩]
      · rw [if_neg (fun z => c z.2)]; exact h4 j (by omega)
  exact N 3 0 wc rfl Off.rf (fun j hj => by omega)
end CREAD2
