/-! the reference reads a thrower, a line, a text -/
theorem okW_lt {c : Nat → Nat} (h : okW c) {j : Nat} (hj : j < 7) : c j < 256 := by
  obtain ⟨l, l1, l7, cl, cz⟩ := h
  by_cases q : j < l
  · have := isL_iff.mp (cl j q); omega
  · rw [cz j (by omega) hj]; omega
section GREAD2
variable {w : Wd} {K : Kt} {T : Nat → Nat} {n : Nat} {D : Nat → Nat} {nm : Nat → Nat → Nat} {B : Nat → Nat}
theorem g_isName {t : Tk} (hT : ∀ j, T j < 256) (hb : BYg w T) (hk : TkG w T t) (hle : t.2.1 ≤ t.2.2) (h8 : t.2.2 ≤ 800) (h4 : t.1 ≤ 4) (h : ∀ v, isB v (nameOk T t) → K (some (.int v)) w) : fX11_isName [.ref 41] w K := by
  have g1 := gk_1 t.1 (by omega)
  have g2 := gk_lt t.1 (by omega)
  have y : ∀ c, c < 8 → isW T t (200 + c) → K (some (.int (nI 0))) w := fun c hc z => h _ (Or.inr ⟨rfl, fun u => u.2 c hc z⟩)
  refine tX11_isName_0 ?_
  rw [hk.2.1, eq_N (show gk t.1 < 2147483648 by omega) (by omega), g1]
  refine ⟨fun q => h _ (Or.inr ⟨rfl, fun u => q u.1⟩), fun q => ?_⟩
  refine g_isWord_arm hT hb hk hle h8 h4 (fun v0 b0 => tX11_isName_14 ⟨fun z => y 0 (by decide) (b0.t z), fun z0 => g_isWord_left hT hb hk hle h8 h4 (fun v1 b1 => tX11_isName_23 ⟨fun z => y 1 (by decide) (b1.t z), fun z1 => g_isWord_right hT hb hk hle h8 h4 (fun v2 b2 => tX11_isName_32 ⟨fun z => y 2 (by decide) (b2.t z), fun z2 => g_isWord_game hT hb hk hle h8 h4 (fun v3 b3 => tX11_isName_41 ⟨fun z => y 3 (by decide) (b3.t z), fun z3 => g_isWord_rest hT hb hk hle h8 h4 (fun v4 b4 => tX11_isName_50 ⟨fun z => y 4 (by decide) (b4.t z), fun z4 => g_isWord_week hT hb hk hle h8 h4 (fun v5 b5 => tX11_isName_59 ⟨fun z => y 5 (by decide) (b5.t z), fun z5 => g_isWord_edge hT hb hk hle h8 h4 (fun v6 b6 => tX11_isName_68 ⟨fun z => y 6 (by decide) (b6.t z), fun z6 => g_isWord_out hT hb hk hle h8 h4 (fun v7 b7 => tX11_isName_77 ⟨fun z => y 7 (by decide) (b7.t z), fun z7 => ?_⟩)⟩)⟩)⟩)⟩)⟩)⟩)⟩)
  refine h _ (Or.inl ⟨rfl, q, fun c hc z => ?_⟩)
  have c8 : c = 0 ∨ c = 1 ∨ c = 2 ∨ c = 3 ∨ c = 4 ∨ c = 5 ∨ c = 6 ∨ c = 7 := by omega
  rcases c8 with rfl | rfl | rfl | rfl | rfl | rfl | rfl | rfl
  · exact b0.f z0 z
  · exact b1.f z1 z
  · exact b2.f z2 z
  · exact b3.f z3 z
  · exact b4.f z4 z
  · exact b5.f z5 z
  · exact b6.f z6 z
  · exact b7.f z7 z
theorem g_readArm (hT : ∀ j, T j < 256) (hn : n ≤ 800) {p : Nat} (hp : p ≤ n) (hR : RG w T n p) (hD : D44 w D) (hN : N46 w D nm) (hb : D 0 ≤ 8) (hO : ∀ k, k < D 0 → okW (nm k)) (hM : w.1 41 16 = nI (mB B)) (h : el (armP T n D nm B (tok T n p)) (KFg w K) (OKg w K T n)) : fX11_readArm [.ref 41] w K := by
  have tb := tok_b (T := T) hp
  have tb1 := tok_b (T := T) tb.2.2.1
  have tb2 := tok_b (T := T) tb1.2.2.1
  unfold armP at h
  refine tX11_readArm_0 ?_
  rw [rd_N (by omega), hD 0 (by omega), eq_N (by omega) (by omega)]
  refine ⟨fun q => ?_, fun q => ?_⟩
  · rw [dec_f q] at h
    refine g_next hT hn hR hp (fun w1 k1 r1 => tX11_readArm_23 ?_)
    have kg1 : KG w w1 := KG.k41 k1
    have hD1 := hD.k k1
    have hN1 : N46 w1 D nm := fun k hk j hj => by rw [(k1.1 46 (by decide)).1]; exact hN k hk j hj
    have m1 : w1.1 41 16 = nI (mB B) := by rw [k1.2 16 (by omega)]; exact hM
    refine g_isName hT r1.1 r1.2.2 tb1.2.1 (by omega) tb1.2.2.2.1 (fun v hv => tX11_readArm_27 ⟨fun y => ?_, fun y => ?_⟩)
    · have ok := hv.t y
      have wd := tok_wd tb.2.2.1 ok.1
      rw [dec_t ok] at h
      obtain ⟨t1, et1⟩ : ∃ t1, t1 = tok T n (tok T n p).2.2 := ⟨_, rfl⟩
      rw [← et1] at h tb1 tb2 wd
      have a12 : w1.1 41 12 = nI t1.2.1 := by have := r1.2.2.2.2.1; rw [← et1] at this; exact this
      have a13 : w1.1 41 13 = nI t1.2.2 := by have := r1.2.2.1; rw [← et1] at this; exact this
      -- no name twice
      have L : ∀ (m k : Nat), k + m = D 0 → (∀ i, i < k → ¬ ∀ j, j < 7 → nm i j = nmT T t1 j) → RR (tl K lX11_readArm) 38 [.ref 41, .int (nI (D 0)), .int (nI k)] [] w1 := by
        intro m
        induction m with
        | zero =>
          intro k hk hno
          have : k = D 0 := by omega
          have nex : ¬ ∃ k, k < D 0 ∧ ∀ j, j < 7 → nm k j = nmT T t1 j := fun ⟨i, hi, z⟩ => hno i (by omega) z
          rw [dec_f nex] at h
          refine tX11_readArm_38 ⟨fun _ => ?_, fun z => absurd (by rw [this]; exact Int32.le_refl _) z⟩
          -- the name is kept
          have W : ∀ (m i : Nat) (w2 : Wd), i + m = 7 → Off (fun c => c = 46) w1 w2 → (∀ j, ¬ (7 * D 0 ≤ j ∧ j < 7 * D 0 + 7) → w2.1 46 j = w1.1 46 j) → (∀ j, j < i → w2.1 46 (7 * D 0 + j) = nI (nmT T t1 j)) → RR (tl K lX11_readArm) 80 [.ref 41, .int (nI (D 0)), .int (nI i)] [] w2 := by
            intro m
            induction m with
            | zero =>
              intro i w2 hi o2 k2 c2
              have : i = 7 := by omega
              subst this
              have e41 : w2.1 41 = w1.1 41 := (o2 41 (by decide)).1
              have r2 : RG w2 T n (tok T n p).2.2 := by
                obtain ⟨a, b, c⟩ := r1
                refine ⟨a.off o2 (by decide), by rw [e41]; exact b, ?_⟩
                unfold TkG at c ⊢
                rw [e41]; exact c
              have kg2 : KG w w2 := kg1.tr ⟨o2.mono (fun c q => Or.inr (Or.inr q)), fun j _ => by rw [e41]⟩
              refine tX11_readArm_80 ⟨fun _ => ?_, fun z => absurd (Int32.le_refl _) z⟩
              refine g_next hT hn r2 tb.2.2.1 (fun w3 k3 r3 => tX11_readArm_135 ?_)
              rw [← et1] at r3
              have kg3 := kg2.tr (KG.k41 k3)
              have hD3 : D44 w3 D := fun j hj => by rw [(k3.1 44 (by decide)).1, (o2 44 (by decide)).1]; exact hD1 j hj
              have m3 : w3.1 41 16 = nI (mB B) := by rw [k3.2 16 (by omega), e41]; exact m1
              have c46 : w3.1 46 = w2.1 46 := (k3.1 46 (by decide)).1
              -- behind the hand
              have H : (isW T (tok T n t1.2.2) 201 ∨ isW T (tok T n t1.2.2) 202) → fX11_isWord [.ref 41, .ref 201] w3 (fun v w1 => RR (tl K lX11_readArm) 173 [.ref 41, .int (nI (D 0)), .int (nI 7)] (psh v [.int (nI 6 + nI (D 0)), .ref 44]) w1) := by
                intro hlr
                rw [dec_t hlr] at h
                refine g_isWord_left hT r3.1 r3.2.2 tb2.2.1 (by omega) tb2.2.2.2.1 (fun v hv => ?_)
                have P : ∀ hd, (bif dec (isW T (tok T n t1.2.2) 201) then 0 else 1) = hd → fX11_goesOn [.ref 41] (upI w3 44 (6 + D 0) (nI hd)) (fun v w1 => RR (tl K lX11_readArm) 186 [.ref 41, .int (nI (D 0)), .int (nI 7)] (psh v []) w1) := by
                  intro hd ehd
                  rw [ehd] at h
                  have h : el (bnd (takesP T n (14 + D 0) 1 99 (upR (upR D (6 + D 0) hd) 0 (D 0 + 1)) (tok T n t1.2.2).2.2) (fun x => bnd (takesP T n (22 + D 0) 1 120 x.1 x.2) (fun x => bnd (takesP T n (30 + D 0) 0 (x.1 (22 + D 0)) x.1 x.2) (fun x => bnd (takesP T n (38 + D 0) 0 9 x.1 x.2) (fun x => .inr (x.1, fun k => if k = D 0 then nmT T t1 else nm k, B, x.2)))))) (KFg w K) (OKg w K T n) := h
                  have hD4 := hD3.set (a := 6 + D 0) (v := hd)
                  refine g_next hT hn r3.o44 tb1.2.2.1 (fun w4 k4 r4 => tX11_readArm_186 ?_)
                  have kg4 := (kg3.tr (KG.u44 (j := 6 + D 0) (v := nI hd))).tr (KG.k41 k4)
                  have hD5 := hD4.k k4
                  have z0 : upR D (6 + D 0) hd 0 = D 0 := upR_n (by omega)
                  rw [rd_N (by omega), hD5 0 (by omega), z0, nI_add (D 0) 1, show wr w4 44 (nI 0) (nI (D 0 + 1)) = upI w4 44 0 (nI (D 0 + 1)) from wr_N (by omega), nI_add 14 (D 0)]
                  have hD6 := hD5.set (a := 0) (v := D 0 + 1)
                  have kg5 := kg4.tr (KG.u44 (j := 0) (v := nI (D 0 + 1)))
                  have m5 : (upI w4 44 0 (nI (D 0 + 1))).1 41 16 = nI (mB B) := by rw [upI1, if_neg (fun z => absurd z.1 (by decide)), k4.2 16 (by omega), upI1, if_neg (fun z => absurd z.1 (by decide))]; exact m3
                  have c5 : (upI w4 44 0 (nI (D 0 + 1))).1 46 = w2.1 46 := by
                    funext j
                    rw [upI1, if_neg (fun z => absurd z.1 (by decide)), (k4.1 46 (by decide)).1, upI1, if_neg (fun z => absurd z.1 (by decide)), c46]
                  rw [el_bnd] at h
                  refine g_takeN hT hn (by omega) r4.o44 tb2.2.2.1 hD6 (by omega) (by omega) (el_mono h (fun f s z w2 o a b => tX11_readArm_207 ⟨fun _ => z.pre kg5 w2 o a b, fun y => absurd rfl y⟩) (fun x z w6 o6 e46 e16 r6 p6 d6 ex6 _ => tX11_readArm_207 ⟨fun y => absurd y (by decide), fun _ => ?_⟩))
                  rw [el_bnd] at z
                  rw [nI_add 22 (D 0)]
                  refine g_takeN hT hn (by omega) r6 p6 d6 (by omega) (by omega) (el_mono z (fun f s z w2 o a b => tX11_readArm_221 ⟨fun _ => z.pre (kg5.tr o6) w2 o a b, fun y => absurd rfl y⟩) (fun x7 z7 w7 o7 f46 f16 r7 p7 d7 ex7 b22 => tX11_readArm_221 ⟨fun y => absurd y (by decide), fun _ => ?_⟩))
                  rw [el_bnd] at z7
                  rw [nI_add 22 (D 0), rd_N (by omega), d7 _ (by omega), nI_add 30 (D 0)]
                  refine ⟨vp_in_nI (by omega) (by decide), ?_⟩
                  refine g_takeN hT hn (by omega) r7 p7 d7 (by omega) (by omega) (el_mono z7 (fun f s z w2 o a b => tX11_readArm_242 ⟨fun _ => z.pre ((kg5.tr o6).tr o7) w2 o a b, fun y => absurd rfl y⟩) (fun x8 z8 w8 o8 g46 g16 r8 p8 d8 ex8 _ => tX11_readArm_242 ⟨fun y => absurd y (by decide), fun _ => ?_⟩))
                  rw [el_bnd] at z8
                  rw [nI_add 38 (D 0)]
                  refine g_takeN hT hn (by omega) r8 p8 d8 (by omega) (by omega) (el_mono z8 (fun f s z w2 o a b => tX11_readArm_256 ⟨fun _ => z.pre (((kg5.tr o6).tr o7).tr o8) w2 o a b, fun y => absurd rfl y⟩) (fun x9 z9 w9 o9 h46 h16 r9 p9 d9 ex9 _ => tX11_readArm_256 ⟨fun y => absurd y (by decide), fun _ => ?_⟩))
                  refine z9 w9 ((((kg5.tr o6).tr o7).tr o8).tr o9) r9 d9 (fun k hk j hj => ?_) ?_
                  · have hk : k < x9.1 0 := hk
                    rw [ex9, upR_n (by omega), ex8, upR_n (by omega), ex7, upR_n (by omega), ex6, upR_n (by omega), upR_e] at hk
                    rw [h46, g46, f46, e46, c5]
                    show _ = nI ((if k = D 0 then nmT T t1 else nm k) j)
                    by_cases c : k = D 0
                    · rw [if_pos c, c]; exact c2 j hj
                    · rw [if_neg c, k2 _ (by omega)]; exact hN1 k (by omega) j hj
                  · rw [h16, g16, f16, e16]; exact m5
                refine tX11_readArm_173 ⟨fun y => ?_, fun y => ?_⟩
                · rw [nI_add, wr_N (by omega)]
                  exact ⟨vp_in_nI (by omega) (by decide), P 1 (by rw [dec_f (hv.f y)]; rfl)⟩
                · rw [nI_add, wr_N (by omega)]
                  exact ⟨vp_in_nI (by omega) (by decide), P 0 (by rw [dec_t (hv.t y)]; rfl)⟩
              refine g_isWord_left hT r3.1 r3.2.2 tb2.2.1 (by omega) tb2.2.2.2.1 (fun v hv => tX11_readArm_141 ⟨fun y => H (Or.inl (hv.t y)), fun y => ?_⟩)
              refine g_isWord_right hT r3.1 r3.2.2 tb2.2.1 (by omega) tb2.2.2.2.1 (fun v2 hv2 => tX11_readArm_150 ⟨fun y2 => H (Or.inr (hv2.t y2)), fun y2 => ?_⟩)
              have nlr : ¬ (isW T (tok T n t1.2.2) 201 ∨ isW T (tok T n t1.2.2) 202) := fun z => by
                rcases z with z | z
                · exact hv.f y z
                · exact hv2.f y2 z
              rw [dec_f nlr] at h
              exact g_fail (t := tok T n t1.2.2) h kg3 r3.2.2.2.2.1
            | succ m ih2 =>
              intro i w2 hi o2 k2 c2
              have e41 : w2.1 41 = w1.1 41 := (o2 41 (by decide)).1
              have hb2 : BYg w2 T := r1.1.off o2 (by decide)
              have S : ∀ v, nI v = nI (nmT T t1 i) → RR (tl K lX11_readArm) 80 [.ref 41, .int (nI (D 0)), .int (nI i + nI 1)] [] (upI w2 46 (7 * D 0 + i) (nI v)) := fun v ev => by
                rw [nI_add i 1]
                refine ih2 (i + 1) _ (by omega) (o2.tr (Off.up rfl)) (fun j hj => ?_) (fun j hj => ?_)
                · rw [upI1, if_neg (fun z => by have := z.2; omega)]; exact k2 j hj
                · rw [upI1]
                  by_cases c : j = i
                  · rw [if_pos ⟨rfl, by omega⟩, c, ev]
                  · rw [if_neg (fun z => c (by have := z.2; omega))]; exact c2 j (by omega)
              refine tX11_readArm_80 ⟨fun z => absurd z (by rw [le_N (by omega) (by omega)]; omega), fun _ => ?_⟩
              rw [e41, a12, a13, nI_add t1.2.1 i, le_N (by omega) (by omega), pk_mul, nI_add (7 * D 0) i, wr_N (by omega), wr_N (by omega)]
              refine ⟨fun z => ⟨vp_in_nI (by omega) (by decide), S 0 ?_⟩, fun z => ⟨vp_in_nI (by omega) (by decide), vp_in_nI (by omega) (by decide), ?_⟩⟩
              · have : nmT T t1 i = 0 := if_neg (by omega)
                rw [this]
              · have f : rd w2 42 (nI (t1.2.1 + i)) = nI (T (t1.2.1 + i)) := by rw [rd_N (by omega)]; exact hb2 _ (by omega)
                rw [f]
                refine S _ ?_
                have : nmT T t1 i = T (t1.2.1 + i) := if_pos (by omega)
                rw [this]
          exact W 7 0 w1 rfl Off.rf (fun _ _ => rfl) (fun j hj => by omega)
        | succ m ih =>
          intro k hk hno
          refine tX11_readArm_38 ⟨fun z => absurd z (by rw [le_N (by omega) (by omega)]; omega), fun _ => ?_⟩
          rw [a12, a13, pk_mul]
          refine g_isAt_f (c := nm k) hT r1.1 (by omega) tb1.2.1 (by omega) (fun j hj => hN1 k (by omega) j hj) (fun j hj => okW_lt (hO k (by omega)) hj) (fun v hv => ?_)
          rw [at_nm wd] at hv
          refine tX11_readArm_63 ⟨fun y => ?_, fun y => ?_⟩
          · rw [nI_add k 1]
            refine ih (k + 1) (by omega) (fun i hi => ?_)
            by_cases c : i = k
            · rw [c]; exact hv.f y
            · exact hno i (by omega)
          · rw [dec_t ⟨k, by omega, hv.t y⟩] at h
            exact g_fail (t := t1) h kg1 a12
      exact L (D 0) 0 (by omega) (fun i hi => by omega)
    · rw [dec_f (hv.f y)] at h
      exact g_fail (t := tok T n (tok T n p).2.2) h kg1 r1.2.2.2.2.1
  · rw [dec_t q] at h
    exact g_fail (t := tok T n p) h KG.rf hR.2.2.2.2.1
end GREAD2
