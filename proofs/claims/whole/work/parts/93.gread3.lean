/-! the reference reads a line, a text -/
section GREAD3
variable {w : Wd} {K : Kt} {T : Nat → Nat} {n : Nat} {D : Nat → Nat} {nm : Nat → Nat → Nat} {B : Nat → Nat}
theorem g_readLine (hT : ∀ j, T j < 256) (hn : n ≤ 800) {p : Nat} (hR : RG w T n p) (hD : D44 w D) (hN : N46 w D nm) (hI : IV n (D, nm, B, p)) (hM : w.1 41 16 = nI (mB B)) (h : el (lineP T n D nm B p) (KFg w K) (OKg w K T n)) : fX11_readLine [.ref 41] w K := by
  have hp : p ≤ n := hI.2.2.1
  have tb := tok_b (T := T) hp
  have b := hI.1.1
  have hd : ∀ j, D j ≤ 500 := fun j => Nat.le_trans (b j) (bd_le j)
  have hB : ∀ i, i < 3 → B i ≤ 1 := hI.2.1
  have hO : ∀ k, k < D 0 → okW (nm k) := hI.2.2.2
  have l0 : D 0 ≤ 8 := b 0
  have l1 : D 1 ≤ 20 := b 1
  have l2 : D 2 ≤ 5 := b 2
  unfold lineP at h
  have hand : ∀ (x : ER ⊕ PSt) (K2 : Kt), (∀ y w2, (y = 0 ∨ y = 1) → K (some (.int y)) w2 → K2 (some (.int y)) w2) → el x (KFg w K) (OKg w K T n) → el x (KFg w K2) (OKg w K2 T n) := fun x K2 hk z => el_mono z (fun _ _ y w2 o a b => hk _ _ (Or.inl rfl) (y w2 o a b)) (fun s y w2 o r d nn m => hk _ _ (Or.inr rfl) (y w2 o r d nn m))
  refine tX11_readLine_0 (g_isWord_arm hT hR.1 hR.2.2 tb.2.1 (by omega) tb.2.2.2.1 (fun v0 b0 => tX11_readLine_6 ⟨fun z0 => ?_, fun z0 => ?_⟩))
  · rw [dec_f (b0.f z0)] at h
    refine g_isWord_game hT hR.1 hR.2.2 tb.2.1 (by omega) tb.2.2.2.1 (fun v1 b1 => tX11_readLine_20 ⟨fun z1 => ?_, fun z1 => ?_⟩)
    · rw [dec_f (b1.f z1)] at h
      refine g_isWord_rest hT hR.1 hR.2.2 tb.2.1 (by omega) tb.2.2.2.1 (fun v2 b2 => tX11_readLine_34 ⟨fun z2 => ?_, fun z2 => ?_⟩)
      · rw [dec_f (b2.f z2)] at h
        refine g_isWord_week hT hR.1 hR.2.2 tb.2.1 (by omega) tb.2.2.2.1 (fun v3 b3 => tX11_readLine_48 ⟨fun z3 => ?_, fun z3 => ?_⟩)
        · rw [dec_f (b3.f z3)] at h
          refine g_isWord_edge hT hR.1 hR.2.2 tb.2.1 (by omega) tb.2.2.2.1 (fun v4 b4 => tX11_readLine_67 ⟨fun z4 => ?_, fun z4 => ?_⟩)
          · rw [dec_f (b4.f z4)] at h
            refine g_isWord_out hT hR.1 hR.2.2 tb.2.1 (by omega) tb.2.2.2.1 (fun v5 b5 => tX11_readLine_85 ⟨fun z5 => ?_, fun z5 => ?_⟩)
            · rw [dec_f (b5.f z5)] at h
              exact g_fail (t := tok T n p) h KG.rf hR.2.2.2.2.1
            · rw [dec_t (b5.t z5)] at h
              exact g_readOnce (i := 2) hT hn (by decide) hp hR hD hN hB hM (hand _ _ (fun y w2 hy hk => tX11_readLine_96 ⟨hy, hk⟩) h)
          · rw [dec_t (b4.t z4)] at h
            exact g_readOnce (i := 1) hT hn (by decide) hp hR hD hN hB hM (hand _ _ (fun y w2 hy hk => tX11_readLine_78 ⟨hy, hk⟩) h)
        · rw [dec_t (b3.t z3)] at h
          exact g_readOnce (i := 0) hT hn (by decide) hp hR hD hN hB hM (hand _ _ (fun y w2 hy hk => tX11_readLine_60 ⟨hy, hk⟩) h)
      · rw [dec_t (b2.t z2)] at h
        exact g_readRest hT hn hp hR hD hN l2 hd hM (hand _ _ (fun y w2 hy hk => tX11_readLine_41 ⟨hy, hk⟩) h)
    · rw [dec_t (b1.t z1)] at h
      exact g_readGame hT hn hp hR hD hN l1 hd hM (hand _ _ (fun y w2 hy hk => tX11_readLine_27 ⟨hy, hk⟩) h)
  · rw [dec_t (b0.t z0)] at h
    exact g_readArm hT hn hp hR hD hN l0 hO hM (hand _ _ (fun y w2 hy hk => tX11_readLine_13 ⟨hy, hk⟩) h)
theorem gk_59 : ∀ k, k < 5 → (gk k = 59 ↔ k = 3) := by decide
theorem gk_0 : ∀ k, k < 5 → (gk k = 0 ↔ k = 0) := by decide
theorem g_readAll (hT : ∀ j, T j < 256) (hb : BYg w T) (hn : n ≤ 800) (h : el (parseP T n) (KFg w K) (fun x => ∀ w1, KG w w1 → D44 w1 x.1 → N46 w1 x.1 x.2 → K (some (.int (nI 1))) w1)) : fX11_readAll [.ref 41, .int (nI n)] w K := by
  have M : ∀ (m c : Nat) (s : PSt) (w1 : Wd) (x2 : Int32) (K2 : Kt), c + m = 37 → KG w w1 → RG w1 T n s.2.2.2 → D44 w1 s.1 → N46 w1 s.1 s.2.1 → w1.1 41 16 = nI (mB s.2.2.1) → IV n s → cnt s = c → el (linesP T n m s) (KFg w K) (fun x => ∀ w1, KG w w1 → D44 w1 x.1 → N46 w1 x.1 x.2 → K (some (.int (nI 1))) w1) → (∀ w2, K (some (.int (nI 0))) w2 → K2 (some (.int (nI 0))) w2) → (∀ w2, RR (tl K lX11_readAll) 60 [.ref 41, .int (nI n), .int x2] [] w2 → K2 (some (.int (nI 1))) w2) → fX11_readLine [.ref 41] w1 K2 := by
    intro m
    induction m with
    | zero =>
      intro c s w1 x2 K2 hc kg r1 d1 n1 m1 i1 ec
      have := cnt_le i1
      omega
    | succ m ih =>
      intro c s w1 x2 K2 hc kg r1 d1 n1 m1 i1 ec hl k0 k1
      have hl : el (bnd (lineP T n s.1 s.2.1 s.2.2.1 s.2.2.2) (fun s => if (tok T n s.2.2.2).1 = 3 then linesP T n m (s.1, s.2.1, s.2.2.1, (tok T n s.2.2.2).2.2) else if (tok T n s.2.2.2).1 = 0 then (if 0 < s.1 0 ∧ 0 < s.1 1 then .inr (s.1, s.2.1) else .inl (5, (tok T n s.2.2.2).2.1)) else .inl (1, (tok T n s.2.2.2).2.1))) (KFg w K) (fun x => ∀ w1, KG w w1 → D44 w1 x.1 → N46 w1 x.1 x.2 → K (some (.int (nI 1))) w1) := hl
      rw [el_bnd] at hl
      refine g_readLine hT hn r1 d1 n1 i1 m1 (el_mono (el_and hl (line_ok i1)) (fun f q z w2 o a b => k0 w2 (z.1.pre kg w2 o a b)) (fun s2 z w2 o2 r2 d2 n2 m2 => k1 w2 ?_))
      obtain ⟨z, i2, c2⟩ := z
      have p2 : s2.2.2.2 ≤ n := i2.2.2.1
      have tb := tok_b (T := T) p2
      have c2 : cnt s2 = cnt s + 1 := c2
      have kg2 := kg.tr o2
      have g59 := gk_59 (tok T n s2.2.2.2).1 (by omega)
      have g0 := gk_0 (tok T n s2.2.2.2).1 (by omega)
      have gl := gk_lt (tok T n s2.2.2.2).1 (by omega)
      have b0 : s2.1 0 ≤ 8 := i2.1.1 0
      have b1 : s2.1 1 ≤ 20 := i2.1.1 1
      refine tX11_readAll_60 ?_
      rw [r2.2.2.2.1, eq_N (show gk (tok T n s2.2.2.2).1 < 2147483648 by omega) (by omega), g59, eq0_N (show gk (tok T n s2.2.2.2).1 < 2147483648 by omega), g0, rd_N (by omega), rd_N (by omega), d2 0 (by omega), d2 1 (by omega), le0_N (by omega), gt0_N (by omega)]
      refine ⟨fun q => ⟨fun q0 => ?_, fun q0 => ?_⟩, fun q => ?_⟩
      · rw [if_neg q, if_pos q0] at z
        have F : ¬ (0 < s2.1 0 ∧ 0 < s2.1 1) → RR (tl K lX11_readAll) 113 [.ref 41, .int (nI n), .int x2] [] w2 := fun y => by
          rw [if_neg y] at z
          exact tX11_readAll_113 (g_fail (t := tok T n s2.2.2.2) z kg2 r2.2.2.2.2.1)
        refine ⟨fun y => F (fun u => by omega), fun y => ⟨fun y1 => ?_, fun y1 => F (fun u => y1 u.2)⟩⟩
        rw [if_pos ⟨by omega, y1⟩] at z
        exact z w2 kg2 d2 n2
      · rw [if_neg q, if_neg q0] at z
        exact g_fail (t := tok T n s2.2.2.2) z kg2 r2.2.2.2.2.1
      · rw [if_pos q] at z
        refine g_next hT hn r2 p2 (fun w3 k3 r3 => tX11_readAll_73 ?_)
        refine ih (c + 1) (s2.1, s2.2.1, s2.2.2.1, (tok T n s2.2.2.2).2.2) w3 x2 _ (by omega) (kg2.tr (KG.k41 k3)) r3 (d2.k k3) (fun k hk j hj => by rw [(k3.1 46 (by decide)).1]; exact n2 k hk j hj) (by rw [k3.2 16 (by omega)]; exact m2) ⟨i2.1, i2.2.1, tb.2.2.1, i2.2.2.2⟩ (by show cnt s2 = c + 1; omega) z (fun w4 k4 => tX11_readAll_77 ⟨fun y => absurd rfl y, fun _ => k4⟩) (fun w4 k4 => tX11_readAll_77 ⟨fun _ => k4, fun y => absurd y (by decide)⟩)
  refine tX11_readAll_0 ?_
  have ka : KG w (upI (upI (upI w 41 11 (nI n)) 41 13 (nI 0)) 41 16 (nI 0)) := ((KG.up (by omega)).tr (KG.up (by omega))).tr (KG.up (by omega))
  have a11 : (upI (upI (upI w 41 11 (nI n)) 41 13 (nI 0)) 41 16 (nI 0)).1 41 11 = nI n := by rw [upI1, if_neg (by decide), upI1, if_neg (by decide), upI1, if_pos ⟨rfl, rfl⟩]
  have a13 : (upI (upI (upI w 41 11 (nI n)) 41 13 (nI 0)) 41 16 (nI 0)).1 41 13 = nI 0 := by rw [upI1, if_neg (by decide), upI1, if_pos ⟨rfl, rfl⟩]
  have a16 : (upI (upI (upI w 41 11 (nI n)) 41 13 (nI 0)) 41 16 (nI 0)).1 41 16 = nI 0 := by rw [upI1, if_pos ⟨rfl, rfl⟩]
  have ob : BYg (upI (upI (upI w 41 11 (nI n)) 41 13 (nI 0)) 41 16 (nI 0)) T := hb.off ka.1 (by unfold SRg; omega)
  generalize upI (upI (upI w 41 11 (nI n)) 41 13 (nI 0)) 41 16 (nI 0) = wa at ka a11 a13 a16 ob ⊢
  have N : ∀ (m i : Nat) (w1 : Wd), i + m = 256 → Off (fun c => c = 44) wa w1 → (∀ j, j < i → w1.1 44 j = nI (D0 j)) → RR (tl K lX11_readAll) 17 [.ref 41, .int (nI n), .int (nI i)] [] w1 := by
    intro m
    induction m with
    | zero =>
      intro i w1 hi o1 h4
      have : i = 256 := by omega
      subst this
      have e41 : w1.1 41 = wa.1 41 := (o1 41 (by decide)).1
      have kg1 : KG w w1 := ka.tr ⟨o1.mono (fun c q => Or.inr (Or.inl q)), fun j _ => by rw [e41]⟩
      refine tX11_readAll_17 ⟨fun _ => ?_, fun q => absurd (Int32.le_refl _) q⟩
      refine g_goesOn hT (ob.off o1 (by decide)) hn (by rw [e41]; exact a11) (Nat.zero_le n) (by rw [e41]; exact a13) (fun w2 k2 t2 => tX11_readAll_51 ?_)
      refine M 37 0 (D0, fun _ _ => 0, fun _ => 0, 0) w2 (nI 256) _ rfl (kg1.tr (KG.k41 k2)) ⟨(ob.off o1 (by decide)).off k2.1 (by decide), by rw [k2.2 11 (by omega), e41]; exact a11, t2⟩ (fun j hj => by rw [(k2.1 44 (by decide)).1]; exact h4 j hj) (fun k hk => absurd hk (Nat.not_lt_zero k)) (by rw [k2.2 16 (by omega), e41]; exact a16) (IV_0 n) rfl h (fun w4 k4 => tX11_readAll_55 ⟨fun y => absurd rfl y, fun _ => k4⟩) (fun w4 k4 => tX11_readAll_55 ⟨fun _ => k4, fun y => absurd y (by decide)⟩)
    | succ m ih =>
      intro i w1 hi o1 h4
      have S : ∀ v, v = D0 i → RR (tl K lX11_readAll) 17 [.ref 41, .int (nI n), .int (nI i + nI 1)] [] (upI w1 44 i (nI v)) := fun v ev => by
        rw [nI_add i 1]
        refine ih (i + 1) _ (by omega) (o1.tr (Off.up rfl)) (fun j hj => ?_)
        rw [upI1]
        by_cases c : j = i
        · rw [if_pos ⟨rfl, c⟩, c, ev]
        · rw [if_neg (fun z => c z.2)]; exact h4 j (by omega)
      refine tX11_readAll_17 ⟨fun q => absurd q (by rw [le_N (by omega) (by omega)]; omega), fun _ => ?_⟩
      rw [eq_N (by omega) (by omega), wr_N (by omega), wr_N (by omega)]
      exact ⟨fun q => ⟨vp_in_nI (by omega) (by decide), S 0 (if_neg q).symm⟩, fun q => ⟨vp_in_nI (by omega) (by decide), S 15 (if_pos q).symm⟩⟩
  exact N 256 0 wa rfl Off.rf (fun j hj => by omega)
end GREAD3
