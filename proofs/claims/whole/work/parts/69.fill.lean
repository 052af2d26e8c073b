/-! fill(), fillAll() -/
theorem nle_m1 {a : Nat} (h : a < 2147483648) : ¬ nI a ≤ -1 := fun q => by
  have := Int32.le_iff_toInt_le.mp q
  rw [nI_toInt h] at this
  have e : (-1 : Int32).toInt = -1 := by decide
  omega
theorem ne_m1 {a : Nat} (h : a < 2147483648) : ¬ nI a = -1 := fun q => nle_m1 h (by rw [q]; exact Int32.le_refl _)
theorem mostN_pos {r : Nat → Nat} {t g : Nat} (h : 0 < mostN r t g) : ¬ isIn r t g ∧ r (106 + g) ≠ 3 ∧ mostN r t g ≤ leftN r g := by
  unfold mostN at h ⊢
  by_cases q : isIn r t g
  · rw [dec_t q] at h
    exact absurd h (Nat.lt_irrefl 0)
  · refine ⟨q, ?_⟩
    rw [dec_f q] at h ⊢
    by_cases p : r (106 + g) = 3
    · rw [p] at h
      exact absurd h (Nat.lt_irrefl 0)
    · refine ⟨p, ?_⟩
      have e : (r (106 + g) == 3) = false := beq_false_of_ne p
      rw [e]
      show mostL r (dayN r t g 1) t (r (46 + g)) (min (leftN r g) (r (22 + t))) ≤ leftN r g
      have := mostL_le_all (r := r) (D := dayN r t g 1) (t := t) (d := r (46 + g)) (n := min (leftN r g) (r (22 + t)))
      omega
noncomputable def wMo (r : Nat → Nat) (g t : Nat) : Nat := worthN r t g (mostN r t g)
def tkP (r : Nat → Nat) (g n c : Nat) : Prop := 0 < mostN r n g ∧ (c = 0 ∨ wMo r g (c - 1) < wMo r g n)
noncomputable def chs (r : Nat → Nat) (g : Nat) : Nat → Nat
  | 0 => 0
  | n + 1 => bif dec (tkP r g n (chs r g n)) then n + 1 else chs r g n
theorem chs_t {r : Nat → Nat} {g n : Nat} (h : tkP r g n (chs r g n)) : chs r g (n + 1) = n + 1 := by
  conv => lhs; unfold chs
  rw [dec_t h]; rfl
theorem chs_f {r : Nat → Nat} {g n : Nat} (h : ¬ tkP r g n (chs r g n)) : chs r g (n + 1) = chs r g n := by
  conv => lhs; unfold chs
  rw [dec_f h]; rfl
theorem chs_ok {r : Nat → Nat} {g : Nat} : ∀ n, chs r g n = 0 ∨ (chs r g n - 1 < n ∧ 0 < mostN r (chs r g n - 1) g)
  | 0 => Or.inl rfl
  | n + 1 => by
    by_cases q : tkP r g n (chs r g n)
    · rw [chs_t q]
      exact Or.inr ⟨by omega, q.1⟩
    · rw [chs_f q]
      rcases chs_ok (r := r) (g := g) n with p | p
      · exact Or.inl p
      · exact Or.inr ⟨by omega, p.2⟩
/-- a game with three outings takes none -/
theorem chs_3 {r : Nat → Nat} {g n : Nat} (h : r (106 + g) = 3) : chs r g n = 0 := by
  rcases chs_ok (r := r) (g := g) n with p | p
  · exact p
  · exact absurd h (mostN_pos p.2).2.1
def cI (c : Nat) : Int32 := if c = 0 then -1 else nI (c - 1)
noncomputable def cX (r : Nat → Nat) (g c : Nat) : Int32 := if c = 0 then nI 0 else nI (mostN r (c - 1) g)
noncomputable def cW (r : Nat → Nat) (g : Nat) (z : Int32) (c : Nat) : Int32 := if c = 0 then z else nI (wMo r g (c - 1))
theorem cI_0 : cI 0 = -1 := rfl
theorem cI_s {c : Nat} (h : c ≠ 0) : cI c = nI (c - 1) := if_neg h
theorem cX_s {r : Nat → Nat} {g c : Nat} (h : c ≠ 0) : cX r g c = nI (mostN r (c - 1) g) := if_neg h
theorem cW_s {r : Nat → Nat} {g c : Nat} {z : Int32} (h : c ≠ 0) : cW r g z c = nI (wMo r g (c - 1)) := if_neg h
noncomputable def flR (g : Nat) : Nat → (Nat → Nat) → Nat × (Nat → Nat)
  | 0, r => (0, r)
  | n + 1, r => bif chs r g (r 0) == 0 then (0, r) else ((flR g n (addR r g (chs r g (r 0) - 1) (mostN r (chs r g (r 0) - 1) g))).1 + 1, (flR g n (addR r g (chs r g (r 0) - 1) (mostN r (chs r g (r 0) - 1) g))).2)
theorem flR_0 {r : Nat → Nat} {g n : Nat} (h : chs r g (r 0) = 0) : flR g n r = (0, r) := by
  cases n with
  | zero => rfl
  | succ n =>
    unfold flR
    rw [h]; rfl
theorem flR_s {r : Nat → Nat} {g n : Nat} (h : chs r g (r 0) ≠ 0) : flR g (n + 1) r = ((flR g n (addR r g (chs r g (r 0) - 1) (mostN r (chs r g (r 0) - 1) g))).1 + 1, (flR g n (addR r g (chs r g (r 0) - 1) (mostN r (chs r g (r 0) - 1) g))).2) := by
  conv => lhs; unfold flR
  rw [beq_false_of_ne h]; rfl
section FILL
variable {w : Wd} {r : Nat → Nat} {g : Nat}
theorem wMo_le (hW : WFr r) (hg : g < 20) {t : Nat} (ht : t < 8) : wMo r g t ≤ 36000 ∧ mostN r t g ≤ 120 := by
  have a := mostC_le hW (t := t) (g := g) (more := 0) ht
  rw [mostC_0] at a
  exact ⟨worth_le hW ht hg (by omega), a⟩
/-- the row after the chosen outing -/
theorem add_ok (hW : WFr r) (hV : VP r) (hg : g < r 1) (h : chs r g (r 0) ≠ 0) : ∃ t x, chs r g (r 0) = t + 1 ∧ mostN r t g = x ∧ t < r 0 ∧ r (106 + g) ≤ 2 ∧ 1 ≤ x ∧ x ≤ 120 ∧ ¬ isIn r t g ∧ WFr (addR r g t x) ∧ VP (addR r g t x) ∧ addR r g t x (106 + g) = r (106 + g) + 1 ∧ ∀ j, j < 106 ∨ 246 ≤ j → addR r g t x j = r j := by
  have h0 := hW.2.1
  have h1 := hW.2.2.1
  rcases chs_ok (r := r) (g := g) (r 0) with p | ⟨p, p2⟩
  · exact absurd p h
  · have q := mostN_pos p2
    have a3 := (hW.2.2.2.2.2.2.2.1 g (by omega)).2.2.2
    have b := (wMo_le hW (show g < 20 by omega) (show chs r g (r 0) - 1 < 8 by omega)).2
    refine ⟨chs r g (r 0) - 1, _, by omega, rfl, p, by omega, p2, b, q.1, WFr_add hW (by omega) (by omega) b (by omega), VP_add hW hV hg p p2 (by omega) q.2.2 q.1, ?_, fun j hj => addR_o (by omega) (by omega) hj⟩
    rw [addR_f (by omega) (by omega) g (by omega), if_pos rfl]
theorem fl_ok : ∀ n (r : Nat → Nat), WFr r → VP r → g < r 1 → WFr (flR g n r).2 ∧ VP (flR g n r).2 ∧ (∀ j, j < 106 ∨ 246 ≤ j → (flR g n r).2 j = r j) ∧ (flR g n r).1 ≤ n := by
  intro n
  induction n with
  | zero => intro r hW hV hg; exact ⟨hW, hV, fun _ _ => rfl, Nat.le_refl _⟩
  | succ n ih =>
    intro r hW hV hg
    by_cases q : chs r g (r 0) = 0
    · rw [flR_0 q]; exact ⟨hW, hV, fun _ _ => rfl, Nat.zero_le _⟩
    · obtain ⟨t, x, e, ex, ht, h2, hx, hx2, ni, hW1, hV1, ef, o⟩ := add_ok hW hV hg q
      rw [flR_s q, e, show t + 1 - 1 = t by omega, ex]
      obtain ⟨a, b, c, d⟩ := ih _ hW1 hV1 (by rw [o 1 (by omega)]; exact hg)
      exact ⟨a, b, fun j hj => (c j hj).trans (o j hj), by show _ + 1 ≤ n + 1; omega⟩
def SF (c : Nat) : Prop := (22 ≤ c ∧ c ≤ 25) ∨ c = 27 ∨ c = 28
theorem sf_27 {w w1 : Wd} (h : Off S27 w w1) : Off SF w w1 := h.mono (fun c q => by unfold S27 at q; unfold SF; omega)
theorem sf_sp {w w1 : Wd} (h : Off SP w w1) : Off SF w w1 := h.mono (fun c q => by unfold SP at q; unfold SF; omega)
theorem c_addOuting {K : Kt} (hC : CT w r) (hP : CP w r) (hW : WFr r) (hV : VP r) (hg : g < r 1) (k0 : chs r g (r 0) = 0 → ∀ w1, Off S27 w w1 → K (some (.int (nI 0))) w1) (k1 : ∀ t x, chs r g (r 0) = t + 1 → mostN r t g = x → ∀ w1, Off SF w w1 → CT w1 (addR r g t x) → CP w1 (addR r g t x) → K (some (.int (nI 1))) w1) : fX2_addOuting [.ref 36, .int (nI g)] w K := by
  have h0 := hW.2.1
  have h1 := hW.2.2.1
  have g20 : g < 20 := by omega
  have L : ∀ (m t : Nat) (u6 : Value) (w1 : Wd), t + m = r 0 → Off S27 w w1 → RR (tl K lX2_addOuting) 10 [.ref 36, .int (nI g), .int (cI (chs r g t)), .int (cX r g (chs r g t)), .int (cW r g (-1) (chs r g t)), .int (nI t), u6] [] w1 := by
    intro m
    induction m with
    | zero =>
      intro t u6 w1 ht ho
      have et : t = r 0 := by omega
      subst et
      have hC1 := hC.off ho s27_ct
      have hP1 := hP.off ho s27_cp
      refine tX2_addOuting_10 ⟨fun _ => ⟨fun q => ?_, fun q => ?_⟩, fun q => absurd (by rw [hC1.1]; exact Int32.le_refl _) q⟩
      · have nc : chs r g (r 0) ≠ 0 := fun z => q (by rw [z]; rfl)
        obtain ⟨t, x, e, ex, ht, h2, hx, hx2, ni, -⟩ := add_ok hW hV hg nc
        rw [cI_s nc, cX_s nc, e, show t + 1 - 1 = t by omega, ex]
        exact c_add hC1 hP1 hW g20 (by omega) h2 (load_no ni) (fun w2 o2 hC2 hP2 => tX2_addOuting_106 (k1 t x e ex w2 ((sf_27 ho).tr (sf_sp o2)) hC2 hP2))
      · refine k0 (Classical.byContradiction (fun nc => ?_)) w1 ho
        rw [cI_s nc] at q
        rcases chs_ok (r := r) (g := g) (r 0) with p | p
        · exact nc p
        · exact ne_m1 (by omega) q
    | succ m ih =>
      intro t u6 w1 ht ho
      have hC1 := hC.off ho s27_ct
      have hP1 := hP.off ho s27_cp
      have mo := wMo_le hW g20 (show t < 8 by omega)
      refine tX2_addOuting_10 ⟨fun q => absurd q (by rw [hC1.1, le_N (by omega) (by omega)]; omega), fun _ => ?_⟩
      refine c_mostOf hC1 hP1 hW hV (by omega) hg (by omega) (fun w2 o2 => ?_)
      rw [mostC_0]
      have hC2 := hC1.off o2 s27_ct
      refine tX2_addOuting_36 ⟨fun q => ?_, fun q => ?_⟩
      · rw [le0_N (by omega)] at q
        have n : ¬ tkP r g t (chs r g t) := fun z => by have := z.1; omega
        have := ih (t + 1) (.int (nI (mostN r t g))) w2 (by omega) (ho.tr o2)
        rw [chs_f n] at this
        rw [nI_add t 1]; exact this
      · rw [le0_N (by omega)] at q
        refine c_valueOf hC2 hW (by omega) hg (by omega) (tX2_addOuting_55 ⟨fun p => ?_, fun p => ?_⟩)
        · have n : ¬ tkP r g t (chs r g t) := fun z => by
            rcases z.2 with z2 | z2
            · rw [z2] at p
              exact nle_m1 (by have := mo.1; unfold wMo at this; omega) p
            · by_cases zz : chs r g t = 0
              · rw [zz] at p
                exact nle_m1 (by have := mo.1; unfold wMo at this; omega) p
              · rw [cW_s zz] at p
                have hb : chs r g t - 1 < t := by
                  rcases chs_ok (r := r) (g := g) t with y | y
                  · exact absurd y zz
                  · exact y.1
                have mb := (wMo_le hW g20 (show chs r g t - 1 < 8 by omega)).1
                have ma := mo.1
                have p : nI (wMo r g t) ≤ nI (wMo r g (chs r g t - 1)) := p
                rw [le_N (by omega) (by omega)] at p
                omega
          have := ih (t + 1) (.int (nI (mostN r t g))) w2 (by omega) (ho.tr o2)
          rw [chs_f n] at this
          rw [nI_add t 1]; exact this
        · have y : tkP r g t (chs r g t) := by
            refine ⟨by omega, ?_⟩
            by_cases zz : chs r g t = 0
            · exact Or.inl zz
            · refine Or.inr (Nat.lt_of_not_le (fun z => p ?_))
              rw [cW_s zz]
              have hb : chs r g t - 1 < t := by
                rcases chs_ok (r := r) (g := g) t with y | y
                · exact absurd y zz
                · exact y.1
              have mb := (wMo_le hW g20 (show chs r g t - 1 < 8 by omega)).1
              have ma := mo.1
              show nI (wMo r g t) ≤ nI (wMo r g (chs r g t - 1))
              rw [le_N (by omega) (by omega)]
              exact z
          refine c_valueOf hC2 hW (by omega) hg (by omega) (tX2_addOuting_72 ?_)
          have := ih (t + 1) (.int (nI (mostN r t g))) w2 (by omega) (ho.tr o2)
          rw [chs_t y, cI_s (by omega), cX_s (by omega), cW_s (by omega), show t + 1 - 1 = t by omega] at this
          rw [nI_add t 1]; exact this
  exact tX2_addOuting_0 (L (r 0) 0 .null w (by omega) Off.rf)
theorem c_fillGame {K : Kt} (hC : CT w r) (hP : CP w r) (hW : WFr r) (hV : VP r) (hg : g < r 1) (k : ∀ w1, Off SF w w1 → CT w1 (flR g 3 r).2 → CP w1 (flR g 3 r).2 → K (some (.int (nI (flR g 3 r).1))) w1) : fX2_fillGame [.ref 36, .int (nI g)] w K := by
  have L : ∀ (n m : Nat) (q : Nat → Nat) (w1 : Wd), m + n = 3 → Off SF w w1 → CT w1 q → CP w1 q → WFr q → VP q → g < q 1 → (flR g 3 r).1 = m + (flR g n q).1 → (flR g 3 r).2 = (flR g n q).2 → RR (tl K lX2_fillGame) 2 [.ref 36, .int (nI g), .int (nI m)] [] w1 := by
    intro n
    induction n with
    | zero =>
      intro m q w1 hm ho hC1 hP1 hW1 hV1 hg1 e1 e2
      have em : m = 3 := by omega
      subst em
      refine tX2_fillGame_2 ⟨fun _ => ?_, fun z => absurd (Int32.le_refl _) z⟩
      have := k w1 ho (by rw [e2]; exact hC1) (by rw [e2]; exact hP1)
      rw [e1] at this
      exact this
    | succ n ih =>
      intro m q w1 hm ho hC1 hP1 hW1 hV1 hg1 e1 e2
      refine tX2_fillGame_2 ⟨fun z => absurd z (by rw [le_N (by omega) (by omega)]; omega), fun _ => ?_⟩
      refine c_addOuting hC1 hP1 hW1 hV1 hg1 (fun z w2 o2 => ?_) (fun t x ec ex w2 o2 hC2 hP2 => ?_)
      · refine tX2_fillGame_12 ⟨fun _ => ?_, fun y => absurd rfl y⟩
        rw [flR_0 z] at e1 e2
        have o3 := ho.tr (sf_27 o2)
        have := k w2 o3 (by rw [e2]; exact hC1.off o2 s27_ct) (by rw [e2]; exact hP1.off o2 s27_cp)
        rw [e1] at this
        exact this
      · refine tX2_fillGame_12 ⟨fun y => absurd y (by decide), fun _ => ?_⟩
        have nc : chs q g (q 0) ≠ 0 := by omega
        obtain ⟨t1, x1, e, ex1, ht, h2, hx, hx2, ni, hW2, hV2, ef, o⟩ := add_ok hW1 hV1 hg1 nc
        have et : t1 = t := by omega
        subst et
        have exx : x1 = x := ex1.symm.trans ex
        subst exx
        rw [flR_s nc, e, show t1 + 1 - 1 = t1 by omega, ex] at e1 e2
        rw [nI_add m 1]
        exact ih (m + 1) _ w2 (by omega) (ho.tr o2) hC2 hP2 hW2 hV2 (by rw [o 1 (by omega)]; exact hg1) (by rw [e1]; show m + (_ + 1) = _; omega) e2
  exact tX2_fillGame_0 (L 3 0 r w rfl Off.rf hC hP hW hV hg (by omega) rfl)
theorem g_choose {K : Kt} (hM : RM w r) (hW : WFr r) (hV : VP r) (hg : g < r 1) {m : Nat} {u7 : Value} (k0 : chs r g (r 0) = 0 → ∀ w1 x4 x5 x6 u7, Off (fun c => c = 43 ∨ c = 47) w w1 → RM w1 r → RR (tl K lX11_fills) 4 [.ref 41, .int (nI g), .int (nI m), .int (-1), .int x4, .int x5, .int x6, u7] [] w1) (k1 : ∀ t x, chs r g (r 0) = t + 1 → mostN r t g = x → ∀ w1 x4 x5 x6 u7, Off (fun c => c = 43 ∨ c = 47) w w1 → RM w1 (addR r g t x) → RR (tl K lX11_fills) 4 [.ref 41, .int (nI g), .int (nI m + nI 1), .int (nI t), .int x4, .int x5, .int x6, u7] [] w1) : RR (tl K lX11_fills) 20 [.ref 41, .int (nI g), .int (nI m), .int (-1), .int (nI 0), .int (nI 0), .int (nI 0), u7] [] w := by
  have h0 := hW.2.1
  have h1 := hW.2.2.1
  have g20 : g < 20 := by omega
  have L : ∀ (n t : Nat) (u7 : Value) (w1 : Wd), t + n = r 0 → Off (· = 47) w w1 → RR (tl K lX11_fills) 20 [.ref 41, .int (nI g), .int (nI m), .int (cI (chs r g t)), .int (cX r g (chs r g t)), .int (cW r g (nI 0) (chs r g t)), .int (nI t), u7] [] w1 := by
    intro n
    induction n with
    | zero =>
      intro t u7 w1 ht ho
      have et : t = r 0 := by omega
      subst et
      have hM1 := hM.off ho (by decide)
      have oo : Off (fun c => c = 43 ∨ c = 47) w w1 := ho.mono (fun c q => Or.inr q)
      refine tX11_fills_20 ⟨fun _ => ⟨fun q => ?_, fun q => ?_⟩, fun q => absurd (by rw [rdM hM1 (by omega)]; exact Int32.le_refl _) q⟩
      · have z : chs r g (r 0) = 0 := Classical.byContradiction (fun nc => by
          rw [cI_s nc] at q
          rcases chs_ok (r := r) (g := g) (r 0) with p | p
          · exact nc p
          · exact ne_m1 (by omega) q)
        rw [q]
        exact k0 z w1 _ _ _ _ oo hM1
      · have nc : chs r g (r 0) ≠ 0 := fun z => q (by rw [z]; rfl)
        obtain ⟨t, x, e, ex, ht, h2, hx, hx2, ni, -⟩ := add_ok hW hV hg nc
        rw [cI_s nc, cX_s nc, e, show t + 1 - 1 = t by omega, ex]
        exact g_comes hM1 g20 h2 (fun w2 o2 hM2 => tX11_fills_101 (k1 t x e ex w2 _ _ _ _ (oo.tr (o2.mono (fun c q => Or.inl q))) hM2))
    | succ n ih =>
      intro t u7 w1 ht ho
      have hM1 := hM.off ho (by decide)
      have mo := wMo_le hW g20 (show t < 8 by omega)
      refine tX11_fills_20 ⟨fun q => absurd q (by rw [rdM hM1 (by omega), le_N (by omega) (by omega)]; omega), fun _ => ?_⟩
      refine g_mostOf hM1 hW hV.1 (by omega) g20 (hV.2.2.2.2.1 g g20) (fun w2 o2 => ?_)
      have hM2 := hM1.off o2 (by decide)
      refine tX11_fills_38 ⟨fun q => ?_, fun q => ?_⟩
      · rw [le0_N (by omega)] at q
        have n : ¬ tkP r g t (chs r g t) := fun z => by have := z.1; omega
        have := ih (t + 1) (.int (nI (mostN r t g))) w2 (by omega) (ho.tr o2)
        rw [chs_f n] at this
        rw [nI_add t 1]; exact this
      · rw [le0_N (by omega)] at q
        have hb : chs r g t ≠ 0 → chs r g t - 1 < t := fun zz => by
          rcases chs_ok (r := r) (g := g) t with y | y
          · exact absurd y zz
          · exact y.1
        have TK : tkP r g t (chs r g t) → RR (tl K lX11_fills) 80 [.ref 41, .int (nI g), .int (nI m), .int (nI t), .int (nI (mostN r t g)), .int (cW r g (nI 0) (chs r g t)), .int (nI t), .int (nI (mostN r t g))] [.int (nI (worthN r t g (mostN r t g)))] w2 := fun y => by
          refine tX11_fills_80 ?_
          have := ih (t + 1) (.int (nI (mostN r t g))) w2 (by omega) (ho.tr o2)
          rw [chs_t y, cI_s (by omega), cX_s (by omega), cW_s (by omega), show t + 1 - 1 = t by omega] at this
          rw [nI_add t 1]; exact this
        refine ⟨fun p => ?_, fun p => ?_⟩
        · have zz : chs r g t = 0 := Classical.byContradiction (fun nc => by
            rw [cI_s nc] at p
            have := hb nc
            exact ne_m1 (by omega) p)
          exact g_worthOf hM2 hW (by omega) g20 (by omega) (TK ⟨by omega, Or.inl zz⟩)
        · have zz : chs r g t ≠ 0 := fun z => p (by rw [z]; rfl)
          have hb1 := hb zz
          have mb := (wMo_le hW g20 (show chs r g t - 1 < 8 by omega)).1
          have ma := mo.1
          refine g_worthOf hM2 hW (by omega) g20 (by omega) (tX11_fills_59 ⟨fun s => ?_, fun s => ?_⟩)
          · rw [cW_s zz] at s
            have s : nI (wMo r g t) ≤ nI (wMo r g (chs r g t - 1)) := s
            rw [le_N (by omega) (by omega)] at s
            have n : ¬ tkP r g t (chs r g t) := fun z => by
              rcases z.2 with z2 | z2
              · exact zz z2
              · omega
            have := ih (t + 1) (.int (nI (mostN r t g))) w2 (by omega) (ho.tr o2)
            rw [chs_f n] at this
            rw [nI_add t 1]; exact this
          · rw [cW_s zz] at s
            have s : ¬ nI (wMo r g t) ≤ nI (wMo r g (chs r g t - 1)) := s
            rw [le_N (by omega) (by omega)] at s
            exact g_worthOf hM2 hW (by omega) g20 (by omega) (TK ⟨by omega, Or.inr (by omega)⟩)
  exact L (r 0) 0 u7 w (by omega) Off.rf
theorem g_fills {K : Kt} (hM : RM w r) (hW : WFr r) (hV : VP r) (hg : g < r 1) (k : ∀ w1, Off (fun c => c = 43 ∨ c = 47) w w1 → RM w1 (flR g 3 r).2 → K (some (.int (nI (flR g 3 r).1))) w1) : fX11_fills [.ref 41, .int (nI g)] w K := by
  have L : ∀ (n m : Nat) (x3 : Int32) (u4 u5 u6 u7 : Value) (q : Nat → Nat) (w1 : Wd), 3 ≤ q (106 + g) + n → ¬ x3 = -1 → Off (fun c => c = 43 ∨ c = 47) w w1 → RM w1 q → WFr q → VP q → g < q 1 → (flR g 3 r).1 = m + (flR g n q).1 → (flR g 3 r).2 = (flR g n q).2 → RR (tl K lX11_fills) 4 [.ref 41, .int (nI g), .int (nI m), .int x3, u4, u5, u6, u7] [] w1 := by
    intro n
    induction n with
    | zero =>
      intro m x3 u4 u5 u6 u7 q w1 hn hx3 ho hM1 hW1 hV1 hg1 e1 e2
      refine tX11_fills_4 ⟨fun z => absurd z hx3, fun _ => g_choose hM1 hW1 hV1 hg1 (fun z w2 x4 x5 x6 v7 o2 hM2 => ?_) (fun t x ec ex w2 x4 x5 x6 v7 o2 hM2 => ?_)⟩
      · refine tX11_fills_4 ⟨fun _ => ?_, fun y => absurd rfl y⟩
        rw [flR_0 z] at e1 e2
        have := k w2 (ho.tr o2) (by rw [e2]; exact hM2)
        rw [e1] at this
        exact this
      · have nc : chs q g (q 0) ≠ 0 := by omega
        obtain ⟨t1, x1, e, ex1, ht, h2, -⟩ := add_ok hW1 hV1 hg1 nc
        omega
    | succ n ih =>
      intro m x3 u4 u5 u6 u7 q w1 hn hx3 ho hM1 hW1 hV1 hg1 e1 e2
      refine tX11_fills_4 ⟨fun z => absurd z hx3, fun _ => g_choose hM1 hW1 hV1 hg1 (fun z w2 x4 x5 x6 v7 o2 hM2 => ?_) (fun t x ec ex w2 x4 x5 x6 v7 o2 hM2 => ?_)⟩
      · refine tX11_fills_4 ⟨fun _ => ?_, fun y => absurd rfl y⟩
        rw [flR_0 z] at e1 e2
        have := k w2 (ho.tr o2) (by rw [e2]; exact hM2)
        rw [e1] at this
        exact this
      · have nc : chs q g (q 0) ≠ 0 := by omega
        obtain ⟨t1, x1, e, ex1, ht, h2, hx, hx2, ni, hW2, hV2, ef, o⟩ := add_ok hW1 hV1 hg1 nc
        have et : t1 = t := by omega
        subst et
        have exx : x1 = x := ex1.symm.trans ex
        subst exx
        rw [flR_s nc, e, show t1 + 1 - 1 = t1 by omega, ex] at e1 e2
        rw [nI_add m 1]
        exact ih (m + 1) (nI t1) _ _ _ _ _ w2 (by rw [ef]; omega) (ne_m1 (by have := hW1.2.1; omega)) (ho.tr o2) hM2 hW2 hV2 (by rw [o 1 (by omega)]; exact hg1) (by rw [e1]; show m + (_ + 1) = _; omega) e2
  exact tX11_fills_0 (L 3 0 (nI 0) .null .null .null .null r w (by omega) (by decide) Off.rf hM hW hV hg (by omega) rfl)
/-- all games filled, one by one -/
noncomputable def faR : Nat → (Nat → Nat) → Nat × (Nat → Nat)
  | 0, r => (0, r)
  | n + 1, r => ((faR n r).1 + (flR n 3 (faR n r).2).1, (flR n 3 (faR n r).2).2)
theorem fa_ok (hW : WFr r) (hV : VP r) : ∀ n, n ≤ r 1 → WFr (faR n r).2 ∧ VP (faR n r).2 ∧ (∀ j, j < 106 ∨ 246 ≤ j → (faR n r).2 j = r j) ∧ (faR n r).1 ≤ 3 * n := by
  intro n
  induction n with
  | zero => intro _; exact ⟨hW, hV, fun _ _ => rfl, Nat.le_refl _⟩
  | succ n ih =>
    intro hn
    obtain ⟨a, b, c, d⟩ := ih (by omega)
    obtain ⟨a2, b2, c2, d2⟩ := fl_ok (g := n) 3 _ a b (by rw [c 1 (by omega)]; omega)
    exact ⟨a2, b2, fun j hj => (c2 j hj).trans (c j hj), by show (faR n r).1 + _ ≤ _; omega⟩
end FILL
section FILL2
variable {w : Wd} {r : Nat → Nat}
theorem sf_ct : ∀ c, 13 ≤ c → c ≤ 20 → ¬ SF c := fun c h1 h2 h => by unfold SF at h; omega
theorem p_fill (hR : RH w r) {x1 : Int32} : AP w r fX10_fill fX11_fill [.ref 0, .int x1] [.ref 41, .int x1] := by
  have hRR := hR
  obtain ⟨hRA, N, A, H, h3, h4, hw, hm, hv⟩ := hR
  have hRA0 := hRA
  obtain ⟨hM, hC, hP, hW, hV, h6, h7, h8⟩ := hRA
  have h1 := hW.2.2.1
  unfold AP
  refine tX10_fill_0 ⟨fun z => ?_, fun z => ?_⟩
  · rw [hC.2.1] at z
    have z1 := z
    obtain ⟨g, hg, rfl⟩ := (rng (by omega)).mp z
    refine c_keep hC hP hW hm.1 hm.2.1 h3 h4 (fun w1 o1 k3 k4 ks km => tX10_fill_21 ?_)
    have hC1 := hC.off o1 (fun c a b q => by omega)
    have hP1 := hP.off o1 (fun c a b q => by omega)
    refine c_fillGame hC1 hP1 hW hV hg (fun w2 o2 hC2 hP2 => tX10_fill_30 ?_)
    obtain ⟨hW2, hV2, o, -⟩ := fl_ok (g := g) 3 r hW hV hg
    have hca := CA_mk hW hm.1 hm.2.1 h3 h4 o1 k3 k4 ks km (o2.mono (fun c q => by unfold SF at q; omega)) hC2 hP2
    have hMc := RM_ca hca hM
    have hwc := HW_ca hca hw
    generalize upI (upI w2 0 10 (nI 0)) 0 12 (-1) = wc at hca hMc hwc ⊢
    have e : unI (bI (nI 0 ≤ nI g ∧ nI g ≤ rd wc 43 (nI 1) - nI 1)) = nI 0 := by rw [rdM hMc (by omega), bI_t z1, un_1]
    refine tX11_fill_0 ⟨fun _ => ?_, fun q => absurd e q⟩
    rw [e]
    refine g_remembers (RM_rfs hMc) (HW_rfs hwc) (fun w4 og kg hgm => tX11_fill_21 ?_)
    have hM4 : RM w4 r := (RM_rfs hMc).off og (by decide)
    refine g_fills hM4 hW hV hg (fun w5 o5 hM5 => tX11_fill_26 ?_)
    exact act_fin hRA0 h3 h4 hw hm hv hca (GA_mk og kg hgm (o5.mono (fun c q => by unfold S51; omega)) hM5) hW2 hV2 (fun j hj => o j (by unfold FX at hj; omega))
  · rw [hC.2.1] at z
    have hM1 : RM (upI (upI w 0 10 (nI 1)) 0 12 (-1)) r := RM_cf hM CF_r
    have e : unI (bI (nI 0 ≤ x1 ∧ x1 ≤ rd (upI (upI w 0 10 (nI 1)) 0 12 (-1)) 43 (nI 1) - nI 1)) = nI 1 := by rw [rdM hM1 (by omega), bI_f z, un_0]
    refine tX11_fill_0 ⟨fun q => absurd q (by rw [e]; decide), fun _ => ?_⟩
    rw [e]
    exact AK_of hRR (fin CF_r GF_r)
theorem p_fillAll (hR : RH w r) : AP w r fX10_fillAll fX11_fillAll [.ref 0] [.ref 41] := by
  have hRR := hR
  obtain ⟨hRA, N, A, H, h3, h4, hw, hm, hv⟩ := hR
  have hRA0 := hRA
  obtain ⟨hM, hC, hP, hW, hV, h6, h7, h8⟩ := hRA
  have h1 := hW.2.2.1
  unfold AP
  refine tX10_fillAll_0 ⟨fun z => ?_, fun z => ?_⟩
  · rw [g0_N hC hW] at z
    refine c_keep hC hP hW hm.1 hm.2.1 h3 h4 (fun w1 o1 k3 k4 ks km => tX10_fillAll_20 ?_)
    have hC1 := hC.off o1 (fun c a b q => by omega)
    have hP1 := hP.off o1 (fun c a b q => by omega)
    have E : ∀ w2, Off SF w1 w2 → CT w2 (faR (r 1) r).2 → CP w2 (faR (r 1) r).2 → fX11_fillAll [.ref 41] (upI (upI w2 0 10 (nI 0)) 0 12 (-1)) (fun u w3 => AK w r (some (.int (nI (faR (r 1) r).1))) u w3) := by
      intro w2 o2 hC2 hP2
      obtain ⟨hW2, hV2, o, -⟩ := fa_ok hW hV (r 1) (Nat.le_refl _)
      have hca := CA_mk hW hm.1 hm.2.1 h3 h4 o1 k3 k4 ks km (o2.mono (fun c q => by unfold SF at q; omega)) hC2 hP2
      have hMc := RM_ca hca hM
      have hwc := HW_ca hca hw
      have h6c : (upI (upI w2 0 10 (nI 0)) 0 12 (-1)).1 41 6 = bI (0 < r 1) := by rw [(hca.1 41 (by omega)).1]; exact h6
      generalize upI (upI w2 0 10 (nI 0)) 0 12 (-1) = wc at hca hMc hwc h6c ⊢
      have e : unI (wc.1 41 6) = nI 0 := by rw [h6c, bI_t z, un_1]
      refine tX11_fillAll_0 ⟨fun _ => ?_, fun q => absurd e q⟩
      rw [e]
      refine g_remembers (RM_rfs hMc) (HW_rfs hwc) (fun w4 og kg hgm => tX11_fillAll_20 ?_)
      have hM4 : RM w4 r := (RM_rfs hMc).off og (by decide)
      have L : ∀ (n g : Nat) (w5 : Wd), g + n = r 1 → Off (fun c => c = 43 ∨ c = 47) w4 w5 → RM w5 (faR g r).2 → RR (tl (fun u w3 => AK w r (some (.int (nI (faR (r 1) r).1))) u w3) lX11_fillAll) 24 [.ref 41, .int (nI (faR g r).1), .int (nI g)] [] w5 := by
        intro n
        induction n with
        | zero =>
          intro g w5 hg o5 hM5
          have eg : g = r 1 := by omega
          subst eg
          refine tX11_fillAll_24 ⟨fun _ => ?_, fun q => absurd (by rw [rdM hM5 (by omega), o 1 (by omega)]; exact Int32.le_refl _) q⟩
          exact act_fin hRA0 h3 h4 hw hm hv hca (GA_mk og kg hgm (o5.mono (fun c q => by unfold S51; omega)) hM5) hW2 hV2 (fun j hj => o j (by unfold FX at hj; omega))
        | succ n ih =>
          intro g w5 hg o5 hM5
          obtain ⟨hWg, hVg, og2, bg⟩ := fa_ok hW hV g (by omega)
          refine tX11_fillAll_24 ⟨fun q => absurd q (by rw [rdM hM5 (by omega), og2 1 (by omega), le_N (by omega) (by omega)]; omega), fun _ => ?_⟩
          refine g_fills hM5 hWg hVg (by rw [og2 1 (by omega)]; omega) (fun w6 o6 hM6 => tX11_fillAll_40 ?_)
          rw [nI_add, nI_add g 1]
          exact ih (g + 1) w6 (by omega) (o5.tr o6) hM6
      exact L (r 1) 0 w4 (by omega) Off.rf hM4
    have L : ∀ (n g : Nat) (w2 : Wd), g + n = r 1 → Off SF w1 w2 → CT w2 (faR g r).2 → CP w2 (faR g r).2 → RR (tl (fun v w3 => fX11_fillAll [.ref 41] w3 (fun u w4 => AK w r v u w4)) lX10_fillAll) 24 [.ref 0, .int (nI (faR g r).1), .int (nI g)] [] w2 := by
      intro n
      induction n with
      | zero =>
        intro g w2 hg o2 hC2 hP2
        have eg : g = r 1 := by omega
        subst eg
        obtain ⟨-, -, o, -⟩ := fa_ok hW hV (r 1) (Nat.le_refl _)
        exact tX10_fillAll_24 ⟨fun _ => E w2 o2 hC2 hP2, fun q => absurd (by rw [hC2.2.1, o 1 (by omega)]; exact Int32.le_refl _) q⟩
      | succ n ih =>
        intro g w2 hg o2 hC2 hP2
        obtain ⟨hWg, hVg, og2, bg⟩ := fa_ok hW hV g (by omega)
        refine tX10_fillAll_24 ⟨fun q => absurd q (by rw [hC2.2.1, og2 1 (by omega), le_N (by omega) (by omega)]; omega), fun _ => ?_⟩
        refine c_fillGame hC2 hP2 hWg hVg (by rw [og2 1 (by omega)]; omega) (fun w3 o3 hC3 hP3 => tX10_fillAll_44 ?_)
        rw [nI_add, nI_add g 1]
        exact ih (g + 1) w3 (by omega) (o2.tr o3) hC3 hP3
    exact L (r 1) 0 w1 (by omega) Off.rf hC1 hP1
  · rw [g0_N hC hW] at z
    have h6' := txr (w1 := upI (upI w 0 10 (nI 1)) 0 12 (-1)) CF_r h6
    have e : unI ((upI (upI w 0 10 (nI 1)) 0 12 (-1)).1 41 6) = nI 1 := by rw [h6', bI_f z, un_0]
    refine tX11_fillAll_0 ⟨fun q => absurd q (by rw [e]; decide), fun _ => ?_⟩
    rw [e]
    exact AK_of hRR (fin CF_r GF_r)
end FILL2
