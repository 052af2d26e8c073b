/-! pair -/
theorem s38_ct : ∀ c, 13 ≤ c → c ≤ 20 → ¬ S38 c := fun c h1 h2 h => by unfold S38 at h; omega
theorem s38_cp : ∀ c, 21 ≤ c → c ≤ 25 → ¬ S38 c := fun c h1 h2 h => by unfold S38 at h; omega
abbrev P3 : Type := Int32 × Int32 × Int32
def pX (r : Nat → Nat) (g o one : Nat) : Nat := min o (fullN r one g)
def pY (r : Nat → Nat) (g o one oth : Nat) : Nat := min (r (22 + oth)) (r (86 + g) - pX r g o one)
def pVal (r : Nat → Nat) (g o one oth : Nat) : Nat := worthN r one g (pX r g o one) + worthN r oth g (pY r g o one oth)
def alP (r : Nat → Nat) (t g x : Nat) : Prop := allowT r (load r t) t g x
noncomputable def stO (r : Nat → Nat) (g o one oth : Nat) (s : P3) : P3 := bif dec (oth ≠ one ∧ s.1 < nI (pVal r g o one oth) ∧ alP r oth g (pY r g o one oth)) then (nI (pVal r g o one oth), nI one, nI oth) else s
theorem stO_t {r : Nat → Nat} {g o one oth : Nat} {s : P3} (h : oth ≠ one ∧ s.1 < nI (pVal r g o one oth) ∧ alP r oth g (pY r g o one oth)) : stO r g o one oth s = (nI (pVal r g o one oth), nI one, nI oth) := by
  unfold stO; rw [dec_t h]; rfl
theorem stO_f {r : Nat → Nat} {g o one oth : Nat} {s : P3} (h : ¬ (oth ≠ one ∧ s.1 < nI (pVal r g o one oth) ∧ alP r oth g (pY r g o one oth))) : stO r g o one oth s = s := by
  unfold stO; rw [dec_f h]; rfl
noncomputable def fdO (r : Nat → Nat) (g o one : Nat) : Nat → P3 → P3
  | 0, s => s
  | k + 1, s => stO r g o one k (fdO r g o one k s)
noncomputable def stA (r : Nat → Nat) (g o one : Nat) (s : P3) : P3 := bif dec (pX r g o one < r (86 + g) ∧ alP r one g (pX r g o one)) then fdO r g o one (r 0) s else s
noncomputable def fdA (r : Nat → Nat) (g o : Nat) : Nat → P3 → P3
  | 0, s => s
  | k + 1, s => stA r g o k (fdA r g o k s)
def PS (w : Wd) (s : P3) : Prop := w.1 36 2 = s.1 ∧ w.1 36 3 = s.2.1 ∧ w.1 36 4 = s.2.2
theorem PS.off {S : Nat → Prop} {w w1 : Wd} {s : P3} (h : PS w s) (ho : Off S w w1) (hs : ¬ S 36) : PS w1 s := by
  unfold PS at h ⊢
  rw [(ho 36 hs).1]
  exact h
section PAIR
variable {w : Wd} {r : Nat → Nat}
theorem pX_le {r : Nat → Nat} {g o one : Nat} : pX r g o one ≤ r (86 + g) ∧ pX r g o one ≤ r (22 + one) := by unfold pX fullN; omega
theorem pVal_le {r : Nat → Nat} (hW : WFr r) {g o one oth : Nat} (hg : g < 20) (h1 : one < 8) (h2 : oth < 8) : pVal r g o one oth ≤ 72000 := by
  have hG := hW.2.2.2.2.2.2.2.1 g hg
  have a := pX_le (r := r) (g := g) (o := o) (one := one)
  have b := worth_le hW (t := one) (g := g) (x := pX r g o one) h1 hg (by omega)
  have c := worth_le hW (t := oth) (g := g) (x := pY r g o one oth) h2 hg (by unfold pY; omega)
  unfold pVal
  omega
theorem need_C (hC : CT w r) (hW : WFr r) {g : Nat} (hg : g < r 1) : rd w 17 (nI g * nI 3 + nI 2) = nI (r (86 + g)) := by
  have h1 := hW.2.2.1
  rw [pk_mul, nI_add, rd_N (by omega)]; exact (hC.2.2.2.2.1 g hg).2.2
theorem stam_C (hC : CT w r) (hW : WFr r) {t : Nat} (ht : t < r 0) : rd w 16 (nI t * nI 4 + nI 1) = nI (r (22 + t)) := by
  have h0 := hW.2.1
  rw [pk_mul, nI_add, rd_N (by omega)]; exact (hC.2.2.2.1 t ht).2.2.1
theorem c_chooseOther {K : Kt} (hC : CT w r) (hP : CP w r) (hW : WFr r) (hV : VP r) {g o one : Nat} (hg : g < r 1) (hone : one < r 0) {s : P3} (hS : PS w s) (h : ∀ w1, Off S38 w w1 → PS w1 (fdO r g o one (r 0) s) → K none w1) : fX2_chooseOther [.ref 36, .int (nI g), .int (nI one), .int (nI (pX r g o one))] w K := by
  have h0 := hW.2.1
  have h1 := hW.2.2.1
  have hG := hW.2.2.2.2.2.2.2.1 g (by omega)
  have hx := pX_le (r := r) (g := g) (o := o) (one := one)
  refine tX2_chooseOther_0 ⟨by rw [pk_mul, nI_add]; exact vp_in_nI (by omega) (by decide), ?_⟩
  rw [need_C hC hW hg, sub_N hx.1]
  have L : ∀ (n k : Nat) (u6 u7 : Value) (w1 : Wd), k + n = r 0 → Off S38 w w1 → PS w1 (fdO r g o one k s) → RR (tl K lX2_chooseOther) 19 [.ref 36, .int (nI g), .int (nI one), .int (nI (pX r g o one)), .int (nI (r (86 + g) - pX r g o one)), .int (nI k), u6, u7] [] w1 := by
    intro n
    induction n with
    | zero =>
      intro k u6 u7 w1 hk ho hs
      have hC1 := hC.off ho s38_ct
      have e : k = r 0 := by omega
      rw [e] at hs
      refine tX2_chooseOther_19 ⟨fun _ => h w1 ho hs, fun q => absurd ?_ q⟩
      rw [hC1.1, le_N (by omega) (by omega)]; omega
    | succ n ih =>
      intro k u6 u7 w1 hk ho hs
      have hC1 := hC.off ho s38_ct
      have hP1 := hP.off ho s38_cp
      have hT := hW.2.2.2.2.2.2.1 k (by omega)
      have ey : (if nI (r (86 + g) - pX r g o one) < rd w1 16 (nI k * nI 4 + nI 1) then nI (r (86 + g) - pX r g o one) else rd w1 16 (nI k * nI 4 + nI 1)) = nI (pY r g o one k) := by
        rw [stam_C hC1 hW (by omega), min_I (by omega) (by omega)]; rfl
      have by1 : pY r g o one k ≤ 200 := by unfold pY; omega
      have bv := pVal_le hW (g := g) (o := o) (one := one) (oth := k) (by omega) (by omega) (by omega)
      refine tX2_chooseOther_19 ⟨fun q => absurd q ?_, fun _ => ⟨by rw [pk_mul, nI_add]; exact vp_in_nI (by omega) (by decide), ?_⟩⟩
      · rw [hC1.1, le_N (by omega) (by omega)]; omega
      rw [ey]
      refine c_valueOf hC1 hW hone hg (by omega) (tX2_chooseOther_64 (c_valueOf hC1 hW (by omega) hg by1 ?_))
      have ev : nI (worthN r one g (pX r g o one)) + nI (worthN r k g (pY r g o one k)) = nI (pVal r g o one k) := by rw [nI_add]; rfl
      have hst : fdO r g o one (k + 1) s = stO r g o one k (fdO r g o one k s) := rfl
      have ih2 := ih (k + 1)
      rw [hst] at ih2
      clear hst ih
      generalize fdO r g o one k s = s1 at hs ih2
      refine tX2_chooseOther_76 ⟨fun q => ?_, fun q => ⟨fun q2 => ?_, fun q2 => ?_⟩⟩
      · rw [eq_N (by omega) (by omega)] at q
        rw [nI_add k 1]
        exact ih2 _ _ w1 (by omega) ho (by rw [stO_f (fun p => p.1 q)]; exact hs)
      · rw [eq_N (by omega) (by omega)] at q
        rw [ev, hs.1] at q2
        rw [nI_add k 1]
        exact ih2 _ _ w1 (by omega) ho (by rw [stO_f (fun p => absurd p.2.1 (Int32.not_lt.mpr q2))]; exact hs)
      · rw [eq_N (by omega) (by omega)] at q
        rw [ev, hs.1] at q2
        have q3 := Int32.not_le.mp q2
        rw [ev]
        refine c_allowsIn hC1 hP1 hW hV (by omega) hg (by omega) (fun w2 v ho2 hv => tX2_chooseOther_106 ⟨fun q4 => ?_, fun q4 => ?_⟩)
        · rw [nI_add k 1]
          exact ih2 _ _ w2 (by omega) (ho.tr (off27 ho2)) (by rw [stO_f (fun p => hv.f q4 p.2.2)]; exact hs.off ho2 (by unfold S27; omega))
        · rw [nI_add k 1]
          have i36 : S38 36 := by unfold S38; omega
          have o1 : Off S38 w2 (upI w2 36 2 (nI (pVal r g o one k))) := Off.up i36
          have o2 : Off S38 (upI w2 36 2 (nI (pVal r g o one k))) (upI (upI w2 36 2 (nI (pVal r g o one k))) 36 3 (nI one)) := Off.up i36
          refine ih2 _ _ _ (by omega) ((((ho.tr (off27 ho2)).tr o1).tr o2).tr (Off.up i36)) ?_
          rw [stO_t ⟨q, q3, hv.t q4⟩]
          refine ⟨?_, ?_, ?_⟩
          · rw [upI1, if_neg (by decide), upI1, if_neg (by decide), upI1, if_pos ⟨rfl, rfl⟩]
          · rw [upI1, if_neg (by decide), upI1, if_pos ⟨rfl, rfl⟩]
          · rw [upI1, if_pos ⟨rfl, rfl⟩]
  exact L (r 0) 0 _ _ w (by omega) Off.rf hS
theorem c_choosePair {K : Kt} (hC : CT w r) (hP : CP w r) (hW : WFr r) (hV : VP r) {g o : Nat} (hg : g < r 1) (ho1 : o ≤ 120) (h : ∀ w1, Off S38 w w1 → PS w1 (fdA r g o (r 0) (-2, -2, -2)) → K none w1) : fX2_choosePair [.ref 36, .int (nI g), .int (nI o)] w K := by
  have h0 := hW.2.1
  have h1 := hW.2.2.1
  have hG := hW.2.2.2.2.2.2.2.1 g (by omega)
  refine tX2_choosePair_0 ?_
  have i36 : S38 36 := by unfold S38; omega
  have o1 : Off S38 w (upI w 36 2 (-2)) := Off.up i36
  have o2 : Off S38 (upI w 36 2 (-2)) (upI (upI w 36 2 (-2)) 36 3 (-2)) := Off.up i36
  have L : ∀ (n k : Nat) (u4 : Value) (w1 : Wd), k + n = r 0 → Off S38 w w1 → PS w1 (fdA r g o k (-2, -2, -2)) → RR (tl K lX2_choosePair) 20 [.ref 36, .int (nI g), .int (nI o), .int (nI k), u4] [] w1 := by
    intro n
    induction n with
    | zero =>
      intro k u4 w1 hk ho hs
      have hC1 := hC.off ho s38_ct
      have e : k = r 0 := by omega
      rw [e] at hs
      refine tX2_choosePair_20 ⟨fun _ => h w1 ho hs, fun q => absurd ?_ q⟩
      rw [hC1.1, le_N (by omega) (by omega)]; omega
    | succ n ih =>
      intro k u4 w1 hk ho hs
      have hC1 := hC.off ho s38_ct
      have hP1 := hP.off ho s38_cp
      have hT := hW.2.2.2.2.2.2.1 k (by omega)
      have hx := pX_le (r := r) (g := g) (o := o) (one := k)
      have fl := full_le hW (t := k) (g := g) (by omega)
      have ex : (if nI (fullN r k g) < nI o then nI (fullN r k g) else nI o) = nI (pX r g o k) := by
        rw [min_I (by omega) (by omega)]; rfl
      have hst : fdA r g o (k + 1) (-2, -2, -2) = stA r g o k (fdA r g o k (-2, -2, -2)) := rfl
      have ih2 := ih (k + 1)
      rw [hst] at ih2
      clear hst ih
      generalize fdA r g o k (-2, -2, -2) = s1 at hs ih2
      refine tX2_choosePair_20 ⟨fun q => absurd q ?_, fun _ => ⟨by rw [pk_mul, nI_add]; exact vp_in_nI (by omega) (by decide), by rw [pk_mul, nI_add]; exact vp_in_nI (by omega) (by decide), ?_⟩⟩
      · rw [hC1.1, le_N (by omega) (by omega)]; omega
      rw [full_C hC1 hW (by omega) hg, ex, need_C hC1 hW hg]
      refine ⟨fun q => ?_, fun q => ?_⟩
      · rw [le_N (by omega) (by omega)] at q
        rw [nI_add k 1]
        refine ih2 _ w1 (by omega) ho ?_
        unfold stA
        rw [dec_f (fun p => by omega)]
        exact hs
      · rw [le_N (by omega) (by omega)] at q
        refine c_allowsIn hC1 hP1 hW hV (by omega) hg (by omega) (fun w2 v ho2 hv => tX2_choosePair_77 ⟨fun q4 => ?_, fun q4 => ?_⟩)
        · rw [nI_add k 1]
          refine ih2 _ w2 (by omega) (ho.tr (off27 ho2)) ?_
          unfold stA
          rw [dec_f (fun p => hv.f q4 p.2)]
          exact hs.off ho2 (by unfold S27; omega)
        · refine c_chooseOther (hC1.off ho2 s27_ct) (hP1.off ho2 s27_cp) hW hV hg (by omega) (hs.off ho2 (by unfold S27; omega)) (fun w3 ho3 hs3 => tX2_choosePair_88 ?_)
          rw [nI_add k 1]
          refine ih2 _ w3 (by omega) ((ho.tr (off27 ho2)).tr ho3) ?_
          unfold stA
          rw [dec_t ⟨by omega, hv.t q4⟩]
          exact hs3
  refine L (r 0) 0 _ _ (by omega) ((o1.tr o2).tr (Off.up i36)) ⟨?_, ?_, ?_⟩
  · rw [upI1, if_neg (by decide), upI1, if_neg (by decide), upI1, if_pos ⟨rfl, rfl⟩]; rfl
  · rw [upI1, if_neg (by decide), upI1, if_pos ⟨rfl, rfl⟩]; rfl
  · rw [upI1, if_pos ⟨rfl, rfl⟩]; rfl
/-- the reference's inner loop -/
theorem g_pairO {K : Kt} (hM : RM w r) (hW : WFr r) (hV : VP r) {g o one : Nat} (hg : g < r 1) (hone : one < r 0) {x3 : Int32} {s : P3} (hlt : pX r g o one < r (86 + g)) (h : ∀ w1 u9 u10 u11 s1, Off (· = 47) w w1 → s1 = fdO r g o one (r 0) s → RR (tl K lX11_pair) 56 [.ref 41, .int (nI g), .int (nI o), .int x3, .int s1.1, .int s1.2.1, .int s1.2.2, .int (nI one + nI 1), .int (nI (pX r g o one)), u9, u10, u11] [] w1) {u10 u11 : Value} (hs0 : s.1 = -2 ∨ ¬ s.1 < 0) : RR (tl K lX11_pair) 98 [.ref 41, .int (nI g), .int (nI o), .int x3, .int s.1, .int s.2.1, .int s.2.2, .int (nI one), .int (nI (pX r g o one)), .int (nI 0), u10, u11] [] w := by
  have h0 := hW.2.1
  have h1 := hW.2.2.1
  have hG := hW.2.2.2.2.2.2.2.1 g (by omega)
  have hx := pX_le (r := r) (g := g) (o := o) (one := one)
  have L : ∀ (n k : Nat) (u10 u11 : Value) (w1 : Wd) (s1 : P3), k + n = r 0 → Off (· = 47) w w1 → s1 = fdO r g o one k s → (s1.1 = -2 ∨ ¬ s1.1 < 0) → RR (tl K lX11_pair) 98 [.ref 41, .int (nI g), .int (nI o), .int x3, .int s1.1, .int s1.2.1, .int s1.2.2, .int (nI one), .int (nI (pX r g o one)), .int (nI k), u10, u11] [] w1 := by
    intro n
    induction n with
    | zero =>
      intro k u10 u11 w1 s1 hk ho hs hz
      have hM1 := hM.off ho (by decide)
      have e : k = r 0 := by omega
      rw [e] at hs
      refine tX11_pair_98 ⟨fun _ => h w1 _ _ _ s1 ho hs, fun q => absurd ?_ q⟩
      rw [rdM hM1 (by omega), le_N (by omega) (by omega)]; omega
    | succ n ih =>
      intro k u10 u11 w1 s1 hk ho hs hz
      have hM1 := hM.off ho (by decide)
      have hT := hW.2.2.2.2.2.2.1 k (by omega)
      have st := hV.2.2.2.2.2.1 k (by omega)
      have by1 : pY r g o one k ≤ 200 := by unfold pY; omega
      have by0 : 1 ≤ pY r g o one k := by unfold pY; omega
      have bv := pVal_le hW (g := g) (o := o) (one := one) (oth := k) (by omega) (by omega) (by omega)
      have ey : leI (rd w1 43 (nI 22 + nI k)) (rd w1 43 (nI 86 + nI g) - nI (pX r g o one)) = nI (pY r g o one k) := by
        rw [nI_add, nI_add, rdM hM1 (by omega), rdM hM1 (by omega), sub_N hx.1, leI_N (by omega) (by omega)]; rfl
      have hst : fdO r g o one (k + 1) s = stO r g o one k (fdO r g o one k s) := rfl
      have ih2 := ih (k + 1)
      rw [hst, ← hs] at ih2
      clear hst ih hs
      refine tX11_pair_98 ⟨fun q => absurd q ?_, fun _ => ⟨by rw [nI_add]; exact vp_in_nI (by omega) (by decide), by rw [nI_add]; exact vp_in_nI (by omega) (by decide), ?_⟩⟩
      · rw [rdM hM1 (by omega), le_N (by omega) (by omega)]; omega
      rw [ey]
      refine ⟨fun q => ?_, fun q => ⟨fun q2 => absurd q2 ?_, fun _ => ?_⟩⟩
      · rw [eq_N (by omega) (by omega)] at q
        rw [nI_add k 1]
        exact ih2 _ _ w1 s1 (by omega) ho (by rw [stO_f (fun p => p.1 q)]) hz
      · rw [le0_N (by omega)]; omega
      · rw [eq_N (by omega) (by omega)] at q
        refine g_isAloneAllowed hM1 hW hV.1 (by omega) (by omega) (by omega) (fun w2 v ho2 hv => ?_)
        rw [allow_iff hW hV.1 hg (TD_day hV.1 _ g)] at hv
        have hM2 := hM1.off ho2 (by decide)
        refine tX11_pair_157 ⟨fun q4 => ?_, fun q4 => ?_⟩
        · refine g_worthOf hM2 hW (by omega) (by omega) (by omega) (tX11_pair_172 (g_worthOf hM2 hW (by omega) (by omega) by1 ?_))
          have ev : nI (worthN r one g (pX r g o one)) + nI (worthN r k g (pY r g o one k)) = nI (pVal r g o one k) := by rw [nI_add]; rfl
          have yes : s1.1 < nI (pVal r g o one k) → ∀ u10 u11, RR (tl K lX11_pair) 98 [.ref 41, .int (nI g), .int (nI o), .int x3, .int (nI (pVal r g o one k)), .int (nI one), .int (nI k), .int (nI one), .int (nI (pX r g o one)), .int (nI k + nI 1), u10, u11] [] w2 := fun p u10 u11 => by
            rw [nI_add k 1]
            exact ih2 u10 u11 w2 (nI (pVal r g o one k), nI one, nI k) (by omega) (ho.tr ho2) (by rw [stO_t ⟨q, p, hv.t q4⟩]) (Or.inr (by rw [lt0_N (by omega)]; exact id))
          refine tX11_pair_181 ⟨fun q5 => ?_, fun q5 => ⟨fun q6 => ?_, fun q6 => ?_⟩⟩
          · rw [ev]
            refine yes ?_ _ _
            rw [q5, Int32.lt_iff_toInt_lt, nI_toInt (by omega)]
            have e2 : (-2 : Int32).toInt = -2 := by decide
            omega
          · rw [ev] at q6
            rw [nI_add k 1]
            exact ih2 _ _ w2 s1 (by omega) (ho.tr ho2) (by rw [stO_f (fun p => absurd p.2.1 (Int32.not_lt.mpr q6))]) hz
          · rw [ev] at q6 ⊢
            exact yes (Int32.not_le.mp q6) _ _
        · rw [nI_add k 1]
          exact ih2 _ _ w2 s1 (by omega) (ho.tr ho2) (by rw [stO_f (fun p => hv.f q4 p.2.2)]) hz
  exact L (r 0) 0 _ _ w s (by omega) Off.rf rfl hs0
end PAIR
