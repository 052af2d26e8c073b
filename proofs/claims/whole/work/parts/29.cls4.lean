/-- the loads of a thrower, nothing beyond the games that can be -/
def ldT (r : Nat → Nat) (t : Nat) : Nat → Nat := fun h => if h < 20 then load r t h else 0
theorem ldT_lt {r : Nat → Nat} {t h : Nat} (hh : h < 20) : ldT r t h = load r t h := if_pos hh
theorem ldT_le {r : Nat → Nat} (hW : WFr r) (t h : Nat) : ldT r t h ≤ 500 := by
  show (if h < 20 then load r t h else 0) ≤ 500
  split
  · have := load_le hW (t := t) (g := h) (by assumption); omega
  · omega
theorem DI_ld {w : Wd} {r : Nat → Nat} {t : Nat} (h : DI w (load r t) t) : DI w (ldT r t) t := ⟨h.1, fun k hk => by rw [h.2 k hk, ldT_lt hk]⟩
section SAME
variable {r T U : Nat → Nat} {g : Nat}
theorem rested_same (hs : ∀ h, h < r 1 → h ≠ g → T h = U h) (hg : g < r 1) (q : rested r T g) : rested r U g := fun h hh => by
  have := q h hh
  rw [hs h (by omega) (by omega)] at this
  exact this
theorem nextOk_same {x : Nat} (hs : ∀ h, h < r 1 → h ≠ g → T h = U h) (q : nextOk r T g x) : nextOk r U g x := fun h hh hh2 => by
  have := q h hh hh2
  rw [hs h hh2 (by omega)] at this
  exact this
theorem wsum_same (hs : ∀ h, h < r 1 → h ≠ g → T h = U h) (last : Nat) : wsum r T g last = wsum r U g last := by
  refine sumN_congr _ (fun k hk => ?_)
  show (if k ≠ g ∧ r (46 + k) ≤ last ∧ last < r (46 + k) + 7 then T k else 0) = (if k ≠ g ∧ r (46 + k) ≤ last ∧ last < r (46 + k) + 7 then U k else 0)
  by_cases q : k ≠ g ∧ r (46 + k) ≤ last ∧ last < r (46 + k) + 7
  · rw [if_pos q, if_pos q, hs k hk q.1]
  · rw [if_neg q, if_neg q]
theorem wkOk_same {x : Nat} (hs : ∀ h, h < r 1 → h ≠ g → T h = U h) (q : wkOk r T g x) : wkOk r U g x := fun f hf hw => by
  rw [← wsum_same hs]
  exact q f hf hw
theorem allowT_same {t x : Nat} (hg : g < r 1) (hs : ∀ h, h < r 1 → h ≠ g → T h = U h) : allowT r T t g x ↔ allowT r U t g x := by
  have hs2 : ∀ h, h < r 1 → h ≠ g → U h = T h := fun h a b => (hs h a b).symm
  unfold allowT
  constructor
  · rintro ⟨a, b, c, d⟩
    exact ⟨a, rested_same hs hg b, nextOk_same hs c, d.imp id (wkOk_same hs)⟩
  · rintro ⟨a, b, c, d⟩
    exact ⟨a, rested_same hs2 hg b, nextOk_same hs2 c, d.imp id (wkOk_same hs2)⟩
end SAME
theorem allow_ld {r : Nat → Nat} (hW : WFr r) (hd : DayUp r) {g t x : Nat} (hg : g < r 1) : allowN r (dayN r t g 1) t (r (46 + g)) x ↔ allowT r (ldT r t) t g x := by
  have h1 := hW.2.2.1
  refine (allow_iff hW hd hg (TD_day hd t g)).trans (allowT_same (t := t) (x := x) (T := load r t) hg (fun h hh _ => ?_))
  rw [ldT_lt (by omega)]
noncomputable def mostC (r : Nat → Nat) (t g more : Nat) : Nat := bif dec (isIn r t g) || r (106 + g) == 3 then 0 else mostU r t g (leftN r g + more)
theorem min_I {a b : Nat} (ha : a < 2147483648) (hb : b < 2147483648) : (if nI a < nI b then nI a else nI b) = nI (min b a) := by
  by_cases q : a < b
  · rw [if_pos ((lt_N ha hb).mpr q), Nat.min_eq_right (by omega)]
  · rw [if_neg (fun z => q ((lt_N ha hb).mp z)), Nat.min_eq_left (by omega)]
section CLS4
variable {w : Wd} {r T : Nat → Nat} {K : Kt} {t : Nat}
theorem c_mostOf (hC : CT w r) (hP : CP w r) (hW : WFr r) (hV : VP r) (ht : t < r 0) {g more : Nat} (hg : g < r 1) (hm : more ≤ 200) (h : ∀ w1, Off S27 w w1 → K (some (.int (nI (mostC r t g more)))) w1) : fX3_mostOf [.ref 27, .int (nI t), .int (nI g), .int (nI more)] w K := by
  have h0 := hW.2.1
  have h1 := hW.2.2.1
  have hG := hW.2.2.2.2.2.2.2.1 g (by omega)
  have hT := hW.2.2.2.2.2.2.1 t (by omega)
  have hl := load_le hW (t := t) (g := g) (by omega)
  have cL := hP.2.2 t g (by omega) (by omega)
  have hle : leftN r g ≤ 200 := by unfold leftN; omega
  have rb : ∀ y, restN r y ≤ 9 := fun y => restL_le (fun i hi => (hW.2.2.2.2.2.2.2.2.2 i hi).2) y (r 2) hW.2.2.2.1
  refine tX3_mostOf_0 ⟨by rw [pk_mul, nI_add]; exact vp_in_nI (by omega) (by decide), fun z => ?_, fun z => ?_⟩
  · rw [pk_mul, nI_add, rd_N (by omega), cL, le0_N (by omega)] at z
    have nin : ¬ isIn r t g := fun q => by
      have := (load_pos hV (t := t) (g := g) (by omega)).mpr q
      omega
    refine ⟨vp_in_nI (by omega) (by decide), fun z2 => ?_, fun z2 => ?_⟩
    · rw [rd_N (by omega), hP.1 g (by omega), lt_N (by omega) (by omega)] at z2
      have em : mostC r t g more = mostU r t g (leftN r g + more) := by
        unfold mostC
        rw [dec_f nin, show (r (106 + g) == 3) = false by simpa using (by omega : ¬ r (106 + g) = 3)]
        rfl
      rw [em] at h
      have eU : mostU r t g (leftN r g + more) = mostL r (dayN r t g 1) t (r (46 + g)) (min (leftN r g + more) (r (22 + t))) := rfl
      rw [eU] at h
      obtain ⟨N, hN⟩ : ∃ N, N = min (leftN r g + more) (r (22 + t)) := ⟨_, rfl⟩
      rw [← hN] at h
      refine c_open hP (by omega) (fun w1 ho hI0 => ?_)
      have hI := DI_ld hI0
      have hC1 := hC.off ho s27_ct
      have hP1 := hP.off ho s27_cp
      refine tX3_mostOf_38 (c_isRested hC1 hW hV.1 hI (ldT_le hW t) hg (fun v hv => ?_))
      refine tX3_mostOf_43 ⟨fun zr => ⟨?_, ?_⟩, fun zr => ?_⟩
      · rw [pk_mul, nI_add]; exact vp_in_nI (by omega) (by decide)
      · refine c_leftIn hC1 hP1 hW hV hg ?_
        refine tX3_mostOf_68 ?_
        rw [pk_mul, nI_add, nI_add, rd_N (by omega), (hC1.2.2.2.1 t ht).2.2.1, min_I (by omega) (by omega), Nat.min_comm, ← hN]
        refine c_daysToNext hC1 hW hV.1 hI (ldT_le hW t) hg (fun n hn hnx => ?_)
        refine tX3_mostOf_80 (c_roomInWeek hC1 hW hV.1 hI (ldT_le hW t) hg (fun v2 hv2 => ?_))
        have rw2 : ∀ x, x ≤ 500 → (nI x ≤ v2 ↔ (r 3 = 0 ∨ wkOk r (ldT r t) g x)) := fun x hx => rw_room (g := g) (hW.1 3) hx hv2
        have L : ∀ a, a ≤ N → (∀ u, 0 < u → u ≤ a → nI u ≤ v2) → mostL r (dayN r t g 1) t (r (46 + g)) a = mostL r (dayN r t g 1) t (r (46 + g)) N → RR (tl K lX3_mostOf) 94 [.ref 27, .int (nI t), .int (nI g), .int (nI more), .int (nI N), .int (nI n), .int (nI a)] [] w1 := by
          intro a
          induction a with
          | zero =>
            intro _ _ e
            refine tX3_mostOf_94 ⟨fun _ => ?_, fun q => absurd (Int32.le_refl _) q⟩
            have := h w1 ho
            rw [← e] at this
            exact this
          | succ a ih =>
            intro ha hu e
            refine tX3_mostOf_94 ⟨fun q => absurd q ?_, fun _ => ?_⟩
            · rw [le0_N (by omega)]; omega
            · refine c_restAfter hC1 hW (by omega) ?_
              have b := rb (a + 1)
              have e1 : mostL r (dayN r t g 1) t (r (46 + g)) (a + 1) = bif dec (allowN r (dayN r t g 1) t (r (46 + g)) (a + 1)) then a + 1 else mostL r (dayN r t g 1) t (r (46 + g)) a := rfl
              refine tX3_mostOf_111 ⟨fun q => ?_, fun q => ?_⟩
              · rw [le_N (by omega) (by omega)] at q
                rw [pk_m1]
                refine ih (by omega) (fun u a b => hu u a (by omega)) ?_
                rw [← e, e1, dec_f]
                · rfl
                · rw [allow_ld hW hV.1 hg]
                  intro p
                  have := (hnx (a + 1)).mp p.2.2.1
                  omega
              · rw [le_N (by omega) (by omega)] at q
                have := h w1 ho
                rw [← e, e1, dec_t] at this
                · exact this
                · rw [allow_ld hW hV.1 hg]
                  exact ⟨by omega, hv.t zr, (hnx (a + 1)).mpr (by omega), (rw2 (a + 1) (by omega)).mp (hu (a + 1) (by omega) (by omega))⟩
        have S : ∀ a, a ≤ N → (∀ u, a < u → u ≤ N → ¬ nI u ≤ v2) → mostL r (dayN r t g 1) t (r (46 + g)) a = mostL r (dayN r t g 1) t (r (46 + g)) N := by
          intro a ha hu
          have := mostL_skip (r := r) (D := dayN r t g 1) (t := t) (d := r (46 + g)) (a := a) (N - a) (fun v p1 p2 p3 => ?_)
          · rw [show a + (N - a) = N by omega] at this
            exact this.symm
          · rw [allow_ld hW hV.1 hg] at p3
            exact hu v p1 (by omega) ((rw2 v (by omega)).mpr p3.2.2.2)
        refine tX3_mostOf_89 ?_
        by_cases q : v2 < nI N
        · rw [if_pos q]
          by_cases q0 : v2 < 0
          · refine tX3_mostOf_94 ⟨fun _ => ?_, fun z => absurd (Int32.le_of_lt q0) z⟩
            have := h w1 ho
            rw [← S 0 (by omega) (fun u p1 p2 p3 => ?_)] at this
            · exact this
            · have a1 := Int32.le_iff_toInt_le.mp p3
              have a2 := Int32.lt_iff_toInt_lt.mp q0
              rw [nI_toInt (by omega)] at a1
              have z0 : (0 : Int32).toInt = 0 := by decide
              omega
          · obtain ⟨a, ha, rfl⟩ := nI_of q0
            rw [lt_N ha (by omega)] at q
            refine L a (by omega) (fun u p1 p2 => (le_N (by omega) (by omega)).mpr p2) (S a (by omega) (fun u p1 p2 p3 => ?_))
            rw [le_N (by omega) (by omega)] at p3
            omega
        · rw [if_neg q]
          refine L N (Nat.le_refl _) (fun u p1 p2 => ?_) rfl
          have a1 : ¬ v2.toInt < (nI N).toInt := fun z => q (Int32.lt_iff_toInt_lt.mpr z)
          rw [nI_toInt (by omega)] at a1
          rw [Int32.le_iff_toInt_le, nI_toInt (by omega)]
          omega
      · have := h w1 ho
        have e := mostL_skip (r := r) (D := dayN r t g 1) (t := t) (d := r (46 + g)) (a := 0) N (fun v p1 p2 p3 => by
          rw [allow_ld hW hV.1 hg] at p3
          exact hv.f zr p3.2.1)
        rw [Nat.zero_add] at e
        rw [e] at this
        exact this
    · rw [rd_N (by omega), hP.1 g (by omega), lt_N (by omega) (by omega)] at z2
      have := h w Off.rf
      unfold mostC at this
      rw [show (r (106 + g) == 3) = true by simpa using (by omega : r (106 + g) = 3), Bool.or_true] at this
      exact this
  · rw [pk_mul, nI_add, rd_N (by omega), cL, le0_N (by omega)] at z
    have q := (load_pos hV (t := t) (g := g) (by omega)).mp (by omega)
    have := h w Off.rf
    unfold mostC at this
    rw [dec_t q] at this
    exact this
theorem mostC_0 {r : Nat → Nat} {t g : Nat} : mostC r t g 0 = mostN r t g := rfl
theorem c_allowsMoved (hC : CT w r) (hP : CP w r) (hW : WFr r) (hV : VP r) (ht : t < r 0) {f g x : Nat} (hf : f < 20) (hg : g < r 1) (hx : x ≤ 500) (h : ∀ w1 v, Off S27 w w1 → isB v (allowT r (fun h => if h = f then 0 else ldT r t h) t g x) → K (some (.int v)) w1) : fX3_allowsMoved [.ref 27, .int (nI t), .int (nI f), .int (nI g), .int (nI x)] w K := by
  have h0 := hW.2.1
  have h1 := hW.2.2.1
  refine tX3_allowsMoved_0 (c_open hP (by omega) (fun w1 ho hI0 => ?_))
  have hI := DI_ld hI0
  refine tX3_allowsMoved_5 ⟨vp_in_nI hf (by decide), ?_⟩
  rw [wr_N (by omega)]
  have ho2 : Off S27 w (upI w1 28 f (nI 0)) := ho.tr (Off.up (Or.inr rfl))
  have hI2 : DI (upI w1 28 f (nI 0)) (fun h => if h = f then 0 else ldT r t h) t := by
    refine ⟨?_, fun h hh => ?_⟩
    · rw [upI1, if_neg (fun z => absurd z.1 (by decide))]; exact hI.1
    · rw [upI1]
      show _ = nI (if h = f then 0 else ldT r t h)
      by_cases q : h = f
      · rw [if_pos ⟨rfl, q⟩, if_pos q]
      · rw [if_neg (fun z => q z.2), if_neg q]; exact hI.2 h hh
  have hTb : ∀ h, (fun h => if h = f then 0 else ldT r t h) h ≤ 500 := fun h => by
    show (if h = f then 0 else ldT r t h) ≤ 500
    split
    · omega
    · exact ldT_le hW t h
  refine c_clashes (hC.off ho2 s27_ct) hW hV.1 hI2 ht hTb hg hx ?_
  exact tX3_allowsMoved_18 ⟨fun z => h _ _ ho2 (Or.inr ⟨rfl, fun p => z (clash_allow.mpr p)⟩), fun z => h _ _ ho2 (Or.inl ⟨rfl, clash_allow.mp z⟩)⟩
end CLS4
