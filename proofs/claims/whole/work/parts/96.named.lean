/-! named(): the pure half -/
def wrdP (T : Nat → Nat) (n : Nat) : Prop := (tok T n 0).1 = 1 ∧ (tok T n (tok T n 0).2.2).1 = 0
def nmM (T : Nat → Nat) (n : Nat) (c : Nat → Nat) : Prop := wrdP T n ∧ ∀ j, j < 7 → c j = nmT T (tok T n 0) j
section NAMED
variable {w : Wd} {K : Kt} {T : Nat → Nat} {n : Nat}
/-- a token of kind 1 is the run of letters behind the spaces -/
theorem tok_1 (h : (tok T n 0).1 = 1) : (tok T n 0).2.1 = run T isSp n 0 ∧ (tok T n 0).2.2 = run T isL n (run T isSp n 0) ∧ run T isSp n 0 < n := by
  unfold tok tkAt at h ⊢
  by_cases q : n ≤ run T isSp n 0
  · rw [if_pos q] at h; exact absurd h (by show (0 : Nat) ≠ 1; decide)
  · rw [if_neg q] at h ⊢
    by_cases q1 : isL (T (run T isSp n 0)) = true
    · rw [if_pos q1]; exact ⟨rfl, rfl, by omega⟩
    · rw [if_neg q1] at h
      by_cases q2 : isD (T (run T isSp n 0)) = true
      · rw [if_pos q2] at h
        have h : (if run T isD n (run T isSp n 0) - run T isSp n 0 ≤ 3 then 2 else 4) = 1 := h
        split at h <;> omega
      · rw [if_neg q2] at h
        have h : (if T (run T isSp n 0) = 59 then 3 else 4) = 1 := h
        split at h <;> omega
theorem tok_0 {p : Nat} (h : (tok T n p).1 = 0) : n ≤ run T isSp n p := by
  unfold tok tkAt at h
  by_cases q : n ≤ run T isSp n p
  · exact q
  · rw [if_neg q] at h
    by_cases q1 : isL (T (run T isSp n p)) = true
    · rw [if_pos q1] at h
      have h : (if run T isL n (run T isSp n p) - run T isSp n p ≤ 7 then 1 else 4) = 0 := h
      split at h <;> omega
    · rw [if_neg q1] at h
      by_cases q2 : isD (T (run T isSp n p)) = true
      · rw [if_pos q2] at h
        have h : (if run T isD n (run T isSp n p) - run T isSp n p ≤ 3 then 2 else 4) = 0 := h
        split at h <;> omega
      · rw [if_neg q2] at h
        have h : (if T (run T isSp n p) = 59 then 3 else 4) = 0 := h
        split at h <;> omega
theorem runU_stop {P : Nat → Bool} : ∀ k p, runU T P k p < p + k → ¬ P (T (runU T P k p)) = true
  | 0, p, h => by
    have h : p < p + 0 := h
    omega
  | k + 1, p, h => by
    have h : (if P (T p) = true then runU T P k (p + 1) else p) < p + (k + 1) := h
    show ¬ P (T (if P (T p) = true then runU T P k (p + 1) else p)) = true
    by_cases q : P (T p) = true
    · rw [if_pos q] at h ⊢
      exact runU_stop k (p + 1) (by omega)
    · rw [if_neg q]; exact q
theorem run_stop {P : Nat → Bool} {p : Nat} (hp : p ≤ n) (h : run T P n p < n) : ¬ P (T (run T P n p)) = true := by
  unfold run at h ⊢
  exact runU_stop (n - p) p (by omega)
theorem run_is {P : Nat → Bool} {p e : Nat} (hpe : p ≤ e) (hen : e ≤ n) (ha : ∀ j, p ≤ j → j < e → P (T j) = true) (he : e < n → ¬ P (T e) = true) : run T P n p = e := by
  have b := run_b (T := T) (P := P) (n := n) (p := p) (by omega)
  rcases Nat.lt_trichotomy (run T P n p) e with q | q | q
  · exact absurd (ha _ b.1 q) (run_stop (by omega) (by omega))
  · exact q
  · exact absurd (run_all hpe q) (he (by omega))
/-- what the reference trims is the one word -/
theorem nm_iff {c : Nat → Nat} (hc : okW c) {e : Nat} (hs : run T isSp n 0 ≤ e) (hen : e ≤ n) (hsp : ∀ j, e ≤ j → j < n → T j = 32) (hne : run T isSp n 0 < e → T (e - 1) ≠ 32) : nmM T n c ↔ run T isSp n 0 < e ∧ (e - run T isSp n 0 ≤ 7 ∧ ∀ j, j < 7 → atP T c (run T isSp n 0) e j) := by
  constructor
  · rintro ⟨⟨k1, k0⟩, hm⟩
    obtain ⟨a1, a2, a3⟩ := tok_1 k1
    have wd := tok_wd (T := T) (n := n) (Nat.zero_le n) k1
    have z := tok_0 k0
    have tb := tok_b (T := T) (Nat.zero_le n)
    have allsp : ∀ j, (tok T n 0).2.2 ≤ j → j < n → T j = 32 := fun j h1 h2 => isSp_iff.mp (run_all (P := isSp) (n := n) h1 (by omega))
    have lt : (tok T n 0).2.1 < (tok T n 0).2.2 := wd.1
    have lst := isL_iff.mp (wd.2.2 ((tok T n 0).2.2 - 1) (by omega) (by omega))
    have ee : e = (tok T n 0).2.2 := by
      rcases Nat.lt_trichotomy e (tok T n 0).2.2 with q | q | q
      · have := hsp ((tok T n 0).2.2 - 1) (by omega) (by omega)
        omega
      · exact q
      · have := allsp (e - 1) (by omega) (by omega)
        exact absurd this (hne (by omega))
    have := (at_nm (c := c) wd).mpr hm
    rw [a1] at this lt
    rw [← ee] at this lt
    exact ⟨lt, this⟩
  · rintro ⟨lt, h7, ha⟩
    obtain ⟨l, l1, l7, cl, cz⟩ := hc
    have el : e - run T isSp n 0 = l := by
      rcases Nat.lt_trichotomy (e - run T isSp n 0) l with q | q | q
      · have x := ha (e - run T isSp n 0) (by omega)
        unfold atP at x
        rw [if_neg (by omega)] at x
        have y := isL_iff.mp (cl _ q)
        omega
      · exact q
      · have x := ha l (by omega)
        unfold atP at x
        rw [if_pos (by omega)] at x
        have y := cz l (Nat.le_refl _) (by omega)
        rw [y] at x
        exact absurd x.2.symm x.1
    have letters : ∀ j, run T isSp n 0 ≤ j → j < e → isL (T j) = true := fun j h1 h2 => by
      have x := ha (j - run T isSp n 0) (by omega)
      unfold atP at x
      rw [if_pos (by omega), show run T isSp n 0 + (j - run T isSp n 0) = j by omega] at x
      rw [← x.2]; exact cl _ (by omega)
    have re : run T isL n (run T isSp n 0) = e := run_is (by omega) hen letters (fun h => fun y => by
      have := hsp e (Nat.le_refl _) h
      rw [this] at y
      exact absurd y (by decide))
    have tk : tok T n 0 = (1, run T isSp n 0, e) := by
      unfold tok tkAt
      rw [if_neg (by omega), if_pos (letters _ (Nat.le_refl _) lt), re, if_pos h7]
    have k0 : (tok T n e).1 = 0 := by
      have : run T isSp n e = n := run_is hen (Nat.le_refl _) (fun j h1 h2 => isSp_iff.mpr (hsp j h1 h2)) (fun h => by omega)
      unfold tok tkAt
      rw [this, if_pos (Nat.le_refl _)]
    refine ⟨⟨by rw [tk], by rw [tk]; exact k0⟩, ?_⟩
    have wd : wdT T (tok T n 0) := by
      rw [tk]; exact ⟨lt, h7, letters⟩
    refine (at_nm (c := c) wd).mp ?_
    rw [tk]; exact ⟨h7, ha⟩
theorem g_named {L : Nat} {r : Nat → Nat} {nm : Nat → Nat → Nat} (hT : ∀ j, T j < 256) (hg : TPg w T L) (hL : L ≤ 800) (hM : RM w r) (hr : r 0 ≤ 8) (h45 : ∀ k, k < r 0 → okW (nm k) ∧ ∀ j, j < 7 → w.1 45 (7 * k + j) = nI (nm k j)) {x1 : Int32} (kn : (∀ k n, k < r 0 → x1 = nI n → n ≤ L → ¬ nmM T n (nm k)) → K (some (.int (nI 0))) (upI (upI w 41 0 (nI 0)) 41 0 (nI 1))) (ky : ∀ k n, k < r 0 → x1 = nI n → n ≤ L → nmM T n (nm k) → (∀ i, i < k → ¬ nmM T n (nm i)) → K (some (.int (nI k))) (upI w 41 0 (nI 0))) : fX11_named [.ref 41, .int x1] w K := by
  have o0 : Off (fun c => c = 41) w (upI w 41 0 (nI 0)) := Off.up rfl
  have e5 : (upI w 41 0 (nI 0)).1 41 5 = nI L := by rw [upI1, if_neg (by decide)]; exact hg.1
  refine tX11_named_0 ?_
  rw [e5]
  have b42 : BYg (upI w 41 0 (nI 0)) T := fun j hj => by rw [(o0 42 (by decide)).1]; exact hg.2 j hj
  have hM0 := hM.off o0 (by decide)
  have c45 : ∀ k, k < r 0 → ∀ j, j < 7 → (upI w 41 0 (nI 0)).1 45 (7 * k + j) = nI (nm k j) := fun k hk j hj => by rw [(o0 45 (by decide)).1]; exact (h45 k hk).2 j hj
  refine ⟨fun q => ?_, fun q => ?_⟩
  · -- no such place
    have none2 : ∀ k n, k < r 0 → x1 = nI n → n ≤ L → ¬ nmM T n (nm k) := fun k n _ e hn => absurd (by rw [e]; exact (rng2 (by omega) (by omega)).mpr ⟨n, by omega, hn, rfl⟩) q
    refine tX11_named_25 ⟨fun _ => ?_, fun z => absurd (Int32.le_refl _) z⟩
    refine tX11_named_47 ⟨fun _ => ?_, fun z => absurd (Int32.le_refl _) z⟩
    exact tX11_named_74 ⟨fun _ => kn none2, fun z => absurd (Int32.le_refl _) z⟩
  · obtain ⟨n, -, hn, rfl⟩ := (rng2 (by omega) (by omega)).mp q
    have uniq : ∀ m, m ≤ L → nI n = nI m → m = n := fun m hm e => ((eq_N (by omega) (by omega)).mp e).symm
    have sb := run_b (T := T) (P := isSp) (Nat.zero_le n)
    -- the names in their order
    have N : ∀ (e : Nat), run T isSp n 0 ≤ e → e ≤ n → (∀ j, e ≤ j → j < n → T j = 32) → (run T isSp n 0 < e → T (e - 1) ≠ 32) → ∀ (m k : Nat), k + m = r 0 → (∀ i, i < k → ¬ nmM T n (nm i)) → RR (tl K lX11_named) 74 [.ref 41, .int (nI n), .int (nI (run T isSp n 0)), .int (nI e), .int (nI k)] [] (upI w 41 0 (nI 0)) := by
      intro e hs hen hsp hne m
      have all : (∀ i, i < r 0 → ¬ nmM T n (nm i)) → K (some (.int (nI 0))) (upI (upI w 41 0 (nI 0)) 41 0 (nI 1)) := fun z => kn (fun k m hk em hm => by
        have := uniq m hm em
        subst this
        exact z k hk)
      induction m with
      | zero =>
        intro k hk hno
        have : k = r 0 := by omega
        subst this
        refine tX11_named_74 ⟨fun _ => all hno, fun _ => ⟨fun _ => all hno, fun z => absurd (by rw [rdM hM0 (by omega)]; exact Int32.le_refl _) z⟩⟩
      | succ m ih =>
        intro k hk hno
        refine tX11_named_74 ⟨fun z => ?_, fun z => ⟨fun z2 => absurd z2 (by rw [rdM hM0 (by omega), le_N (by omega) (by omega)]; omega), fun _ => ?_⟩⟩
        · rw [le_N (by omega) (by omega)] at z
          refine all (fun i hi y => ?_)
          have := (nm_iff (h45 i hi).1 hs hen hsp hne).mp y
          omega
        · rw [le_N (by omega) (by omega)] at z
          rw [pk_mul]
          refine g_isAt_n (c := nm k) hT b42 (by omega) hs (by omega) (fun j hj => c45 k (by omega) j hj) (fun j hj => okW_lt (h45 k (by omega)).1 hj) (fun v hv => tX11_named_105 ⟨fun y => ?_, fun y => ?_⟩)
          · rw [nI_add k 1]
            refine ih (k + 1) (by omega) (fun i hi => ?_)
            by_cases c : i = k
            · rw [c]
              exact fun u => hv.f y ((nm_iff (h45 k (by omega)).1 hs hen hsp hne).mp u).2
            · exact hno i (by omega)
          · exact ky k n (by omega) rfl hn ((nm_iff (h45 k (by omega)).1 hs hen hsp hne).mpr ⟨by omega, hv.t y⟩) hno
    -- spaces behind
    have B : ∀ (e : Nat) (u4 : Value), run T isSp n 0 ≤ e → e ≤ n → (∀ j, e ≤ j → j < n → T j = 32) → RR (tl K lX11_named) 47 [.ref 41, .int (nI n), .int (nI (run T isSp n 0)), .int (nI e), u4] [] (upI w 41 0 (nI 0)) := by
      intro e
      induction e with
      | zero =>
        intro u4 hs hen hsp
        have : run T isSp n 0 = 0 := by omega
        refine tX11_named_47 ⟨fun _ => N 0 hs hen hsp (fun h => by omega) (r 0) 0 (by omega) (fun i hi => by omega), fun z => absurd (by rw [this]; exact Int32.le_refl _) z⟩
      | succ e ih =>
        intro u4 hs hen hsp
        refine tX11_named_47 ⟨fun z => ?_, fun z => ?_⟩
        · rw [le_N (by omega) (by omega)] at z
          exact N (e + 1) hs hen hsp (fun h => by omega) (r 0) 0 (by omega) (fun i hi => by omega)
        · rw [le_N (by omega) (by omega)] at z
          have f : rd (upI w 41 0 (nI 0)) 42 (nI (e + 1) - nI 1) = nI (T e) := by rw [sub_N (by omega), show e + 1 - 1 = e by omega, rd_N (by omega)]; exact b42 e (by omega)
          have te := hT e
          rw [f, eq_N (by omega) (by omega), m1_N (by omega), show e + 1 - 1 = e by omega]
          refine ⟨by rw [sub_N (by omega)]; exact vp_in_nI (by omega) (by decide), fun y => ?_, fun y => ?_⟩
          · exact N (e + 1) hs hen hsp (fun _ => y) (r 0) 0 (by omega) (fun i hi => by omega)
          · refine ih _ (by omega) (by omega) (fun j h1 h2 => ?_)
            by_cases c : j = e
            · rw [c]; exact y
            · exact hsp j (by omega) h2
    -- spaces ahead
    have A : ∀ (m p : Nat) (u4 : Value), p + m = n → run T isSp n 0 = run T isSp n p → RR (tl K lX11_named) 25 [.ref 41, .int (nI n), .int (nI p), .int (nI n), u4] [] (upI w 41 0 (nI 0)) := by
      intro m
      induction m with
      | zero =>
        intro p u4 hp hr2
        rw [run_ge (n := n) (p := p) (by omega)] at hr2
        refine tX11_named_25 ⟨fun _ => ?_, fun z => absurd (by rw [le_N (by omega) (by omega)]; omega) z⟩
        rw [← hr2]
        exact B n _ sb.2 (Nat.le_refl _) (fun j h1 h2 => by omega)
      | succ m ih =>
        intro p u4 hp hr2
        have f : rd (upI w 41 0 (nI 0)) 42 (nI p) = nI (T p) := by rw [rd_N (by omega)]; exact b42 p (by omega)
        have tp := hT p
        refine tX11_named_25 ⟨fun z => absurd z (by rw [le_N (by omega) (by omega)]; omega), fun _ => ?_⟩
        rw [f, eq_N (by omega) (by omega), nI_add p 1]
        refine ⟨vp_in_nI (by omega) (by decide), fun z => ?_, fun z => ?_⟩
        · rw [run_n (fun y => z (isSp_iff.mp y))] at hr2
          rw [← hr2]
          exact B n _ sb.2 (Nat.le_refl _) (fun j h1 h2 => by omega)
        · rw [run_y (by omega) (isSp_iff.mpr z)] at hr2
          exact ih (p + 1) _ (by omega) hr2
    exact A n 0 _ (by omega) rfl
theorem c_onlyWord {L : Nat} (hT : ∀ j, T j < 256) (hc : TPc w T L) (hL : L ≤ 800) (hn : n ≤ L) (k0 : ¬ wrdP T n → ∀ w1, Off (fun c => c = 1) w w1 → w1.1 1 1 = w.1 1 1 → K (some (.long (lN 0))) w1) (k1 : wrdP T n → ∀ w1, Off (fun c => c = 1) w w1 → w1.1 1 1 = w.1 1 1 → K (some (.long (lN (cdU (nmT T (tok T n 0)) 7)))) w1) : fX8_onlyWord [.ref 1, .int (nI n)] w K := by
  have tb := tok_b (T := T) (Nat.zero_le n)
  have tb2 := tok_b (T := T) tb.2.2.1
  refine tX8_onlyWord_0 (tX8_beginTokens_0 (tX8_onlyWord_5 ?_))
  have el1 : (if nI 0 < (if w.1 1 1 < nI n then w.1 1 1 else nI n) then (if w.1 1 1 < nI n then w.1 1 1 else nI n) else nI 0) = nI n := by
    have inner : (if w.1 1 1 < nI n then w.1 1 1 else nI n) = nI n := by
      rw [hc.1]
      exact if_neg (fun z => by rw [lt_N (by omega) (by omega)] at z; omega)
    rw [inner]
    by_cases q : 0 < n
    · rw [if_pos ((lt_N (by omega) (by omega)).mpr q)]
    · rw [if_neg (fun z => q ((lt_N (by omega) (by omega)).mp z)), show n = 0 by omega]
  rw [el1]
  have od : Off (fun c => c = 1) w (upI (upI w 1 2 (nI n)) 1 3 (nI 0)) := (Off.up (S := fun c => c = 1) rfl).tr (Off.up rfl)
  have a1 : (upI (upI w 1 2 (nI n)) 1 3 (nI 0)).1 1 1 = w.1 1 1 := by rw [upI1, if_neg (by decide), upI1, if_neg (by decide)]
  have r0 : RC (upI (upI w 1 2 (nI n)) 1 3 (nI 0)) T n 0 := ⟨fun j hj => by rw [(od 2 (by decide)).1]; exact hc.2 j hj, by rw [upI1, if_neg (by decide), upI1, if_pos ⟨rfl, rfl⟩], by rw [upI1, if_pos ⟨rfl, rfl⟩]⟩
  generalize upI (upI w 1 2 (nI n)) 1 3 (nI 0) = wa at od a1 r0 ⊢
  refine c_nextToken hT r0.1 (by omega) r0.2.1 (Nat.zero_le n) r0.2.2 (fun w1 o1 k1' t1 => tX8_onlyWord_9 ?_)
  rw [t1.2.1, eq_N (by omega) (by omega)]
  refine ⟨fun q => ?_, fun q => k0 (fun z => q z.1) w1 (od.tr o1) (by rw [k1' 1 (by decide)]; exact a1)⟩
  have wd := tok_wd (Nat.zero_le n) q
  refine c_nextToken hT (r0.1.off o1 (by decide)) (by omega) (by rw [k1' 2 (by decide)]; exact r0.2.1) tb.2.2.1 t1.1 (fun w2 o2 k2' t2 => ?_)
  rw [t1.2.2.2.2 q, ← nmT_cd wd]
  refine tX8_onlyWord_28 ?_
  rw [t2.2.1, eq0_N (by omega)]
  exact ⟨fun y => k0 (fun z => y z.2) w2 ((od.tr o1).tr o2) (by rw [k2' 1 (by decide), k1' 1 (by decide)]; exact a1), fun y => k1 ⟨q, y⟩ w2 ((od.tr o1).tr o2) (by rw [k2' 1 (by decide), k1' 1 (by decide)]; exact a1)⟩
end NAMED
