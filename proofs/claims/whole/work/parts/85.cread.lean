/-! the class reads: words, numbers, names -/
theorem val_lt {T : Nat → Nat} {s : Nat} : ∀ k, (∀ j, j < k → isD (T (s + j)) = true) → val T s k < 10 ^ k
  | 0, _ => Nat.one_pos
  | k + 1, h => by
    have a := val_lt (T := T) (s := s) k (fun j hj => h j (by omega))
    have b := isD_iff.mp (h k (by omega))
    show 10 * val T s k + (T (s + k) - 48) < 10 ^ (k + 1)
    rw [Nat.pow_succ]
    omega
theorem tok_nu {T : Nat → Nat} {n p : Nat} (h1 : (tok T n p).1 = 2) : vTk T (tok T n p) ≤ 999 := by
  unfold vTk tok tkAt at *
  by_cases q : n ≤ run T isSp n p
  · rw [if_pos q] at h1; exact absurd h1 (by show (0 : Nat) ≠ 2; decide)
  · rw [if_neg q] at h1 ⊢
    by_cases q1 : isL (T (run T isSp n p)) = true
    · rw [if_pos q1] at h1
      have h1 : (if run T isL n (run T isSp n p) - run T isSp n p ≤ 7 then 1 else 4) = 2 := h1
      split at h1 <;> omega
    · rw [if_neg q1] at h1 ⊢
      by_cases q2 : isD (T (run T isSp n p)) = true
      · rw [if_pos q2] at h1 ⊢
        have h1 : (if run T isD n (run T isSp n p) - run T isSp n p ≤ 3 then 2 else 4) = 2 := h1
        by_cases q3 : run T isD n (run T isSp n p) - run T isSp n p ≤ 3
        · have v := val_lt (T := T) (s := run T isSp n p) (run T isD n (run T isSp n p) - run T isSp n p) (fun j hj => run_all (P := isD) (n := n) (p := run T isSp n p) (by omega) (by omega))
          have p3 : 10 ^ (run T isD n (run T isSp n p) - run T isSp n p) ≤ 10 ^ 3 := Nat.pow_le_pow_right (by omega) q3
          have e3 : (10 : Nat) ^ 3 = 1000 := by decide
          show val T (run T isSp n p) (run T isD n (run T isSp n p) - run T isSp n p) ≤ 999
          omega
        · rw [if_neg q3] at h1; omega
      · rw [if_neg q2] at h1
        have h1 : (if T (run T isSp n p) = 59 then 3 else 4) = 2 := h1
        split at h1 <;> omega
def RC (w : Wd) (T : Nat → Nat) (n p : Nat) : Prop := BYc w T ∧ w.1 1 2 = nI n ∧ w.1 1 3 = nI p
def SRd (c : Nat) : Prop := c = 1 ∨ (3 ≤ c ∧ c ≤ 12)
def KFc (w : Wd) (K : Kt) (f s : Nat) : Prop := ∀ w1, Off SRd w w1 → w1.1 3 3 = nI f → w1.1 3 4 = nI s → K (some (.int (nI 0))) w1
section CREAD
variable {w : Wd} {K : Kt} {T : Nat → Nat} {n : Nat}
theorem sr_1 {w1 : Wd} (h : Off (· = 1) w w1) : Off SRd w w1 := h.mono (fun c q => Or.inl q)
theorem RC.off {S : Nat → Prop} {w1 : Wd} {p : Nat} (h : RC w T n p) (ho : Off S w w1) (h1 : ¬ S 1) (h2 : ¬ S 2) : RC w1 T n p := ⟨h.1.off ho h2, by rw [(ho 1 h1).1]; exact h.2.1, by rw [(ho 1 h1).1]; exact h.2.2⟩
theorem KFc.pre {w1 : Wd} {f s : Nat} (h : KFc w K f s) (ho : Off SRd w w1) : KFc w1 K f s := fun w2 o2 a b => h w2 (ho.tr o2) a b
theorem c_fail {w0 : Wd} {t : Tk} {f : Nat} (h : KFc w0 K f t.2.1) (ho : Off SRd w0 w) (h5 : w.1 1 5 = nI t.2.1) : K (some (.int (nI 0))) (upI (upI w 3 3 (nI f)) 3 4 ((upI w 3 3 (nI f)).1 1 5)) := by
  have e : (upI w 3 3 (nI f)).1 1 5 = nI t.2.1 := by rw [upI1, if_neg (fun z => absurd z.1 (by decide))]; exact h5
  rw [e]
  have s3 : SRd 3 := by unfold SRd; omega
  refine h _ ((ho.tr (Off.up s3)).tr (Off.up s3)) ?_ ?_
  · rw [upI1, if_neg (by decide), upI1, if_pos ⟨rfl, rfl⟩]
  · rw [upI1, if_pos ⟨rfl, rfl⟩]
theorem c_next (hT : ∀ j, T j < 256) (hn : n ≤ 800) {p : Nat} (hR : RC w T n p) (hp : p ≤ n) (h : ∀ w1, Off (· = 1) w w1 → RC w1 T n (tok T n p).2.2 → TkC w1 T (tok T n p) → K none w1) : fX8_nextToken [.ref 1] w K :=
  c_nextToken hT hR.1 hn hR.2.1 hp hR.2.2 (fun w1 o1 k1 t1 => h w1 o1 ⟨hR.1.off o1 (by decide), by rw [k1 2 (by decide)]; exact hR.2.1, t1.1⟩ t1)
theorem c_readWhole (hT : ∀ j, T j < 256) (hn : n ≤ 800) {p at_ lo hi : Nat} {D : Nat → Nat} (hR : RC w T n p) (hp : p ≤ n) (hlo : lo < 2147483648) (hhi : hi < 2147483648) (h : el (takesP T n at_ lo hi D p) (KFc w K) (fun x => ∀ w1, Off (· = 1) w w1 → RC w1 T n x.2 → x.2 ≤ n → w1.1 1 6 = nI (x.1 at_) → x.1 = upR D at_ (x.1 at_) → lo ≤ x.1 at_ → x.1 at_ ≤ hi → K (some (.int (nI 1))) w1)) : fX6_readWhole [.ref 3, .int (nI lo), .int (nI hi)] w K := by
  have tb := tok_b (T := T) hp
  refine tX6_readWhole_0 (c_next hT hn hR hp (fun w1 o1 r1 t1 => tX6_readWhole_7 ?_))
  rw [t1.2.1, eq_N (by omega) (by omega)]
  unfold takesP at h
  refine ⟨fun q => ?_, fun q => ?_⟩
  · rw [if_pos q] at h
    have v6 := t1.2.2.2.1 q
    have v9 := tok_nu q
    have v6 : w1.1 1 6 = nI (vTk T (tok T n p)) := v6
    rw [v6, le_N (by omega) (by omega), le_N (by omega) (by omega)]
    refine ⟨fun y => ?_, fun y => ?_⟩
    · rw [if_pos y] at h
      exact h w1 o1 r1 tb.2.2.1 (by rw [v6]; exact congrArg nI (upR_e _ _ _).symm) (by show upR D at_ _ = upR D at_ (upR D at_ _ at_); rw [upR_e]) (by show lo ≤ upR D at_ _ at_; rw [upR_e]; exact y.1) (by show upR D at_ _ at_ ≤ hi; rw [upR_e]; exact y.2)
    · rw [if_neg y] at h
      exact c_fail (t := tok T n p) h (sr_1 o1) t1.2.2.1
  · rw [if_neg q] at h
    exact c_fail (t := tok T n p) h (sr_1 o1) t1.2.2.1
theorem c_isReserved {t : Tk} (hT : ∀ j, T j < 256) (hb : BYc w T) (hk : TkC w T t) (hle : t.2.1 ≤ t.2.2) (h8 : t.2.2 ≤ 800) (h4 : t.1 ≤ 4) (h : ∀ v, isB v (∃ c, c < 8 ∧ isW T t (200 + c)) → K (some (.int v)) w) : fX6_isReserved [.ref 3] w K := by
  have y : ∀ c, c < 8 → isW T t (200 + c) → K (some (.int (nI 1))) w := fun c hc z => h _ (Or.inl ⟨rfl, c, hc, z⟩)
  refine tX6_isReserved_0 (c_isWord_arm hT hb hk hle h8 h4 (fun v0 b0 => tX6_isReserved_9 ⟨fun z => y 0 (by decide) (b0.t z), fun z0 => c_isWord_left hT hb hk hle h8 h4 (fun v1 b1 => tX6_isReserved_21 ⟨fun z => y 1 (by decide) (b1.t z), fun z1 => c_isWord_right hT hb hk hle h8 h4 (fun v2 b2 => tX6_isReserved_33 ⟨fun z => y 2 (by decide) (b2.t z), fun z2 => c_isWord_game hT hb hk hle h8 h4 (fun v3 b3 => tX6_isReserved_45 ⟨fun z => y 3 (by decide) (b3.t z), fun z3 => c_isWord_rest hT hb hk hle h8 h4 (fun v4 b4 => tX6_isReserved_57 ⟨fun z => y 4 (by decide) (b4.t z), fun z4 => c_isWord_week hT hb hk hle h8 h4 (fun v5 b5 => tX6_isReserved_69 ⟨fun z => y 5 (by decide) (b5.t z), fun z5 => c_isWord_edge hT hb hk hle h8 h4 (fun v6 b6 => tX6_isReserved_81 ⟨fun z => y 6 (by decide) (b6.t z), fun z6 => c_isWord_out hT hb hk hle h8 h4 (fun v7 b7 => tX6_isReserved_93 ⟨fun z7 => ?_, fun z => y 7 (by decide) (b7.t z)⟩)⟩)⟩)⟩)⟩)⟩)⟩)⟩))
  refine h _ (Or.inr ⟨rfl, fun ⟨c, hc, z⟩ => ?_⟩)
  have c8 : c = 0 ∨ c = 1 ∨ c = 2 ∨ c = 3 ∨ c = 4 ∨ c = 5 ∨ c = 6 ∨ c = 7 := by omega
  rcases c8 with rfl | rfl | rfl | rfl | rfl | rfl | rfl | rfl
  · exact b0.f z0 z
  · exact b1.f z1 z
  · exact b2.f z2 z
  · exact b3.f z3 z
  · exact b4.f z4 z
  · exact b5.f z5 z
  · exact b6.f z6 z
  · exact b7.f z7 z
theorem c_armNamedD {a : Nat} {nm : Nat → Nat → Nat} {c : Nat → Nat} (ha : a ≤ 8) (h5 : w.1 5 0 = nI a) (hn6 : ∀ k, k < a → w.2 6 k = lN (cdU (nm k) 7) ∧ okW (nm k)) (hc : okW c) (k0 : (∀ k, k < a → ¬ ∀ j, j < 7 → nm k j = c j) → K (some (.int (-1))) w) (k1 : ∀ k, k < a → (∀ j, j < 7 → nm k j = c j) → (∀ i, i < k → ¬ ∀ j, j < 7 → nm i j = c j) → K (some (.int (nI k))) w) : fX9_armNamed [.ref 5, .long (lN (cdU c 7))] w K := by
  have M : ∀ (m k : Nat), k + m = a → (∀ i, i < k → ¬ ∀ j, j < 7 → nm i j = c j) → RR (tl K lX9_armNamed) 2 [.ref 5, .long (lN (cdU c 7)), .null, .int (nI k)] [] w := by
    intro m
    induction m with
    | zero =>
      intro k hk hi
      have : k = a := by omega
      subst this
      exact tX9_armNamed_2d ⟨fun _ => k0 hi, fun q => absurd (by rw [h5]; exact Int32.le_refl _) q⟩
    | succ m ih =>
      intro k hk hi
      obtain ⟨e6, ok⟩ := hn6 k (by omega)
      refine tX9_armNamed_2d ⟨fun q => absurd q (by rw [h5, le_N (by omega) (by omega)]; omega), fun _ => ?_⟩
      rw [rdL_N (by omega), e6, lg_cmp_eq, pk_lEQ (cdU_lt ok).1 (cdU_lt hc).1, cd_inj ok hc, nI_add k 1]
      refine ⟨vp_in_nI (by omega) (by decide), fun q => ih (k + 1) (by omega) (fun i hi2 => ?_), fun q => k1 k (by omega) q hi⟩
      by_cases e : i = k
      · rw [e]; exact q
      · exact hi i (by omega)
  exact tX9_armNamed_0d (M a 0 (by omega) (fun i hi => by omega))
theorem c_armNamedT {a : Nat} {nm : Nat → Nat → Nat} {c : Nat → Nat} (ha : a ≤ 8) (h5 : w.1 13 0 = nI a) (hn6 : ∀ k, k < a → w.2 14 k = lN (cdU (nm k) 7) ∧ okW (nm k)) (hc : okW c) (k0 : (∀ k, k < a → ¬ ∀ j, j < 7 → nm k j = c j) → K (some (.int (-1))) w) (k1 : ∀ k, k < a → (∀ j, j < 7 → nm k j = c j) → (∀ i, i < k → ¬ ∀ j, j < 7 → nm i j = c j) → K (some (.int (nI k))) w) : fX9_armNamed [.ref 13, .long (lN (cdU c 7))] w K := by
  have M : ∀ (m k : Nat), k + m = a → (∀ i, i < k → ¬ ∀ j, j < 7 → nm i j = c j) → RR (tl K lX9_armNamed) 2 [.ref 13, .long (lN (cdU c 7)), .null, .int (nI k)] [] w := by
    intro m
    induction m with
    | zero =>
      intro k hk hi
      have : k = a := by omega
      subst this
      exact tX9_armNamed_2 ⟨fun _ => k0 hi, fun q => absurd (by rw [h5]; exact Int32.le_refl _) q⟩
    | succ m ih =>
      intro k hk hi
      obtain ⟨e6, ok⟩ := hn6 k (by omega)
      refine tX9_armNamed_2 ⟨fun q => absurd q (by rw [h5, le_N (by omega) (by omega)]; omega), fun _ => ?_⟩
      rw [rdL_N (by omega), e6, lg_cmp_eq, pk_lEQ (cdU_lt ok).1 (cdU_lt hc).1, cd_inj ok hc, nI_add k 1]
      refine ⟨vp_in_nI (by omega) (by decide), fun q => ih (k + 1) (by omega) (fun i hi2 => ?_), fun q => k1 k (by omega) q hi⟩
      by_cases e : i = k
      · rw [e]; exact q
      · exact hi i (by omega)
  exact tX9_armNamed_0 (M a 0 (by omega) (fun i hi => by omega))
/-- no name at all has the code 0 -/
theorem c_armNamed0 {a : Nat} {nm : Nat → Nat → Nat} (ha : a ≤ 8) (h5 : w.1 13 0 = nI a) (hn6 : ∀ k, k < a → w.2 14 k = lN (cdU (nm k) 7) ∧ okW (nm k)) (k0 : K (some (.int (-1))) w) : fX9_armNamed [.ref 13, .long (lN 0)] w K := by
  have M : ∀ (m k : Nat), k + m = a → RR (tl K lX9_armNamed) 2 [.ref 13, .long (lN 0), .null, .int (nI k)] [] w := by
    intro m
    induction m with
    | zero =>
      intro k hk
      have : k = a := by omega
      subst this
      exact tX9_armNamed_2 ⟨fun _ => k0, fun q => absurd (by rw [h5]; exact Int32.le_refl _) q⟩
    | succ m ih =>
      intro k hk
      obtain ⟨e6, ok⟩ := hn6 k (by omega)
      have c := cdU_lt ok
      refine tX9_armNamed_2 ⟨fun q => absurd q (by rw [h5, le_N (by omega) (by omega)]; omega), fun _ => ?_⟩
      rw [rdL_N (by omega), e6, lg_cmp_eq, pk_lEQ c.1 (by decide), nI_add k 1]
      exact ⟨vp_in_nI (by omega) (by decide), fun q => ih (k + 1) (by omega), fun q => by omega⟩
  exact tX9_armNamed_0 (M a 0 (by omega))
end CREAD
